set_option maxHeartbeats 4000000 in
set_option maxRecDepth 100000 in
theorem c_X12_blank (l : Launch) (D : va_G) (cy : Nat → ClassId) (A : Nat → Nat) {σ : St} {Φ : Int32 → St → Prop} (hw : wX12_blank σ Φ) : CtI l yX12_blank (.code yX12_blank cX12_blank 2 (some .int) :: gL) rm_X12_blank 0 0 [.ref (A 18)] D cy A σ Φ := by
  refine ct_any (fun sz => va_Qi Φ (HE D cy A (gZ cy A σ sz)) (gZ cy A σ sz)) (by decide +kernel) rfl rfl [(0, .ref (A 18))] rfl (Nat.le_of_ble_eq_true rfl) ?_
  intro κ hκl hnm C hK sz F
  subst hκl
  unfold wX12_blank at hw
  refine g_aload_n C 0 rfl rfl dX12_blank_0 ?_
  refine g_get C hK inX12 rfl 18 (ga_18 cy A _) 17 (by decide) (fun _ h => h) wt_602 rfl dX12_blank_1 ?_
  refine g_istore_n C [(1, .int (σ.1 18 17)), (0, .ref (A 18))] F.2.2.2.1 rfl (by decide) rfl dX12_blank_4 ?_
  refine g_aload_n C 1 rfl rfl dX12_blank_5 ?_
  refine g_iconst (v := (0 : Int32)) C dX12_blank_6 (by decide) ?_
  refine g_put (v := .int (0 : Int32)) C hK inX12 rfl tyX12 tyX12_ok nmX12 18 (ga_18 cy A _) 17 (by decide) (fun _ h => h) wt_602 rfl rfl rfl (Nat.le_of_ble_eq_true rfl) (gp_18_17 cy A _ _) dX12_blank_7 ?_
  refine g_iload_n C 0 rfl rfl dX12_blank_10 ?_
  exact gq_I C F (by decide) (by decide) hw dX12_blank_11
set_option maxHeartbeats 4000000 in
set_option maxRecDepth 100000 in
theorem c_X12_takes (l : Launch) (D : va_G) (cy : Nat → ClassId) (A : Nat → Nat) {σ : St} {v1 : Int32} {v2 : Int32} {Φ : Int32 → St → Prop} (hw : wX12_takes σ v1 v2 Φ) : CtI l yX12_takes (.code yX12_takes cX12_takes 4 (some .boolean) :: gL) rm_X12_takes 0 0 [.ref (A 18), .int v1, .int v2] D cy A σ Φ := by
  refine ct_any (fun sz => va_Qi Φ (HE D cy A (gZ cy A σ sz)) (gZ cy A σ sz)) (by decide +kernel) rfl rfl [(0, .ref (A 18)), (1, .int v1), (2, .int v2)] rfl (Nat.le_of_ble_eq_true rfl) ?_
  intro κ hκl hnm C hK sz F
  subst hκl
  have J140 : ∀ (σ : St) (v3 : Int32), wX12_takes_140 Φ σ v3 → GW κ 0 0 (gW cy A σ) 140 [(0, .ref (A 18)), (3, .int v3)] [] := by
    intro σ v3 hw
    unfold wX12_takes_140 at hw
    refine g_aload_n C 0 rfl rfl dX12_takes_140 ?_
    refine g_bipush (v := (10 : Int32)) C dX12_takes_141 (by decide) ?_
    refine g_aload_n C 0 rfl rfl dX12_takes_143 ?_
    refine g_get C hK inX12 rfl 18 (ga_18 cy A _) 23 (by decide) (fun _ h => h) wt_608 rfl dX12_takes_144 ?_
    refine g_imul C dX12_takes_147 ?_
    refine g_iload_n C 1 rfl rfl dX12_takes_148 ?_
    refine g_iadd C dX12_takes_149 ?_
    refine g_put (v := .int (((10 : Int32) * (σ.1 18 23)) + v3)) C hK inX12 rfl tyX12 tyX12_ok nmX12 18 (ga_18 cy A _) 23 (by decide) (fun _ h => h) wt_608 rfl rfl rfl (Nat.le_of_ble_eq_true rfl) (gp_18_23 cy A _ _) dX12_takes_150 ?_
    refine g_iload_n C 1 rfl rfl dX12_takes_153 ?_
    refine g_iconst (v := (0 : Int32)) C dX12_takes_154 (by decide) ?_
    refine g_bipush (v := (9 : Int32)) C dX12_takes_155 (by decide) ?_
    refine gc_I C (gr_S (As := [.int v3, .int (0 : Int32), .int (9 : Int32)]) (rest := []) C hK 3 (gd_S wt_645 wt_646 wt_8 wt_647) rfl rfl rfl hs_X12_within ⟨⟨Nat.le_of_ble_eq_true rfl, Nat.le_of_ble_eq_true rfl⟩, Nat.le_of_ble_eq_true rfl, Nat.le_of_ble_eq_true rfl⟩ rfl rfl (Nat.le_of_ble_eq_true rfl) dX12_takes_157 (c_X12_within (q_l κ) (q_D κ) cy A hw)) (fun r10 σ9 hw => ?_)
    exact gq_Z C F (by decide) (by decide) hw dX12_takes_160
  have J102 : ∀ (σ : St) (v2 : Int32), wX12_takes_102 Φ σ v2 → GW κ 0 0 (gW cy A σ) 102 [(2, .int v2)] [] := by
    intro σ v2 hw
    unfold wX12_takes_102 at hw
    refine g_iload_n C 0 rfl rfl dX12_takes_102 ?_
    refine g_bipush (v := (58 : Int32)) C dX12_takes_103 (by decide) ?_
    refine g_icmp_ne C 112 (by decide) hw dX12_takes_105 (fun hw => ?_) (fun hw => ?_)
    · refine g_iconst (v := (0 : Int32)) C dX12_takes_112 (by decide) ?_
      exact gq_Z C F (by decide) (by decide) hw dX12_takes_113
    · refine g_iconst (v := (1 : Int32)) C dX12_takes_108 (by decide) ?_
      refine g_goto C 113 (by decide) dX12_takes_109 ?_
      exact gq_Z C F (by decide) (by decide) hw dX12_takes_113
  unfold wX12_takes at hw
  refine g_iload_n C 2 rfl rfl dX12_takes_0 ?_
  refine g_bipush (v := (48 : Int32)) C dX12_takes_1 (by decide) ?_
  refine g_isub C dX12_takes_3 ?_
  refine g_istore_n C [(3, .int (v2 - (48 : Int32))), (0, .ref (A 18)), (1, .int v1), (2, .int v2)] F.2.2.2.1 rfl (by decide) rfl dX12_takes_4 ?_
  refine g_iload_n C 2 rfl rfl dX12_takes_5 ?_
  by_cases h9 : v1.toInt < 0 ∨ 7 < v1.toInt
  · refine g_swOut C 161 h9 (by decide) dX12_takes_6 ?_
    replace hw := hw.2.2.2.2.2.2.2.2 h9
    refine g_aload_n C 1 rfl rfl dX12_takes_161 ?_
    refine g_iload_n C 2 rfl rfl dX12_takes_162 ?_
    refine g_bipush (v := (8 : Int32)) C dX12_takes_163 (by decide) ?_
    refine g_icmp_ne C 178 (by decide) hw dX12_takes_165 (fun hw => ?_) (fun hw => ?_)
    · refine g_iconst (v := (0 : Int32)) C dX12_takes_178 (by decide) ?_
      refine g_put (v := .int (0 : Int32)) C hK inX12 rfl tyX12 tyX12_ok nmX12 18 (ga_18 cy A _) 24 (by decide) (fun _ h => h) wt_609 rfl (by rcases hw.1 with e | e <;> rw [e] <;> rfl) (by rcases hw.1 with e | e <;> rw [e] <;> rfl) (Nat.le_of_ble_eq_true rfl) (gp_18_24 cy A _ _) dX12_takes_179 ?_
      replace hw := hw.2
      refine g_aload_n C 1 rfl rfl dX12_takes_182 ?_
      refine g_get C hK inX12 rfl 18 (ga_18 cy A _) 24 (by decide) (fun _ h => h) wt_609 rfl dX12_takes_183 ?_
      exact gq_Z C F (by decide) (by decide) hw dX12_takes_186
    · refine g_iload_n C 3 rfl rfl dX12_takes_168 ?_
      refine g_bipush (v := (111 : Int32)) C dX12_takes_169 (by decide) ?_
      refine g_icmp_ne C 178 (by decide) hw dX12_takes_171 (fun hw => ?_) (fun hw => ?_)
      · refine g_iconst (v := (0 : Int32)) C dX12_takes_178 (by decide) ?_
        refine g_put (v := .int (0 : Int32)) C hK inX12 rfl tyX12 tyX12_ok nmX12 18 (ga_18 cy A _) 24 (by decide) (fun _ h => h) wt_609 rfl (by rcases hw.1 with e | e <;> rw [e] <;> rfl) (by rcases hw.1 with e | e <;> rw [e] <;> rfl) (Nat.le_of_ble_eq_true rfl) (gp_18_24 cy A _ _) dX12_takes_179 ?_
        replace hw := hw.2
        refine g_aload_n C 1 rfl rfl dX12_takes_182 ?_
        refine g_get C hK inX12 rfl 18 (ga_18 cy A _) 24 (by decide) (fun _ h => h) wt_609 rfl dX12_takes_183 ?_
        exact gq_Z C F (by decide) (by decide) hw dX12_takes_186
      · refine g_iconst (v := (1 : Int32)) C dX12_takes_174 (by decide) ?_
        refine g_goto C 179 (by decide) dX12_takes_175 ?_
        refine g_put (v := .int (1 : Int32)) C hK inX12 rfl tyX12 tyX12_ok nmX12 18 (ga_18 cy A _) 24 (by decide) (fun _ h => h) wt_609 rfl (by rcases hw.1 with e | e <;> rw [e] <;> rfl) (by rcases hw.1 with e | e <;> rw [e] <;> rfl) (Nat.le_of_ble_eq_true rfl) (gp_18_24 cy A _ _) dX12_takes_179 ?_
        replace hw := hw.2
        refine g_aload_n C 1 rfl rfl dX12_takes_182 ?_
        refine g_get C hK inX12 rfl 18 (ga_18 cy A _) 24 (by decide) (fun _ h => h) wt_609 rfl dX12_takes_183 ?_
        exact gq_Z C F (by decide) (by decide) hw dX12_takes_186
  · rcases (show v1.toInt = 0 ∨ v1.toInt = 1 ∨ v1.toInt = 2 ∨ v1.toInt = 3 ∨ v1.toInt = 4 ∨ v1.toInt = 5 ∨ v1.toInt = 6 ∨ v1.toInt = 7 by omega) with e9 | e9 | e9 | e9 | e9 | e9 | e9 | e9
    · refine g_swIn (off := 46) C 0 52 e9 (by decide) (by decide) (by decide) (by decide) dX12_takes_6 ?_
      replace hw := hw.1 (Int32.toInt_inj.mp (e9.trans (by decide)))
      refine g_aload_n C 1 rfl rfl dX12_takes_52 ?_
      refine g_iload_n C 0 rfl rfl dX12_takes_53 ?_
      refine g_put (v := .int (v2 - (48 : Int32))) C hK inX12 rfl tyX12 tyX12_ok nmX12 18 (ga_18 cy A _) 21 (by decide) (fun _ h => h) wt_606 rfl rfl rfl (Nat.le_of_ble_eq_true rfl) (gp_18_21 cy A _ _) dX12_takes_54 ?_
      refine g_iload_n C 0 rfl rfl dX12_takes_57 ?_
      refine g_iconst (v := (1 : Int32)) C dX12_takes_58 (by decide) ?_
      refine g_iconst (v := (4 : Int32)) C dX12_takes_59 (by decide) ?_
      refine gc_I C (gr_S (As := [.int (v2 - (48 : Int32)), .int (1 : Int32), .int (4 : Int32)]) (rest := []) C hK 3 (gd_S wt_645 wt_646 wt_8 wt_647) rfl rfl rfl hs_X12_within ⟨⟨Nat.le_of_ble_eq_true rfl, Nat.le_of_ble_eq_true rfl⟩, Nat.le_of_ble_eq_true rfl, Nat.le_of_ble_eq_true rfl⟩ rfl rfl (Nat.le_of_ble_eq_true rfl) dX12_takes_60 (c_X12_within (q_l κ) (q_D κ) cy A hw)) (fun r2 σ1 hw => ?_)
      exact gq_Z C F (by decide) (by decide) hw dX12_takes_63
    · refine g_swIn (off := 58) C 1 64 e9 (by decide) (by decide) (by decide) (by decide) dX12_takes_6 ?_
      replace hw := hw.2.1 (Int32.toInt_inj.mp (e9.trans (by decide)))
      refine g_aload_n C 1 rfl rfl dX12_takes_64 ?_
      refine g_bipush (v := (10 : Int32)) C dX12_takes_65 (by decide) ?_
      refine g_aload_n C 1 rfl rfl dX12_takes_67 ?_
      refine g_get C hK inX12 rfl 18 (ga_18 cy A _) 21 (by decide) (fun _ h => h) wt_606 rfl dX12_takes_68 ?_
      refine g_imul C dX12_takes_71 ?_
      refine g_iload_n C 0 rfl rfl dX12_takes_72 ?_
      refine g_iadd C dX12_takes_73 ?_
      refine g_put (v := .int (((10 : Int32) * (σ.1 18 21)) + (v2 - (48 : Int32)))) C hK inX12 rfl tyX12 tyX12_ok nmX12 18 (ga_18 cy A _) 21 (by decide) (fun _ h => h) wt_606 rfl rfl rfl (Nat.le_of_ble_eq_true rfl) (gp_18_21 cy A _ _) dX12_takes_74 ?_
      refine g_iload_n C 0 rfl rfl dX12_takes_77 ?_
      refine g_iconst (v := (0 : Int32)) C dX12_takes_78 (by decide) ?_
      refine g_bipush (v := (9 : Int32)) C dX12_takes_79 (by decide) ?_
      refine gc_I C (gr_S (As := [.int (v2 - (48 : Int32)), .int (0 : Int32), .int (9 : Int32)]) (rest := []) C hK 3 (gd_S wt_645 wt_646 wt_8 wt_647) rfl rfl rfl hs_X12_within ⟨⟨Nat.le_of_ble_eq_true rfl, Nat.le_of_ble_eq_true rfl⟩, Nat.le_of_ble_eq_true rfl, Nat.le_of_ble_eq_true rfl⟩ rfl rfl (Nat.le_of_ble_eq_true rfl) dX12_takes_81 (c_X12_within (q_l κ) (q_D κ) cy A hw)) (fun r4 σ3 hw => ?_)
      refine g_if_eq C 100 (by decide) hw dX12_takes_84 (fun hw => ?_) (fun hw => ?_)
      · refine g_iconst (v := (0 : Int32)) C dX12_takes_100 (by decide) ?_
        exact gq_Z C F (by decide) (by decide) hw dX12_takes_101
      · refine g_aload_n C 1 rfl rfl dX12_takes_87 ?_
        refine g_get C hK inX12 rfl 18 (ga_18 cy A _) 21 (by decide) (fun _ h => h) wt_606 rfl dX12_takes_88 ?_
        refine g_bipush (v := (40 : Int32)) C dX12_takes_91 (by decide) ?_
        refine g_icmp_gt C 100 (by decide) hw dX12_takes_93 (fun hw => ?_) (fun hw => ?_)
        · refine g_iconst (v := (0 : Int32)) C dX12_takes_100 (by decide) ?_
          exact gq_Z C F (by decide) (by decide) hw dX12_takes_101
        · refine g_iconst (v := (1 : Int32)) C dX12_takes_96 (by decide) ?_
          refine g_goto C 101 (by decide) dX12_takes_97 ?_
          exact gq_Z C F (by decide) (by decide) hw dX12_takes_101
    · refine g_swIn (off := 96) C 2 102 e9 (by decide) (by decide) (by decide) (by decide) dX12_takes_6 ?_
      replace hw := hw.2.2.1 (Int32.toInt_inj.mp (e9.trans (by decide)))
      refine g_eql (lv' := [(2, .int v2)]) [3] rfl ?_
      exact J102 σ v2 hw
    · refine g_swIn (off := 108) C 3 114 e9 (by decide) (by decide) (by decide) (by decide) dX12_takes_6 ?_
      replace hw := hw.2.2.2.1 (Int32.toInt_inj.mp (e9.trans (by decide)))
      refine g_aload_n C 1 rfl rfl dX12_takes_114 ?_
      refine g_iload_n C 0 rfl rfl dX12_takes_115 ?_
      refine g_put (v := .int (v2 - (48 : Int32))) C hK inX12 rfl tyX12 tyX12_ok nmX12 18 (ga_18 cy A _) 22 (by decide) (fun _ h => h) wt_607 rfl rfl rfl (Nat.le_of_ble_eq_true rfl) (gp_18_22 cy A _ _) dX12_takes_116 ?_
      refine g_iload_n C 0 rfl rfl dX12_takes_119 ?_
      refine g_iconst (v := (1 : Int32)) C dX12_takes_120 (by decide) ?_
      refine g_bipush (v := (9 : Int32)) C dX12_takes_121 (by decide) ?_
      refine gc_I C (gr_S (As := [.int (v2 - (48 : Int32)), .int (1 : Int32), .int (9 : Int32)]) (rest := []) C hK 3 (gd_S wt_645 wt_646 wt_8 wt_647) rfl rfl rfl hs_X12_within ⟨⟨Nat.le_of_ble_eq_true rfl, Nat.le_of_ble_eq_true rfl⟩, Nat.le_of_ble_eq_true rfl, Nat.le_of_ble_eq_true rfl⟩ rfl rfl (Nat.le_of_ble_eq_true rfl) dX12_takes_123 (c_X12_within (q_l κ) (q_D κ) cy A hw)) (fun r6 σ5 hw => ?_)
      exact gq_Z C F (by decide) (by decide) hw dX12_takes_126
    · refine g_swIn (off := 96) C 4 102 e9 (by decide) (by decide) (by decide) (by decide) dX12_takes_6 ?_
      replace hw := hw.2.2.2.2.1 (Int32.toInt_inj.mp (e9.trans (by decide)))
      refine g_eql (lv' := [(2, .int v2)]) [3] rfl ?_
      exact J102 σ v2 hw
    · refine g_swIn (off := 121) C 5 127 e9 (by decide) (by decide) (by decide) (by decide) dX12_takes_6 ?_
      replace hw := hw.2.2.2.2.2.1 (Int32.toInt_inj.mp (e9.trans (by decide)))
      refine g_aload_n C 1 rfl rfl dX12_takes_127 ?_
      refine g_iload_n C 0 rfl rfl dX12_takes_128 ?_
      refine g_put (v := .int (v2 - (48 : Int32))) C hK inX12 rfl tyX12 tyX12_ok nmX12 18 (ga_18 cy A _) 23 (by decide) (fun _ h => h) wt_608 rfl rfl rfl (Nat.le_of_ble_eq_true rfl) (gp_18_23 cy A _ _) dX12_takes_129 ?_
      refine g_iload_n C 0 rfl rfl dX12_takes_132 ?_
      refine g_iconst (v := (1 : Int32)) C dX12_takes_133 (by decide) ?_
      refine g_bipush (v := (9 : Int32)) C dX12_takes_134 (by decide) ?_
      refine gc_I C (gr_S (As := [.int (v2 - (48 : Int32)), .int (1 : Int32), .int (9 : Int32)]) (rest := []) C hK 3 (gd_S wt_645 wt_646 wt_8 wt_647) rfl rfl rfl hs_X12_within ⟨⟨Nat.le_of_ble_eq_true rfl, Nat.le_of_ble_eq_true rfl⟩, Nat.le_of_ble_eq_true rfl, Nat.le_of_ble_eq_true rfl⟩ rfl rfl (Nat.le_of_ble_eq_true rfl) dX12_takes_136 (c_X12_within (q_l κ) (q_D κ) cy A hw)) (fun r8 σ7 hw => ?_)
      exact gq_Z C F (by decide) (by decide) hw dX12_takes_139
    · refine g_swIn (off := 134) C 6 140 e9 (by decide) (by decide) (by decide) (by decide) dX12_takes_6 ?_
      replace hw := hw.2.2.2.2.2.2.1 (Int32.toInt_inj.mp (e9.trans (by decide)))
      refine g_eql (lv' := [(0, .ref (A 18)), (3, .int (v2 - (48 : Int32)))]) [1, 0] rfl ?_
      exact J140 σ (v2 - (48 : Int32)) hw
    · refine g_swIn (off := 134) C 7 140 e9 (by decide) (by decide) (by decide) (by decide) dX12_takes_6 ?_
      replace hw := hw.2.2.2.2.2.2.2.1 (Int32.toInt_inj.mp (e9.trans (by decide)))
      refine g_eql (lv' := [(0, .ref (A 18)), (3, .int (v2 - (48 : Int32)))]) [1, 0] rfl ?_
      exact J140 σ (v2 - (48 : Int32)) hw
set_option maxHeartbeats 4000000 in
set_option maxRecDepth 100000 in
theorem c_X12_readWire (l : Launch) (D : va_G) (cy : Nat → ClassId) (A : Nat → Nat) {σ : St} {Φ : St → Prop} (hw : wX12_readWire σ Φ) : CtV l yX12_readWire (.code yX12_readWire cX12_readWire 2 none :: gL) rm_X12_readWire 0 0 [.ref (A 18)] D cy A σ Φ := by
  refine ct_any (fun sz => va_Qv Φ (HE D cy A (gZ cy A σ sz)) (gZ cy A σ sz)) (by decide +kernel) rfl rfl [(0, .ref (A 18))] rfl (Nat.le_of_ble_eq_true rfl) ?_
  intro κ hκl hnm C hK sz F
  subst hκl
  have J35 : ∀ (σ : St) (v1 : Int32), wX12_readWire_35 Φ σ v1 → GW κ 0 0 (gW cy A σ) 35 [(0, .ref (A 18)), (1, .int v1)] [] := by
    intro σ v1 hw
    unfold wX12_readWire_35 at hw
    refine g_aload_n C 0 rfl rfl dX12_readWire_35 ?_
    refine g_iload_n C 1 rfl rfl dX12_readWire_36 ?_
    refine g_put (v := .int v1) C hK inX12 rfl tyX12 tyX12_ok nmX12 18 (ga_18 cy A _) 19 (by decide) (fun _ h => h) wt_604 rfl rfl rfl (Nat.le_of_ble_eq_true rfl) (gp_18_19 cy A _ _) dX12_readWire_37 ?_
    refine g_aload_n C 0 rfl rfl dX12_readWire_40 ?_
    refine g_iload_n C 1 rfl rfl dX12_readWire_41 ?_
    refine g_aload_n C 0 rfl rfl dX12_readWire_42 ?_
    refine g_get C hK inX12 rfl 18 (ga_18 cy A _) 17 (by decide) (fun _ h => h) wt_602 rfl dX12_readWire_43 ?_
    refine g_icmp_ne C 59 (by decide) hw dX12_readWire_46 (fun hw => ?_) (fun hw => ?_)
    · refine g_iconst (v := (0 : Int32)) C dX12_readWire_59 (by decide) ?_
      refine g_put (v := .int (0 : Int32)) C hK inX12 rfl tyX12 tyX12_ok nmX12 18 (ga_18 cy A _) 20 (by decide) (fun _ h => h) wt_605 rfl (by rcases hw.1 with e | e <;> rw [e] <;> rfl) (by rcases hw.1 with e | e <;> rw [e] <;> rfl) (Nat.le_of_ble_eq_true rfl) (gp_18_20 cy A _ _) dX12_readWire_60 ?_
      replace hw := hw.2
      exact gq_V C F (by decide) (by decide) hw dX12_readWire_63
    · refine g_iload_n C 1 rfl rfl dX12_readWire_49 ?_
      refine g_bipush (v := (7 : Int32)) C dX12_readWire_50 (by decide) ?_
      refine g_icmp_le C 59 (by decide) hw dX12_readWire_52 (fun hw => ?_) (fun hw => ?_)
      · refine g_iconst (v := (0 : Int32)) C dX12_readWire_59 (by decide) ?_
        refine g_put (v := .int (0 : Int32)) C hK inX12 rfl tyX12 tyX12_ok nmX12 18 (ga_18 cy A _) 20 (by decide) (fun _ h => h) wt_605 rfl (by rcases hw.1 with e | e <;> rw [e] <;> rfl) (by rcases hw.1 with e | e <;> rw [e] <;> rfl) (Nat.le_of_ble_eq_true rfl) (gp_18_20 cy A _ _) dX12_readWire_60 ?_
        replace hw := hw.2
        exact gq_V C F (by decide) (by decide) hw dX12_readWire_63
      · refine g_iconst (v := (1 : Int32)) C dX12_readWire_55 (by decide) ?_
        refine g_goto C 60 (by decide) dX12_readWire_56 ?_
        refine g_put (v := .int (1 : Int32)) C hK inX12 rfl tyX12 tyX12_ok nmX12 18 (ga_18 cy A _) 20 (by decide) (fun _ h => h) wt_605 rfl (by rcases hw.1 with e | e <;> rw [e] <;> rfl) (by rcases hw.1 with e | e <;> rw [e] <;> rfl) (Nat.le_of_ble_eq_true rfl) (gp_18_20 cy A _ _) dX12_readWire_60 ?_
        replace hw := hw.2
        exact gq_V C F (by decide) (by decide) hw dX12_readWire_63
  have J7 : ∀ (n : Nat) (σ : St) (v1 : Int32), wX12_readWire_7 Φ n σ v1 → GW κ 0 0 (gW cy A σ) 7 [(0, .ref (A 18)), (1, .int v1)] [] := by
    intro n
    induction n with
    | zero => intro σ v1 hw; exact hw.elim
    | succ n ih =>
      intro σ v1 hw
      rw [wX12_readWire_7] at hw
      refine g_iload_n C 1 rfl rfl dX12_readWire_7 ?_
      refine g_aload_n C 0 rfl rfl dX12_readWire_8 ?_
      refine g_get C hK inX12 rfl 18 (ga_18 cy A _) 17 (by decide) (fun _ h => h) wt_602 rfl dX12_readWire_9 ?_
      refine g_icmp_ge C 35 (by decide) hw dX12_readWire_12 (fun hw => ?_) (fun hw => ?_)
      · exact J35 σ v1 hw
      · refine g_aload_n C 0 rfl rfl dX12_readWire_15 ?_
        refine g_iload_n C 1 rfl rfl dX12_readWire_16 ?_
        refine g_aload_n C 0 rfl rfl dX12_readWire_17 ?_
        refine g_get C hK inX12 rfl 18 (ga_18 cy A _) 18 (by decide) (fun _ h => h) wt_603 rfl dX12_readWire_18 ?_
        refine g_iload_n C 1 rfl rfl dX12_readWire_21 ?_
        refine g_bald C hK 25 0 (ga_25 cy A _) rfl hw.1 dX12_readWire_22 ?_
        replace hw := hw.2
        refine gc_I C (gr_V (As := [.int v1, .int (σ.1 25 v1.toNatClampNeg)]) (rest := []) C hK 2 (gd_V wt_642 wt_643 wt_845 wt_8 wt_644) rfl rfl rfl ⟨rfl, hs_X12_takes⟩ ⟨⟨Nat.le_of_ble_eq_true rfl, Nat.le_of_ble_eq_true rfl⟩, Nat.le_of_ble_eq_true rfl, Nat.le_of_ble_eq_true rfl⟩ rfl 18 (ga_18 cy A _) rfl rfl (Nat.le_of_ble_eq_true rfl) dX12_readWire_23 (c_X12_takes (q_l κ) (q_D κ) cy A hw)) (fun r2 σ1 hw => ?_)
        refine g_if_eq C 35 (by decide) hw dX12_readWire_26 (fun hw => ?_) (fun hw => ?_)
        · exact J35 σ1 v1 hw
        · refine g_iinc (j := 1) C [(1, .int (v1 + 1)), (0, .ref (A 18))] F.2.2.2.1 rfl rfl (by decide) rfl dX12_readWire_29 ?_
          refine g_goto C 7 (by decide) dX12_readWire_32 ?_
          refine g_eql (lv' := [(0, .ref (A 18)), (1, .int (v1 + 1))]) [1, 0] rfl ?_
          exact ih σ1 (v1 + 1) hw
  unfold wX12_readWire at hw
  refine g_aload_n C 0 rfl rfl dX12_readWire_0 ?_
  refine g_iconst (v := (0 : Int32)) C dX12_readWire_1 (by decide) ?_
  refine g_put (v := .int (0 : Int32)) C hK inX12 rfl tyX12 tyX12_ok nmX12 18 (ga_18 cy A _) 24 (by decide) (fun _ h => h) wt_609 rfl (by rcases hw.1 with e | e <;> rw [e] <;> rfl) (by rcases hw.1 with e | e <;> rw [e] <;> rfl) (Nat.le_of_ble_eq_true rfl) (gp_18_24 cy A _ _) dX12_readWire_2 ?_
  replace hw := hw.2
  refine g_iconst (v := (0 : Int32)) C dX12_readWire_5 (by decide) ?_
  refine g_istore_n C [(1, .int (0 : Int32)), (0, .ref (A 18))] F.2.2.2.1 rfl (by decide) rfl dX12_readWire_6 ?_
  refine g_eql (lv' := [(0, .ref (A 18)), (1, .int (0 : Int32))]) [1, 0] rfl ?_
  obtain ⟨n0, hw⟩ := hw
  exact J7 n0 (sV σ 18 24 (0 : Int32)) (0 : Int32) hw
set_option maxHeartbeats 4000000 in
set_option maxRecDepth 100000 in
theorem c_X12_fault (l : Launch) (D : va_G) (cy : Nat → ClassId) (A : Nat → Nat) {σ : St} {Φ : Int32 → St → Prop} (hw : wX12_fault σ Φ) : CtI l yX12_fault (.code yX12_fault cX12_fault 1 (some .int) :: gL) rm_X12_fault 0 0 [.ref (A 18)] D cy A σ Φ := by
  refine ct_any (fun sz => va_Qi Φ (HE D cy A (gZ cy A σ sz)) (gZ cy A σ sz)) (by decide +kernel) rfl rfl [(0, .ref (A 18))] rfl (Nat.le_of_ble_eq_true rfl) ?_
  intro κ hκl hnm C hK sz F
  subst hκl
  unfold wX12_fault at hw
  refine g_aload_n C 0 rfl rfl dX12_fault_0 ?_
  refine gc_V C (gr_V (As := []) (rest := []) C hK 0 (gd_V wt_639 wt_640 wt_844 wt_8 wt_641) rfl rfl rfl ⟨rfl, hs_X12_readWire⟩ ⟨⟨Nat.le_of_ble_eq_true rfl, Nat.le_of_ble_eq_true rfl⟩, Nat.le_of_ble_eq_true rfl, Nat.le_of_ble_eq_true rfl⟩ rfl 18 (ga_18 cy A _) rfl rfl (Nat.le_of_ble_eq_true rfl) dX12_fault_1 (c_X12_readWire (q_l κ) (q_D κ) cy A hw)) (fun σ1 hw => ?_)
  refine g_aload_n C 0 rfl rfl dX12_fault_4 ?_
  refine g_get C hK inX12 rfl 18 (ga_18 cy A _) 19 (by decide) (fun _ h => h) wt_604 rfl dX12_fault_5 ?_
  exact gq_I C F (by decide) (by decide) hw dX12_fault_8
set_option maxHeartbeats 4000000 in
set_option maxRecDepth 100000 in
theorem c_X12_wire (l : Launch) (D : va_G) (cy : Nat → ClassId) (A : Nat → Nat) {σ : St} {Φ : Int32 → St → Prop} (hw : wX12_wire σ Φ) : CtI l yX12_wire (.code yX12_wire cX12_wire 1 (some .int) :: gL) rm_X12_wire 0 0 [.ref (A 18)] D cy A σ Φ := by
  refine ct_any (fun sz => va_Qi Φ (HE D cy A (gZ cy A σ sz)) (gZ cy A σ sz)) (by decide +kernel) rfl rfl [(0, .ref (A 18))] rfl (Nat.le_of_ble_eq_true rfl) ?_
  intro κ hκl hnm C hK sz F
  subst hκl
  unfold wX12_wire at hw
  refine g_aload_n C 0 rfl rfl dX12_wire_0 ?_
  refine gc_V C (gr_V (As := []) (rest := []) C hK 0 (gd_V wt_639 wt_640 wt_844 wt_8 wt_641) rfl rfl rfl ⟨rfl, hs_X12_readWire⟩ ⟨⟨Nat.le_of_ble_eq_true rfl, Nat.le_of_ble_eq_true rfl⟩, Nat.le_of_ble_eq_true rfl, Nat.le_of_ble_eq_true rfl⟩ rfl 18 (ga_18 cy A _) rfl rfl (Nat.le_of_ble_eq_true rfl) dX12_wire_1 (c_X12_readWire (q_l κ) (q_D κ) cy A hw)) (fun σ1 hw => ?_)
  refine g_aload_n C 0 rfl rfl dX12_wire_4 ?_
  refine g_get C hK inX12 rfl 18 (ga_18 cy A _) 20 (by decide) (fun _ h => h) wt_605 rfl dX12_wire_5 ?_
  refine g_if_ne C 14 (by decide) hw dX12_wire_8 (fun hw => ?_) (fun hw => ?_)
  · refine g_aload_n C 0 rfl rfl dX12_wire_14 ?_
    refine g_aload_n C 0 rfl rfl dX12_wire_15 ?_
    refine g_get C hK inX12 rfl 18 (ga_18 cy A _) 21 (by decide) (fun _ h => h) wt_606 rfl dX12_wire_16 ?_
    refine g_put (v := .int (σ1.1 18 21)) C hK inX12 rfl tyX12 tyX12_ok nmX12 18 (ga_18 cy A _) 2 (by decide) (fun _ h => h) wt_587 rfl rfl rfl (Nat.le_of_ble_eq_true rfl) (gp_18_2 cy A _ _) dX12_wire_19 ?_
    refine g_aload_n C 0 rfl rfl dX12_wire_22 ?_
    refine g_aload_n C 0 rfl rfl dX12_wire_23 ?_
    refine g_get C hK inX12 rfl 18 (ga_18 cy A _) 21 (by decide) (fun _ h => h) wt_606 rfl dX12_wire_24 ?_
    refine g_aload_n C 0 rfl rfl dX12_wire_27 ?_
    refine g_get C hK inX12 rfl 18 (ga_18 cy A _) 21 (by decide) (fun _ h => h) wt_606 rfl dX12_wire_28 ?_
    refine g_imul C dX12_wire_31 ?_
    refine g_aload_n C 0 rfl rfl dX12_wire_32 ?_
    refine g_get C hK inX12 rfl 18 (ga_18 cy A _) 22 (by decide) (fun _ h => h) wt_607 rfl dX12_wire_33 ?_
    refine g_imul C dX12_wire_36 ?_
    refine g_put (v := .int ((((sV σ1 18 2 (σ1.1 18 21)).1 18 21) * ((sV σ1 18 2 (σ1.1 18 21)).1 18 21)) * ((sV σ1 18 2 (σ1.1 18 21)).1 18 22))) C hK inX12 rfl tyX12 tyX12_ok nmX12 18 (ga_18 cy A _) 3 (by decide) (fun _ h => h) wt_588 rfl rfl rfl (Nat.le_of_ble_eq_true rfl) (gp_18_3 cy A _ _) dX12_wire_37 ?_
    refine g_aload_n C 0 rfl rfl dX12_wire_40 ?_
    refine g_aload_n C 0 rfl rfl dX12_wire_41 ?_
    refine g_get C hK inX12 rfl 18 (ga_18 cy A _) 23 (by decide) (fun _ h => h) wt_608 rfl dX12_wire_42 ?_
    refine g_put (v := .int ((sV (sV σ1 18 2 (σ1.1 18 21)) 18 3 ((((sV σ1 18 2 (σ1.1 18 21)).1 18 21) * ((sV σ1 18 2 (σ1.1 18 21)).1 18 21)) * ((sV σ1 18 2 (σ1.1 18 21)).1 18 22))).1 18 23)) C hK inX12 rfl tyX12 tyX12_ok nmX12 18 (ga_18 cy A _) 4 (by decide) (fun _ h => h) wt_589 rfl rfl rfl (Nat.le_of_ble_eq_true rfl) (gp_18_4 cy A _ _) dX12_wire_45 ?_
    refine g_aload_n C 0 rfl rfl dX12_wire_48 ?_
    refine g_aload_n C 0 rfl rfl dX12_wire_49 ?_
    refine g_get C hK inX12 rfl 18 (ga_18 cy A _) 24 (by decide) (fun _ h => h) wt_609 rfl dX12_wire_50 ?_
    refine g_put (v := .int ((sV (sV (sV σ1 18 2 (σ1.1 18 21)) 18 3 ((((sV σ1 18 2 (σ1.1 18 21)).1 18 21) * ((sV σ1 18 2 (σ1.1 18 21)).1 18 21)) * ((sV σ1 18 2 (σ1.1 18 21)).1 18 22))) 18 4 ((sV (sV σ1 18 2 (σ1.1 18 21)) 18 3 ((((sV σ1 18 2 (σ1.1 18 21)).1 18 21) * ((sV σ1 18 2 (σ1.1 18 21)).1 18 21)) * ((sV σ1 18 2 (σ1.1 18 21)).1 18 22))).1 18 23)).1 18 24)) C hK inX12 rfl tyX12 tyX12_ok nmX12 18 (ga_18 cy A _) 5 (by decide) (fun _ h => h) wt_590 rfl (by rcases hw.1 with e | e <;> rw [e] <;> rfl) (by rcases hw.1 with e | e <;> rw [e] <;> rfl) (Nat.le_of_ble_eq_true rfl) (gp_18_5 cy A _ _) dX12_wire_53 ?_
    replace hw := hw.2
    refine g_aload_n C 0 rfl rfl dX12_wire_56 ?_
    refine g_iconst (v := (0 : Int32)) C dX12_wire_57 (by decide) ?_
    refine g_put (v := .int (0 : Int32)) C hK inX12 rfl tyX12 tyX12_ok nmX12 18 (ga_18 cy A _) 6 (by decide) (fun _ h => h) wt_591 rfl (by rcases hw.1 with e | e <;> rw [e] <;> rfl) (by rcases hw.1 with e | e <;> rw [e] <;> rfl) (Nat.le_of_ble_eq_true rfl) (gp_18_6 cy A _ _) dX12_wire_58 ?_
    replace hw := hw.2
    refine g_aload_n C 0 rfl rfl dX12_wire_61 ?_
    refine g_iconst (v := (1 : Int32)) C dX12_wire_62 (by decide) ?_
    refine g_put (v := .int (1 : Int32)) C hK inX12 rfl tyX12 tyX12_ok nmX12 18 (ga_18 cy A _) 0 (by decide) (fun _ h => h) wt_585 rfl (by rcases hw.1 with e | e <;> rw [e] <;> rfl) (by rcases hw.1 with e | e <;> rw [e] <;> rfl) (Nat.le_of_ble_eq_true rfl) (gp_18_0 cy A _ _) dX12_wire_63 ?_
    replace hw := hw.2
    refine g_aload_n C 0 rfl rfl dX12_wire_66 ?_
    refine g_dup C rfl dX12_wire_67 ?_
    refine g_get C hK inX12 rfl 18 (ga_18 cy A _) 1 (by decide) (fun _ h => h) wt_586 rfl dX12_wire_68 ?_
    refine g_iconst (v := (1 : Int32)) C dX12_wire_71 (by decide) ?_
    refine g_iadd C dX12_wire_72 ?_
    refine g_put (v := .int (((sV (sV (sV (sV (sV (sV σ1 18 2 (σ1.1 18 21)) 18 3 ((((sV σ1 18 2 (σ1.1 18 21)).1 18 21) * ((sV σ1 18 2 (σ1.1 18 21)).1 18 21)) * ((sV σ1 18 2 (σ1.1 18 21)).1 18 22))) 18 4 ((sV (sV σ1 18 2 (σ1.1 18 21)) 18 3 ((((sV σ1 18 2 (σ1.1 18 21)).1 18 21) * ((sV σ1 18 2 (σ1.1 18 21)).1 18 21)) * ((sV σ1 18 2 (σ1.1 18 21)).1 18 22))).1 18 23)) 18 5 ((sV (sV (sV σ1 18 2 (σ1.1 18 21)) 18 3 ((((sV σ1 18 2 (σ1.1 18 21)).1 18 21) * ((sV σ1 18 2 (σ1.1 18 21)).1 18 21)) * ((sV σ1 18 2 (σ1.1 18 21)).1 18 22))) 18 4 ((sV (sV σ1 18 2 (σ1.1 18 21)) 18 3 ((((sV σ1 18 2 (σ1.1 18 21)).1 18 21) * ((sV σ1 18 2 (σ1.1 18 21)).1 18 21)) * ((sV σ1 18 2 (σ1.1 18 21)).1 18 22))).1 18 23)).1 18 24)) 18 6 (0 : Int32)) 18 0 (1 : Int32)).1 18 1) + (1 : Int32))) C hK inX12 rfl tyX12 tyX12_ok nmX12 18 (ga_18 cy A _) 1 (by decide) (fun _ h => h) wt_586 rfl rfl rfl (Nat.le_of_ble_eq_true rfl) (gp_18_1 cy A _ _) dX12_wire_73 ?_
    refine g_aload_n C 0 rfl rfl dX12_wire_76 ?_
    refine g_iconst (v := (0 : Int32)) C dX12_wire_77 (by decide) ?_
    refine g_put (v := .int (0 : Int32)) C hK inX12 rfl tyX12 tyX12_ok nmX12 18 (ga_18 cy A _) 7 (by decide) (fun _ h => h) wt_592 rfl rfl rfl (Nat.le_of_ble_eq_true rfl) (gp_18_7 cy A _ _) dX12_wire_78 ?_
    refine g_aload_n C 0 rfl rfl dX12_wire_81 ?_
    refine g_iconst (v := (0 : Int32)) C dX12_wire_82 (by decide) ?_
    refine g_put (v := .int (0 : Int32)) C hK inX12 rfl tyX12 tyX12_ok nmX12 18 (ga_18 cy A _) 8 (by decide) (fun _ h => h) wt_593 rfl rfl rfl (Nat.le_of_ble_eq_true rfl) (gp_18_8 cy A _ _) dX12_wire_83 ?_
    refine g_aload_n C 0 rfl rfl dX12_wire_86 ?_
    refine g_iconst (v := (0 : Int32)) C dX12_wire_87 (by decide) ?_
    refine g_put (v := .int (0 : Int32)) C hK inX12 rfl tyX12 tyX12_ok nmX12 18 (ga_18 cy A _) 9 (by decide) (fun _ h => h) wt_594 rfl rfl rfl (Nat.le_of_ble_eq_true rfl) (gp_18_9 cy A _ _) dX12_wire_88 ?_
    refine g_aload_n C 0 rfl rfl dX12_wire_91 ?_
    refine g_iconst (v := (0 : Int32)) C dX12_wire_92 (by decide) ?_
    refine g_put (v := .int (0 : Int32)) C hK inX12 rfl tyX12 tyX12_ok nmX12 18 (ga_18 cy A _) 14 (by decide) (fun _ h => h) wt_599 rfl rfl rfl (Nat.le_of_ble_eq_true rfl) (gp_18_14 cy A _ _) dX12_wire_93 ?_
    refine g_aload_n C 0 rfl rfl dX12_wire_96 ?_
    refine g_iconst (v := (0 : Int32)) C dX12_wire_97 (by decide) ?_
    refine g_put (v := .int (0 : Int32)) C hK inX12 rfl tyX12 tyX12_ok nmX12 18 (ga_18 cy A _) 17 (by decide) (fun _ h => h) wt_602 rfl rfl rfl (Nat.le_of_ble_eq_true rfl) (gp_18_17 cy A _ _) dX12_wire_98 ?_
    refine g_aload_n C 0 rfl rfl dX12_wire_101 ?_
    refine g_get C hK inX12 rfl 18 (ga_18 cy A _) 3 (by decide) (fun _ h => h) wt_588 rfl dX12_wire_102 ?_
    exact gq_I C F (by decide) (by decide) hw dX12_wire_105
  · refine g_bipush (v := (-103 : Int32)) C dX12_wire_11 (by decide) ?_
    exact gq_I C F (by decide) (by decide) hw dX12_wire_13
set_option maxHeartbeats 4000000 in
set_option maxRecDepth 100000 in
theorem c_X12_weighs (l : Launch) (D : va_G) (cy : Nat → ClassId) (A : Nat → Nat) {σ : St} {v1 : Int32} {v2 : Int32} {Φ : Int32 → St → Prop} (hw : wX12_weighs σ v1 v2 Φ) : CtI l yX12_weighs (.code yX12_weighs cX12_weighs 4 (some .int) :: gL) rm_X12_weighs 0 0 [.ref (A 18), .int v1, .int v2] D cy A σ Φ := by
  refine ct_any (fun sz => va_Qi Φ (HE D cy A (gZ cy A σ sz)) (gZ cy A σ sz)) (by decide +kernel) rfl rfl [(0, .ref (A 18)), (1, .int v1), (2, .int v2)] rfl (Nat.le_of_ble_eq_true rfl) ?_
  intro κ hκl hnm C hK sz F
  subst hκl
  unfold wX12_weighs at hw
  refine g_iload_n C 2 rfl rfl dX12_weighs_0 ?_
  refine g_aload_n C 0 rfl rfl dX12_weighs_1 ?_
  refine g_get C hK inX12 rfl 18 (ga_18 cy A _) 13 (by decide) (fun _ h => h) wt_598 rfl dX12_weighs_2 ?_
  refine g_iload_n C 1 rfl rfl dX12_weighs_5 ?_
  refine g_iald C hK 22 2 (ga_22 cy A _) rfl hw.1 dX12_weighs_6 ?_
  replace hw := hw.2
  refine g_isub C dX12_weighs_7 ?_
  refine g_bipush (v := (6 : Int32)) C dX12_weighs_8 (by decide) ?_
  refine g_idiv C hw.1 dX12_weighs_10 ?_
  replace hw := hw.2
  refine g_istore_n C [(3, .int ((v2 - (σ.1 22 v1.toNatClampNeg)) / (6 : Int32))), (0, .ref (A 18)), (1, .int v1), (2, .int v2)] F.2.2.2.1 rfl (by decide) rfl dX12_weighs_11 ?_
  refine g_aload_n C 1 rfl rfl dX12_weighs_12 ?_
  refine g_get C hK inX12 rfl 18 (ga_18 cy A _) 11 (by decide) (fun _ h => h) wt_596 rfl dX12_weighs_13 ?_
  refine g_iload_n C 2 rfl rfl dX12_weighs_16 ?_
  refine g_iald C hK 20 2 (ga_20 cy A _) rfl hw.1 dX12_weighs_17 ?_
  replace hw := hw.2
  refine g_aload_n C 1 rfl rfl dX12_weighs_18 ?_
  refine g_get C hK inX12 rfl 18 (ga_18 cy A _) 10 (by decide) (fun _ h => h) wt_595 rfl dX12_weighs_19 ?_
  refine g_iload_n C 2 rfl rfl dX12_weighs_22 ?_
  refine g_iald C hK 19 2 (ga_19 cy A _) rfl hw.1 dX12_weighs_23 ?_
  replace hw := hw.2
  refine g_iconst (v := (1 : Int32)) C dX12_weighs_24 (by decide) ?_
  refine g_icmp_ne C 32 (by decide) hw dX12_weighs_25 (fun hw => ?_) (fun hw => ?_)
  · refine g_aload_n C 1 rfl rfl dX12_weighs_32 ?_
    refine g_get C hK inX12 rfl 18 (ga_18 cy A _) 10 (by decide) (fun _ h => h) wt_595 rfl dX12_weighs_33 ?_
    refine g_iload_n C 2 rfl rfl dX12_weighs_36 ?_
    refine g_iald C hK 19 2 (ga_19 cy A _) rfl hw.1 dX12_weighs_37 ?_
    replace hw := hw.2
    refine g_iconst (v := (3 : Int32)) C dX12_weighs_38 (by decide) ?_
    refine g_icmp_ne C 46 (by decide) hw dX12_weighs_39 (fun hw => ?_) (fun hw => ?_)
    · refine g_aload_n C 1 rfl rfl dX12_weighs_46 ?_
      refine g_get C hK inX12 rfl 18 (ga_18 cy A _) 10 (by decide) (fun _ h => h) wt_595 rfl dX12_weighs_47 ?_
      refine g_iload_n C 2 rfl rfl dX12_weighs_50 ?_
      refine g_iald C hK 19 2 (ga_19 cy A _) rfl hw.1 dX12_weighs_51 ?_
      replace hw := hw.2
      refine g_iconst (v := (4 : Int32)) C dX12_weighs_52 (by decide) ?_
      refine g_icmp_ne C 62 (by decide) hw dX12_weighs_53 (fun hw => ?_) (fun hw => ?_)
      · refine g_iconst (v := (0 : Int32)) C dX12_weighs_62 (by decide) ?_
        refine g_iadd C dX12_weighs_63 ?_
        exact gq_I C F (by decide) (by decide) hw dX12_weighs_64
      · refine g_iconst (v := (2 : Int32)) C dX12_weighs_56 (by decide) ?_
        refine g_iload_n C 0 rfl rfl dX12_weighs_57 ?_
        refine g_imul C dX12_weighs_58 ?_
        refine g_goto C 63 (by decide) dX12_weighs_59 ?_
        refine g_iadd C dX12_weighs_63 ?_
        exact gq_I C F (by decide) (by decide) hw dX12_weighs_64
    · refine g_iload_n C 0 rfl rfl dX12_weighs_42 ?_
      refine g_goto C 63 (by decide) dX12_weighs_43 ?_
      refine g_iadd C dX12_weighs_63 ?_
      exact gq_I C F (by decide) (by decide) hw dX12_weighs_64
  · refine g_iconst (v := (2 : Int32)) C dX12_weighs_28 (by decide) ?_
    refine g_goto C 63 (by decide) dX12_weighs_29 ?_
    refine g_iadd C dX12_weighs_63 ?_
    exact gq_I C F (by decide) (by decide) hw dX12_weighs_64
set_option maxHeartbeats 4000000 in
set_option maxRecDepth 100000 in
theorem c_X12_cabinWeighs (l : Launch) (D : va_G) (cy : Nat → ClassId) (A : Nat → Nat) {σ : St} {v1 : Int32} {v2 : Int32} {v3 : Int32} {Φ : Int32 → St → Prop} (hw : wX12_cabinWeighs σ v1 v2 v3 Φ) : CtI l yX12_cabinWeighs (.code yX12_cabinWeighs cX12_cabinWeighs 7 (some .int) :: gL) rm_X12_cabinWeighs 0 0 [.ref (A 18), .int v1, .int v2, .int v3] D cy A σ Φ := by
  refine ct_any (fun sz => va_Qi Φ (HE D cy A (gZ cy A σ sz)) (gZ cy A σ sz)) (by decide +kernel) rfl rfl [(0, .ref (A 18)), (1, .int v1), (2, .int v2), (3, .int v3)] rfl (Nat.le_of_ble_eq_true rfl) ?_
  intro κ hκl hnm C hK sz F
  subst hκl
  have J66 : ∀ (K7 : St → Int32 → Int32 → Int32 → Int32 → Int32 → Prop) (_ : ∀ (σ : St) (v1 : Int32) (v2 : Int32) (v3 : Int32) (v4 : Int32) (v5 : Int32), K7 σ v1 v2 v3 v4 v5 → GW κ 0 0 (gW cy A σ) 7 [(0, .ref (A 18)), (1, .int v1), (2, .int v2), (3, .int v3), (4, .int v4), (5, .int v5)] []), ∀ (σ : St) (v1 : Int32) (v2 : Int32) (v3 : Int32) (v5 : Int32) (s0 : Int32) (s1 : Int32), wX12_cabinWeighs_66 K7 Φ σ v1 v2 v3 v5 s0 s1 → GW κ 0 0 (gW cy A σ) 66 [(0, .ref (A 18)), (1, .int v1), (2, .int v2), (3, .int v3), (5, .int v5)] [.int s0, .int s1] := by
    intro K7 hK7 σ v1 v2 v3 v5 s0 s1 hw
    unfold wX12_cabinWeighs_66 at hw
    refine g_iadd C dX12_cabinWeighs_66 ?_
    refine g_istore C [(4, .int (s1 + s0)), (0, .ref (A 18)), (1, .int v1), (2, .int v2), (3, .int v3), (5, .int v5)] F.2.2.2.1 (by decide) rfl dX12_cabinWeighs_67 ?_
    refine g_iinc (j := 5) C [(5, .int (v5 + 1)), (4, .int (s1 + s0)), (0, .ref (A 18)), (1, .int v1), (2, .int v2), (3, .int v3)] F.2.2.2.1 rfl rfl (by decide) rfl dX12_cabinWeighs_69 ?_
    refine g_goto C 7 (by decide) dX12_cabinWeighs_72 ?_
    refine g_eql (lv' := [(0, .ref (A 18)), (1, .int v1), (2, .int v2), (3, .int v3), (4, .int (s1 + s0)), (5, .int (v5 + 1))]) [2, 3, 4, 5, 1, 0] rfl ?_
    exact hK7 σ v1 v2 v3 (s1 + s0) (v5 + 1) hw
  have J46 : ∀ (K7 : St → Int32 → Int32 → Int32 → Int32 → Int32 → Prop) (_ : ∀ (σ : St) (v1 : Int32) (v2 : Int32) (v3 : Int32) (v4 : Int32) (v5 : Int32), K7 σ v1 v2 v3 v4 v5 → GW κ 0 0 (gW cy A σ) 7 [(0, .ref (A 18)), (1, .int v1), (2, .int v2), (3, .int v3), (4, .int v4), (5, .int v5)] []), ∀ (σ : St) (v1 : Int32) (v2 : Int32) (v3 : Int32) (v4 : Int32) (v5 : Int32) (s0 : Int32), wX12_cabinWeighs_46 K7 Φ σ v1 v2 v3 v4 v5 s0 → GW κ 0 0 (gW cy A σ) 46 [(0, .ref (A 18)), (1, .int v1), (2, .int v2), (3, .int v3), (4, .int v4), (5, .int v5)] [.int s0] := by
    intro K7 hK7 σ v1 v2 v3 v4 v5 s0 hw
    unfold wX12_cabinWeighs_46 at hw
    refine g_istore C [(6, .int s0), (0, .ref (A 18)), (1, .int v1), (2, .int v2), (3, .int v3), (4, .int v4), (5, .int v5)] F.2.2.2.1 (by decide) rfl dX12_cabinWeighs_46 ?_
    refine g_iload C 5 rfl dX12_cabinWeighs_48 ?_
    refine g_iload C 0 rfl dX12_cabinWeighs_50 ?_
    refine g_if_eq C 65 (by decide) hw dX12_cabinWeighs_52 (fun hw => ?_) (fun hw => ?_)
    · refine g_iconst (v := (0 : Int32)) C dX12_cabinWeighs_65 (by decide) ?_
      refine g_eql (lv' := [(0, .ref (A 18)), (1, .int v1), (2, .int v2), (3, .int v3), (5, .int v5)]) [1, 2, 3, 4, 6] rfl ?_
      exact J66 _ hK7 σ v1 v2 v3 v5 (0 : Int32) v4 hw
    · refine g_aload_n C 1 rfl rfl dX12_cabinWeighs_55 ?_
      refine g_iload C 6 rfl dX12_cabinWeighs_56 ?_
      refine g_iload_n C 3 rfl rfl dX12_cabinWeighs_58 ?_
      refine gc_I C (gr_V (As := [.int v5, .int v2]) (rest := [.int v4]) C hK 2 (gd_V wt_665 wt_666 wt_848 wt_8 wt_667) rfl rfl rfl ⟨rfl, hs_X12_weighs⟩ ⟨⟨Nat.le_of_ble_eq_true rfl, Nat.le_of_ble_eq_true rfl⟩, Nat.le_of_ble_eq_true rfl, Nat.le_of_ble_eq_true rfl⟩ rfl 18 (ga_18 cy A _) rfl rfl (Nat.le_of_ble_eq_true rfl) dX12_cabinWeighs_59 (c_X12_weighs (q_l κ) (q_D κ) cy A hw)) (fun r4 σ3 hw => ?_)
      refine g_goto C 66 (by decide) dX12_cabinWeighs_62 ?_
      refine g_eql (lv' := [(0, .ref (A 18)), (1, .int v1), (2, .int v2), (3, .int v3), (5, .int v5)]) [1, 2, 3, 4, 6] rfl ?_
      exact J66 _ hK7 σ3 v1 v2 v3 v5 r4 v4 hw
  have J32 : ∀ (K7 : St → Int32 → Int32 → Int32 → Int32 → Int32 → Prop) (_ : ∀ (σ : St) (v1 : Int32) (v2 : Int32) (v3 : Int32) (v4 : Int32) (v5 : Int32), K7 σ v1 v2 v3 v4 v5 → GW κ 0 0 (gW cy A σ) 7 [(0, .ref (A 18)), (1, .int v1), (2, .int v2), (3, .int v3), (4, .int v4), (5, .int v5)] []), ∀ (σ : St) (v1 : Int32) (v2 : Int32) (v3 : Int32) (v4 : Int32) (v5 : Int32) (s0 : Int32), wX12_cabinWeighs_32 K7 Φ σ v1 v2 v3 v4 v5 s0 → GW κ 0 0 (gW cy A σ) 32 [(0, .ref (A 18)), (1, .int v1), (2, .int v2), (3, .int v3), (4, .int v4), (5, .int v5)] [.int s0] := by
    intro K7 hK7 σ v1 v2 v3 v4 v5 s0 hw
    unfold wX12_cabinWeighs_32 at hw
    refine g_iload_n C 3 rfl rfl dX12_cabinWeighs_32 ?_
    refine g_iload C 5 rfl dX12_cabinWeighs_33 ?_
    refine gc_I C (gr_S (As := [.int v3, .int v5]) (rest := [.int s0]) C hK 2 (gd_S wt_662 wt_663 wt_8 wt_664) rfl rfl rfl hs_X12_has ⟨⟨Nat.le_of_ble_eq_true rfl, Nat.le_of_ble_eq_true rfl⟩, Nat.le_of_ble_eq_true rfl, Nat.le_of_ble_eq_true rfl⟩ rfl rfl (Nat.le_of_ble_eq_true rfl) dX12_cabinWeighs_35 (c_X12_has (q_l κ) (q_D κ) cy A hw)) (fun r2 σ1 hw => ?_)
    refine g_icmp_eq C 45 (by decide) hw dX12_cabinWeighs_38 (fun hw => ?_) (fun hw => ?_)
    · refine g_iconst (v := (0 : Int32)) C dX12_cabinWeighs_45 (by decide) ?_
      exact J46 _ hK7 σ1 v1 v2 v3 v4 v5 (0 : Int32) hw
    · refine g_iconst (v := (1 : Int32)) C dX12_cabinWeighs_41 (by decide) ?_
      refine g_goto C 46 (by decide) dX12_cabinWeighs_42 ?_
      exact J46 _ hK7 σ1 v1 v2 v3 v4 v5 (1 : Int32) hw
  have J7 : ∀ (n : Nat) (σ : St) (v1 : Int32) (v2 : Int32) (v3 : Int32) (v4 : Int32) (v5 : Int32), wX12_cabinWeighs_7 Φ n σ v1 v2 v3 v4 v5 → GW κ 0 0 (gW cy A σ) 7 [(0, .ref (A 18)), (1, .int v1), (2, .int v2), (3, .int v3), (4, .int v4), (5, .int v5)] [] := by
    intro n
    induction n with
    | zero => intro σ v1 v2 v3 v4 v5 hw; exact hw.elim
    | succ n ih =>
      intro σ v1 v2 v3 v4 v5 hw
      rw [wX12_cabinWeighs_7] at hw
      refine g_iload C 5 rfl dX12_cabinWeighs_7 ?_
      refine g_aload_n C 0 rfl rfl dX12_cabinWeighs_9 ?_
      refine g_get C hK inX12 rfl 18 (ga_18 cy A _) 9 (by decide) (fun _ h => h) wt_594 rfl dX12_cabinWeighs_10 ?_
      refine g_icmp_ge C 75 (by decide) hw dX12_cabinWeighs_13 (fun hw => ?_) (fun hw => ?_)
      · refine g_iload C 4 rfl dX12_cabinWeighs_75 ?_
        exact gq_I C F (by decide) (by decide) hw dX12_cabinWeighs_77
      · refine g_aload_n C 0 rfl rfl dX12_cabinWeighs_16 ?_
        refine g_get C hK inX12 rfl 18 (ga_18 cy A _) 12 (by decide) (fun _ h => h) wt_597 rfl dX12_cabinWeighs_17 ?_
        refine g_iload C 5 rfl dX12_cabinWeighs_20 ?_
        refine g_iald C hK 21 2 (ga_21 cy A _) rfl hw.1 dX12_cabinWeighs_22 ?_
        replace hw := hw.2
        refine g_iload_n C 1 rfl rfl dX12_cabinWeighs_23 ?_
        refine g_icmp_ne C 31 (by decide) hw dX12_cabinWeighs_24 (fun hw => ?_) (fun hw => ?_)
        · refine g_iconst (v := (0 : Int32)) C dX12_cabinWeighs_31 (by decide) ?_
          exact J32 _ ih σ v1 v2 v3 v4 v5 (0 : Int32) hw
        · refine g_iconst (v := (1 : Int32)) C dX12_cabinWeighs_27 (by decide) ?_
          refine g_goto C 32 (by decide) dX12_cabinWeighs_28 ?_
          exact J32 _ ih σ v1 v2 v3 v4 v5 (1 : Int32) hw
  unfold wX12_cabinWeighs at hw
  refine g_bipush (v := (10 : Int32)) C dX12_cabinWeighs_0 (by decide) ?_
  refine g_istore C [(4, .int (10 : Int32)), (0, .ref (A 18)), (1, .int v1), (2, .int v2), (3, .int v3)] F.2.2.2.1 (by decide) rfl dX12_cabinWeighs_2 ?_
  refine g_iconst (v := (0 : Int32)) C dX12_cabinWeighs_4 (by decide) ?_
  refine g_istore C [(5, .int (0 : Int32)), (4, .int (10 : Int32)), (0, .ref (A 18)), (1, .int v1), (2, .int v2), (3, .int v3)] F.2.2.2.1 (by decide) rfl dX12_cabinWeighs_5 ?_
  refine g_eql (lv' := [(0, .ref (A 18)), (1, .int v1), (2, .int v2), (3, .int v3), (4, .int (10 : Int32)), (5, .int (0 : Int32))]) [2, 3, 4, 5, 1, 0] rfl ?_
  obtain ⟨n0, hw⟩ := hw
  exact J7 n0 σ v1 v2 v3 (10 : Int32) (0 : Int32) hw
set_option maxHeartbeats 4000000 in
set_option maxRecDepth 100000 in
theorem c_X12_turnsAt (l : Launch) (D : va_G) (cy : Nat → ClassId) (A : Nat → Nat) {σ : St} {v1 : Int32} {Φ : Int32 → St → Prop} (hw : wX12_turnsAt σ v1 Φ) : CtI l yX12_turnsAt (.code yX12_turnsAt cX12_turnsAt 2 (some .int) :: gL) rm_X12_turnsAt 0 0 [.ref (A 18), .int v1] D cy A σ Φ := by
  refine ct_any (fun sz => va_Qi Φ (HE D cy A (gZ cy A σ sz)) (gZ cy A σ sz)) (by decide +kernel) rfl rfl [(0, .ref (A 18)), (1, .int v1)] rfl (Nat.le_of_ble_eq_true rfl) ?_
  intro κ hκl hnm C hK sz F
  subst hκl
  unfold wX12_turnsAt at hw
  refine g_iload_n C 1 rfl rfl dX12_turnsAt_0 ?_
  refine g_if_ne C 8 (by decide) hw dX12_turnsAt_1 (fun hw => ?_) (fun hw => ?_)
  · refine g_aload_n C 0 rfl rfl dX12_turnsAt_8 ?_
    refine g_get C hK inX12 rfl 18 (ga_18 cy A _) 3 (by decide) (fun _ h => h) wt_588 rfl dX12_turnsAt_9 ?_
    refine g_iload_n C 1 rfl rfl dX12_turnsAt_12 ?_
    refine g_iload_n C 1 rfl rfl dX12_turnsAt_13 ?_
    refine g_imul C dX12_turnsAt_14 ?_
    refine g_idiv C hw.1 dX12_turnsAt_15 ?_
    replace hw := hw.2
    exact gq_I C F (by decide) (by decide) hw dX12_turnsAt_16
  · refine g_iconst (v := (0 : Int32)) C dX12_turnsAt_4 (by decide) ?_
    refine g_goto C 16 (by decide) dX12_turnsAt_5 ?_
    exact gq_I C F (by decide) (by decide) hw dX12_turnsAt_16
set_option maxHeartbeats 4000000 in
set_option maxRecDepth 100000 in
theorem c_X12_armBy (l : Launch) (D : va_G) (cy : Nat → ClassId) (A : Nat → Nat) {σ : St} {v1 : Int32} {v2 : Int32} {v3 : Int32} {v4 : Int32} {Φ : Int32 → St → Prop} (hw : wX12_armBy σ v1 v2 v3 v4 Φ) : CtI l yX12_armBy (.code yX12_armBy cX12_armBy 8 (some .int) :: gL) rm_X12_armBy 0 0 [.ref (A 18), .int v1, .int v2, .int v3, .int v4] D cy A σ Φ := by
  refine ct_any (fun sz => va_Qi Φ (HE D cy A (gZ cy A σ sz)) (gZ cy A σ sz)) (by decide +kernel) rfl rfl [(0, .ref (A 18)), (1, .int v1), (2, .int v2), (3, .int v3), (4, .int v4)] rfl (Nat.le_of_ble_eq_true rfl) ?_
  intro κ hκl hnm C hK sz F
  subst hκl
  unfold wX12_armBy at hw
  refine g_aload_n C 0 rfl rfl dX12_armBy_0 ?_
  refine g_iconst (v := (0 : Int32)) C dX12_armBy_1 (by decide) ?_
  refine g_iload_n C 3 rfl rfl dX12_armBy_2 ?_
  refine g_iload C 4 rfl dX12_armBy_3 ?_
  refine gc_I C (gr_V (As := [.int (0 : Int32), .int v3, .int v4]) (rest := []) C hK 3 (gd_V wt_659 wt_660 wt_847 wt_8 wt_661) rfl rfl rfl ⟨rfl, hs_X12_cabinWeighs⟩ ⟨⟨Nat.le_of_ble_eq_true rfl, Nat.le_of_ble_eq_true rfl⟩, Nat.le_of_ble_eq_true rfl, Nat.le_of_ble_eq_true rfl⟩ rfl 18 (ga_18 cy A _) rfl rfl (Nat.le_of_ble_eq_true rfl) dX12_armBy_5 (c_X12_cabinWeighs (q_l κ) (q_D κ) cy A hw)) (fun r2 σ1 hw => ?_)
  refine g_istore C [(5, .int r2), (0, .ref (A 18)), (1, .int v1), (2, .int v2), (3, .int v3), (4, .int v4)] F.2.2.2.1 (by decide) rfl dX12_armBy_8 ?_
  refine g_aload_n C 1 rfl rfl dX12_armBy_10 ?_
  refine g_iconst (v := (1 : Int32)) C dX12_armBy_11 (by decide) ?_
  refine g_iload_n C 4 rfl rfl dX12_armBy_12 ?_
  refine g_iload C 5 rfl dX12_armBy_13 ?_
  refine gc_I C (gr_V (As := [.int (1 : Int32), .int v3, .int v4]) (rest := []) C hK 3 (gd_V wt_659 wt_660 wt_847 wt_8 wt_661) rfl rfl rfl ⟨rfl, hs_X12_cabinWeighs⟩ ⟨⟨Nat.le_of_ble_eq_true rfl, Nat.le_of_ble_eq_true rfl⟩, Nat.le_of_ble_eq_true rfl, Nat.le_of_ble_eq_true rfl⟩ rfl 18 (ga_18 cy A _) rfl rfl (Nat.le_of_ble_eq_true rfl) dX12_armBy_15 (c_X12_cabinWeighs (q_l κ) (q_D κ) cy A hw)) (fun r4 σ3 hw => ?_)
  refine g_istore C [(6, .int r4), (5, .int r2), (0, .ref (A 18)), (1, .int v1), (2, .int v2), (3, .int v3), (4, .int v4)] F.2.2.2.1 (by decide) rfl dX12_armBy_18 ?_
  refine g_iload_n C 4 rfl rfl dX12_armBy_20 ?_
  refine g_iload C 0 rfl dX12_armBy_21 ?_
  refine g_imul C dX12_armBy_23 ?_
  refine g_iload C 1 rfl dX12_armBy_24 ?_
  refine g_iload C 0 rfl dX12_armBy_26 ?_
  refine g_iadd C dX12_armBy_28 ?_
  refine g_idiv C hw.1 dX12_armBy_29 ?_
  replace hw := hw.2
  refine g_istore C [(7, .int ((v2 * r4) / (r2 + r4))), (6, .int r4), (5, .int r2), (0, .ref (A 18)), (1, .int v1), (2, .int v2), (3, .int v3), (4, .int v4)] F.2.2.2.1 (by decide) rfl dX12_armBy_30 ?_
  refine g_iload_n C 4 rfl rfl dX12_armBy_32 ?_
  refine g_if_ne C 41 (by decide) hw dX12_armBy_33 (fun hw => ?_) (fun hw => ?_)
  · refine g_iload_n C 5 rfl rfl dX12_armBy_41 ?_
    refine g_iload C 0 rfl dX12_armBy_42 ?_
    refine g_isub C dX12_armBy_44 ?_
    exact gq_I C F (by decide) (by decide) hw dX12_armBy_45
  · refine g_iload C 0 rfl dX12_armBy_36 ?_
    refine g_goto C 45 (by decide) dX12_armBy_38 ?_
    exact gq_I C F (by decide) (by decide) hw dX12_armBy_45
set_option maxHeartbeats 4000000 in
set_option maxRecDepth 100000 in
theorem c_X12_floorBy (l : Launch) (D : va_G) (cy : Nat → ClassId) (A : Nat → Nat) {σ : St} {v1 : Int32} {v2 : Int32} {v3 : Int32} {v4 : Int32} {Φ : Int32 → St → Prop} (hw : wX12_floorBy σ v1 v2 v3 v4 Φ) : CtI l yX12_floorBy (.code yX12_floorBy cX12_floorBy 5 (some .int) :: gL) rm_X12_floorBy 0 0 [.ref (A 18), .int v1, .int v2, .int v3, .int v4] D cy A σ Φ := by
  refine ct_any (fun sz => va_Qi Φ (HE D cy A (gZ cy A σ sz)) (gZ cy A σ sz)) (by decide +kernel) rfl rfl [(0, .ref (A 18)), (1, .int v1), (2, .int v2), (3, .int v3), (4, .int v4)] rfl (Nat.le_of_ble_eq_true rfl) ?_
  intro κ hκl hnm C hK sz F
  subst hκl
  unfold wX12_floorBy at hw
  refine g_aload_n C 0 rfl rfl dX12_floorBy_0 ?_
  refine g_iload_n C 1 rfl rfl dX12_floorBy_1 ?_
  refine g_iload_n C 2 rfl rfl dX12_floorBy_2 ?_
  refine g_iload_n C 3 rfl rfl dX12_floorBy_3 ?_
  refine g_iload C 4 rfl dX12_floorBy_4 ?_
  refine gc_I C (gr_V (As := [.int v1, .int v2, .int v3, .int v4]) (rest := []) C hK 4 (gd_V wt_668 wt_669 wt_849 wt_8 wt_670) rfl rfl rfl ⟨rfl, hs_X12_armBy⟩ ⟨⟨Nat.le_of_ble_eq_true rfl, Nat.le_of_ble_eq_true rfl⟩, Nat.le_of_ble_eq_true rfl, Nat.le_of_ble_eq_true rfl⟩ rfl 18 (ga_18 cy A _) rfl rfl (Nat.le_of_ble_eq_true rfl) dX12_floorBy_6 (c_X12_armBy (q_l κ) (q_D κ) cy A hw)) (fun r2 σ1 hw => ?_)
  refine g_aload_n C 0 rfl rfl dX12_floorBy_9 ?_
  refine g_iload_n C 2 rfl rfl dX12_floorBy_10 ?_
  refine gc_I C (gr_V (As := [.int v2]) (rest := [.int r2]) C hK 1 (gd_V wt_674 wt_675 wt_851 wt_8 wt_676) rfl rfl rfl ⟨rfl, hs_X12_turnsAt⟩ ⟨⟨Nat.le_of_ble_eq_true rfl, Nat.le_of_ble_eq_true rfl⟩, Nat.le_of_ble_eq_true rfl, Nat.le_of_ble_eq_true rfl⟩ rfl 18 (ga_18 cy A _) rfl rfl (Nat.le_of_ble_eq_true rfl) dX12_floorBy_11 (c_X12_turnsAt (q_l κ) (q_D κ) cy A hw)) (fun r4 σ3 hw => ?_)
  refine g_imul C dX12_floorBy_14 ?_
  refine g_aload_n C 0 rfl rfl dX12_floorBy_15 ?_
  refine g_iload_n C 2 rfl rfl dX12_floorBy_16 ?_
  refine gc_I C (gr_V (As := [.int v2]) (rest := [.int (r2 * r4)]) C hK 1 (gd_V wt_674 wt_675 wt_851 wt_8 wt_676) rfl rfl rfl ⟨rfl, hs_X12_turnsAt⟩ ⟨⟨Nat.le_of_ble_eq_true rfl, Nat.le_of_ble_eq_true rfl⟩, Nat.le_of_ble_eq_true rfl, Nat.le_of_ble_eq_true rfl⟩ rfl 18 (ga_18 cy A _) rfl rfl (Nat.le_of_ble_eq_true rfl) dX12_floorBy_17 (c_X12_turnsAt (q_l κ) (q_D κ) cy A hw)) (fun r6 σ5 hw => ?_)
  refine g_imul C dX12_floorBy_20 ?_
  exact gq_I C F (by decide) (by decide) hw dX12_floorBy_21
set_option maxHeartbeats 4000000 in
set_option maxRecDepth 100000 in
theorem c_X12_strainAt (l : Launch) (D : va_G) (cy : Nat → ClassId) (A : Nat → Nat) {σ : St} {v1 : Int32} {v2 : Int32} {Φ : Int32 → St → Prop} (hw : wX12_strainAt σ v1 v2 Φ) : CtI l yX12_strainAt (.code yX12_strainAt cX12_strainAt 3 (some .int) :: gL) rm_X12_strainAt 0 0 [.ref (A 18), .int v1, .int v2] D cy A σ Φ := by
  refine ct_any (fun sz => va_Qi Φ (HE D cy A (gZ cy A σ sz)) (gZ cy A σ sz)) (by decide +kernel) rfl rfl [(0, .ref (A 18)), (1, .int v1), (2, .int v2)] rfl (Nat.le_of_ble_eq_true rfl) ?_
  intro κ hκl hnm C hK sz F
  subst hκl
  unfold wX12_strainAt at hw
  refine g_aload_n C 0 rfl rfl dX12_strainAt_0 ?_
  refine g_iconst (v := (0 : Int32)) C dX12_strainAt_1 (by decide) ?_
  refine g_iload_n C 2 rfl rfl dX12_strainAt_2 ?_
  refine g_iconst (v := (0 : Int32)) C dX12_strainAt_3 (by decide) ?_
  refine gc_I C (gr_V (As := [.int (0 : Int32), .int v2, .int (0 : Int32)]) (rest := []) C hK 3 (gd_V wt_659 wt_660 wt_847 wt_8 wt_661) rfl rfl rfl ⟨rfl, hs_X12_cabinWeighs⟩ ⟨⟨Nat.le_of_ble_eq_true rfl, Nat.le_of_ble_eq_true rfl⟩, Nat.le_of_ble_eq_true rfl, Nat.le_of_ble_eq_true rfl⟩ rfl 18 (ga_18 cy A _) rfl rfl (Nat.le_of_ble_eq_true rfl) dX12_strainAt_4 (c_X12_cabinWeighs (q_l κ) (q_D κ) cy A hw)) (fun r2 σ1 hw => ?_)
  refine g_aload_n C 0 rfl rfl dX12_strainAt_7 ?_
  refine g_iconst (v := (0 : Int32)) C dX12_strainAt_8 (by decide) ?_
  refine g_iload_n C 1 rfl rfl dX12_strainAt_9 ?_
  refine g_iload_n C 2 rfl rfl dX12_strainAt_10 ?_
  refine g_iconst (v := (0 : Int32)) C dX12_strainAt_11 (by decide) ?_
  refine gc_I C (gr_V (As := [.int (0 : Int32), .int v1, .int v2, .int (0 : Int32)]) (rest := [.int r2]) C hK 4 (gd_V wt_671 wt_672 wt_850 wt_8 wt_673) rfl rfl rfl ⟨rfl, hs_X12_floorBy⟩ ⟨⟨Nat.le_of_ble_eq_true rfl, Nat.le_of_ble_eq_true rfl⟩, Nat.le_of_ble_eq_true rfl, Nat.le_of_ble_eq_true rfl⟩ rfl 18 (ga_18 cy A _) rfl rfl (Nat.le_of_ble_eq_true rfl) dX12_strainAt_12 (c_X12_floorBy (q_l κ) (q_D κ) cy A hw)) (fun r4 σ3 hw => ?_)
  refine g_imul C dX12_strainAt_15 ?_
  refine g_bipush (v := (100 : Int32)) C dX12_strainAt_16 (by decide) ?_
  refine g_idiv C hw.1 dX12_strainAt_18 ?_
  replace hw := hw.2
  exact gq_I C F (by decide) (by decide) hw dX12_strainAt_19
set_option maxHeartbeats 4000000 in
set_option maxRecDepth 100000 in
theorem c_X12_inCabin (l : Launch) (D : va_G) (cy : Nat → ClassId) (A : Nat → Nat) {σ : St} {v1 : Int32} {Φ : Int32 → St → Prop} (hw : wX12_inCabin σ v1 Φ) : CtI l yX12_inCabin (.code yX12_inCabin cX12_inCabin 4 (some .int) :: gL) rm_X12_inCabin 0 0 [.ref (A 18), .int v1] D cy A σ Φ := by
  refine ct_any (fun sz => va_Qi Φ (HE D cy A (gZ cy A σ sz)) (gZ cy A σ sz)) (by decide +kernel) rfl rfl [(0, .ref (A 18)), (1, .int v1)] rfl (Nat.le_of_ble_eq_true rfl) ?_
  intro κ hκl hnm C hK sz F
  subst hκl
  have J28 : ∀ (K4 : St → Int32 → Int32 → Int32 → Prop) (_ : ∀ (σ : St) (v1 : Int32) (v2 : Int32) (v3 : Int32), K4 σ v1 v2 v3 → GW κ 0 0 (gW cy A σ) 4 [(0, .ref (A 18)), (1, .int v1), (2, .int v2), (3, .int v3)] []), ∀ (σ : St) (v1 : Int32) (v3 : Int32) (s0 : Int32) (s1 : Int32), wX12_inCabin_28 K4 Φ σ v1 v3 s0 s1 → GW κ 0 0 (gW cy A σ) 28 [(0, .ref (A 18)), (1, .int v1), (3, .int v3)] [.int s0, .int s1] := by
    intro K4 hK4 σ v1 v3 s0 s1 hw
    unfold wX12_inCabin_28 at hw
    refine g_iadd C dX12_inCabin_28 ?_
    refine g_istore_n C [(2, .int (s1 + s0)), (0, .ref (A 18)), (1, .int v1), (3, .int v3)] F.2.2.2.1 rfl (by decide) rfl dX12_inCabin_29 ?_
    refine g_iinc (j := 3) C [(3, .int (v3 + 1)), (2, .int (s1 + s0)), (0, .ref (A 18)), (1, .int v1)] F.2.2.2.1 rfl rfl (by decide) rfl dX12_inCabin_30 ?_
    refine g_goto C 4 (by decide) dX12_inCabin_33 ?_
    refine g_eql (lv' := [(0, .ref (A 18)), (1, .int v1), (2, .int (s1 + s0)), (3, .int (v3 + 1))]) [2, 3, 1, 0] rfl ?_
    exact hK4 σ v1 (s1 + s0) (v3 + 1) hw
  have J4 : ∀ (n : Nat) (σ : St) (v1 : Int32) (v2 : Int32) (v3 : Int32), wX12_inCabin_4 Φ n σ v1 v2 v3 → GW κ 0 0 (gW cy A σ) 4 [(0, .ref (A 18)), (1, .int v1), (2, .int v2), (3, .int v3)] [] := by
    intro n
    induction n with
    | zero => intro σ v1 v2 v3 hw; exact hw.elim
    | succ n ih =>
      intro σ v1 v2 v3 hw
      rw [wX12_inCabin_4] at hw
      refine g_iload_n C 3 rfl rfl dX12_inCabin_4 ?_
      refine g_aload_n C 0 rfl rfl dX12_inCabin_5 ?_
      refine g_get C hK inX12 rfl 18 (ga_18 cy A _) 9 (by decide) (fun _ h => h) wt_594 rfl dX12_inCabin_6 ?_
      refine g_icmp_ge C 36 (by decide) hw dX12_inCabin_9 (fun hw => ?_) (fun hw => ?_)
      · refine g_iload_n C 2 rfl rfl dX12_inCabin_36 ?_
        exact gq_I C F (by decide) (by decide) hw dX12_inCabin_37
      · refine g_iload_n C 2 rfl rfl dX12_inCabin_12 ?_
        refine g_aload_n C 0 rfl rfl dX12_inCabin_13 ?_
        refine g_get C hK inX12 rfl 18 (ga_18 cy A _) 12 (by decide) (fun _ h => h) wt_597 rfl dX12_inCabin_14 ?_
        refine g_iload_n C 3 rfl rfl dX12_inCabin_17 ?_
        refine g_iald C hK 21 2 (ga_21 cy A _) rfl hw.1 dX12_inCabin_18 ?_
        replace hw := hw.2
        refine g_iload_n C 1 rfl rfl dX12_inCabin_19 ?_
        refine g_icmp_ne C 27 (by decide) hw dX12_inCabin_20 (fun hw => ?_) (fun hw => ?_)
        · refine g_iconst (v := (0 : Int32)) C dX12_inCabin_27 (by decide) ?_
          refine g_eql (lv' := [(0, .ref (A 18)), (1, .int v1), (3, .int v3)]) [0, 1, 3] rfl ?_
          exact J28 _ ih σ v1 v3 (0 : Int32) v2 hw
        · refine g_iconst (v := (1 : Int32)) C dX12_inCabin_23 (by decide) ?_
          refine g_goto C 28 (by decide) dX12_inCabin_24 ?_
          refine g_eql (lv' := [(0, .ref (A 18)), (1, .int v1), (3, .int v3)]) [0, 1, 3] rfl ?_
          exact J28 _ ih σ v1 v3 (1 : Int32) v2 hw
  unfold wX12_inCabin at hw
  refine g_iconst (v := (0 : Int32)) C dX12_inCabin_0 (by decide) ?_
  refine g_istore_n C [(2, .int (0 : Int32)), (0, .ref (A 18)), (1, .int v1)] F.2.2.2.1 rfl (by decide) rfl dX12_inCabin_1 ?_
  refine g_iconst (v := (0 : Int32)) C dX12_inCabin_2 (by decide) ?_
  refine g_istore_n C [(3, .int (0 : Int32)), (2, .int (0 : Int32)), (0, .ref (A 18)), (1, .int v1)] F.2.2.2.1 rfl (by decide) rfl dX12_inCabin_3 ?_
  refine g_eql (lv' := [(0, .ref (A 18)), (1, .int v1), (2, .int (0 : Int32)), (3, .int (0 : Int32))]) [2, 3, 1, 0] rfl ?_
  obtain ⟨n0, hw⟩ := hw
  exact J4 n0 σ v1 (0 : Int32) (0 : Int32) hw
set_option maxHeartbeats 4000000 in
set_option maxRecDepth 100000 in
theorem c_X12_cabinNow (l : Launch) (D : va_G) (cy : Nat → ClassId) (A : Nat → Nat) {σ : St} {v1 : Int32} {v2 : Int32} {Φ : Int32 → St → Prop} (hw : wX12_cabinNow σ v1 v2 Φ) : CtI l yX12_cabinNow (.code yX12_cabinNow cX12_cabinNow 3 (some .int) :: gL) rm_X12_cabinNow 0 0 [.ref (A 18), .int v1, .int v2] D cy A σ Φ := by
  refine ct_any (fun sz => va_Qi Φ (HE D cy A (gZ cy A σ sz)) (gZ cy A σ sz)) (by decide +kernel) rfl rfl [(0, .ref (A 18)), (1, .int v1), (2, .int v2)] rfl (Nat.le_of_ble_eq_true rfl) ?_
  intro κ hκl hnm C hK sz F
  subst hκl
  unfold wX12_cabinNow at hw
  refine g_iload_n C 2 rfl rfl dX12_cabinNow_0 ?_
  by_cases h9 : v2.toInt < 0 ∨ 2 < v2.toInt
  · refine g_swOut C 69 h9 (by decide) dX12_cabinNow_1 ?_
    replace hw := hw.2.2.2 h9
    refine g_aload_n C 0 rfl rfl dX12_cabinNow_69 ?_
    refine g_iload_n C 1 rfl rfl dX12_cabinNow_70 ?_
    refine gc_I C (gr_V (As := [.int v1]) (rest := []) C hK 1 (gd_V wt_677 wt_678 wt_852 wt_8 wt_679) rfl rfl rfl ⟨rfl, hs_X12_inCabin⟩ ⟨⟨Nat.le_of_ble_eq_true rfl, Nat.le_of_ble_eq_true rfl⟩, Nat.le_of_ble_eq_true rfl, Nat.le_of_ble_eq_true rfl⟩ rfl 18 (ga_18 cy A _) rfl rfl (Nat.le_of_ble_eq_true rfl) dX12_cabinNow_71 (c_X12_inCabin (q_l κ) (q_D κ) cy A hw)) (fun r8 σ7 hw => ?_)
    exact gq_I C F (by decide) (by decide) hw dX12_cabinNow_74
  · rcases (show v2.toInt = 0 ∨ v2.toInt = 1 ∨ v2.toInt = 2 by omega) with e9 | e9 | e9
    · refine g_swIn (off := 27) C 0 28 e9 (by decide) (by decide) (by decide) (by decide) dX12_cabinNow_1 ?_
      replace hw := hw.1 (Int32.toInt_inj.mp (e9.trans (by decide)))
      refine g_aload_n C 0 rfl rfl dX12_cabinNow_28 ?_
      refine g_iload_n C 1 rfl rfl dX12_cabinNow_29 ?_
      refine g_aload_n C 0 rfl rfl dX12_cabinNow_30 ?_
      refine g_get C hK inX12 rfl 18 (ga_18 cy A _) 8 (by decide) (fun _ h => h) wt_593 rfl dX12_cabinNow_31 ?_
      refine g_iconst (v := (0 : Int32)) C dX12_cabinNow_34 (by decide) ?_
      refine gc_I C (gr_V (As := [.int v1, .int (σ.1 18 8), .int (0 : Int32)]) (rest := []) C hK 3 (gd_V wt_659 wt_660 wt_847 wt_8 wt_661) rfl rfl rfl ⟨rfl, hs_X12_cabinWeighs⟩ ⟨⟨Nat.le_of_ble_eq_true rfl, Nat.le_of_ble_eq_true rfl⟩, Nat.le_of_ble_eq_true rfl, Nat.le_of_ble_eq_true rfl⟩ rfl 18 (ga_18 cy A _) rfl rfl (Nat.le_of_ble_eq_true rfl) dX12_cabinNow_35 (c_X12_cabinWeighs (q_l κ) (q_D κ) cy A hw)) (fun r2 σ1 hw => ?_)
      exact gq_I C F (by decide) (by decide) hw dX12_cabinNow_38
    · refine g_swIn (off := 38) C 1 39 e9 (by decide) (by decide) (by decide) (by decide) dX12_cabinNow_1 ?_
      replace hw := hw.2.1 (Int32.toInt_inj.mp (e9.trans (by decide)))
      refine g_aload_n C 0 rfl rfl dX12_cabinNow_39 ?_
      refine g_iload_n C 1 rfl rfl dX12_cabinNow_40 ?_
      refine g_aload_n C 0 rfl rfl dX12_cabinNow_41 ?_
      refine g_get C hK inX12 rfl 18 (ga_18 cy A _) 2 (by decide) (fun _ h => h) wt_587 rfl dX12_cabinNow_42 ?_
      refine g_aload_n C 0 rfl rfl dX12_cabinNow_45 ?_
      refine g_get C hK inX12 rfl 18 (ga_18 cy A _) 8 (by decide) (fun _ h => h) wt_593 rfl dX12_cabinNow_46 ?_
      refine g_iconst (v := (0 : Int32)) C dX12_cabinNow_49 (by decide) ?_
      refine gc_I C (gr_V (As := [.int v1, .int (σ.1 18 2), .int (σ.1 18 8), .int (0 : Int32)]) (rest := []) C hK 4 (gd_V wt_668 wt_669 wt_849 wt_8 wt_670) rfl rfl rfl ⟨rfl, hs_X12_armBy⟩ ⟨⟨Nat.le_of_ble_eq_true rfl, Nat.le_of_ble_eq_true rfl⟩, Nat.le_of_ble_eq_true rfl, Nat.le_of_ble_eq_true rfl⟩ rfl 18 (ga_18 cy A _) rfl rfl (Nat.le_of_ble_eq_true rfl) dX12_cabinNow_50 (c_X12_armBy (q_l κ) (q_D κ) cy A hw)) (fun r4 σ3 hw => ?_)
      exact gq_I C F (by decide) (by decide) hw dX12_cabinNow_53
    · refine g_swIn (off := 53) C 2 54 e9 (by decide) (by decide) (by decide) (by decide) dX12_cabinNow_1 ?_
      replace hw := hw.2.2.1 (Int32.toInt_inj.mp (e9.trans (by decide)))
      refine g_aload_n C 0 rfl rfl dX12_cabinNow_54 ?_
      refine g_iload_n C 1 rfl rfl dX12_cabinNow_55 ?_
      refine g_aload_n C 0 rfl rfl dX12_cabinNow_56 ?_
      refine g_get C hK inX12 rfl 18 (ga_18 cy A _) 2 (by decide) (fun _ h => h) wt_587 rfl dX12_cabinNow_57 ?_
      refine g_aload_n C 0 rfl rfl dX12_cabinNow_60 ?_
      refine g_get C hK inX12 rfl 18 (ga_18 cy A _) 8 (by decide) (fun _ h => h) wt_593 rfl dX12_cabinNow_61 ?_
      refine g_iconst (v := (0 : Int32)) C dX12_cabinNow_64 (by decide) ?_
      refine gc_I C (gr_V (As := [.int v1, .int (σ.1 18 2), .int (σ.1 18 8), .int (0 : Int32)]) (rest := []) C hK 4 (gd_V wt_671 wt_672 wt_850 wt_8 wt_673) rfl rfl rfl ⟨rfl, hs_X12_floorBy⟩ ⟨⟨Nat.le_of_ble_eq_true rfl, Nat.le_of_ble_eq_true rfl⟩, Nat.le_of_ble_eq_true rfl, Nat.le_of_ble_eq_true rfl⟩ rfl 18 (ga_18 cy A _) rfl rfl (Nat.le_of_ble_eq_true rfl) dX12_cabinNow_65 (c_X12_floorBy (q_l κ) (q_D κ) cy A hw)) (fun r6 σ5 hw => ?_)
      exact gq_I C F (by decide) (by decide) hw dX12_cabinNow_68
set_option maxHeartbeats 4000000 in
set_option maxRecDepth 100000 in
theorem c_X12_cabin (l : Launch) (D : va_G) (cy : Nat → ClassId) (A : Nat → Nat) {σ : St} {v1 : Int32} {v2 : Int32} {Φ : Int32 → St → Prop} (hw : wX12_cabin σ v1 v2 Φ) : CtI l yX12_cabin (.code yX12_cabin cX12_cabin 3 (some .int) :: gL) rm_X12_cabin 0 0 [.ref (A 18), .int v1, .int v2] D cy A σ Φ := by
  refine ct_any (fun sz => va_Qi Φ (HE D cy A (gZ cy A σ sz)) (gZ cy A σ sz)) (by decide +kernel) rfl rfl [(0, .ref (A 18)), (1, .int v1), (2, .int v2)] rfl (Nat.le_of_ble_eq_true rfl) ?_
  intro κ hκl hnm C hK sz F
  subst hκl
  unfold wX12_cabin at hw
  refine g_iload_n C 1 rfl rfl dX12_cabin_0 ?_
  refine g_iconst (v := (0 : Int32)) C dX12_cabin_1 (by decide) ?_
  refine g_iconst (v := (1 : Int32)) C dX12_cabin_2 (by decide) ?_
  refine gc_I C (gr_S (As := [.int v1, .int (0 : Int32), .int (1 : Int32)]) (rest := []) C hK 3 (gd_S wt_645 wt_646 wt_8 wt_647) rfl rfl rfl hs_X12_within ⟨⟨Nat.le_of_ble_eq_true rfl, Nat.le_of_ble_eq_true rfl⟩, Nat.le_of_ble_eq_true rfl, Nat.le_of_ble_eq_true rfl⟩ rfl rfl (Nat.le_of_ble_eq_true rfl) dX12_cabin_3 (c_X12_within (q_l κ) (q_D κ) cy A hw)) (fun r2 σ1 hw => ?_)
  refine g_if_ne C 12 (by decide) hw dX12_cabin_6 (fun hw => ?_) (fun hw => ?_)
  · refine g_iload_n C 2 rfl rfl dX12_cabin_12 ?_
    refine g_iconst (v := (0 : Int32)) C dX12_cabin_13 (by decide) ?_
    refine g_iconst (v := (3 : Int32)) C dX12_cabin_14 (by decide) ?_
    refine gc_I C (gr_S (As := [.int v2, .int (0 : Int32), .int (3 : Int32)]) (rest := []) C hK 3 (gd_S wt_645 wt_646 wt_8 wt_647) rfl rfl rfl hs_X12_within ⟨⟨Nat.le_of_ble_eq_true rfl, Nat.le_of_ble_eq_true rfl⟩, Nat.le_of_ble_eq_true rfl, Nat.le_of_ble_eq_true rfl⟩ rfl rfl (Nat.le_of_ble_eq_true rfl) dX12_cabin_15 (c_X12_within (q_l κ) (q_D κ) cy A hw)) (fun r4 σ3 hw => ?_)
    refine g_if_ne C 24 (by decide) hw dX12_cabin_18 (fun hw => ?_) (fun hw => ?_)
    · refine g_aload_n C 0 rfl rfl dX12_cabin_24 ?_
      refine g_get C hK inX12 rfl 18 (ga_18 cy A _) 0 (by decide) (fun _ h => h) wt_585 rfl dX12_cabin_25 ?_
      refine g_if_eq C 40 (by decide) hw dX12_cabin_28 (fun hw => ?_) (fun hw => ?_)
      · refine g_bipush (v := (-103 : Int32)) C dX12_cabin_40 (by decide) ?_
        exact gq_I C F (by decide) (by decide) hw dX12_cabin_42
      · refine g_aload_n C 0 rfl rfl dX12_cabin_31 ?_
        refine g_iload_n C 1 rfl rfl dX12_cabin_32 ?_
        refine g_iload_n C 2 rfl rfl dX12_cabin_33 ?_
        refine gc_I C (gr_V (As := [.int v1, .int v2]) (rest := []) C hK 2 (gd_V wt_656 wt_657 wt_846 wt_8 wt_658) rfl rfl rfl ⟨rfl, hs_X12_cabinNow⟩ ⟨⟨Nat.le_of_ble_eq_true rfl, Nat.le_of_ble_eq_true rfl⟩, Nat.le_of_ble_eq_true rfl, Nat.le_of_ble_eq_true rfl⟩ rfl 18 (ga_18 cy A _) rfl rfl (Nat.le_of_ble_eq_true rfl) dX12_cabin_34 (c_X12_cabinNow (q_l κ) (q_D κ) cy A hw)) (fun r6 σ5 hw => ?_)
        refine g_goto C 42 (by decide) dX12_cabin_37 ?_
        exact gq_I C F (by decide) (by decide) hw dX12_cabin_42
    · refine g_bipush (v := (-102 : Int32)) C dX12_cabin_21 (by decide) ?_
      exact gq_I C F (by decide) (by decide) hw dX12_cabin_23
  · refine g_bipush (v := (-101 : Int32)) C dX12_cabin_9 (by decide) ?_
    exact gq_I C F (by decide) (by decide) hw dX12_cabin_11
set_option maxHeartbeats 4000000 in
set_option maxRecDepth 100000 in
theorem c_X12_isThing (l : Launch) (D : va_G) (cy : Nat → ClassId) (A : Nat → Nat) {σ : St} {v1 : Int32} {Φ : Int32 → St → Prop} (hw : wX12_isThing σ v1 Φ) : CtI l yX12_isThing (.code yX12_isThing cX12_isThing 2 (some .boolean) :: gL) rm_X12_isThing 0 0 [.ref (A 18), .int v1] D cy A σ Φ := by
  refine ct_any (fun sz => va_Qi Φ (HE D cy A (gZ cy A σ sz)) (gZ cy A σ sz)) (by decide +kernel) rfl rfl [(0, .ref (A 18)), (1, .int v1)] rfl (Nat.le_of_ble_eq_true rfl) ?_
  intro κ hκl hnm C hK sz F
  subst hκl
  unfold wX12_isThing at hw
  refine g_iload_n C 1 rfl rfl dX12_isThing_0 ?_
  refine g_iconst (v := (0 : Int32)) C dX12_isThing_1 (by decide) ?_
  refine g_aload_n C 0 rfl rfl dX12_isThing_2 ?_
  refine g_get C hK inX12 rfl 18 (ga_18 cy A _) 9 (by decide) (fun _ h => h) wt_594 rfl dX12_isThing_3 ?_
  refine g_iconst (v := (1 : Int32)) C dX12_isThing_6 (by decide) ?_
  refine g_isub C dX12_isThing_7 ?_
  refine gc_I C (gr_S (As := [.int v1, .int (0 : Int32), .int ((σ.1 18 9) - (1 : Int32))]) (rest := []) C hK 3 (gd_S wt_645 wt_646 wt_8 wt_647) rfl rfl rfl hs_X12_within ⟨⟨Nat.le_of_ble_eq_true rfl, Nat.le_of_ble_eq_true rfl⟩, Nat.le_of_ble_eq_true rfl, Nat.le_of_ble_eq_true rfl⟩ rfl rfl (Nat.le_of_ble_eq_true rfl) dX12_isThing_8 (c_X12_within (q_l κ) (q_D κ) cy A hw)) (fun r2 σ1 hw => ?_)
  exact gq_Z C F (by decide) (by decide) hw dX12_isThing_11
set_option maxHeartbeats 4000000 in
set_option maxRecDepth 100000 in
theorem c_X12_thing (l : Launch) (D : va_G) (cy : Nat → ClassId) (A : Nat → Nat) {σ : St} {v1 : Int32} {v2 : Int32} {v3 : Int32} {Φ : Int32 → St → Prop} (hw : wX12_thing σ v1 v2 v3 Φ) : CtI l yX12_thing (.code yX12_thing cX12_thing 4 (some .int) :: gL) rm_X12_thing 0 0 [.ref (A 18), .int v1, .int v2, .int v3] D cy A σ Φ := by
  refine ct_any (fun sz => va_Qi Φ (HE D cy A (gZ cy A σ sz)) (gZ cy A σ sz)) (by decide +kernel) rfl rfl [(0, .ref (A 18)), (1, .int v1), (2, .int v2), (3, .int v3)] rfl (Nat.le_of_ble_eq_true rfl) ?_
  intro κ hκl hnm C hK sz F
  subst hκl
  unfold wX12_thing at hw
  refine g_iload_n C 3 rfl rfl dX12_thing_0 ?_
  refine g_iconst (v := (0 : Int32)) C dX12_thing_1 (by decide) ?_
  refine g_iconst (v := (1 : Int32)) C dX12_thing_2 (by decide) ?_
  refine gc_I C (gr_S (As := [.int v3, .int (0 : Int32), .int (1 : Int32)]) (rest := []) C hK 3 (gd_S wt_645 wt_646 wt_8 wt_647) rfl rfl rfl hs_X12_within ⟨⟨Nat.le_of_ble_eq_true rfl, Nat.le_of_ble_eq_true rfl⟩, Nat.le_of_ble_eq_true rfl, Nat.le_of_ble_eq_true rfl⟩ rfl rfl (Nat.le_of_ble_eq_true rfl) dX12_thing_3 (c_X12_within (q_l κ) (q_D κ) cy A hw)) (fun r2 σ1 hw => ?_)
  refine g_if_ne C 12 (by decide) hw dX12_thing_6 (fun hw => ?_) (fun hw => ?_)
  · refine g_iload_n C 1 rfl rfl dX12_thing_12 ?_
    refine g_iconst (v := (0 : Int32)) C dX12_thing_13 (by decide) ?_
    refine g_iconst (v := (4 : Int32)) C dX12_thing_14 (by decide) ?_
    refine gc_I C (gr_S (As := [.int v1, .int (0 : Int32), .int (4 : Int32)]) (rest := []) C hK 3 (gd_S wt_645 wt_646 wt_8 wt_647) rfl rfl rfl hs_X12_within ⟨⟨Nat.le_of_ble_eq_true rfl, Nat.le_of_ble_eq_true rfl⟩, Nat.le_of_ble_eq_true rfl, Nat.le_of_ble_eq_true rfl⟩ rfl rfl (Nat.le_of_ble_eq_true rfl) dX12_thing_15 (c_X12_within (q_l κ) (q_D κ) cy A hw)) (fun r4 σ3 hw => ?_)
    refine g_if_eq C 31 (by decide) hw dX12_thing_18 (fun hw => ?_) (fun hw => ?_)
    · refine g_bipush (v := (-102 : Int32)) C dX12_thing_31 (by decide) ?_
      exact gq_I C F (by decide) (by decide) hw dX12_thing_33
    · refine g_iload_n C 2 rfl rfl dX12_thing_21 ?_
      refine g_iconst (v := (1 : Int32)) C dX12_thing_22 (by decide) ?_
      refine g_bipush (v := (20 : Int32)) C dX12_thing_23 (by decide) ?_
      refine gc_I C (gr_S (As := [.int v2, .int (1 : Int32), .int (20 : Int32)]) (rest := []) C hK 3 (gd_S wt_645 wt_646 wt_8 wt_647) rfl rfl rfl hs_X12_within ⟨⟨Nat.le_of_ble_eq_true rfl, Nat.le_of_ble_eq_true rfl⟩, Nat.le_of_ble_eq_true rfl, Nat.le_of_ble_eq_true rfl⟩ rfl rfl (Nat.le_of_ble_eq_true rfl) dX12_thing_25 (c_X12_within (q_l κ) (q_D κ) cy A hw)) (fun r6 σ5 hw => ?_)
      refine g_if_ne C 34 (by decide) hw dX12_thing_28 (fun hw => ?_) (fun hw => ?_)
      · refine g_aload_n C 0 rfl rfl dX12_thing_34 ?_
        refine g_get C hK inX12 rfl 18 (ga_18 cy A _) 0 (by decide) (fun _ h => h) wt_585 rfl dX12_thing_35 ?_
        refine g_if_ne C 44 (by decide) hw dX12_thing_38 (fun hw => ?_) (fun hw => ?_)
        · refine g_aload_n C 0 rfl rfl dX12_thing_44 ?_
          refine g_get C hK inX12 rfl 18 (ga_18 cy A _) 9 (by decide) (fun _ h => h) wt_594 rfl dX12_thing_45 ?_
          refine g_bipush (v := (6 : Int32)) C dX12_thing_48 (by decide) ?_
          refine g_icmp_ne C 56 (by decide) hw dX12_thing_50 (fun hw => ?_) (fun hw => ?_)
          · refine g_aload_n C 0 rfl rfl dX12_thing_56 ?_
            refine g_get C hK inX12 rfl 18 (ga_18 cy A _) 10 (by decide) (fun _ h => h) wt_595 rfl dX12_thing_57 ?_
            refine g_aload_n C 0 rfl rfl dX12_thing_60 ?_
            refine g_get C hK inX12 rfl 18 (ga_18 cy A _) 9 (by decide) (fun _ h => h) wt_594 rfl dX12_thing_61 ?_
            refine g_iload_n C 1 rfl rfl dX12_thing_64 ?_
            refine g_iast C hK 19 2 (ga_19 cy A _) rfl hw.1 (gs_19 cy A _ _ _) dX12_thing_65 ?_
            replace hw := hw.2
            refine g_aload_n C 0 rfl rfl dX12_thing_66 ?_
            refine g_get C hK inX12 rfl 18 (ga_18 cy A _) 11 (by decide) (fun _ h => h) wt_596 rfl dX12_thing_67 ?_
            refine g_aload_n C 0 rfl rfl dX12_thing_70 ?_
            refine g_get C hK inX12 rfl 18 (ga_18 cy A _) 9 (by decide) (fun _ h => h) wt_594 rfl dX12_thing_71 ?_
            refine g_iload_n C 2 rfl rfl dX12_thing_74 ?_
            refine g_iast C hK 20 2 (ga_20 cy A _) rfl hw.1 (gs_20 cy A _ _ _) dX12_thing_75 ?_
            replace hw := hw.2
            refine g_aload_n C 0 rfl rfl dX12_thing_76 ?_
            refine g_get C hK inX12 rfl 18 (ga_18 cy A _) 12 (by decide) (fun _ h => h) wt_597 rfl dX12_thing_77 ?_
            refine g_aload_n C 0 rfl rfl dX12_thing_80 ?_
            refine g_get C hK inX12 rfl 18 (ga_18 cy A _) 9 (by decide) (fun _ h => h) wt_594 rfl dX12_thing_81 ?_
            refine g_iload_n C 3 rfl rfl dX12_thing_84 ?_
            refine g_iast C hK 21 2 (ga_21 cy A _) rfl hw.1 (gs_21 cy A _ _ _) dX12_thing_85 ?_
            replace hw := hw.2
            refine g_aload_n C 0 rfl rfl dX12_thing_86 ?_
            refine g_get C hK inX12 rfl 18 (ga_18 cy A _) 13 (by decide) (fun _ h => h) wt_598 rfl dX12_thing_87 ?_
            refine g_aload_n C 0 rfl rfl dX12_thing_90 ?_
            refine g_get C hK inX12 rfl 18 (ga_18 cy A _) 9 (by decide) (fun _ h => h) wt_594 rfl dX12_thing_91 ?_
            refine g_aload_n C 0 rfl rfl dX12_thing_94 ?_
            refine g_get C hK inX12 rfl 18 (ga_18 cy A _) 8 (by decide) (fun _ h => h) wt_593 rfl dX12_thing_95 ?_
            refine g_iast C hK 22 2 (ga_22 cy A _) rfl hw.1 (gs_22 cy A _ _ _) dX12_thing_98 ?_
            replace hw := hw.2
            refine g_aload_n C 0 rfl rfl dX12_thing_99 ?_
            refine g_dup C rfl dX12_thing_100 ?_
            refine g_get C hK inX12 rfl 18 (ga_18 cy A _) 9 (by decide) (fun _ h => h) wt_594 rfl dX12_thing_101 ?_
            refine g_iconst (v := (1 : Int32)) C dX12_thing_104 (by decide) ?_
            refine g_iadd C dX12_thing_105 ?_
            refine g_put (v := .int (((sV (sV (sV (sV σ5 19 (σ5.1 18 9).toNatClampNeg v1) 20 ((sV σ5 19 (σ5.1 18 9).toNatClampNeg v1).1 18 9).toNatClampNeg v2) 21 ((sV (sV σ5 19 (σ5.1 18 9).toNatClampNeg v1) 20 ((sV σ5 19 (σ5.1 18 9).toNatClampNeg v1).1 18 9).toNatClampNeg v2).1 18 9).toNatClampNeg v3) 22 ((sV (sV (sV σ5 19 (σ5.1 18 9).toNatClampNeg v1) 20 ((sV σ5 19 (σ5.1 18 9).toNatClampNeg v1).1 18 9).toNatClampNeg v2) 21 ((sV (sV σ5 19 (σ5.1 18 9).toNatClampNeg v1) 20 ((sV σ5 19 (σ5.1 18 9).toNatClampNeg v1).1 18 9).toNatClampNeg v2).1 18 9).toNatClampNeg v3).1 18 9).toNatClampNeg ((sV (sV (sV σ5 19 (σ5.1 18 9).toNatClampNeg v1) 20 ((sV σ5 19 (σ5.1 18 9).toNatClampNeg v1).1 18 9).toNatClampNeg v2) 21 ((sV (sV σ5 19 (σ5.1 18 9).toNatClampNeg v1) 20 ((sV σ5 19 (σ5.1 18 9).toNatClampNeg v1).1 18 9).toNatClampNeg v2).1 18 9).toNatClampNeg v3).1 18 8)).1 18 9) + (1 : Int32))) C hK inX12 rfl tyX12 tyX12_ok nmX12 18 (ga_18 cy A _) 9 (by decide) (fun _ h => h) wt_594 rfl rfl rfl (Nat.le_of_ble_eq_true rfl) (gp_18_9 cy A _ _) dX12_thing_106 ?_
            refine g_aload_n C 0 rfl rfl dX12_thing_109 ?_
            refine g_get C hK inX12 rfl 18 (ga_18 cy A _) 9 (by decide) (fun _ h => h) wt_594 rfl dX12_thing_110 ?_
            refine g_iconst (v := (1 : Int32)) C dX12_thing_113 (by decide) ?_
            refine g_isub C dX12_thing_114 ?_
            exact gq_I C F (by decide) (by decide) hw dX12_thing_115
          · refine g_bipush (v := (-104 : Int32)) C dX12_thing_53 (by decide) ?_
            exact gq_I C F (by decide) (by decide) hw dX12_thing_55
        · refine g_bipush (v := (-103 : Int32)) C dX12_thing_41 (by decide) ?_
          exact gq_I C F (by decide) (by decide) hw dX12_thing_43
      · refine g_bipush (v := (-102 : Int32)) C dX12_thing_31 (by decide) ?_
        exact gq_I C F (by decide) (by decide) hw dX12_thing_33
  · refine g_bipush (v := (-101 : Int32)) C dX12_thing_9 (by decide) ?_
    exact gq_I C F (by decide) (by decide) hw dX12_thing_11
