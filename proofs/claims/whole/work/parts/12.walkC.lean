set_option maxHeartbeats 4000000 in
set_option maxRecDepth 100000 in
theorem c_X7_hasRoomFor (l : Launch) (D : va_G) (cy : Nat → ClassId) (A : Nat → Nat) {σ : St} {v1 : Int32} {Φ : Int32 → St → Prop} (hw : wX7_hasRoomFor σ v1 Φ) : CtI l yX7_hasRoomFor (.code yX7_hasRoomFor cX7_hasRoomFor 2 (some .boolean) :: gL) rm_X7_hasRoomFor 0 0 [.ref (A 1), .int v1] D cy A σ Φ := by
  refine ct_any (fun sz => va_Qi Φ (HE D cy A (gZ cy A σ sz)) (gZ cy A σ sz)) (by decide +kernel) rfl rfl [(0, .ref (A 1)), (1, .int v1)] rfl (Nat.le_of_ble_eq_true rfl) ?_
  intro κ hκl hnm C hK sz F
  subst hκl
  unfold wX7_hasRoomFor at hw
  refine g_aload_n C 0 rfl rfl dX7_hasRoomFor_0 ?_
  refine g_get C hK inX7 rfl 1 (ga_1 cy A _) 1 (by decide) (fun _ h => h) wt_29 rfl dX7_hasRoomFor_1 ?_
  refine g_iload_n C 1 rfl rfl dX7_hasRoomFor_4 ?_
  refine g_iadd C dX7_hasRoomFor_5 ?_
  refine g_aload_n C 0 rfl rfl dX7_hasRoomFor_6 ?_
  refine g_get C hK inX7 rfl 1 (ga_1 cy A _) 0 (by decide) (fun _ h => h) wt_28 rfl dX7_hasRoomFor_7 ?_
  refine g_alen (v := 12) C hK 2 1 (ga_2 cy A _) rfl rfl dX7_hasRoomFor_10 ?_
  refine g_icmp_gt C 18 (by decide) hw dX7_hasRoomFor_11 (fun hw => ?_) (fun hw => ?_)
  · refine g_iconst (v := (0 : Int32)) C dX7_hasRoomFor_18 (by decide) ?_
    exact gq_Z C F (by decide) (by decide) hw dX7_hasRoomFor_19
  · refine g_iconst (v := (1 : Int32)) C dX7_hasRoomFor_14 (by decide) ?_
    refine g_goto C 19 (by decide) dX7_hasRoomFor_15 ?_
    exact gq_Z C F (by decide) (by decide) hw dX7_hasRoomFor_19
set_option maxHeartbeats 4000000 in
set_option maxRecDepth 100000 in
theorem c_X7_put (l : Launch) (D : va_G) (cy : Nat → ClassId) (A : Nat → Nat) {σ : St} {v1 : Int32} {Φ : St → Prop} (hw : wX7_put σ v1 Φ) : CtV l yX7_put (.code yX7_put cX7_put 2 none :: gL) rm_X7_put 0 0 [.ref (A 1), .int v1] D cy A σ Φ := by
  refine ct_any (fun sz => va_Qv Φ (HE D cy A (gZ cy A σ sz)) (gZ cy A σ sz)) (by decide +kernel) rfl rfl [(0, .ref (A 1)), (1, .int v1)] rfl (Nat.le_of_ble_eq_true rfl) ?_
  intro κ hκl hnm C hK sz F
  subst hκl
  unfold wX7_put at hw
  refine g_aload_n C 0 rfl rfl dX7_put_0 ?_
  refine g_get C hK inX7 rfl 1 (ga_1 cy A _) 1 (by decide) (fun _ h => h) wt_29 rfl dX7_put_1 ?_
  refine g_if_lt C 39 (by decide) hw dX7_put_4 (fun hw => ?_) (fun hw => ?_)
  · exact gq_V C F (by decide) (by decide) hw dX7_put_39
  · refine g_aload_n C 0 rfl rfl dX7_put_7 ?_
    refine g_get C hK inX7 rfl 1 (ga_1 cy A _) 1 (by decide) (fun _ h => h) wt_29 rfl dX7_put_8 ?_
    refine g_aload_n C 0 rfl rfl dX7_put_11 ?_
    refine g_get C hK inX7 rfl 1 (ga_1 cy A _) 0 (by decide) (fun _ h => h) wt_28 rfl dX7_put_12 ?_
    refine g_alen (v := 12) C hK 2 1 (ga_2 cy A _) rfl rfl dX7_put_15 ?_
    refine g_icmp_ge C 39 (by decide) hw dX7_put_16 (fun hw => ?_) (fun hw => ?_)
    · exact gq_V C F (by decide) (by decide) hw dX7_put_39
    · refine g_aload_n C 0 rfl rfl dX7_put_19 ?_
      refine g_get C hK inX7 rfl 1 (ga_1 cy A _) 0 (by decide) (fun _ h => h) wt_28 rfl dX7_put_20 ?_
      refine g_aload_n C 0 rfl rfl dX7_put_23 ?_
      refine g_get C hK inX7 rfl 1 (ga_1 cy A _) 1 (by decide) (fun _ h => h) wt_29 rfl dX7_put_24 ?_
      refine g_iload_n C 1 rfl rfl dX7_put_27 ?_
      refine g_cast C hK 2 1 (ga_2 cy A _) rfl hw.1 (gs_2 cy A _ _ _) dX7_put_28 ?_
      replace hw := hw.2
      refine g_aload_n C 0 rfl rfl dX7_put_29 ?_
      refine g_dup C rfl dX7_put_30 ?_
      refine g_get C hK inX7 rfl 1 (ga_1 cy A _) 1 (by decide) (fun _ h => h) wt_29 rfl dX7_put_31 ?_
      refine g_iconst (v := (1 : Int32)) C dX7_put_34 (by decide) ?_
      refine g_iadd C dX7_put_35 ?_
      refine g_put (v := .int (((sV σ 2 (σ.1 1 1).toNatClampNeg (vp_nar .char v1)).1 1 1) + (1 : Int32))) C hK inX7 rfl tyX7 tyX7_ok nmX7 1 (ga_1 cy A _) 1 (by decide) (fun _ h => h) wt_29 rfl rfl rfl (Nat.le_of_ble_eq_true rfl) (gp_1_1 cy A _ _) dX7_put_36 ?_
      exact gq_V C F (by decide) (by decide) hw dX7_put_39
set_option maxHeartbeats 4000000 in
set_option maxRecDepth 100000 in
theorem c_X7_emptied (l : Launch) (D : va_G) (cy : Nat → ClassId) (A : Nat → Nat) {σ : St} {Φ : Int32 → St → Prop} (hw : wX7_emptied σ Φ) : CtI l yX7_emptied (.code yX7_emptied cX7_emptied 2 (some .int) :: gL) rm_X7_emptied 0 0 [.ref (A 1)] D cy A σ Φ := by
  refine ct_any (fun sz => va_Qi Φ (HE D cy A (gZ cy A σ sz)) (gZ cy A σ sz)) (by decide +kernel) rfl rfl [(0, .ref (A 1))] rfl (Nat.le_of_ble_eq_true rfl) ?_
  intro κ hκl hnm C hK sz F
  subst hκl
  unfold wX7_emptied at hw
  refine g_aload_n C 0 rfl rfl dX7_emptied_0 ?_
  refine g_get C hK inX7 rfl 1 (ga_1 cy A _) 1 (by decide) (fun _ h => h) wt_29 rfl dX7_emptied_1 ?_
  refine g_istore_n C [(1, .int (σ.1 1 1)), (0, .ref (A 1))] F.2.2.2.1 rfl (by decide) rfl dX7_emptied_4 ?_
  refine g_aload_n C 1 rfl rfl dX7_emptied_5 ?_
  refine g_iconst (v := (0 : Int32)) C dX7_emptied_6 (by decide) ?_
  refine g_put (v := .int (0 : Int32)) C hK inX7 rfl tyX7 tyX7_ok nmX7 1 (ga_1 cy A _) 1 (by decide) (fun _ h => h) wt_29 rfl rfl rfl (Nat.le_of_ble_eq_true rfl) (gp_1_1 cy A _ _) dX7_emptied_7 ?_
  refine g_iload_n C 0 rfl rfl dX7_emptied_10 ?_
  exact gq_I C F (by decide) (by decide) hw dX7_emptied_11
set_option maxHeartbeats 4000000 in
set_option maxRecDepth 100000 in
theorem c_X7_isBetween (l : Launch) (D : va_G) (cy : Nat → ClassId) (A : Nat → Nat) {σ : St} {v1 : Int32} {v2 : Int32} {v3 : Int32} {Φ : Int32 → St → Prop} (hw : wX7_isBetween σ v1 v2 v3 Φ) : CtI l yX7_isBetween (.code yX7_isBetween cX7_isBetween 4 (some .boolean) :: gL) rm_X7_isBetween 0 0 [.ref (A 1), .int v1, .int v2, .int v3] D cy A σ Φ := by
  refine ct_any (fun sz => va_Qi Φ (HE D cy A (gZ cy A σ sz)) (gZ cy A σ sz)) (by decide +kernel) rfl rfl [(0, .ref (A 1)), (1, .int v1), (2, .int v2), (3, .int v3)] rfl (Nat.le_of_ble_eq_true rfl) ?_
  intro κ hκl hnm C hK sz F
  subst hκl
  unfold wX7_isBetween at hw
  refine g_aload_n C 0 rfl rfl dX7_isBetween_0 ?_
  refine g_iload_n C 1 rfl rfl dX7_isBetween_1 ?_
  refine gc_I C (gr_V (As := [.int v1]) (rest := []) C hK 1 (gd_V wt_153 wt_154 wt_155 wt_2 wt_156) rfl rfl rfl ⟨rfl, hs_X7_at⟩ ⟨⟨Nat.le_of_ble_eq_true rfl, Nat.le_of_ble_eq_true rfl⟩, Nat.le_of_ble_eq_true rfl, Nat.le_of_ble_eq_true rfl⟩ rfl 1 (ga_1 cy A _) rfl rfl (Nat.le_of_ble_eq_true rfl) dX7_isBetween_2 (c_X7_at (q_l κ) (q_D κ) cy A hw)) (fun r2 σ1 hw => ?_)
  refine g_iload_n C 2 rfl rfl dX7_isBetween_5 ?_
  refine g_icmp_lt C 22 (by decide) hw dX7_isBetween_6 (fun hw => ?_) (fun hw => ?_)
  · refine g_iconst (v := (0 : Int32)) C dX7_isBetween_22 (by decide) ?_
    exact gq_Z C F (by decide) (by decide) hw dX7_isBetween_23
  · refine g_aload_n C 0 rfl rfl dX7_isBetween_9 ?_
    refine g_iload_n C 1 rfl rfl dX7_isBetween_10 ?_
    refine gc_I C (gr_V (As := [.int v1]) (rest := []) C hK 1 (gd_V wt_153 wt_154 wt_155 wt_2 wt_156) rfl rfl rfl ⟨rfl, hs_X7_at⟩ ⟨⟨Nat.le_of_ble_eq_true rfl, Nat.le_of_ble_eq_true rfl⟩, Nat.le_of_ble_eq_true rfl, Nat.le_of_ble_eq_true rfl⟩ rfl 1 (ga_1 cy A _) rfl rfl (Nat.le_of_ble_eq_true rfl) dX7_isBetween_11 (c_X7_at (q_l κ) (q_D κ) cy A hw)) (fun r4 σ3 hw => ?_)
    refine g_iload_n C 3 rfl rfl dX7_isBetween_14 ?_
    refine g_icmp_gt C 22 (by decide) hw dX7_isBetween_15 (fun hw => ?_) (fun hw => ?_)
    · refine g_iconst (v := (0 : Int32)) C dX7_isBetween_22 (by decide) ?_
      exact gq_Z C F (by decide) (by decide) hw dX7_isBetween_23
    · refine g_iconst (v := (1 : Int32)) C dX7_isBetween_18 (by decide) ?_
      refine g_goto C 23 (by decide) dX7_isBetween_19 ?_
      exact gq_Z C F (by decide) (by decide) hw dX7_isBetween_23
set_option maxHeartbeats 4000000 in
set_option maxRecDepth 100000 in
theorem c_X7_isWireLetter (l : Launch) (D : va_G) (cy : Nat → ClassId) (A : Nat → Nat) {σ : St} {v1 : Int32} {Φ : Int32 → St → Prop} (hw : wX7_isWireLetter σ v1 Φ) : CtI l yX7_isWireLetter (.code yX7_isWireLetter cX7_isWireLetter 2 (some .boolean) :: gL) rm_X7_isWireLetter 0 0 [.ref (A 1), .int v1] D cy A σ Φ := by
  refine ct_any (fun sz => va_Qi Φ (HE D cy A (gZ cy A σ sz)) (gZ cy A σ sz)) (by decide +kernel) rfl rfl [(0, .ref (A 1)), (1, .int v1)] rfl (Nat.le_of_ble_eq_true rfl) ?_
  intro κ hκl hnm C hK sz F
  subst hκl
  have J113 : ∀ (σ : St) (v1 : Int32), wX7_isWireLetter_113 Φ σ v1 → GW κ 0 0 (gW cy A σ) 113 [(0, .ref (A 1)), (1, .int v1)] [] := by
    intro σ v1 hw
    unfold wX7_isWireLetter_113 at hw
    refine g_aload_n C 0 rfl rfl dX7_isWireLetter_113 ?_
    refine g_iload_n C 1 rfl rfl dX7_isWireLetter_114 ?_
    refine g_bipush (v := (48 : Int32)) C dX7_isWireLetter_115 (by decide) ?_
    refine g_bipush (v := (57 : Int32)) C dX7_isWireLetter_117 (by decide) ?_
    refine gc_I C (gr_V (As := [.int v1, .int (48 : Int32), .int (57 : Int32)]) (rest := []) C hK 3 (gd_V wt_150 wt_151 wt_832 wt_2 wt_152) rfl rfl rfl ⟨rfl, hs_X7_isBetween⟩ ⟨⟨Nat.le_of_ble_eq_true rfl, Nat.le_of_ble_eq_true rfl⟩, Nat.le_of_ble_eq_true rfl, Nat.le_of_ble_eq_true rfl⟩ rfl 1 (ga_1 cy A _) rfl rfl (Nat.le_of_ble_eq_true rfl) dX7_isWireLetter_119 (c_X7_isBetween (q_l κ) (q_D κ) cy A hw)) (fun r14 σ13 hw => ?_)
    exact gq_Z C F (by decide) (by decide) hw dX7_isWireLetter_122
  have J103 : ∀ (σ : St) (v1 : Int32), wX7_isWireLetter_103 Φ σ v1 → GW κ 0 0 (gW cy A σ) 103 [(0, .ref (A 1)), (1, .int v1)] [] := by
    intro σ v1 hw
    unfold wX7_isWireLetter_103 at hw
    refine g_aload_n C 0 rfl rfl dX7_isWireLetter_103 ?_
    refine g_iload_n C 1 rfl rfl dX7_isWireLetter_104 ?_
    refine g_bipush (v := (49 : Int32)) C dX7_isWireLetter_105 (by decide) ?_
    refine g_bipush (v := (57 : Int32)) C dX7_isWireLetter_107 (by decide) ?_
    refine gc_I C (gr_V (As := [.int v1, .int (49 : Int32), .int (57 : Int32)]) (rest := []) C hK 3 (gd_V wt_150 wt_151 wt_832 wt_2 wt_152) rfl rfl rfl ⟨rfl, hs_X7_isBetween⟩ ⟨⟨Nat.le_of_ble_eq_true rfl, Nat.le_of_ble_eq_true rfl⟩, Nat.le_of_ble_eq_true rfl, Nat.le_of_ble_eq_true rfl⟩ rfl 1 (ga_1 cy A _) rfl rfl (Nat.le_of_ble_eq_true rfl) dX7_isWireLetter_109 (c_X7_isBetween (q_l κ) (q_D κ) cy A hw)) (fun r12 σ11 hw => ?_)
    exact gq_Z C F (by decide) (by decide) hw dX7_isWireLetter_112
  have J87 : ∀ (σ : St) (v1 : Int32), wX7_isWireLetter_87 Φ σ v1 → GW κ 0 0 (gW cy A σ) 87 [(0, .ref (A 1)), (1, .int v1)] [] := by
    intro σ v1 hw
    unfold wX7_isWireLetter_87 at hw
    refine g_aload_n C 0 rfl rfl dX7_isWireLetter_87 ?_
    refine g_iload_n C 1 rfl rfl dX7_isWireLetter_88 ?_
    refine gc_I C (gr_V (As := [.int v1]) (rest := []) C hK 1 (gd_V wt_153 wt_154 wt_155 wt_2 wt_156) rfl rfl rfl ⟨rfl, hs_X7_at⟩ ⟨⟨Nat.le_of_ble_eq_true rfl, Nat.le_of_ble_eq_true rfl⟩, Nat.le_of_ble_eq_true rfl, Nat.le_of_ble_eq_true rfl⟩ rfl 1 (ga_1 cy A _) rfl rfl (Nat.le_of_ble_eq_true rfl) dX7_isWireLetter_89 (c_X7_at (q_l κ) (q_D κ) cy A hw)) (fun r10 σ9 hw => ?_)
    refine g_bipush (v := (58 : Int32)) C dX7_isWireLetter_92 (by decide) ?_
    refine g_icmp_ne C 101 (by decide) hw dX7_isWireLetter_94 (fun hw => ?_) (fun hw => ?_)
    · refine g_iconst (v := (0 : Int32)) C dX7_isWireLetter_101 (by decide) ?_
      exact gq_Z C F (by decide) (by decide) hw dX7_isWireLetter_102
    · refine g_iconst (v := (1 : Int32)) C dX7_isWireLetter_97 (by decide) ?_
      refine g_goto C 102 (by decide) dX7_isWireLetter_98 ?_
      exact gq_Z C F (by decide) (by decide) hw dX7_isWireLetter_102
  have J83 : ∀ (σ : St) (s0 : Int32) (s1 : Int32) (s2 : Int32), wX7_isWireLetter_83 Φ σ s0 s1 s2 → GW κ 0 0 (gW cy A σ) 83 [] [.int s0, .int s1, .int s2, .ref (A 1)] := by
    intro σ s0 s1 s2 hw
    unfold wX7_isWireLetter_83 at hw
    refine gc_I C (gr_V (As := [.int s2, .int s1, .int s0]) (rest := []) C hK 3 (gd_V wt_150 wt_151 wt_832 wt_2 wt_152) rfl rfl rfl ⟨rfl, hs_X7_isBetween⟩ ⟨⟨Nat.le_of_ble_eq_true rfl, Nat.le_of_ble_eq_true rfl⟩, Nat.le_of_ble_eq_true rfl, Nat.le_of_ble_eq_true rfl⟩ rfl 1 (ga_1 cy A _) rfl rfl (Nat.le_of_ble_eq_true rfl) dX7_isWireLetter_83 (c_X7_isBetween (q_l κ) (q_D κ) cy A hw)) (fun r8 σ7 hw => ?_)
    exact gq_Z C F (by decide) (by decide) hw dX7_isWireLetter_86
  unfold wX7_isWireLetter at hw
  refine g_iload_n C 1 rfl rfl dX7_isWireLetter_0 ?_
  by_cases h9 : v1.toInt < 0 ∨ 8 < v1.toInt
  · refine g_swOut C 139 h9 (by decide) dX7_isWireLetter_1 ?_
    replace hw := hw.2.2.2.2.2.2.2.2.2 h9
    refine g_iconst (v := (0 : Int32)) C dX7_isWireLetter_139 (by decide) ?_
    exact gq_Z C F (by decide) (by decide) hw dX7_isWireLetter_140
  · rcases (show v1.toInt = 0 ∨ v1.toInt = 1 ∨ v1.toInt = 2 ∨ v1.toInt = 3 ∨ v1.toInt = 4 ∨ v1.toInt = 5 ∨ v1.toInt = 6 ∨ v1.toInt = 7 ∨ v1.toInt = 8 by omega) with e9 | e9 | e9 | e9 | e9 | e9 | e9 | e9 | e9
    · refine g_swIn (off := 51) C 0 52 e9 (by decide) (by decide) (by decide) (by decide) dX7_isWireLetter_1 ?_
      replace hw := hw.1 (Int32.toInt_inj.mp (e9.trans (by decide)))
      refine g_aload_n C 0 rfl rfl dX7_isWireLetter_52 ?_
      refine g_iload_n C 1 rfl rfl dX7_isWireLetter_53 ?_
      refine g_bipush (v := (49 : Int32)) C dX7_isWireLetter_54 (by decide) ?_
      refine g_bipush (v := (52 : Int32)) C dX7_isWireLetter_56 (by decide) ?_
      refine gc_I C (gr_V (As := [.int v1, .int (49 : Int32), .int (52 : Int32)]) (rest := []) C hK 3 (gd_V wt_150 wt_151 wt_832 wt_2 wt_152) rfl rfl rfl ⟨rfl, hs_X7_isBetween⟩ ⟨⟨Nat.le_of_ble_eq_true rfl, Nat.le_of_ble_eq_true rfl⟩, Nat.le_of_ble_eq_true rfl, Nat.le_of_ble_eq_true rfl⟩ rfl 1 (ga_1 cy A _) rfl rfl (Nat.le_of_ble_eq_true rfl) dX7_isWireLetter_58 (c_X7_isBetween (q_l κ) (q_D κ) cy A hw)) (fun r2 σ1 hw => ?_)
      exact gq_Z C F (by decide) (by decide) hw dX7_isWireLetter_61
    · refine g_swIn (off := 61) C 1 62 e9 (by decide) (by decide) (by decide) (by decide) dX7_isWireLetter_1 ?_
      replace hw := hw.2.1 (Int32.toInt_inj.mp (e9.trans (by decide)))
      refine g_aload_n C 0 rfl rfl dX7_isWireLetter_62 ?_
      refine g_iload_n C 1 rfl rfl dX7_isWireLetter_63 ?_
      refine g_bipush (v := (48 : Int32)) C dX7_isWireLetter_64 (by decide) ?_
      refine g_aload_n C 0 rfl rfl dX7_isWireLetter_66 ?_
      refine g_iconst (v := (0 : Int32)) C dX7_isWireLetter_67 (by decide) ?_
      refine gc_I C (gr_V (As := [.int (0 : Int32)]) (rest := [.int (48 : Int32), .int v1, .ref (A 1)]) C hK 1 (gd_V wt_153 wt_154 wt_155 wt_2 wt_156) rfl rfl rfl ⟨rfl, hs_X7_at⟩ ⟨⟨Nat.le_of_ble_eq_true rfl, Nat.le_of_ble_eq_true rfl⟩, Nat.le_of_ble_eq_true rfl, Nat.le_of_ble_eq_true rfl⟩ rfl 1 (ga_1 cy A _) rfl rfl (Nat.le_of_ble_eq_true rfl) dX7_isWireLetter_68 (c_X7_at (q_l κ) (q_D κ) cy A hw)) (fun r4 σ3 hw => ?_)
      refine g_bipush (v := (52 : Int32)) C dX7_isWireLetter_71 (by decide) ?_
      refine g_icmp_ne C 81 (by decide) hw dX7_isWireLetter_73 (fun hw => ?_) (fun hw => ?_)
      · refine g_bipush (v := (57 : Int32)) C dX7_isWireLetter_81 (by decide) ?_
        refine g_eql (lv' := []) [] rfl ?_
        exact J83 σ3 (57 : Int32) (48 : Int32) v1 hw
      · refine g_bipush (v := (48 : Int32)) C dX7_isWireLetter_76 (by decide) ?_
        refine g_goto C 83 (by decide) dX7_isWireLetter_78 ?_
        refine g_eql (lv' := []) [] rfl ?_
        exact J83 σ3 (48 : Int32) (48 : Int32) v1 hw
    · refine g_swIn (off := 86) C 2 87 e9 (by decide) (by decide) (by decide) (by decide) dX7_isWireLetter_1 ?_
      replace hw := hw.2.2.1 (Int32.toInt_inj.mp (e9.trans (by decide)))
      exact J87 σ v1 hw
    · refine g_swIn (off := 102) C 3 103 e9 (by decide) (by decide) (by decide) (by decide) dX7_isWireLetter_1 ?_
      replace hw := hw.2.2.2.1 (Int32.toInt_inj.mp (e9.trans (by decide)))
      exact J103 σ v1 hw
    · refine g_swIn (off := 86) C 4 87 e9 (by decide) (by decide) (by decide) (by decide) dX7_isWireLetter_1 ?_
      replace hw := hw.2.2.2.2.1 (Int32.toInt_inj.mp (e9.trans (by decide)))
      exact J87 σ v1 hw
    · refine g_swIn (off := 102) C 5 103 e9 (by decide) (by decide) (by decide) (by decide) dX7_isWireLetter_1 ?_
      replace hw := hw.2.2.2.2.2.1 (Int32.toInt_inj.mp (e9.trans (by decide)))
      exact J103 σ v1 hw
    · refine g_swIn (off := 112) C 6 113 e9 (by decide) (by decide) (by decide) (by decide) dX7_isWireLetter_1 ?_
      replace hw := hw.2.2.2.2.2.2.1 (Int32.toInt_inj.mp (e9.trans (by decide)))
      exact J113 σ v1 hw
    · refine g_swIn (off := 112) C 7 113 e9 (by decide) (by decide) (by decide) (by decide) dX7_isWireLetter_1 ?_
      replace hw := hw.2.2.2.2.2.2.2.1 (Int32.toInt_inj.mp (e9.trans (by decide)))
      exact J113 σ v1 hw
    · refine g_swIn (off := 122) C 8 123 e9 (by decide) (by decide) (by decide) (by decide) dX7_isWireLetter_1 ?_
      replace hw := hw.2.2.2.2.2.2.2.2.1 (Int32.toInt_inj.mp (e9.trans (by decide)))
      refine g_aload_n C 0 rfl rfl dX7_isWireLetter_123 ?_
      refine g_iload_n C 1 rfl rfl dX7_isWireLetter_124 ?_
      refine gc_I C (gr_V (As := [.int v1]) (rest := []) C hK 1 (gd_V wt_153 wt_154 wt_155 wt_2 wt_156) rfl rfl rfl ⟨rfl, hs_X7_at⟩ ⟨⟨Nat.le_of_ble_eq_true rfl, Nat.le_of_ble_eq_true rfl⟩, Nat.le_of_ble_eq_true rfl, Nat.le_of_ble_eq_true rfl⟩ rfl 1 (ga_1 cy A _) rfl rfl (Nat.le_of_ble_eq_true rfl) dX7_isWireLetter_125 (c_X7_at (q_l κ) (q_D κ) cy A hw)) (fun r6 σ5 hw => ?_)
      refine g_bipush (v := (111 : Int32)) C dX7_isWireLetter_128 (by decide) ?_
      refine g_icmp_ne C 137 (by decide) hw dX7_isWireLetter_130 (fun hw => ?_) (fun hw => ?_)
      · refine g_iconst (v := (0 : Int32)) C dX7_isWireLetter_137 (by decide) ?_
        exact gq_Z C F (by decide) (by decide) hw dX7_isWireLetter_138
      · refine g_iconst (v := (1 : Int32)) C dX7_isWireLetter_133 (by decide) ?_
        refine g_goto C 138 (by decide) dX7_isWireLetter_134 ?_
        exact gq_Z C F (by decide) (by decide) hw dX7_isWireLetter_138
set_option maxHeartbeats 4000000 in
set_option maxRecDepth 100000 in
theorem c_X7_firstWrong (l : Launch) (D : va_G) (cy : Nat → ClassId) (A : Nat → Nat) {σ : St} {Φ : Int32 → St → Prop} (hw : wX7_firstWrong σ Φ) : CtI l yX7_firstWrong (.code yX7_firstWrong cX7_firstWrong 2 (some .int) :: gL) rm_X7_firstWrong 0 0 [.ref (A 1)] D cy A σ Φ := by
  refine ct_any (fun sz => va_Qi Φ (HE D cy A (gZ cy A σ sz)) (gZ cy A σ sz)) (by decide +kernel) rfl rfl [(0, .ref (A 1))] rfl (Nat.le_of_ble_eq_true rfl) ?_
  intro κ hκl hnm C hK sz F
  subst hκl
  have J2 : ∀ (n : Nat) (σ : St) (v1 : Int32), wX7_firstWrong_2 Φ n σ v1 → GW κ 0 0 (gW cy A σ) 2 [(0, .ref (A 1)), (1, .int v1)] [] := by
    intro n
    induction n with
    | zero => intro σ v1 hw; exact hw.elim
    | succ n ih =>
      intro σ v1 hw
      rw [wX7_firstWrong_2] at hw
      refine g_iload_n C 1 rfl rfl dX7_firstWrong_2 ?_
      refine g_aload_n C 0 rfl rfl dX7_firstWrong_3 ?_
      refine g_get C hK inX7 rfl 1 (ga_1 cy A _) 1 (by decide) (fun _ h => h) wt_29 rfl dX7_firstWrong_4 ?_
      refine g_icmp_ge C 26 (by decide) hw dX7_firstWrong_7 (fun hw => ?_) (fun hw => ?_)
      · refine g_aload_n C 0 rfl rfl dX7_firstWrong_26 ?_
        refine g_get C hK inX7 rfl 1 (ga_1 cy A _) 1 (by decide) (fun _ h => h) wt_29 rfl dX7_firstWrong_27 ?_
        exact gq_I C F (by decide) (by decide) hw dX7_firstWrong_30
      · refine g_aload_n C 0 rfl rfl dX7_firstWrong_10 ?_
        refine g_iload_n C 1 rfl rfl dX7_firstWrong_11 ?_
        refine gc_I C (gr_V (As := [.int v1]) (rest := []) C hK 1 (gd_V wt_147 wt_148 wt_831 wt_2 wt_149) rfl rfl rfl ⟨rfl, hs_X7_isWireLetter⟩ ⟨⟨Nat.le_of_ble_eq_true rfl, Nat.le_of_ble_eq_true rfl⟩, Nat.le_of_ble_eq_true rfl, Nat.le_of_ble_eq_true rfl⟩ rfl 1 (ga_1 cy A _) rfl rfl (Nat.le_of_ble_eq_true rfl) dX7_firstWrong_12 (c_X7_isWireLetter (q_l κ) (q_D κ) cy A hw)) (fun r2 σ1 hw => ?_)
        refine g_if_ne C 20 (by decide) hw dX7_firstWrong_15 (fun hw => ?_) (fun hw => ?_)
        · refine g_iinc (j := 1) C [(1, .int (v1 + 1)), (0, .ref (A 1))] F.2.2.2.1 rfl rfl (by decide) rfl dX7_firstWrong_20 ?_
          refine g_goto C 2 (by decide) dX7_firstWrong_23 ?_
          refine g_eql (lv' := [(0, .ref (A 1)), (1, .int (v1 + 1))]) [1, 0] rfl ?_
          exact ih σ1 (v1 + 1) hw
        · refine g_iload_n C 1 rfl rfl dX7_firstWrong_18 ?_
          exact gq_I C F (by decide) (by decide) hw dX7_firstWrong_19
  unfold wX7_firstWrong at hw
  refine g_iconst (v := (0 : Int32)) C dX7_firstWrong_0 (by decide) ?_
  refine g_istore_n C [(1, .int (0 : Int32)), (0, .ref (A 1))] F.2.2.2.1 rfl (by decide) rfl dX7_firstWrong_1 ?_
  refine g_eql (lv' := [(0, .ref (A 1)), (1, .int (0 : Int32))]) [1, 0] rfl ?_
  obtain ⟨n0, hw⟩ := hw
  exact J2 n0 σ (0 : Int32) hw
set_option maxHeartbeats 4000000 in
set_option maxRecDepth 100000 in
theorem c_X7_isWire (l : Launch) (D : va_G) (cy : Nat → ClassId) (A : Nat → Nat) {σ : St} {Φ : Int32 → St → Prop} (hw : wX7_isWire σ Φ) : CtI l yX7_isWire (.code yX7_isWire cX7_isWire 1 (some .boolean) :: gL) rm_X7_isWire 0 0 [.ref (A 1)] D cy A σ Φ := by
  refine ct_any (fun sz => va_Qi Φ (HE D cy A (gZ cy A σ sz)) (gZ cy A σ sz)) (by decide +kernel) rfl rfl [(0, .ref (A 1))] rfl (Nat.le_of_ble_eq_true rfl) ?_
  intro κ hκl hnm C hK sz F
  subst hκl
  unfold wX7_isWire at hw
  refine g_aload_n C 0 rfl rfl dX7_isWire_0 ?_
  refine g_get C hK inX7 rfl 1 (ga_1 cy A _) 1 (by decide) (fun _ h => h) wt_29 rfl dX7_isWire_1 ?_
  refine g_bipush (v := (8 : Int32)) C dX7_isWire_4 (by decide) ?_
  refine g_icmp_lt C 24 (by decide) hw dX7_isWire_6 (fun hw => ?_) (fun hw => ?_)
  · refine g_iconst (v := (0 : Int32)) C dX7_isWire_24 (by decide) ?_
    exact gq_Z C F (by decide) (by decide) hw dX7_isWire_25
  · refine g_aload_n C 0 rfl rfl dX7_isWire_9 ?_
    refine gc_I C (gr_V (As := []) (rest := []) C hK 0 (gd_V wt_165 wt_144 wt_145 wt_2 wt_146) rfl rfl rfl ⟨rfl, hs_X7_firstWrong⟩ ⟨⟨Nat.le_of_ble_eq_true rfl, Nat.le_of_ble_eq_true rfl⟩, Nat.le_of_ble_eq_true rfl, Nat.le_of_ble_eq_true rfl⟩ rfl 1 (ga_1 cy A _) rfl rfl (Nat.le_of_ble_eq_true rfl) dX7_isWire_10 (c_X7_firstWrong (q_l κ) (q_D κ) cy A hw)) (fun r2 σ1 hw => ?_)
    refine g_aload_n C 0 rfl rfl dX7_isWire_13 ?_
    refine g_get C hK inX7 rfl 1 (ga_1 cy A _) 1 (by decide) (fun _ h => h) wt_29 rfl dX7_isWire_14 ?_
    refine g_icmp_ne C 24 (by decide) hw dX7_isWire_17 (fun hw => ?_) (fun hw => ?_)
    · refine g_iconst (v := (0 : Int32)) C dX7_isWire_24 (by decide) ?_
      exact gq_Z C F (by decide) (by decide) hw dX7_isWire_25
    · refine g_iconst (v := (1 : Int32)) C dX7_isWire_20 (by decide) ?_
      refine g_goto C 25 (by decide) dX7_isWire_21 ?_
      exact gq_Z C F (by decide) (by decide) hw dX7_isWire_25
set_option maxHeartbeats 4000000 in
set_option maxRecDepth 100000 in
theorem c_X8_begin (l : Launch) (D : va_G) (cy : Nat → ClassId) (A : Nat → Nat) {σ : St} {v1 : Int32} {Φ : St → Prop} (hw : wX8_begin σ v1 Φ) : CtV l yX8_begin (.code yX8_begin cX8_begin 3 none :: gL) rm_X8_begin 0 0 [.ref (A 13), .int v1] D cy A σ Φ := by
  refine ct_any (fun sz => va_Qv Φ (HE D cy A (gZ cy A σ sz)) (gZ cy A σ sz)) (by decide +kernel) rfl rfl [(0, .ref (A 13)), (1, .int v1)] rfl (Nat.le_of_ble_eq_true rfl) ?_
  intro κ hκl hnm C hK sz F
  subst hκl
  have J27 : ∀ (K2 : St → Int32 → Int32 → Prop) (_ : ∀ (σ : St) (v1 : Int32) (v2 : Int32), K2 σ v1 v2 → GW κ 0 0 (gW cy A σ) 2 [(0, .ref (A 13)), (1, .int v1), (2, .int v2)] []), ∀ (σ : St) (v1 : Int32) (v2 : Int32) (s0 : Int32) (s1 : Int32), wX8_begin_27 K2 Φ σ v1 v2 s0 s1 → GW κ 0 0 (gW cy A σ) 27 [(0, .ref (A 13)), (1, .int v1), (2, .int v2)] [.int s0, .int s1, .ref (A 14)] := by
    intro K2 hK2 σ v1 v2 s0 s1 hw
    unfold wX8_begin_27 at hw
    refine g_iast C hK 14 2 (ga_14 cy A _) rfl hw.1 (gs_14 cy A _ _ _) dX8_begin_27 ?_
    replace hw := hw.2
    refine g_iinc (j := 2) C [(2, .int (v2 + 1)), (0, .ref (A 13)), (1, .int v1)] F.2.2.2.1 rfl rfl (by decide) rfl dX8_begin_28 ?_
    refine g_goto C 2 (by decide) dX8_begin_31 ?_
    refine g_eql (lv' := [(0, .ref (A 13)), (1, .int v1), (2, .int (v2 + 1))]) [1, 2, 0] rfl ?_
    exact hK2 (sV σ 14 s1.toNatClampNeg s0) v1 (v2 + 1) hw
  have J2 : ∀ (n : Nat) (σ : St) (v1 : Int32) (v2 : Int32), wX8_begin_2 Φ n σ v1 v2 → GW κ 0 0 (gW cy A σ) 2 [(0, .ref (A 13)), (1, .int v1), (2, .int v2)] [] := by
    intro n
    induction n with
    | zero => intro σ v1 v2 hw; exact hw.elim
    | succ n ih =>
      intro σ v1 v2 hw
      rw [wX8_begin_2] at hw
      refine g_iload_n C 2 rfl rfl dX8_begin_2 ?_
      refine g_aload_n C 0 rfl rfl dX8_begin_3 ?_
      refine g_get C hK inX8 rfl 13 (ga_13 cy A _) 0 (by decide) (fun _ h => h) wt_97 rfl dX8_begin_4 ?_
      refine g_alen (v := 41) C hK 14 2 (ga_14 cy A _) rfl rfl dX8_begin_7 ?_
      refine g_icmp_ge C 34 (by decide) hw dX8_begin_8 (fun hw => ?_) (fun hw => ?_)
      · exact gq_V C F (by decide) (by decide) hw dX8_begin_34
      · refine g_aload_n C 0 rfl rfl dX8_begin_11 ?_
        refine g_get C hK inX8 rfl 13 (ga_13 cy A _) 0 (by decide) (fun _ h => h) wt_97 rfl dX8_begin_12 ?_
        refine g_iload_n C 2 rfl rfl dX8_begin_15 ?_
        refine g_iload_n C 2 rfl rfl dX8_begin_16 ?_
        refine g_iload_n C 1 rfl rfl dX8_begin_17 ?_
        refine g_icmp_ne C 25 (by decide) hw dX8_begin_18 (fun hw => ?_) (fun hw => ?_)
        · refine g_bipush (v := (7 : Int32)) C dX8_begin_25 (by decide) ?_
          exact J27 _ ih σ v1 v2 (7 : Int32) v2 hw
        · refine g_iconst (v := (0 : Int32)) C dX8_begin_21 (by decide) ?_
          refine g_goto C 27 (by decide) dX8_begin_22 ?_
          exact J27 _ ih σ v1 v2 (0 : Int32) v2 hw
  unfold wX8_begin at hw
  refine g_iconst (v := (0 : Int32)) C dX8_begin_0 (by decide) ?_
  refine g_istore_n C [(2, .int (0 : Int32)), (0, .ref (A 13)), (1, .int v1)] F.2.2.2.1 rfl (by decide) rfl dX8_begin_1 ?_
  refine g_eql (lv' := [(0, .ref (A 13)), (1, .int v1), (2, .int (0 : Int32))]) [1, 2, 0] rfl ?_
  obtain ⟨n0, hw⟩ := hw
  exact J2 n0 σ v1 (0 : Int32) hw
set_option maxHeartbeats 4000000 in
set_option maxRecDepth 100000 in
theorem c_X8_dropBroken (l : Launch) (D : va_G) (cy : Nat → ClassId) (A : Nat → Nat) {σ : St} {v2 : Int32} {v3 : Int32} {Φ : St → Prop} (hw : wX8_dropBroken σ v2 v3 Φ) : CtV l yX8_dropBroken (.code yX8_dropBroken cX8_dropBroken 6 none :: gL) rm_X8_dropBroken 0 0 [.ref (A 13), .ref (A 3), .int v2, .int v3] D cy A σ Φ := by
  refine ct_any (fun sz => va_Qv Φ (HE D cy A (gZ cy A σ sz)) (gZ cy A σ sz)) (by decide +kernel) rfl rfl [(0, .ref (A 13)), (1, .ref (A 3)), (2, .int v2), (3, .int v3)] rfl (Nat.le_of_ble_eq_true rfl) ?_
  intro κ hκl hnm C hK sz F
  subst hκl
  have J59 : ∀ (K3 : St → Int32 → Int32 → Int32 → Prop) (_ : ∀ (σ : St) (v2 : Int32) (v3 : Int32) (v4 : Int32), K3 σ v2 v3 v4 → GW κ 0 0 (gW cy A σ) 3 [(0, .ref (A 13)), (1, .ref (A 3)), (2, .int v2), (3, .int v3), (4, .int v4)] []), ∀ (σ : St) (v2 : Int32) (v3 : Int32) (v4 : Int32), wX8_dropBroken_59 K3 Φ σ v2 v3 v4 → GW κ 0 0 (gW cy A σ) 59 [(0, .ref (A 13)), (1, .ref (A 3)), (2, .int v2), (3, .int v3), (4, .int v4)] [] := by
    intro K3 hK3 σ v2 v3 v4 hw
    unfold wX8_dropBroken_59 at hw
    refine g_iinc (j := 4) C [(4, .int (v4 + 1)), (0, .ref (A 13)), (1, .ref (A 3)), (2, .int v2), (3, .int v3)] F.2.2.2.1 rfl rfl (by decide) rfl dX8_dropBroken_59 ?_
    refine g_goto C 3 (by decide) dX8_dropBroken_62 ?_
    refine g_eql (lv' := [(0, .ref (A 13)), (1, .ref (A 3)), (2, .int v2), (3, .int v3), (4, .int (v4 + 1))]) [1, 2, 3, 4, 0] rfl ?_
    exact hK3 σ v2 v3 (v4 + 1) hw
  have J3 : ∀ (n : Nat) (σ : St) (v2 : Int32) (v3 : Int32) (v4 : Int32), wX8_dropBroken_3 Φ n σ v2 v3 v4 → GW κ 0 0 (gW cy A σ) 3 [(0, .ref (A 13)), (1, .ref (A 3)), (2, .int v2), (3, .int v3), (4, .int v4)] [] := by
    intro n
    induction n with
    | zero => intro σ v2 v3 v4 hw; exact hw.elim
    | succ n ih =>
      intro σ v2 v3 v4 hw
      rw [wX8_dropBroken_3] at hw
      refine g_iload C 4 rfl dX8_dropBroken_3 ?_
      refine g_aload_n C 0 rfl rfl dX8_dropBroken_5 ?_
      refine g_get C hK inX8 rfl 13 (ga_13 cy A _) 0 (by decide) (fun _ h => h) wt_97 rfl dX8_dropBroken_6 ?_
      refine g_alen (v := 41) C hK 14 2 (ga_14 cy A _) rfl rfl dX8_dropBroken_9 ?_
      refine g_icmp_ge C 65 (by decide) hw dX8_dropBroken_10 (fun hw => ?_) (fun hw => ?_)
      · exact gq_V C F (by decide) (by decide) hw dX8_dropBroken_65
      · refine g_aload_n C 0 rfl rfl dX8_dropBroken_13 ?_
        refine g_get C hK inX8 rfl 13 (ga_13 cy A _) 0 (by decide) (fun _ h => h) wt_97 rfl dX8_dropBroken_14 ?_
        refine g_iload C 4 rfl dX8_dropBroken_17 ?_
        refine g_iald C hK 14 2 (ga_14 cy A _) rfl hw.1 dX8_dropBroken_19 ?_
        replace hw := hw.2
        refine g_bipush (v := (7 : Int32)) C dX8_dropBroken_20 (by decide) ?_
        refine g_icmp_ge C 59 (by decide) hw dX8_dropBroken_22 (fun hw => ?_) (fun hw => ?_)
        · exact J59 _ ih σ v2 v3 v4 hw
        · refine g_aload_n C 1 rfl rfl dX8_dropBroken_25 ?_
          refine g_iconst (v := (0 : Int32)) C dX8_dropBroken_26 (by decide) ?_
          refine g_iload C 4 rfl dX8_dropBroken_27 ?_
          refine g_iload_n C 2 rfl rfl dX8_dropBroken_29 ?_
          refine g_iload_n C 3 rfl rfl dX8_dropBroken_30 ?_
          refine gc_I C (gr_V (As := [.int (0 : Int32), .int v4, .int v2, .int v3]) (rest := []) C hK 4 (gd_V wt_448 wt_233 wt_234 wt_3 wt_235) rfl rfl rfl ⟨rfl, hs_X0_floorAt⟩ ⟨⟨Nat.le_of_ble_eq_true rfl, Nat.le_of_ble_eq_true rfl⟩, Nat.le_of_ble_eq_true rfl, Nat.le_of_ble_eq_true rfl⟩ rfl 3 (ga_3 cy A _) rfl rfl (Nat.le_of_ble_eq_true rfl) dX8_dropBroken_31 (c_X0_floorAt (q_l κ) (q_D κ) cy A hC3 hw)) (fun r2 σ1 hw => ?_)
          refine g_istore C [(5, .int r2), (0, .ref (A 13)), (1, .ref (A 3)), (2, .int v2), (3, .int v3), (4, .int v4)] F.2.2.2.1 (by decide) rfl dX8_dropBroken_34 ?_
          refine g_aload_n C 2 rfl rfl dX8_dropBroken_36 ?_
          refine g_iload_n C 3 rfl rfl dX8_dropBroken_37 ?_
          refine g_iload C 0 rfl dX8_dropBroken_38 ?_
          refine gc_I C (gr_V (As := [.int v2, .int r2]) (rest := []) C hK 2 (gd_V wt_449 wt_395 wt_396 wt_3 wt_397) rfl rfl rfl ⟨rfl, hs_X0_strainBy⟩ ⟨⟨Nat.le_of_ble_eq_true rfl, Nat.le_of_ble_eq_true rfl⟩, Nat.le_of_ble_eq_true rfl, Nat.le_of_ble_eq_true rfl⟩ rfl 3 (ga_3 cy A _) rfl rfl (Nat.le_of_ble_eq_true rfl) dX8_dropBroken_40 (c_X0_strainBy (q_l κ) (q_D κ) cy A hC3 hw)) (fun r4 σ3 hw => ?_)
          refine g_aload_n C 2 rfl rfl dX8_dropBroken_43 ?_
          refine g_get C hK inX0 rfl 3 (ga_3 cy A _) 2 (by decide) (fun _ h => h) wt_45 rfl dX8_dropBroken_44 ?_
          refine g_icmp_le C 59 (by decide) hw dX8_dropBroken_47 (fun hw => ?_) (fun hw => ?_)
          · refine g_eql (lv' := [(0, .ref (A 13)), (1, .ref (A 3)), (2, .int v2), (3, .int v3), (4, .int v4)]) [1, 2, 3, 4, 5] rfl ?_
            exact J59 _ ih σ3 v2 v3 v4 hw
          · refine g_aload_n C 1 rfl rfl dX8_dropBroken_50 ?_
            refine g_get C hK inX8 rfl 13 (ga_13 cy A _) 0 (by decide) (fun _ h => h) wt_97 rfl dX8_dropBroken_51 ?_
            refine g_iload C 5 rfl dX8_dropBroken_54 ?_
            refine g_bipush (v := (7 : Int32)) C dX8_dropBroken_56 (by decide) ?_
            refine g_iast C hK 14 2 (ga_14 cy A _) rfl hw.1 (gs_14 cy A _ _ _) dX8_dropBroken_58 ?_
            replace hw := hw.2
            refine g_eql (lv' := [(0, .ref (A 13)), (1, .ref (A 3)), (2, .int v2), (3, .int v3), (4, .int v4)]) [1, 2, 3, 4, 5] rfl ?_
            exact J59 _ ih (sV σ3 14 v4.toNatClampNeg (7 : Int32)) v2 v3 v4 hw
  unfold wX8_dropBroken at hw
  refine g_iconst (v := (0 : Int32)) C dX8_dropBroken_0 (by decide) ?_
  refine g_istore C [(4, .int (0 : Int32)), (0, .ref (A 13)), (1, .ref (A 3)), (2, .int v2), (3, .int v3)] F.2.2.2.1 (by decide) rfl dX8_dropBroken_1 ?_
  refine g_eql (lv' := [(0, .ref (A 13)), (1, .ref (A 3)), (2, .int v2), (3, .int v3), (4, .int (0 : Int32))]) [1, 2, 3, 4, 0] rfl ?_
  obtain ⟨n0, hw⟩ := hw
  exact J3 n0 σ v2 v3 (0 : Int32) hw
set_option maxHeartbeats 4000000 in
set_option maxRecDepth 100000 in
theorem c_X8_leastWay (l : Launch) (D : va_G) (cy : Nat → ClassId) (A : Nat → Nat) {σ : St} {v2 : Int32} {v3 : Int32} {v4 : Int32} {Φ : Int32 → St → Prop} (hw : wX8_leastWay σ v2 v3 v4 Φ) : CtI l yX8_leastWay (.code yX8_leastWay cX8_leastWay 8 (some .int) :: gL) rm_X8_leastWay 0 0 [.ref (A 13), .ref (A 3), .int v2, .int v3, .int v4] D cy A σ Φ := by
  refine ct_any (fun sz => va_Qi Φ (HE D cy A (gZ cy A σ sz)) (gZ cy A σ sz)) (by decide +kernel) rfl rfl [(0, .ref (A 13)), (1, .ref (A 3)), (2, .int v2), (3, .int v3), (4, .int v4)] rfl (Nat.le_of_ble_eq_true rfl) ?_
  intro κ hκl hnm C hK sz F
  subst hκl
  have J66 : ∀ (K7 : St → Int32 → Int32 → Int32 → Int32 → Int32 → Prop) (_ : ∀ (σ : St) (v2 : Int32) (v3 : Int32) (v4 : Int32) (v5 : Int32) (v6 : Int32), K7 σ v2 v3 v4 v5 v6 → GW κ 0 0 (gW cy A σ) 7 [(0, .ref (A 13)), (1, .ref (A 3)), (2, .int v2), (3, .int v3), (4, .int v4), (5, .int v5), (6, .int v6)] []), ∀ (σ : St) (v2 : Int32) (v3 : Int32) (v4 : Int32) (v5 : Int32) (v6 : Int32), wX8_leastWay_66 K7 Φ σ v2 v3 v4 v5 v6 → GW κ 0 0 (gW cy A σ) 66 [(0, .ref (A 13)), (1, .ref (A 3)), (2, .int v2), (3, .int v3), (4, .int v4), (5, .int v5), (6, .int v6)] [] := by
    intro K7 hK7 σ v2 v3 v4 v5 v6 hw
    unfold wX8_leastWay_66 at hw
    refine g_iinc (j := 6) C [(6, .int (v6 + 1)), (0, .ref (A 13)), (1, .ref (A 3)), (2, .int v2), (3, .int v3), (4, .int v4), (5, .int v5)] F.2.2.2.1 rfl rfl (by decide) rfl dX8_leastWay_66 ?_
    refine g_goto C 7 (by decide) dX8_leastWay_69 ?_
    refine g_eql (lv' := [(0, .ref (A 13)), (1, .ref (A 3)), (2, .int v2), (3, .int v3), (4, .int v4), (5, .int v5), (6, .int (v6 + 1))]) [1, 2, 3, 4, 5, 6, 0] rfl ?_
    exact hK7 σ v2 v3 v4 v5 (v6 + 1) hw
  have J7 : ∀ (n : Nat) (σ : St) (v2 : Int32) (v3 : Int32) (v4 : Int32) (v5 : Int32) (v6 : Int32), wX8_leastWay_7 Φ n σ v2 v3 v4 v5 v6 → GW κ 0 0 (gW cy A σ) 7 [(0, .ref (A 13)), (1, .ref (A 3)), (2, .int v2), (3, .int v3), (4, .int v4), (5, .int v5), (6, .int v6)] [] := by
    intro n
    induction n with
    | zero => intro σ v2 v3 v4 v5 v6 hw; exact hw.elim
    | succ n ih =>
      intro σ v2 v3 v4 v5 v6 hw
      rw [wX8_leastWay_7] at hw
      refine g_iload C 6 rfl dX8_leastWay_7 ?_
      refine g_aload_n C 0 rfl rfl dX8_leastWay_9 ?_
      refine g_get C hK inX8 rfl 13 (ga_13 cy A _) 0 (by decide) (fun _ h => h) wt_97 rfl dX8_leastWay_10 ?_
      refine g_alen (v := 41) C hK 14 2 (ga_14 cy A _) rfl rfl dX8_leastWay_13 ?_
      refine g_icmp_ge C 72 (by decide) hw dX8_leastWay_14 (fun hw => ?_) (fun hw => ?_)
      · refine g_iload C 5 rfl dX8_leastWay_72 ?_
        exact gq_I C F (by decide) (by decide) hw dX8_leastWay_74
      · refine g_aload_n C 0 rfl rfl dX8_leastWay_17 ?_
        refine g_get C hK inX8 rfl 13 (ga_13 cy A _) 0 (by decide) (fun _ h => h) wt_97 rfl dX8_leastWay_18 ?_
        refine g_iload C 6 rfl dX8_leastWay_21 ?_
        refine g_iald C hK 14 2 (ga_14 cy A _) rfl hw.1 dX8_leastWay_23 ?_
        replace hw := hw.2
        refine g_iload C 5 rfl dX8_leastWay_24 ?_
        refine g_icmp_ge C 66 (by decide) hw dX8_leastWay_26 (fun hw => ?_) (fun hw => ?_)
        · exact J66 _ ih σ v2 v3 v4 v5 v6 hw
        · refine g_aload_n C 1 rfl rfl dX8_leastWay_29 ?_
          refine g_iconst (v := (0 : Int32)) C dX8_leastWay_30 (by decide) ?_
          refine g_iload C 6 rfl dX8_leastWay_31 ?_
          refine g_iload_n C 3 rfl rfl dX8_leastWay_33 ?_
          refine g_iload C 4 rfl dX8_leastWay_34 ?_
          refine gc_I C (gr_V (As := [.int (0 : Int32), .int v6, .int v3, .int v4]) (rest := []) C hK 4 (gd_V wt_448 wt_233 wt_234 wt_3 wt_235) rfl rfl rfl ⟨rfl, hs_X0_floorAt⟩ ⟨⟨Nat.le_of_ble_eq_true rfl, Nat.le_of_ble_eq_true rfl⟩, Nat.le_of_ble_eq_true rfl, Nat.le_of_ble_eq_true rfl⟩ rfl 3 (ga_3 cy A _) rfl rfl (Nat.le_of_ble_eq_true rfl) dX8_leastWay_36 (c_X0_floorAt (q_l κ) (q_D κ) cy A hC3 hw)) (fun r2 σ1 hw => ?_)
          refine g_istore C [(7, .int r2), (0, .ref (A 13)), (1, .ref (A 3)), (2, .int v2), (3, .int v3), (4, .int v4), (5, .int v5), (6, .int v6)] F.2.2.2.1 (by decide) rfl dX8_leastWay_39 ?_
          refine g_iload C 0 rfl dX8_leastWay_41 ?_
          refine g_iload_n C 3 rfl rfl dX8_leastWay_43 ?_
          refine g_icmp_lt C 66 (by decide) hw dX8_leastWay_44 (fun hw => ?_) (fun hw => ?_)
          · refine g_eql (lv' := [(0, .ref (A 13)), (1, .ref (A 3)), (2, .int v2), (3, .int v3), (4, .int v4), (5, .int v5), (6, .int v6)]) [1, 2, 3, 4, 5, 6, 7] rfl ?_
            exact J66 _ ih σ1 v2 v3 v4 v5 v6 hw
          · refine g_iload C 0 rfl dX8_leastWay_47 ?_
            refine g_iload_n C 3 rfl rfl dX8_leastWay_49 ?_
            refine g_iload_n C 3 rfl rfl dX8_leastWay_50 ?_
            refine g_iconst (v := (2 : Int32)) C dX8_leastWay_51 (by decide) ?_
            refine g_idiv C hw.1 dX8_leastWay_52 ?_
            replace hw := hw.2
            refine g_iadd C dX8_leastWay_53 ?_
            refine g_icmp_gt C 66 (by decide) hw dX8_leastWay_54 (fun hw => ?_) (fun hw => ?_)
            · refine g_eql (lv' := [(0, .ref (A 13)), (1, .ref (A 3)), (2, .int v2), (3, .int v3), (4, .int v4), (5, .int v5), (6, .int v6)]) [1, 2, 3, 4, 5, 6, 7] rfl ?_
              exact J66 _ ih σ1 v2 v3 v4 v5 v6 hw
            · refine g_aload_n C 1 rfl rfl dX8_leastWay_57 ?_
              refine g_get C hK inX8 rfl 13 (ga_13 cy A _) 0 (by decide) (fun _ h => h) wt_97 rfl dX8_leastWay_58 ?_
              refine g_iload C 7 rfl dX8_leastWay_61 ?_
              refine g_iald C hK 14 2 (ga_14 cy A _) rfl hw.1 dX8_leastWay_63 ?_
              replace hw := hw.2
              refine g_istore C [(5, .int (σ1.1 14 v6.toNatClampNeg)), (7, .int r2), (0, .ref (A 13)), (1, .ref (A 3)), (2, .int v2), (3, .int v3), (4, .int v4), (6, .int v6)] F.2.2.2.1 (by decide) rfl dX8_leastWay_64 ?_
              refine g_eql (lv' := [(0, .ref (A 13)), (1, .ref (A 3)), (2, .int v2), (3, .int v3), (4, .int v4), (5, .int (σ1.1 14 v6.toNatClampNeg)), (6, .int v6)]) [2, 3, 4, 5, 6, 0, 7] rfl ?_
              exact J66 _ ih σ1 v2 v3 v4 (σ1.1 14 v6.toNatClampNeg) v6 hw
  unfold wX8_leastWay at hw
  refine g_bipush (v := (7 : Int32)) C dX8_leastWay_0 (by decide) ?_
  refine g_istore C [(5, .int (7 : Int32)), (0, .ref (A 13)), (1, .ref (A 3)), (2, .int v2), (3, .int v3), (4, .int v4)] F.2.2.2.1 (by decide) rfl dX8_leastWay_2 ?_
  refine g_iconst (v := (0 : Int32)) C dX8_leastWay_4 (by decide) ?_
  refine g_istore C [(6, .int (0 : Int32)), (5, .int (7 : Int32)), (0, .ref (A 13)), (1, .ref (A 3)), (2, .int v2), (3, .int v3), (4, .int v4)] F.2.2.2.1 (by decide) rfl dX8_leastWay_5 ?_
  refine g_eql (lv' := [(0, .ref (A 13)), (1, .ref (A 3)), (2, .int v2), (3, .int v3), (4, .int v4), (5, .int (7 : Int32)), (6, .int (0 : Int32))]) [2, 3, 4, 5, 6, 1, 0] rfl ?_
  obtain ⟨n0, hw⟩ := hw
  exact J7 n0 σ v2 v3 v4 (7 : Int32) (0 : Int32) hw
set_option maxHeartbeats 4000000 in
set_option maxRecDepth 100000 in
theorem c_X11_isLength (l : Launch) (D : va_G) (cy : Nat → ClassId) (A : Nat → Nat) {σ : St} {v0 : Int32} {Φ : Int32 → St → Prop} (hw : wX11_isLength σ v0 Φ) : CtI l yX11_isLength (.code yX11_isLength cX11_isLength 1 (some .boolean) :: gL) rm_X11_isLength 0 0 [.int v0] D cy A σ Φ := by
  refine ct_any (fun sz => va_Qi Φ (HE D cy A (gZ cy A σ sz)) (gZ cy A σ sz)) (by decide +kernel) rfl rfl [(0, .int v0)] rfl (Nat.le_of_ble_eq_true rfl) ?_
  intro κ hκl hnm C hK sz F
  subst hκl
  unfold wX11_isLength at hw
  refine g_iload_n C 0 rfl rfl dX11_isLength_0 ?_
  refine g_bipush (v := (10 : Int32)) C dX11_isLength_1 (by decide) ?_
  refine g_icmp_lt C 16 (by decide) hw dX11_isLength_3 (fun hw => ?_) (fun hw => ?_)
  · refine g_iconst (v := (0 : Int32)) C dX11_isLength_16 (by decide) ?_
    exact gq_Z C F (by decide) (by decide) hw dX11_isLength_17
  · refine g_iload_n C 0 rfl rfl dX11_isLength_6 ?_
    refine g_bipush (v := (40 : Int32)) C dX11_isLength_7 (by decide) ?_
    refine g_icmp_gt C 16 (by decide) hw dX11_isLength_9 (fun hw => ?_) (fun hw => ?_)
    · refine g_iconst (v := (0 : Int32)) C dX11_isLength_16 (by decide) ?_
      exact gq_Z C F (by decide) (by decide) hw dX11_isLength_17
    · refine g_iconst (v := (1 : Int32)) C dX11_isLength_12 (by decide) ?_
      refine g_goto C 17 (by decide) dX11_isLength_13 ?_
      exact gq_Z C F (by decide) (by decide) hw dX11_isLength_17
set_option maxHeartbeats 4000000 in
set_option maxRecDepth 100000 in
theorem c_X11_windingOf (l : Launch) (D : va_G) (cy : Nat → ClassId) (A : Nat → Nat) {σ : St} {v0 : Int32} {Φ : Int32 → St → Prop} (hw : wX11_windingOf σ v0 Φ) : CtI l yX11_windingOf (.code yX11_windingOf cX11_windingOf 1 (some .int) :: gL) rm_X11_windingOf 0 0 [.int v0] D cy A σ Φ := by
  refine ct_any (fun sz => va_Qi Φ (HE D cy A (gZ cy A σ sz)) (gZ cy A σ sz)) (by decide +kernel) rfl rfl [(0, .int v0)] rfl (Nat.le_of_ble_eq_true rfl) ?_
  intro κ hκl hnm C hK sz F
  subst hκl
  unfold wX11_windingOf at hw
  refine g_iload_n C 0 rfl rfl dX11_windingOf_0 ?_
  refine g_iconst (v := (3 : Int32)) C dX11_windingOf_1 (by decide) ?_
  refine g_icmp_gt C 9 (by decide) hw dX11_windingOf_2 (fun hw => ?_) (fun hw => ?_)
  · refine g_iconst (v := (3 : Int32)) C dX11_windingOf_9 (by decide) ?_
    refine g_iload_n C 0 rfl rfl dX11_windingOf_10 ?_
    refine g_isub C dX11_windingOf_11 ?_
    exact gq_I C F (by decide) (by decide) hw dX11_windingOf_12
  · refine g_iload_n C 0 rfl rfl dX11_windingOf_5 ?_
    refine g_goto C 12 (by decide) dX11_windingOf_6 ?_
    exact gq_I C F (by decide) (by decide) hw dX11_windingOf_12
set_option maxHeartbeats 4000000 in
set_option maxRecDepth 100000 in
theorem c_X8_stepFrom (l : Launch) (D : va_G) (cy : Nat → ClassId) (A : Nat → Nat) {σ : St} {v1 : Int32} {v2 : Int32} {v3 : Int32} {Φ : St → Prop} (hw : wX8_stepFrom σ v1 v2 v3 Φ) : CtV l yX8_stepFrom (.code yX8_stepFrom cX8_stepFrom 6 none :: gL) rm_X8_stepFrom 0 0 [.ref (A 13), .int v1, .int v2, .int v3] D cy A σ Φ := by
  refine ct_any (fun sz => va_Qv Φ (HE D cy A (gZ cy A σ sz)) (gZ cy A σ sz)) (by decide +kernel) rfl rfl [(0, .ref (A 13)), (1, .int v1), (2, .int v2), (3, .int v3)] rfl (Nat.le_of_ble_eq_true rfl) ?_
  intro κ hκl hnm C hK sz F
  subst hκl
  have J64 : ∀ (K3 : St → Int32 → Int32 → Int32 → Int32 → Prop) (_ : ∀ (σ : St) (v1 : Int32) (v2 : Int32) (v3 : Int32) (v4 : Int32), K3 σ v1 v2 v3 v4 → GW κ 0 0 (gW cy A σ) 3 [(0, .ref (A 13)), (1, .int v1), (2, .int v2), (3, .int v3), (4, .int v4)] []), ∀ (σ : St) (v1 : Int32) (v2 : Int32) (v3 : Int32) (v4 : Int32), wX8_stepFrom_64 K3 Φ σ v1 v2 v3 v4 → GW κ 0 0 (gW cy A σ) 64 [(0, .ref (A 13)), (1, .int v1), (2, .int v2), (3, .int v3), (4, .int v4)] [] := by
    intro K3 hK3 σ v1 v2 v3 v4 hw
    unfold wX8_stepFrom_64 at hw
    refine g_iinc (j := 4) C [(4, .int (v4 + 1)), (0, .ref (A 13)), (1, .int v1), (2, .int v2), (3, .int v3)] F.2.2.2.1 rfl rfl (by decide) rfl dX8_stepFrom_64 ?_
    refine g_goto C 3 (by decide) dX8_stepFrom_67 ?_
    refine g_eql (lv' := [(0, .ref (A 13)), (1, .int v1), (2, .int v2), (3, .int v3), (4, .int (v4 + 1))]) [1, 2, 3, 4, 0] rfl ?_
    exact hK3 σ v1 v2 v3 (v4 + 1) hw
  have J60 : ∀ (K3 : St → Int32 → Int32 → Int32 → Int32 → Prop) (_ : ∀ (σ : St) (v1 : Int32) (v2 : Int32) (v3 : Int32) (v4 : Int32), K3 σ v1 v2 v3 v4 → GW κ 0 0 (gW cy A σ) 3 [(0, .ref (A 13)), (1, .int v1), (2, .int v2), (3, .int v3), (4, .int v4)] []), ∀ (σ : St) (v1 : Int32) (v2 : Int32) (v3 : Int32) (v4 : Int32) (s0 : Int32) (s1 : Int32) (s2 : Int32), wX8_stepFrom_60 K3 Φ σ v1 v2 v3 v4 s0 s1 s2 → GW κ 0 0 (gW cy A σ) 60 [(0, .ref (A 13)), (1, .int v1), (2, .int v2), (3, .int v3), (4, .int v4)] [.int s0, .int s1, .int s2, .ref (A 15)] := by
    intro K3 hK3 σ v1 v2 v3 v4 s0 s1 s2 hw
    unfold wX8_stepFrom_60 at hw
    refine gc_I C (gr_S (As := [.int s1, .int s0]) (rest := [.int s2, .ref (A 15)]) C hK 2 (gd_S wt_444 wt_179 wt_9 wt_180) rfl rfl rfl hs_J9_min_7cf53 ⟨⟨Nat.le_of_ble_eq_true rfl, Nat.le_of_ble_eq_true rfl⟩, Nat.le_of_ble_eq_true rfl, Nat.le_of_ble_eq_true rfl⟩ rfl rfl (Nat.le_of_ble_eq_true rfl) dX8_stepFrom_60 (c_J9_min_7cf53 (q_l κ) (q_D κ) cy A hw)) (fun r6 σ5 hw => ?_)
    refine g_iast C hK 15 2 (ga_15 cy A _) rfl hw.1 (gs_15 cy A _ _ _) dX8_stepFrom_63 ?_
    replace hw := hw.2
    exact J64 _ hK3 (sV σ5 15 s2.toNatClampNeg r6) v1 v2 v3 v4 hw
  have J3 : ∀ (n : Nat) (σ : St) (v1 : Int32) (v2 : Int32) (v3 : Int32) (v4 : Int32), wX8_stepFrom_3 Φ n σ v1 v2 v3 v4 → GW κ 0 0 (gW cy A σ) 3 [(0, .ref (A 13)), (1, .int v1), (2, .int v2), (3, .int v3), (4, .int v4)] [] := by
    intro n
    induction n with
    | zero => intro σ v1 v2 v3 v4 hw; exact hw.elim
    | succ n ih =>
      intro σ v1 v2 v3 v4 hw
      rw [wX8_stepFrom_3] at hw
      refine g_iload C 4 rfl dX8_stepFrom_3 ?_
      refine g_bipush (v := (7 : Int32)) C dX8_stepFrom_5 (by decide) ?_
      refine g_icmp_ge C 70 (by decide) hw dX8_stepFrom_7 (fun hw => ?_) (fun hw => ?_)
      · exact gq_V C F (by decide) (by decide) hw dX8_stepFrom_70
      · refine g_iload_n C 1 rfl rfl dX8_stepFrom_10 ?_
        refine g_iload C 4 rfl dX8_stepFrom_11 ?_
        refine gc_I C (gr_SN (As := [.int v4]) (rest := [.int v1]) (host := RX11) C hK 1 (gd_N wt_443) rfl rfl rfl (by decide +kernel) wt_1 wt_442 hs_X11_windingOf ⟨⟨Nat.le_of_ble_eq_true rfl, Nat.le_of_ble_eq_true rfl⟩, Nat.le_of_ble_eq_true rfl, Nat.le_of_ble_eq_true rfl⟩ rfl rfl (Nat.le_of_ble_eq_true rfl) dX8_stepFrom_13 (c_X11_windingOf (q_l κ) (q_D κ) cy A hw)) (fun r2 σ1 hw => ?_)
        refine g_isub C dX8_stepFrom_16 ?_
        refine g_istore C [(5, .int (v1 - r2)), (0, .ref (A 13)), (1, .int v1), (2, .int v2), (3, .int v3), (4, .int v4)] F.2.2.2.1 (by decide) rfl dX8_stepFrom_17 ?_
        refine g_iload C 0 rfl dX8_stepFrom_19 ?_
        refine gc_I C (gr_SN (As := [.int (v1 - r2)]) (rest := []) (host := RX11) C hK 1 (gd_N wt_377) rfl rfl rfl (by decide +kernel) wt_1 wt_376 hs_X11_isLength ⟨⟨Nat.le_of_ble_eq_true rfl, Nat.le_of_ble_eq_true rfl⟩, Nat.le_of_ble_eq_true rfl, Nat.le_of_ble_eq_true rfl⟩ rfl rfl (Nat.le_of_ble_eq_true rfl) dX8_stepFrom_21 (c_X11_isLength (q_l κ) (q_D κ) cy A hw)) (fun r4 σ3 hw => ?_)
        refine g_if_eq C 64 (by decide) hw dX8_stepFrom_24 (fun hw => ?_) (fun hw => ?_)
        · refine g_eql (lv' := [(0, .ref (A 13)), (1, .int v1), (2, .int v2), (3, .int v3), (4, .int v4)]) [1, 2, 3, 4, 5] rfl ?_
          exact J64 _ ih σ3 v1 v2 v3 v4 hw
        · refine g_iload C 0 rfl dX8_stepFrom_27 ?_
          refine g_aload_n C 1 rfl rfl dX8_stepFrom_29 ?_
          refine g_get C hK inX8 rfl 13 (ga_13 cy A _) 1 (by decide) (fun _ h => h) wt_98 rfl dX8_stepFrom_30 ?_
          refine g_alen (v := 41) C hK 15 2 (ga_15 cy A _) rfl rfl dX8_stepFrom_33 ?_
          refine g_icmp_ge C 64 (by decide) hw dX8_stepFrom_34 (fun hw => ?_) (fun hw => ?_)
          · refine g_eql (lv' := [(0, .ref (A 13)), (1, .int v1), (2, .int v2), (3, .int v3), (4, .int v4)]) [1, 2, 3, 4, 5] rfl ?_
            exact J64 _ ih σ3 v1 v2 v3 v4 hw
          · refine g_aload_n C 1 rfl rfl dX8_stepFrom_37 ?_
            refine g_get C hK inX8 rfl 13 (ga_13 cy A _) 1 (by decide) (fun _ h => h) wt_98 rfl dX8_stepFrom_38 ?_
            refine g_iload C 0 rfl dX8_stepFrom_41 ?_
            refine g_aload_n C 1 rfl rfl dX8_stepFrom_43 ?_
            refine g_get C hK inX8 rfl 13 (ga_13 cy A _) 1 (by decide) (fun _ h => h) wt_98 rfl dX8_stepFrom_44 ?_
            refine g_iload C 0 rfl dX8_stepFrom_47 ?_
            refine g_iald C hK 15 2 (ga_15 cy A _) rfl hw.1 dX8_stepFrom_49 ?_
            replace hw := hw.2
            refine g_iload_n C 3 rfl rfl dX8_stepFrom_50 ?_
            refine g_if_eq C 59 (by decide) hw dX8_stepFrom_51 (fun hw => ?_) (fun hw => ?_)
            · refine g_iload_n C 4 rfl rfl dX8_stepFrom_59 ?_
              refine g_eql (lv' := [(0, .ref (A 13)), (1, .int v1), (2, .int v2), (3, .int v3), (4, .int v4)]) [1, 2, 3, 4, 5] rfl ?_
              exact J60 _ ih σ3 v1 v2 v3 v4 v3 (σ3.1 15 (v1 - r2).toNatClampNeg) (v1 - r2) hw
            · refine g_iload C 5 rfl dX8_stepFrom_54 ?_
              refine g_goto C 60 (by decide) dX8_stepFrom_56 ?_
              refine g_eql (lv' := [(0, .ref (A 13)), (1, .int v1), (2, .int v2), (3, .int v3), (4, .int v4)]) [1, 2, 3, 4, 5] rfl ?_
              exact J60 _ ih σ3 v1 v2 v3 v4 v4 (σ3.1 15 (v1 - r2).toNatClampNeg) (v1 - r2) hw
  unfold wX8_stepFrom at hw
  refine g_iconst (v := (0 : Int32)) C dX8_stepFrom_0 (by decide) ?_
  refine g_istore C [(4, .int (0 : Int32)), (0, .ref (A 13)), (1, .int v1), (2, .int v2), (3, .int v3)] F.2.2.2.1 (by decide) rfl dX8_stepFrom_1 ?_
  refine g_eql (lv' := [(0, .ref (A 13)), (1, .int v1), (2, .int v2), (3, .int v3), (4, .int (0 : Int32))]) [1, 2, 3, 4, 0] rfl ?_
  obtain ⟨n0, hw⟩ := hw
  exact J3 n0 σ v1 v2 v3 (0 : Int32) hw
set_option maxHeartbeats 4000000 in
set_option maxRecDepth 100000 in
theorem c_X8_step (l : Launch) (D : va_G) (cy : Nat → ClassId) (A : Nat → Nat) {σ : St} {v1 : Int32} {Φ : St → Prop} (hw : wX8_step σ v1 Φ) : CtV l yX8_step (.code yX8_step cX8_step 3 none :: gL) rm_X8_step 0 0 [.ref (A 13), .int v1] D cy A σ Φ := by
  refine ct_any (fun sz => va_Qv Φ (HE D cy A (gZ cy A σ sz)) (gZ cy A σ sz)) (by decide +kernel) rfl rfl [(0, .ref (A 13)), (1, .int v1)] rfl (Nat.le_of_ble_eq_true rfl) ?_
  intro κ hκl hnm C hK sz F
  subst hκl
  have J67 : ∀ (n : Nat) (σ : St) (v2 : Int32), wX8_step_67 Φ n σ v2 → GW κ 0 0 (gW cy A σ) 67 [(0, .ref (A 13)), (2, .int v2)] [] := by
    intro n
    induction n with
    | zero => intro σ v2 hw; exact hw.elim
    | succ n ih =>
      intro σ v2 hw
      rw [wX8_step_67] at hw
      refine g_iload_n C 1 rfl rfl dX8_step_67 ?_
      refine g_aload_n C 0 rfl rfl dX8_step_68 ?_
      refine g_get C hK inX8 rfl 13 (ga_13 cy A _) 0 (by decide) (fun _ h => h) wt_97 rfl dX8_step_69 ?_
      refine g_alen (v := 41) C hK 14 2 (ga_14 cy A _) rfl rfl dX8_step_72 ?_
      refine g_icmp_ge C 103 (by decide) hw dX8_step_73 (fun hw => ?_) (fun hw => ?_)
      · exact gq_V C F (by decide) (by decide) hw dX8_step_103
      · refine g_iload_n C 1 rfl rfl dX8_step_76 ?_
        refine g_aload_n C 0 rfl rfl dX8_step_77 ?_
        refine g_get C hK inX8 rfl 13 (ga_13 cy A _) 1 (by decide) (fun _ h => h) wt_98 rfl dX8_step_78 ?_
        refine g_alen (v := 41) C hK 15 2 (ga_15 cy A _) rfl rfl dX8_step_81 ?_
        refine g_icmp_ge C 103 (by decide) hw dX8_step_82 (fun hw => ?_) (fun hw => ?_)
        · exact gq_V C F (by decide) (by decide) hw dX8_step_103
        · refine g_aload_n C 0 rfl rfl dX8_step_85 ?_
          refine g_get C hK inX8 rfl 13 (ga_13 cy A _) 0 (by decide) (fun _ h => h) wt_97 rfl dX8_step_86 ?_
          refine g_iload_n C 1 rfl rfl dX8_step_89 ?_
          refine g_aload_n C 0 rfl rfl dX8_step_90 ?_
          refine g_get C hK inX8 rfl 13 (ga_13 cy A _) 1 (by decide) (fun _ h => h) wt_98 rfl dX8_step_91 ?_
          refine g_iload_n C 1 rfl rfl dX8_step_94 ?_
          refine g_iald C hK 15 2 (ga_15 cy A _) rfl hw.1 dX8_step_95 ?_
          replace hw := hw.2
          refine g_iast C hK 14 2 (ga_14 cy A _) rfl hw.1 (gs_14 cy A _ _ _) dX8_step_96 ?_
          replace hw := hw.2
          refine g_iinc (j := 1) C [(2, .int (v2 + 1)), (0, .ref (A 13))] F.2.2.2.1 rfl rfl (by decide) rfl dX8_step_97 ?_
          refine g_goto C 67 (by decide) dX8_step_100 ?_
          refine g_eql (lv' := [(0, .ref (A 13)), (2, .int (v2 + 1))]) [1, 0] rfl ?_
          exact ih (sV σ 14 v2.toNatClampNeg (σ.1 15 v2.toNatClampNeg)) (v2 + 1) hw
  have J59 : ∀ (K27 : St → Int32 → Int32 → Prop) (_ : ∀ (σ : St) (v1 : Int32) (v2 : Int32), K27 σ v1 v2 → GW κ 0 0 (gW cy A σ) 27 [(0, .ref (A 13)), (1, .int v1), (2, .int v2)] []), ∀ (σ : St) (v1 : Int32) (v2 : Int32), wX8_step_59 K27 Φ σ v1 v2 → GW κ 0 0 (gW cy A σ) 59 [(0, .ref (A 13)), (1, .int v1), (2, .int v2)] [] := by
    intro K27 hK27 σ v1 v2 hw
    unfold wX8_step_59 at hw
    refine g_iinc (j := 2) C [(2, .int (v2 + 1)), (0, .ref (A 13)), (1, .int v1)] F.2.2.2.1 rfl rfl (by decide) rfl dX8_step_59 ?_
    refine g_goto C 27 (by decide) dX8_step_62 ?_
    refine g_eql (lv' := [(0, .ref (A 13)), (1, .int v1), (2, .int (v2 + 1))]) [1, 2, 0] rfl ?_
    exact hK27 σ v1 (v2 + 1) hw
  have J27 : ∀ (n : Nat) (σ : St) (v1 : Int32) (v2 : Int32), wX8_step_27 Φ n σ v1 v2 → GW κ 0 0 (gW cy A σ) 27 [(0, .ref (A 13)), (1, .int v1), (2, .int v2)] [] := by
    intro n
    induction n with
    | zero => intro σ v1 v2 hw; exact hw.elim
    | succ n ih =>
      intro σ v1 v2 hw
      rw [wX8_step_27] at hw
      refine g_iload_n C 2 rfl rfl dX8_step_27 ?_
      refine g_aload_n C 0 rfl rfl dX8_step_28 ?_
      refine g_get C hK inX8 rfl 13 (ga_13 cy A _) 0 (by decide) (fun _ h => h) wt_97 rfl dX8_step_29 ?_
      refine g_alen (v := 41) C hK 14 2 (ga_14 cy A _) rfl rfl dX8_step_32 ?_
      refine g_icmp_ge C 65 (by decide) hw dX8_step_33 (fun hw => ?_) (fun hw => ?_)
      · refine g_iconst (v := (0 : Int32)) C dX8_step_65 (by decide) ?_
        refine g_istore_n C [(2, .int (0 : Int32)), (0, .ref (A 13)), (1, .int v1)] F.2.2.2.1 rfl (by decide) rfl dX8_step_66 ?_
        refine g_eql (lv' := [(0, .ref (A 13)), (2, .int (0 : Int32))]) [1, 0] rfl ?_
        obtain ⟨n0, hw⟩ := hw
        exact J67 n0 σ (0 : Int32) hw
      · refine g_aload_n C 0 rfl rfl dX8_step_36 ?_
        refine g_get C hK inX8 rfl 13 (ga_13 cy A _) 0 (by decide) (fun _ h => h) wt_97 rfl dX8_step_37 ?_
        refine g_iload_n C 2 rfl rfl dX8_step_40 ?_
        refine g_iald C hK 14 2 (ga_14 cy A _) rfl hw.1 dX8_step_41 ?_
        replace hw := hw.2
        refine g_bipush (v := (7 : Int32)) C dX8_step_42 (by decide) ?_
        refine g_icmp_ge C 59 (by decide) hw dX8_step_44 (fun hw => ?_) (fun hw => ?_)
        · exact J59 _ ih σ v1 v2 hw
        · refine g_aload_n C 0 rfl rfl dX8_step_47 ?_
          refine g_iload_n C 2 rfl rfl dX8_step_48 ?_
          refine g_iload_n C 1 rfl rfl dX8_step_49 ?_
          refine g_aload_n C 0 rfl rfl dX8_step_50 ?_
          refine g_get C hK inX8 rfl 13 (ga_13 cy A _) 0 (by decide) (fun _ h => h) wt_97 rfl dX8_step_51 ?_
          refine g_iload_n C 2 rfl rfl dX8_step_54 ?_
          refine g_iald C hK 14 2 (ga_14 cy A _) rfl hw.1 dX8_step_55 ?_
          replace hw := hw.2
          refine gc_V C (gr_V (As := [.int v2, .int v1, .int (σ.1 14 v2.toNatClampNeg)]) (rest := []) C hK 3 (gd_V wt_439 wt_440 wt_837 wt_7 wt_441) rfl rfl rfl ⟨rfl, hs_X8_stepFrom⟩ ⟨⟨Nat.le_of_ble_eq_true rfl, Nat.le_of_ble_eq_true rfl⟩, Nat.le_of_ble_eq_true rfl, Nat.le_of_ble_eq_true rfl⟩ rfl 13 (ga_13 cy A _) rfl rfl (Nat.le_of_ble_eq_true rfl) dX8_step_56 (c_X8_stepFrom (q_l κ) (q_D κ) cy A hw)) (fun σ1 hw => ?_)
          exact J59 _ ih σ1 v1 v2 hw
  have J2 : ∀ (n : Nat) (σ : St) (v1 : Int32) (v2 : Int32), wX8_step_2 Φ n σ v1 v2 → GW κ 0 0 (gW cy A σ) 2 [(0, .ref (A 13)), (1, .int v1), (2, .int v2)] [] := by
    intro n
    induction n with
    | zero => intro σ v1 v2 hw; exact hw.elim
    | succ n ih =>
      intro σ v1 v2 hw
      rw [wX8_step_2] at hw
      refine g_iload_n C 2 rfl rfl dX8_step_2 ?_
      refine g_aload_n C 0 rfl rfl dX8_step_3 ?_
      refine g_get C hK inX8 rfl 13 (ga_13 cy A _) 1 (by decide) (fun _ h => h) wt_98 rfl dX8_step_4 ?_
      refine g_alen (v := 41) C hK 15 2 (ga_15 cy A _) rfl rfl dX8_step_7 ?_
      refine g_icmp_ge C 25 (by decide) hw dX8_step_8 (fun hw => ?_) (fun hw => ?_)
      · refine g_iconst (v := (0 : Int32)) C dX8_step_25 (by decide) ?_
        refine g_istore_n C [(2, .int (0 : Int32)), (0, .ref (A 13)), (1, .int v1)] F.2.2.2.1 rfl (by decide) rfl dX8_step_26 ?_
        refine g_eql (lv' := [(0, .ref (A 13)), (1, .int v1), (2, .int (0 : Int32))]) [1, 2, 0] rfl ?_
        obtain ⟨n0, hw⟩ := hw
        exact J27 n0 σ v1 (0 : Int32) hw
      · refine g_aload_n C 0 rfl rfl dX8_step_11 ?_
        refine g_get C hK inX8 rfl 13 (ga_13 cy A _) 1 (by decide) (fun _ h => h) wt_98 rfl dX8_step_12 ?_
        refine g_iload_n C 2 rfl rfl dX8_step_15 ?_
        refine g_bipush (v := (7 : Int32)) C dX8_step_16 (by decide) ?_
        refine g_iast C hK 15 2 (ga_15 cy A _) rfl hw.1 (gs_15 cy A _ _ _) dX8_step_18 ?_
        replace hw := hw.2
        refine g_iinc (j := 2) C [(2, .int (v2 + 1)), (0, .ref (A 13)), (1, .int v1)] F.2.2.2.1 rfl rfl (by decide) rfl dX8_step_19 ?_
        refine g_goto C 2 (by decide) dX8_step_22 ?_
        refine g_eql (lv' := [(0, .ref (A 13)), (1, .int v1), (2, .int (v2 + 1))]) [1, 2, 0] rfl ?_
        exact ih (sV σ 15 v2.toNatClampNeg (7 : Int32)) v1 (v2 + 1) hw
  unfold wX8_step at hw
  refine g_iconst (v := (0 : Int32)) C dX8_step_0 (by decide) ?_
  refine g_istore_n C [(2, .int (0 : Int32)), (0, .ref (A 13)), (1, .int v1)] F.2.2.2.1 rfl (by decide) rfl dX8_step_1 ?_
  refine g_eql (lv' := [(0, .ref (A 13)), (1, .int v1), (2, .int (0 : Int32))]) [1, 2, 0] rfl ?_
  obtain ⟨n0, hw⟩ := hw
  exact J2 n0 σ v1 (0 : Int32) hw
set_option maxHeartbeats 4000000 in
set_option maxRecDepth 100000 in
theorem c_X8_find (l : Launch) (D : va_G) (cy : Nat → ClassId) (A : Nat → Nat) {σ : St} {v3 : Int32} {Φ : St → Prop} (hw : wX8_find σ v3 Φ) : CtV l yX8_find (.code yX8_find cX8_find 8 none :: gL) rm_X8_find 0 0 [.ref (A 13), .ref (A 3), .ref (A 4), .int v3] D cy A σ Φ := by
  refine ct_any (fun sz => va_Qv Φ (HE D cy A (gZ cy A σ sz)) (gZ cy A σ sz)) (by decide +kernel) rfl rfl [(0, .ref (A 13)), (1, .ref (A 3)), (2, .ref (A 4)), (3, .int v3)] rfl (Nat.le_of_ble_eq_true rfl) ?_
  intro κ hκl hnm C hK sz F
  subst hκl
  have J85 : ∀ (K21 : St → Int32 → Int32 → Prop) (_ : ∀ (σ : St) (v3 : Int32) (v4 : Int32), K21 σ v3 v4 → GW κ 0 0 (gW cy A σ) 21 [(0, .ref (A 13)), (1, .ref (A 3)), (2, .ref (A 4)), (3, .int v3), (4, .int v4)] []), ∀ (σ : St) (v3 : Int32) (v4 : Int32) (v5 : Int32) (v6 : Int32), wX8_find_85 K21 Φ σ v3 v4 v5 v6 → GW κ 0 0 (gW cy A σ) 85 [(0, .ref (A 13)), (1, .ref (A 3)), (2, .ref (A 4)), (3, .int v3), (4, .int v4), (5, .int v5), (6, .int v6)] [] := by
    intro K21 hK21 σ v3 v4 v5 v6 hw
    unfold wX8_find_85 at hw
    refine g_aload_n C 0 rfl rfl dX8_find_85 ?_
    refine g_aload_n C 1 rfl rfl dX8_find_86 ?_
    refine g_iload_n C 3 rfl rfl dX8_find_87 ?_
    refine g_iload C 5 rfl dX8_find_88 ?_
    refine g_iload C 6 rfl dX8_find_90 ?_
    refine gc_I C (gr_V (As := [.ref (A 3), .int v3, .int v5, .int v6]) (rest := []) C hK 4 (gd_V wt_450 wt_451 wt_839 wt_7 wt_452) rfl rfl rfl ⟨rfl, hs_X8_leastWay⟩ ⟨⟨Nat.le_of_ble_eq_true rfl, Nat.le_of_ble_eq_true rfl⟩, Nat.le_of_ble_eq_true rfl, Nat.le_of_ble_eq_true rfl⟩ rfl 13 (ga_13 cy A _) rfl rfl (Nat.le_of_ble_eq_true rfl) dX8_find_92 (c_X8_leastWay (q_l κ) (q_D κ) cy A hw)) (fun r9 σ8 hw => ?_)
    refine g_istore C [(7, .int r9), (0, .ref (A 13)), (1, .ref (A 3)), (2, .ref (A 4)), (3, .int v3), (4, .int v4), (5, .int v5), (6, .int v6)] F.2.2.2.1 (by decide) rfl dX8_find_95 ?_
    refine g_iload C 0 rfl dX8_find_97 ?_
    refine g_bipush (v := (7 : Int32)) C dX8_find_99 (by decide) ?_
    refine g_icmp_ge C 126 (by decide) hw dX8_find_101 (fun hw => ?_) (fun hw => ?_)
    · refine g_iinc (j := 5) C [(4, .int (v4 + 1)), (7, .int r9), (0, .ref (A 13)), (1, .ref (A 3)), (2, .ref (A 4)), (3, .int v3), (5, .int v5), (6, .int v6)] F.2.2.2.1 rfl rfl (by decide) rfl dX8_find_126 ?_
      refine g_goto C 21 (by decide) dX8_find_129 ?_
      refine g_eql (lv' := [(0, .ref (A 13)), (1, .ref (A 3)), (2, .ref (A 4)), (3, .int v3), (4, .int (v4 + 1))]) [2, 3, 4, 5, 0] rfl ?_
      exact hK21 σ8 v3 (v4 + 1) hw
    · refine g_aload_n C 1 rfl rfl dX8_find_104 ?_
      refine g_iload C 5 rfl dX8_find_105 ?_
      refine g_put (v := .int v4) C hK inX8 rfl tyX8 tyX8_ok nmX8 13 (ga_13 cy A _) 2 (by decide) (fun _ h => h) wt_99 rfl rfl rfl (Nat.le_of_ble_eq_true rfl) (gp_13_2 cy A _ _) dX8_find_107 ?_
      refine g_aload_n C 1 rfl rfl dX8_find_110 ?_
      refine g_iload C 5 rfl dX8_find_111 ?_
      refine g_if_ne C 120 (by decide) hw dX8_find_113 (fun hw => ?_) (fun hw => ?_)
      · refine g_iload C 0 rfl dX8_find_120 ?_
        refine g_put (v := .int r9) C hK inX8 rfl tyX8 tyX8_ok nmX8 13 (ga_13 cy A _) 3 (by decide) (fun _ h => h) wt_101 rfl rfl rfl (Nat.le_of_ble_eq_true rfl) (gp_13_3 cy A _ _) dX8_find_122 ?_
        exact gq_V C F (by decide) (by decide) hw dX8_find_125
      · refine g_iconst (v := (-1 : Int32)) C dX8_find_116 (by decide) ?_
        refine g_goto C 122 (by decide) dX8_find_117 ?_
        refine g_put (v := .int (-1 : Int32)) C hK inX8 rfl tyX8 tyX8_ok nmX8 13 (ga_13 cy A _) 3 (by decide) (fun _ h => h) wt_101 rfl rfl rfl (Nat.le_of_ble_eq_true rfl) (gp_13_3 cy A _ _) dX8_find_122 ?_
        exact gq_V C F (by decide) (by decide) hw dX8_find_125
  have J73 : ∀ (K21 : St → Int32 → Int32 → Prop) (_ : ∀ (σ : St) (v3 : Int32) (v4 : Int32), K21 σ v3 v4 → GW κ 0 0 (gW cy A σ) 21 [(0, .ref (A 13)), (1, .ref (A 3)), (2, .ref (A 4)), (3, .int v3), (4, .int v4)] []), ∀ (σ : St) (v3 : Int32) (v4 : Int32) (v5 : Int32) (v6 : Int32) (s0 : Int32), wX8_find_73 K21 Φ σ v3 v4 v5 v6 s0 → GW κ 0 0 (gW cy A σ) 73 [(0, .ref (A 13)), (1, .ref (A 3)), (2, .ref (A 4)), (3, .int v3), (4, .int v4), (5, .int v5), (6, .int v6)] [.int s0, .ref (A 13)] := by
    intro K21 hK21 σ v3 v4 v5 v6 s0 hw
    unfold wX8_find_73 at hw
    refine gc_V C (gr_V (As := [.int s0]) (rest := []) C hK 1 (gd_V wt_436 wt_437 wt_836 wt_7 wt_438) rfl rfl rfl ⟨rfl, hs_X8_step⟩ ⟨⟨Nat.le_of_ble_eq_true rfl, Nat.le_of_ble_eq_true rfl⟩, Nat.le_of_ble_eq_true rfl, Nat.le_of_ble_eq_true rfl⟩ rfl 13 (ga_13 cy A _) rfl rfl (Nat.le_of_ble_eq_true rfl) dX8_find_73 (c_X8_step (q_l κ) (q_D κ) cy A hw)) (fun σ6 hw => ?_)
    refine g_aload_n C 0 rfl rfl dX8_find_76 ?_
    refine g_aload_n C 1 rfl rfl dX8_find_77 ?_
    refine g_iload C 5 rfl dX8_find_78 ?_
    refine g_iload C 6 rfl dX8_find_80 ?_
    refine gc_V C (gr_V (As := [.ref (A 3), .int v5, .int v6]) (rest := []) C hK 3 (gd_V wt_445 wt_446 wt_838 wt_7 wt_447) rfl rfl rfl ⟨rfl, hs_X8_dropBroken⟩ ⟨⟨Nat.le_of_ble_eq_true rfl, Nat.le_of_ble_eq_true rfl⟩, Nat.le_of_ble_eq_true rfl, Nat.le_of_ble_eq_true rfl⟩ rfl 13 (ga_13 cy A _) rfl rfl (Nat.le_of_ble_eq_true rfl) dX8_find_82 (c_X8_dropBroken (q_l κ) (q_D κ) cy A hw)) (fun σ7 hw => ?_)
    exact J85 _ hK21 σ7 v3 v4 v5 v6 hw
  have J21 : ∀ (n : Nat) (σ : St) (v3 : Int32) (v4 : Int32), wX8_find_21 Φ n σ v3 v4 → GW κ 0 0 (gW cy A σ) 21 [(0, .ref (A 13)), (1, .ref (A 3)), (2, .ref (A 4)), (3, .int v3), (4, .int v4)] [] := by
    intro n
    induction n with
    | zero => intro σ v3 v4 hw; exact hw.elim
    | succ n ih =>
      intro σ v3 v4 hw
      rw [wX8_find_21] at hw
      refine g_iload C 4 rfl dX8_find_21 ?_
      refine g_bipush (v := (12 : Int32)) C dX8_find_23 (by decide) ?_
      refine g_icmp_gt C 132 (by decide) hw dX8_find_25 (fun hw => ?_) (fun hw => ?_)
      · exact gq_V C F (by decide) (by decide) hw dX8_find_132
      · refine g_aload_n C 2 rfl rfl dX8_find_28 ?_
        refine g_iconst (v := (0 : Int32)) C dX8_find_29 (by decide) ?_
        refine g_aload_n C 1 rfl rfl dX8_find_30 ?_
        refine g_get C hK inX0 rfl 3 (ga_3 cy A _) 4 (by decide) (fun _ h => h) wt_49 rfl dX8_find_31 ?_
        refine g_iload C 4 rfl dX8_find_34 ?_
        refine g_iadd C dX8_find_36 ?_
        refine gc_I C (gr_V (As := [.int (0 : Int32), .int ((σ.1 3 4) + v4)]) (rest := []) C hK 2 (gd_V wt_435 wt_197 wt_198 wt_4 wt_199) rfl rfl rfl ⟨rfl, hs_X6_weighsIn⟩ ⟨⟨Nat.le_of_ble_eq_true rfl, Nat.le_of_ble_eq_true rfl⟩, Nat.le_of_ble_eq_true rfl, Nat.le_of_ble_eq_true rfl⟩ rfl 4 (ga_4 cy A _) rfl rfl (Nat.le_of_ble_eq_true rfl) dX8_find_37 (c_X6_weighsIn (q_l κ) (q_D κ) cy A hw)) (fun r3 σ2 hw => ?_)
        refine g_istore C [(5, .int r3), (0, .ref (A 13)), (1, .ref (A 3)), (2, .ref (A 4)), (3, .int v3), (4, .int v4)] F.2.2.2.1 (by decide) rfl dX8_find_40 ?_
        refine g_aload_n C 3 rfl rfl dX8_find_42 ?_
        refine g_iconst (v := (1 : Int32)) C dX8_find_43 (by decide) ?_
        refine g_aload_n C 2 rfl rfl dX8_find_44 ?_
        refine g_get C hK inX0 rfl 3 (ga_3 cy A _) 4 (by decide) (fun _ h => h) wt_49 rfl dX8_find_45 ?_
        refine g_iload C 5 rfl dX8_find_48 ?_
        refine g_iadd C dX8_find_50 ?_
        refine gc_I C (gr_V (As := [.int (1 : Int32), .int ((σ2.1 3 4) + v4)]) (rest := []) C hK 2 (gd_V wt_435 wt_197 wt_198 wt_4 wt_199) rfl rfl rfl ⟨rfl, hs_X6_weighsIn⟩ ⟨⟨Nat.le_of_ble_eq_true rfl, Nat.le_of_ble_eq_true rfl⟩, Nat.le_of_ble_eq_true rfl, Nat.le_of_ble_eq_true rfl⟩ rfl 4 (ga_4 cy A _) rfl rfl (Nat.le_of_ble_eq_true rfl) dX8_find_51 (c_X6_weighsIn (q_l κ) (q_D κ) cy A hw)) (fun r5 σ4 hw => ?_)
        refine g_istore C [(6, .int r5), (5, .int r3), (0, .ref (A 13)), (1, .ref (A 3)), (2, .ref (A 4)), (3, .int v3), (4, .int v4)] F.2.2.2.1 (by decide) rfl dX8_find_54 ?_
        refine g_iload C 6 rfl dX8_find_56 ?_
        refine g_if_le C 85 (by decide) hw dX8_find_58 (fun hw => ?_) (fun hw => ?_)
        · refine g_eql (lv' := [(0, .ref (A 13)), (1, .ref (A 3)), (2, .ref (A 4)), (3, .int v3), (4, .int v4), (5, .int r3), (6, .int r5)]) [2, 3, 4, 5, 6, 1, 0] rfl ?_
          exact J85 _ ih σ4 v3 v4 r3 r5 hw
        · refine g_aload_n C 2 rfl rfl dX8_find_61 ?_
          refine g_iload C 6 rfl dX8_find_62 ?_
          refine g_iconst (v := (1 : Int32)) C dX8_find_64 (by decide) ?_
          refine g_icmp_ne C 72 (by decide) hw dX8_find_65 (fun hw => ?_) (fun hw => ?_)
          · refine g_iconst (v := (0 : Int32)) C dX8_find_72 (by decide) ?_
            refine g_eql (lv' := [(0, .ref (A 13)), (1, .ref (A 3)), (2, .ref (A 4)), (3, .int v3), (4, .int v4), (5, .int r3), (6, .int r5)]) [2, 3, 4, 5, 6, 1, 0] rfl ?_
            exact J73 _ ih σ4 v3 v4 r3 r5 (0 : Int32) hw
          · refine g_iconst (v := (1 : Int32)) C dX8_find_68 (by decide) ?_
            refine g_goto C 73 (by decide) dX8_find_69 ?_
            refine g_eql (lv' := [(0, .ref (A 13)), (1, .ref (A 3)), (2, .ref (A 4)), (3, .int v3), (4, .int v4), (5, .int r3), (6, .int r5)]) [2, 3, 4, 5, 6, 1, 0] rfl ?_
            exact J73 _ ih σ4 v3 v4 r3 r5 (1 : Int32) hw
  unfold wX8_find at hw
  refine g_aload_n C 0 rfl rfl dX8_find_0 ?_
  refine g_aload_n C 1 rfl rfl dX8_find_1 ?_
  refine g_get C hK inX0 rfl 3 (ga_3 cy A _) 0 (by decide) (fun _ h => h) wt_38 rfl dX8_find_2 ?_
  refine gc_V C (gr_V (As := [.int (σ.1 3 0)]) (rest := []) C hK 1 (gd_V wt_432 wt_433 wt_835 wt_7 wt_434) rfl rfl rfl ⟨rfl, hs_X8_begin⟩ ⟨⟨Nat.le_of_ble_eq_true rfl, Nat.le_of_ble_eq_true rfl⟩, Nat.le_of_ble_eq_true rfl, Nat.le_of_ble_eq_true rfl⟩ rfl 13 (ga_13 cy A _) rfl rfl (Nat.le_of_ble_eq_true rfl) dX8_find_5 (c_X8_begin (q_l κ) (q_D κ) cy A hw)) (fun σ1 hw => ?_)
  refine g_aload_n C 0 rfl rfl dX8_find_8 ?_
  refine g_iconst (v := (-1 : Int32)) C dX8_find_9 (by decide) ?_
  refine g_put (v := .int (-1 : Int32)) C hK inX8 rfl tyX8 tyX8_ok nmX8 13 (ga_13 cy A _) 2 (by decide) (fun _ h => h) wt_99 rfl rfl rfl (Nat.le_of_ble_eq_true rfl) (gp_13_2 cy A _ _) dX8_find_10 ?_
  refine g_aload_n C 0 rfl rfl dX8_find_13 ?_
  refine g_iconst (v := (-1 : Int32)) C dX8_find_14 (by decide) ?_
  refine g_put (v := .int (-1 : Int32)) C hK inX8 rfl tyX8 tyX8_ok nmX8 13 (ga_13 cy A _) 3 (by decide) (fun _ h => h) wt_101 rfl rfl rfl (Nat.le_of_ble_eq_true rfl) (gp_13_3 cy A _ _) dX8_find_15 ?_
  refine g_iconst (v := (0 : Int32)) C dX8_find_18 (by decide) ?_
  refine g_istore C [(4, .int (0 : Int32)), (0, .ref (A 13)), (1, .ref (A 3)), (2, .ref (A 4)), (3, .int v3)] F.2.2.2.1 (by decide) rfl dX8_find_19 ?_
  refine g_eql (lv' := [(0, .ref (A 13)), (1, .ref (A 3)), (2, .ref (A 4)), (3, .int v3), (4, .int (0 : Int32))]) [1, 2, 3, 4, 0] rfl ?_
  obtain ⟨n0, hw⟩ := hw
  exact J21 n0 (sV (sV σ1 13 2 (-1 : Int32)) 13 3 (-1 : Int32)) v3 (0 : Int32) hw
