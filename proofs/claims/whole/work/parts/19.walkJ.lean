set_option maxHeartbeats 4000000 in
set_option maxRecDepth 100000 in
theorem c_X12_lasts (l : Launch) (D : va_G) (cy : Nat → ClassId) (A : Nat → Nat) {σ : St} {v1 : Int32} {v2 : Int32} {Φ : Int64 → St → Prop} (hw : wX12_lasts σ v1 v2 Φ) : CtL l yX12_lasts (.code yX12_lasts cX12_lasts 3 (some .long) :: gL) rm_X12_lasts 0 0 [.ref (A 18), .int v1, .int v2] D cy A σ Φ := by
  refine ct_any (fun sz => va_Ql Φ (HE D cy A (gZ cy A σ sz)) (gZ cy A σ sz)) (by decide +kernel) rfl rfl [(0, .ref (A 18)), (1, .int v1), (2, .int v2)] rfl (Nat.le_of_ble_eq_true rfl) ?_
  intro κ hκl hnm C hK sz F
  subst hκl
  unfold wX12_lasts at hw
  refine g_iload_n C 1 rfl rfl dX12_lasts_0 ?_
  refine g_iconst (v := (1 : Int32)) C dX12_lasts_1 (by decide) ?_
  refine g_iconst (v := (4 : Int32)) C dX12_lasts_2 (by decide) ?_
  refine gc_I C (gr_S (As := [.int v1, .int (1 : Int32), .int (4 : Int32)]) (rest := []) C hK 3 (gd_S wt_645 wt_646 wt_8 wt_647) rfl rfl rfl hs_X12_within ⟨⟨Nat.le_of_ble_eq_true rfl, Nat.le_of_ble_eq_true rfl⟩, Nat.le_of_ble_eq_true rfl, Nat.le_of_ble_eq_true rfl⟩ rfl rfl (Nat.le_of_ble_eq_true rfl) dX12_lasts_3 (c_X12_within (q_l κ) (q_D κ) cy A hw)) (fun r2 σ1 hw => ?_)
  refine g_if_eq C 18 (by decide) hw dX12_lasts_6 (fun hw => ?_) (fun hw => ?_)
  · refine g_ldc2 (v := (-102 : Int64)) C dX12_lasts_18 wt_777 ?_
    exact gq_L C F (by decide) (by decide) hw dX12_lasts_21
  · refine g_iload_n C 2 rfl rfl dX12_lasts_9 ?_
    refine g_iconst (v := (0 : Int32)) C dX12_lasts_10 (by decide) ?_
    refine g_iconst (v := (1 : Int32)) C dX12_lasts_11 (by decide) ?_
    refine gc_I C (gr_S (As := [.int v2, .int (0 : Int32), .int (1 : Int32)]) (rest := []) C hK 3 (gd_S wt_645 wt_646 wt_8 wt_647) rfl rfl rfl hs_X12_within ⟨⟨Nat.le_of_ble_eq_true rfl, Nat.le_of_ble_eq_true rfl⟩, Nat.le_of_ble_eq_true rfl, Nat.le_of_ble_eq_true rfl⟩ rfl rfl (Nat.le_of_ble_eq_true rfl) dX12_lasts_12 (c_X12_within (q_l κ) (q_D κ) cy A hw)) (fun r4 σ3 hw => ?_)
    refine g_if_ne C 22 (by decide) hw dX12_lasts_15 (fun hw => ?_) (fun hw => ?_)
    · refine g_aload_n C 0 rfl rfl dX12_lasts_22 ?_
      refine g_get C hK inX12 rfl 18 (ga_18 cy A _) 0 (by decide) (fun _ h => h) wt_585 rfl dX12_lasts_23 ?_
      refine g_if_eq C 45 (by decide) hw dX12_lasts_26 (fun hw => ?_) (fun hw => ?_)
      · refine g_ldc2 (v := (-103 : Int64)) C dX12_lasts_45 wt_788 ?_
        exact gq_L C F (by decide) (by decide) hw dX12_lasts_48
      · refine g_aload_n C 0 rfl rfl dX12_lasts_29 ?_
        refine g_get C hK inX12 rfl 18 (ga_18 cy A _) 6 (by decide) (fun _ h => h) wt_591 rfl dX12_lasts_30 ?_
        refine g_if_ne C 45 (by decide) hw dX12_lasts_33 (fun hw => ?_) (fun hw => ?_)
        · refine g_ldc2 (v := (-103 : Int64)) C dX12_lasts_45 wt_788 ?_
          exact gq_L C F (by decide) (by decide) hw dX12_lasts_48
        · refine g_aload_n C 0 rfl rfl dX12_lasts_36 ?_
          refine g_iload_n C 1 rfl rfl dX12_lasts_37 ?_
          refine g_iload_n C 2 rfl rfl dX12_lasts_38 ?_
          refine gc_L C (gr_V (As := [.int v1, .int v2]) (rest := []) C hK 2 (gd_V wt_778 wt_779 wt_865 wt_8 wt_780) rfl rfl rfl ⟨rfl, hs_X12_lastsNow⟩ ⟨⟨Nat.le_of_ble_eq_true rfl, Nat.le_of_ble_eq_true rfl⟩, Nat.le_of_ble_eq_true rfl, Nat.le_of_ble_eq_true rfl⟩ rfl 18 (ga_18 cy A _) rfl rfl (Nat.le_of_ble_eq_true rfl) dX12_lasts_39 (c_X12_lastsNow (q_l κ) (q_D κ) cy A hw)) (fun r6 σ5 hw => ?_)
          refine g_goto C 48 (by decide) dX12_lasts_42 ?_
          exact gq_L C F (by decide) (by decide) hw dX12_lasts_48
    · refine g_ldc2 (v := (-102 : Int64)) C dX12_lasts_18 wt_777 ?_
      exact gq_L C F (by decide) (by decide) hw dX12_lasts_21
set_option maxHeartbeats 4000000 in
set_option maxRecDepth 100000 in
theorem c_X12_draw (l : Launch) (D : va_G) (cy : Nat → ClassId) (A : Nat → Nat) {σ : St} {v1 : Int32} {Φ : Int32 → St → Prop} (hw : wX12_draw σ v1 Φ) : CtI l yX12_draw (.code yX12_draw cX12_draw 2 (some .int) :: gL) rm_X12_draw 0 0 [.ref (A 18), .int v1] D cy A σ Φ := by
  refine ct_any (fun sz => va_Qi Φ (HE D cy A (gZ cy A σ sz)) (gZ cy A σ sz)) (by decide +kernel) rfl rfl [(0, .ref (A 18)), (1, .int v1)] rfl (Nat.le_of_ble_eq_true rfl) ?_
  intro κ hκl hnm C hK sz F
  subst hκl
  unfold wX12_draw at hw
  refine g_aload_n C 0 rfl rfl dX12_draw_0 ?_
  refine g_ldc2 (v := (1103515245 : Int64)) C dX12_draw_1 wt_799 ?_
  refine g_aload_n C 0 rfl rfl dX12_draw_4 ?_
  refine g_get C hK inX12 rfl 18 (ga_18 cy A _) 29 (by decide) (fun _ h => h) wt_614 rfl dX12_draw_5 ?_
  refine g_lmul C dX12_draw_8 ?_
  refine g_ldc2 (v := (12345 : Int64)) C dX12_draw_9 wt_800 ?_
  refine g_ladd C dX12_draw_12 ?_
  refine g_ldc2 (v := (2147483647 : Int64)) C dX12_draw_13 wt_801 ?_
  refine g_land C dX12_draw_16 ?_
  refine g_put (v := .long ((((1103515245 : Int64) * (σ.2.1 0)) + (12345 : Int64)) &&& (2147483647 : Int64))) C hK inX12 rfl tyX12 tyX12_ok nmX12 18 (ga_18 cy A _) 29 (by decide) (fun _ h => h) wt_614 rfl rfl rfl (Nat.le_of_ble_eq_true rfl) (gp_18_29 cy A _ _) dX12_draw_17 ?_
  refine g_aload_n C 0 rfl rfl dX12_draw_20 ?_
  refine g_get C hK inX12 rfl 18 (ga_18 cy A _) 29 (by decide) (fun _ h => h) wt_614 rfl dX12_draw_21 ?_
  refine g_ldc2 (v := (65536 : Int64)) C dX12_draw_24 wt_802 ?_
  refine g_ldiv C hw.1 dX12_draw_27 ?_
  replace hw := hw.2
  refine g_iload_n C 1 rfl rfl dX12_draw_28 ?_
  refine g_i2l C dX12_draw_29 ?_
  refine g_lrem C hw.1 dX12_draw_30 ?_
  replace hw := hw.2
  refine g_l2i C dX12_draw_31 ?_
  exact gq_I C F (by decide) (by decide) hw dX12_draw_32
set_option maxHeartbeats 4000000 in
set_option maxRecDepth 100000 in
theorem c_X12_whirlsNow (l : Launch) (D : va_G) (cy : Nat → ClassId) (A : Nat → Nat) {σ : St} {v1 : Int32} {v2 : Int32} {v3 : Int32} {Φ : Int32 → St → Prop} (hw : wX12_whirlsNow σ v1 v2 v3 Φ) : CtI l yX12_whirlsNow (.code yX12_whirlsNow cX12_whirlsNow 10 (some .int) :: gL) rm_X12_whirlsNow 0 0 [.ref (A 18), .int v1, .int v2, .int v3] D cy A σ Φ := by
  refine ct_any (fun sz => va_Qi Φ (HE D cy A (gZ cy A σ sz)) (gZ cy A σ sz)) (by decide +kernel) rfl rfl [(0, .ref (A 18)), (1, .int v1), (2, .int v2), (3, .int v3)] rfl (Nat.le_of_ble_eq_true rfl) ?_
  intro κ hκl hnm C hK sz F
  subst hκl
  have J129 : ∀ (σ : St) (v4 : Int32) (v5 : Int32) (v6 : Int32) (s0 : Int32), wX12_whirlsNow_129 Φ σ v4 v5 v6 s0 → GW κ 0 0 (gW cy A σ) 129 [(0, .ref (A 18)), (4, .int v4), (5, .int v5), (6, .int v6)] [.int s0] := by
    intro σ v4 v5 v6 s0 hw
    unfold wX12_whirlsNow_129 at hw
    refine g_istore C [(8, .int s0), (0, .ref (A 18)), (4, .int v4), (5, .int v5), (6, .int v6)] F.2.2.2.1 (by decide) rfl dX12_whirlsNow_129 ?_
    refine g_aload_n C 1 rfl rfl dX12_whirlsNow_131 ?_
    refine g_iload C 2 rfl dX12_whirlsNow_132 ?_
    refine g_put (v := .int v4) C hK inX12 rfl tyX12 tyX12_ok nmX12 18 (ga_18 cy A _) 2 (by decide) (fun _ h => h) wt_587 rfl rfl rfl (Nat.le_of_ble_eq_true rfl) (gp_18_2 cy A _ _) dX12_whirlsNow_134 ?_
    refine g_aload_n C 1 rfl rfl dX12_whirlsNow_137 ?_
    refine g_iload C 3 rfl dX12_whirlsNow_138 ?_
    refine g_put (v := .int v5) C hK inX12 rfl tyX12 tyX12_ok nmX12 18 (ga_18 cy A _) 7 (by decide) (fun _ h => h) wt_592 rfl rfl rfl (Nat.le_of_ble_eq_true rfl) (gp_18_7 cy A _ _) dX12_whirlsNow_140 ?_
    refine g_aload_n C 1 rfl rfl dX12_whirlsNow_143 ?_
    refine g_iload C 4 rfl dX12_whirlsNow_144 ?_
    refine g_put (v := .int v6) C hK inX12 rfl tyX12 tyX12_ok nmX12 18 (ga_18 cy A _) 8 (by decide) (fun _ h => h) wt_593 rfl rfl rfl (Nat.le_of_ble_eq_true rfl) (gp_18_8 cy A _ _) dX12_whirlsNow_146 ?_
    refine g_aload_n C 1 rfl rfl dX12_whirlsNow_149 ?_
    refine g_iconst (v := (0 : Int32)) C dX12_whirlsNow_150 (by decide) ?_
    refine g_put (v := .int (0 : Int32)) C hK inX12 rfl tyX12 tyX12_ok nmX12 18 (ga_18 cy A _) 6 (by decide) (fun _ h => h) wt_591 rfl (by rcases hw.1 with e | e <;> rw [e] <;> rfl) (by rcases hw.1 with e | e <;> rw [e] <;> rfl) (Nat.le_of_ble_eq_true rfl) (gp_18_6 cy A _ _) dX12_whirlsNow_151 ?_
    replace hw := hw.2
    refine g_iload C 0 rfl dX12_whirlsNow_154 ?_
    exact gq_I C F (by decide) (by decide) hw dX12_whirlsNow_156
  have J86 : ∀ (σ : St) (v3 : Int32) (v4 : Int32) (v5 : Int32) (v6 : Int32), wX12_whirlsNow_86 Φ σ v3 v4 v5 v6 → GW κ 0 0 (gW cy A σ) 86 [(0, .ref (A 18)), (3, .int v3), (4, .int v4), (5, .int v5), (6, .int v6)] [] := by
    intro σ v3 v4 v5 v6 hw
    unfold wX12_whirlsNow_86 at hw
    refine g_iload_n C 1 rfl rfl dX12_whirlsNow_86 ?_
    refine g_if_ne C 97 (by decide) hw dX12_whirlsNow_87 (fun hw => ?_) (fun hw => ?_)
    · refine g_iload_n C 1 rfl rfl dX12_whirlsNow_97 ?_
      refine g_iconst (v := (1 : Int32)) C dX12_whirlsNow_98 (by decide) ?_
      refine g_icmp_ne C 109 (by decide) hw dX12_whirlsNow_99 (fun hw => ?_) (fun hw => ?_)
      · refine g_iload_n C 1 rfl rfl dX12_whirlsNow_109 ?_
        refine g_iconst (v := (2 : Int32)) C dX12_whirlsNow_110 (by decide) ?_
        refine g_icmp_ne C 124 (by decide) hw dX12_whirlsNow_111 (fun hw => ?_) (fun hw => ?_)
        · refine g_aload_n C 0 rfl rfl dX12_whirlsNow_124 ?_
          refine g_get C hK inX12 rfl 18 (ga_18 cy A _) 29 (by decide) (fun _ h => h) wt_614 rfl dX12_whirlsNow_125 ?_
          refine g_l2i C dX12_whirlsNow_128 ?_
          refine g_eql (lv' := [(0, .ref (A 18)), (4, .int v4), (5, .int v5), (6, .int v6)]) [0, 2, 3, 4] rfl ?_
          exact J129 σ v4 v5 v6 (σ.2.1 0).toInt32 hw
        · refine g_aload_n C 0 rfl rfl dX12_whirlsNow_114 ?_
          refine g_get C hK inX12 rfl 18 (ga_18 cy A _) 8 (by decide) (fun _ h => h) wt_593 rfl dX12_whirlsNow_115 ?_
          refine g_iload C 4 rfl dX12_whirlsNow_118 ?_
          refine g_isub C dX12_whirlsNow_120 ?_
          refine g_goto C 129 (by decide) dX12_whirlsNow_121 ?_
          refine g_eql (lv' := [(0, .ref (A 18)), (4, .int v4), (5, .int v5), (6, .int v6)]) [0, 2, 3, 4] rfl ?_
          exact J129 σ v4 v5 v6 ((σ.1 18 8) - v6) hw
      · refine g_aload_n C 0 rfl rfl dX12_whirlsNow_102 ?_
        refine g_get C hK inX12 rfl 18 (ga_18 cy A _) 7 (by decide) (fun _ h => h) wt_592 rfl dX12_whirlsNow_103 ?_
        refine g_goto C 129 (by decide) dX12_whirlsNow_106 ?_
        refine g_eql (lv' := [(0, .ref (A 18)), (4, .int v4), (5, .int v5), (6, .int v6)]) [0, 2, 3, 4] rfl ?_
        exact J129 σ v4 v5 v6 (σ.1 18 7) hw
    · refine g_aload_n C 0 rfl rfl dX12_whirlsNow_90 ?_
      refine g_get C hK inX12 rfl 18 (ga_18 cy A _) 2 (by decide) (fun _ h => h) wt_587 rfl dX12_whirlsNow_91 ?_
      refine g_goto C 129 (by decide) dX12_whirlsNow_94 ?_
      refine g_eql (lv' := [(0, .ref (A 18)), (4, .int v4), (5, .int v5), (6, .int v6)]) [0, 2, 3, 4] rfl ?_
      exact J129 σ v4 v5 v6 (σ.1 18 2) hw
  have J75 : ∀ (K30 : St → Int32 → Int32 → Int32 → Int32 → Int32 → Int32 → Int32 → Prop) (_ : ∀ (σ : St) (v1 : Int32) (v3 : Int32) (v4 : Int32) (v5 : Int32) (v6 : Int32) (v7 : Int32) (v8 : Int32), K30 σ v1 v3 v4 v5 v6 v7 v8 → GW κ 0 0 (gW cy A σ) 30 [(0, .ref (A 18)), (1, .int v1), (3, .int v3), (4, .int v4), (5, .int v5), (6, .int v6), (7, .int v7), (8, .int v8)] []), ∀ (σ : St) (v1 : Int32) (v3 : Int32) (v4 : Int32) (v5 : Int32) (v6 : Int32) (v8 : Int32) (s0 : Int32), wX12_whirlsNow_75 K30 Φ σ v1 v3 v4 v5 v6 v8 s0 → GW κ 0 0 (gW cy A σ) 75 [(0, .ref (A 18)), (1, .int v1), (3, .int v3), (4, .int v4), (5, .int v5), (6, .int v6), (8, .int v8)] [.int s0, .ref (A 18)] := by
    intro K30 hK30 σ v1 v3 v4 v5 v6 v8 s0 hw
    unfold wX12_whirlsNow_75 at hw
    refine gc_I C (gr_V (As := [.int s0]) (rest := []) C hK 1 (gd_V wt_712 wt_713 wt_856 wt_8 wt_714) rfl rfl rfl ⟨rfl, hs_X12_goHour⟩ ⟨⟨Nat.le_of_ble_eq_true rfl, Nat.le_of_ble_eq_true rfl⟩, Nat.le_of_ble_eq_true rfl, Nat.le_of_ble_eq_true rfl⟩ rfl 18 (ga_18 cy A _) rfl rfl (Nat.le_of_ble_eq_true rfl) dX12_whirlsNow_75 (c_X12_goHour (q_l κ) (q_D κ) cy A hw)) (fun r8 σ7 hw => ?_)
    refine g_istore C [(7, .int r8), (0, .ref (A 18)), (1, .int v1), (3, .int v3), (4, .int v4), (5, .int v5), (6, .int v6), (8, .int v8)] F.2.2.2.1 (by decide) rfl dX12_whirlsNow_78 ?_
    refine g_iinc (j := 7) C [(8, .int (v8 + 1)), (7, .int r8), (0, .ref (A 18)), (1, .int v1), (3, .int v3), (4, .int v4), (5, .int v5), (6, .int v6)] F.2.2.2.1 rfl rfl (by decide) rfl dX12_whirlsNow_80 ?_
    refine g_goto C 30 (by decide) dX12_whirlsNow_83 ?_
    refine g_eql (lv' := [(0, .ref (A 18)), (1, .int v1), (3, .int v3), (4, .int v4), (5, .int v5), (6, .int v6), (7, .int r8), (8, .int (v8 + 1))]) [2, 3, 4, 5, 6, 7, 1, 0] rfl ?_
    exact hK30 σ7 v1 v3 v4 v5 v6 r8 (v8 + 1) hw
  have J30 : ∀ (n : Nat) (σ : St) (v1 : Int32) (v3 : Int32) (v4 : Int32) (v5 : Int32) (v6 : Int32) (v7 : Int32) (v8 : Int32), wX12_whirlsNow_30 Φ n σ v1 v3 v4 v5 v6 v7 v8 → GW κ 0 0 (gW cy A σ) 30 [(0, .ref (A 18)), (1, .int v1), (3, .int v3), (4, .int v4), (5, .int v5), (6, .int v6), (7, .int v7), (8, .int v8)] [] := by
    intro n
    induction n with
    | zero => intro σ v1 v3 v4 v5 v6 v7 v8 hw; exact hw.elim
    | succ n ih =>
      intro σ v1 v3 v4 v5 v6 v7 v8 hw
      rw [wX12_whirlsNow_30] at hw
      refine g_iload C 7 rfl dX12_whirlsNow_30 ?_
      refine g_iload_n C 1 rfl rfl dX12_whirlsNow_32 ?_
      refine g_icmp_ge C 86 (by decide) hw dX12_whirlsNow_33 (fun hw => ?_) (fun hw => ?_)
      · refine g_eql (lv' := [(0, .ref (A 18)), (3, .int v3), (4, .int v4), (5, .int v5), (6, .int v6)]) [0, 2, 3, 4, 5] rfl ?_
        exact J86 σ v3 v4 v5 v6 hw
      · refine g_iload C 6 rfl dX12_whirlsNow_36 ?_
        refine g_if_eq C 86 (by decide) hw dX12_whirlsNow_38 (fun hw => ?_) (fun hw => ?_)
        · refine g_eql (lv' := [(0, .ref (A 18)), (3, .int v3), (4, .int v4), (5, .int v5), (6, .int v6)]) [0, 2, 3, 4, 5] rfl ?_
          exact J86 σ v3 v4 v5 v6 hw
        · refine g_aload_n C 0 rfl rfl dX12_whirlsNow_41 ?_
          refine g_get C hK inX12 rfl 18 (ga_18 cy A _) 2 (by decide) (fun _ h => h) wt_587 rfl dX12_whirlsNow_42 ?_
          refine g_aload_n C 0 rfl rfl dX12_whirlsNow_45 ?_
          refine g_bipush (v := (7 : Int32)) C dX12_whirlsNow_46 (by decide) ?_
          refine gc_I C (gr_V (As := [.int (7 : Int32)]) (rest := [.int (σ.1 18 2)]) C hK 1 (gd_V wt_796 wt_797 wt_868 wt_8 wt_798) rfl rfl rfl ⟨rfl, hs_X12_draw⟩ ⟨⟨Nat.le_of_ble_eq_true rfl, Nat.le_of_ble_eq_true rfl⟩, Nat.le_of_ble_eq_true rfl, Nat.le_of_ble_eq_true rfl⟩ rfl 18 (ga_18 cy A _) rfl rfl (Nat.le_of_ble_eq_true rfl) dX12_whirlsNow_48 (c_X12_draw (q_l κ) (q_D κ) cy A hw)) (fun r2 σ1 hw => ?_)
          refine gc_I C (gr_S (As := [.int r2]) (rest := [.int (σ.1 18 2)]) C hK 1 (gd_S wt_745 wt_746 wt_8 wt_747) rfl rfl rfl hs_X12_by ⟨⟨Nat.le_of_ble_eq_true rfl, Nat.le_of_ble_eq_true rfl⟩, Nat.le_of_ble_eq_true rfl, Nat.le_of_ble_eq_true rfl⟩ rfl rfl (Nat.le_of_ble_eq_true rfl) dX12_whirlsNow_51 (c_X12_by (q_l κ) (q_D κ) cy A hw)) (fun r4 σ3 hw => ?_)
          refine g_isub C dX12_whirlsNow_54 ?_
          refine g_istore C [(9, .int ((σ.1 18 2) - r4)), (0, .ref (A 18)), (1, .int v1), (3, .int v3), (4, .int v4), (5, .int v5), (6, .int v6), (7, .int v7), (8, .int v8)] F.2.2.2.1 (by decide) rfl dX12_whirlsNow_55 ?_
          refine g_aload_n C 1 rfl rfl dX12_whirlsNow_57 ?_
          refine g_iload C 0 rfl dX12_whirlsNow_58 ?_
          refine gc_I C (gr_S (As := [.int ((σ.1 18 2) - r4)]) (rest := [.ref (A 18)]) C hK 1 (gd_S wt_709 wt_710 wt_8 wt_711) rfl rfl rfl hs_X12_mayBe ⟨⟨Nat.le_of_ble_eq_true rfl, Nat.le_of_ble_eq_true rfl⟩, Nat.le_of_ble_eq_true rfl, Nat.le_of_ble_eq_true rfl⟩ rfl rfl (Nat.le_of_ble_eq_true rfl) dX12_whirlsNow_60 (c_X12_mayBe (q_l κ) (q_D κ) cy A hw)) (fun r6 σ5 hw => ?_)
          refine g_if_eq C 71 (by decide) hw dX12_whirlsNow_63 (fun hw => ?_) (fun hw => ?_)
          · refine g_aload_n C 1 rfl rfl dX12_whirlsNow_71 ?_
            refine g_get C hK inX12 rfl 18 (ga_18 cy A _) 2 (by decide) (fun _ h => h) wt_587 rfl dX12_whirlsNow_72 ?_
            refine g_eql (lv' := [(0, .ref (A 18)), (1, .int v1), (3, .int v3), (4, .int v4), (5, .int v5), (6, .int v6), (8, .int v8)]) [1, 2, 3, 4, 5, 6, 8] rfl ?_
            exact J75 _ ih σ5 v1 v3 v4 v5 v6 v8 (σ5.1 18 2) hw
          · refine g_iload C 0 rfl dX12_whirlsNow_66 ?_
            refine g_goto C 75 (by decide) dX12_whirlsNow_68 ?_
            refine g_eql (lv' := [(0, .ref (A 18)), (1, .int v1), (3, .int v3), (4, .int v4), (5, .int v5), (6, .int v6), (8, .int v8)]) [1, 2, 3, 4, 5, 6, 8] rfl ?_
            exact J75 _ ih σ5 v1 v3 v4 v5 v6 v8 ((σ.1 18 2) - r4) hw
  unfold wX12_whirlsNow at hw
  refine g_aload_n C 0 rfl rfl dX12_whirlsNow_0 ?_
  refine g_get C hK inX12 rfl 18 (ga_18 cy A _) 2 (by decide) (fun _ h => h) wt_587 rfl dX12_whirlsNow_1 ?_
  refine g_istore C [(4, .int (σ.1 18 2)), (0, .ref (A 18)), (1, .int v1), (2, .int v2), (3, .int v3)] F.2.2.2.1 (by decide) rfl dX12_whirlsNow_4 ?_
  refine g_aload_n C 1 rfl rfl dX12_whirlsNow_6 ?_
  refine g_get C hK inX12 rfl 18 (ga_18 cy A _) 7 (by decide) (fun _ h => h) wt_592 rfl dX12_whirlsNow_7 ?_
  refine g_istore C [(5, .int (σ.1 18 7)), (4, .int (σ.1 18 2)), (0, .ref (A 18)), (1, .int v1), (2, .int v2), (3, .int v3)] F.2.2.2.1 (by decide) rfl dX12_whirlsNow_10 ?_
  refine g_aload_n C 2 rfl rfl dX12_whirlsNow_12 ?_
  refine g_get C hK inX12 rfl 18 (ga_18 cy A _) 8 (by decide) (fun _ h => h) wt_593 rfl dX12_whirlsNow_13 ?_
  refine g_istore C [(6, .int (σ.1 18 8)), (5, .int (σ.1 18 7)), (4, .int (σ.1 18 2)), (0, .ref (A 18)), (1, .int v1), (2, .int v2), (3, .int v3)] F.2.2.2.1 (by decide) rfl dX12_whirlsNow_16 ?_
  refine g_aload_n C 3 rfl rfl dX12_whirlsNow_18 ?_
  refine g_iload_n C 5 rfl rfl dX12_whirlsNow_19 ?_
  refine g_i2l C dX12_whirlsNow_20 ?_
  refine g_put (v := .long v2.toInt64) C hK inX12 rfl tyX12 tyX12_ok nmX12 18 (ga_18 cy A _) 29 (by decide) (fun _ h => h) wt_614 rfl rfl rfl (Nat.le_of_ble_eq_true rfl) (gp_18_29 cy A _ _) dX12_whirlsNow_21 ?_
  refine g_iconst (v := (1 : Int32)) C dX12_whirlsNow_24 (by decide) ?_
  refine g_istore C [(7, .int (1 : Int32)), (6, .int (σ.1 18 8)), (5, .int (σ.1 18 7)), (4, .int (σ.1 18 2)), (0, .ref (A 18)), (1, .int v1), (2, .int v2), (3, .int v3)] F.2.2.2.1 (by decide) rfl dX12_whirlsNow_25 ?_
  refine g_iconst (v := (0 : Int32)) C dX12_whirlsNow_27 (by decide) ?_
  refine g_istore C [(8, .int (0 : Int32)), (7, .int (1 : Int32)), (6, .int (σ.1 18 8)), (5, .int (σ.1 18 7)), (4, .int (σ.1 18 2)), (0, .ref (A 18)), (1, .int v1), (2, .int v2), (3, .int v3)] F.2.2.2.1 (by decide) rfl dX12_whirlsNow_28 ?_
  refine g_eql (lv' := [(0, .ref (A 18)), (1, .int v1), (3, .int v3), (4, .int (σ.1 18 2)), (5, .int (σ.1 18 7)), (6, .int (σ.1 18 8)), (7, .int (1 : Int32)), (8, .int (0 : Int32))]) [5, 6, 8, 4, 3, 2, 1, 0] rfl ?_
  obtain ⟨n0, hw⟩ := hw
  exact J30 n0 (sJ σ 0 v2.toInt64) v1 v3 (σ.1 18 2) (σ.1 18 7) (σ.1 18 8) (1 : Int32) (0 : Int32) hw
set_option maxHeartbeats 4000000 in
set_option maxRecDepth 100000 in
theorem c_X12_whirls (l : Launch) (D : va_G) (cy : Nat → ClassId) (A : Nat → Nat) {σ : St} {v1 : Int32} {v2 : Int32} {v3 : Int32} {Φ : Int32 → St → Prop} (hw : wX12_whirls σ v1 v2 v3 Φ) : CtI l yX12_whirls (.code yX12_whirls cX12_whirls 4 (some .int) :: gL) rm_X12_whirls 0 0 [.ref (A 18), .int v1, .int v2, .int v3] D cy A σ Φ := by
  refine ct_any (fun sz => va_Qi Φ (HE D cy A (gZ cy A σ sz)) (gZ cy A σ sz)) (by decide +kernel) rfl rfl [(0, .ref (A 18)), (1, .int v1), (2, .int v2), (3, .int v3)] rfl (Nat.le_of_ble_eq_true rfl) ?_
  intro κ hκl hnm C hK sz F
  subst hκl
  unfold wX12_whirls at hw
  refine g_iload_n C 1 rfl rfl dX12_whirls_0 ?_
  refine g_iconst (v := (1 : Int32)) C dX12_whirls_1 (by decide) ?_
  refine g_bipush (v := (60 : Int32)) C dX12_whirls_2 (by decide) ?_
  refine gc_I C (gr_S (As := [.int v1, .int (1 : Int32), .int (60 : Int32)]) (rest := []) C hK 3 (gd_S wt_645 wt_646 wt_8 wt_647) rfl rfl rfl hs_X12_within ⟨⟨Nat.le_of_ble_eq_true rfl, Nat.le_of_ble_eq_true rfl⟩, Nat.le_of_ble_eq_true rfl, Nat.le_of_ble_eq_true rfl⟩ rfl rfl (Nat.le_of_ble_eq_true rfl) dX12_whirls_4 (c_X12_within (q_l κ) (q_D κ) cy A hw)) (fun r2 σ1 hw => ?_)
  refine g_if_eq C 23 (by decide) hw dX12_whirls_7 (fun hw => ?_) (fun hw => ?_)
  · refine g_bipush (v := (-102 : Int32)) C dX12_whirls_23 (by decide) ?_
    exact gq_I C F (by decide) (by decide) hw dX12_whirls_25
  · refine g_iload_n C 2 rfl rfl dX12_whirls_10 ?_
    refine g_if_lt C 23 (by decide) hw dX12_whirls_11 (fun hw => ?_) (fun hw => ?_)
    · refine g_bipush (v := (-102 : Int32)) C dX12_whirls_23 (by decide) ?_
      exact gq_I C F (by decide) (by decide) hw dX12_whirls_25
    · refine g_iload_n C 3 rfl rfl dX12_whirls_14 ?_
      refine g_iconst (v := (0 : Int32)) C dX12_whirls_15 (by decide) ?_
      refine g_iconst (v := (3 : Int32)) C dX12_whirls_16 (by decide) ?_
      refine gc_I C (gr_S (As := [.int v3, .int (0 : Int32), .int (3 : Int32)]) (rest := []) C hK 3 (gd_S wt_645 wt_646 wt_8 wt_647) rfl rfl rfl hs_X12_within ⟨⟨Nat.le_of_ble_eq_true rfl, Nat.le_of_ble_eq_true rfl⟩, Nat.le_of_ble_eq_true rfl, Nat.le_of_ble_eq_true rfl⟩ rfl rfl (Nat.le_of_ble_eq_true rfl) dX12_whirls_17 (c_X12_within (q_l κ) (q_D κ) cy A hw)) (fun r4 σ3 hw => ?_)
      refine g_if_ne C 26 (by decide) hw dX12_whirls_20 (fun hw => ?_) (fun hw => ?_)
      · refine g_aload_n C 0 rfl rfl dX12_whirls_26 ?_
        refine g_get C hK inX12 rfl 18 (ga_18 cy A _) 0 (by decide) (fun _ h => h) wt_585 rfl dX12_whirls_27 ?_
        refine g_if_eq C 50 (by decide) hw dX12_whirls_30 (fun hw => ?_) (fun hw => ?_)
        · refine g_bipush (v := (-103 : Int32)) C dX12_whirls_50 (by decide) ?_
          exact gq_I C F (by decide) (by decide) hw dX12_whirls_52
        · refine g_aload_n C 0 rfl rfl dX12_whirls_33 ?_
          refine g_get C hK inX12 rfl 18 (ga_18 cy A _) 6 (by decide) (fun _ h => h) wt_591 rfl dX12_whirls_34 ?_
          refine g_if_ne C 50 (by decide) hw dX12_whirls_37 (fun hw => ?_) (fun hw => ?_)
          · refine g_bipush (v := (-103 : Int32)) C dX12_whirls_50 (by decide) ?_
            exact gq_I C F (by decide) (by decide) hw dX12_whirls_52
          · refine g_aload_n C 0 rfl rfl dX12_whirls_40 ?_
            refine g_iload_n C 1 rfl rfl dX12_whirls_41 ?_
            refine g_iload_n C 2 rfl rfl dX12_whirls_42 ?_
            refine g_iload_n C 3 rfl rfl dX12_whirls_43 ?_
            refine gc_I C (gr_V (As := [.int v1, .int v2, .int v3]) (rest := []) C hK 3 (gd_V wt_793 wt_794 wt_867 wt_8 wt_795) rfl rfl rfl ⟨rfl, hs_X12_whirlsNow⟩ ⟨⟨Nat.le_of_ble_eq_true rfl, Nat.le_of_ble_eq_true rfl⟩, Nat.le_of_ble_eq_true rfl, Nat.le_of_ble_eq_true rfl⟩ rfl 18 (ga_18 cy A _) rfl rfl (Nat.le_of_ble_eq_true rfl) dX12_whirls_44 (c_X12_whirlsNow (q_l κ) (q_D κ) cy A hw)) (fun r6 σ5 hw => ?_)
            refine g_goto C 52 (by decide) dX12_whirls_47 ?_
            exact gq_I C F (by decide) (by decide) hw dX12_whirls_52
      · refine g_bipush (v := (-102 : Int32)) C dX12_whirls_23 (by decide) ?_
        exact gq_I C F (by decide) (by decide) hw dX12_whirls_25
set_option maxHeartbeats 4000000 in
set_option maxRecDepth 100000 in
theorem c_X12_image (l : Launch) (D : va_G) (cy : Nat → ClassId) (A : Nat → Nat) {σ : St} {Φ : Int32 → St → Prop} (hw : wX12_image σ Φ) : CtI l yX12_image (.code yX12_image cX12_image 2 (some .int) :: gL) rm_X12_image 0 0 [.ref (A 18)] D cy A σ Φ := by
  refine ct_any (fun sz => va_Qi Φ (HE D cy A (gZ cy A σ sz)) (gZ cy A σ sz)) (by decide +kernel) rfl rfl [(0, .ref (A 18))] rfl (Nat.le_of_ble_eq_true rfl) ?_
  intro κ hκl hnm C hK sz F
  subst hκl
  have J65 : ∀ (n : Nat) (σ : St) (v1 : Int32), wX12_image_65 Φ n σ v1 → GW κ 0 0 (gW cy A σ) 65 [(0, .ref (A 18)), (1, .int v1)] [] := by
    intro n
    induction n with
    | zero => intro σ v1 hw; exact hw.elim
    | succ n ih =>
      intro σ v1 hw
      rw [wX12_image_65] at hw
      refine g_iload_n C 1 rfl rfl dX12_image_65 ?_
      refine g_bipush (v := (6 : Int32)) C dX12_image_66 (by decide) ?_
      refine g_icmp_ge C 101 (by decide) hw dX12_image_68 (fun hw => ?_) (fun hw => ?_)
      · refine g_aload_n C 0 rfl rfl dX12_image_101 ?_
        refine g_get C hK inX12 rfl 18 (ga_18 cy A _) 8 (by decide) (fun _ h => h) wt_593 rfl dX12_image_102 ?_
        exact gq_I C F (by decide) (by decide) hw dX12_image_105
      · refine g_aload_n C 0 rfl rfl dX12_image_71 ?_
        refine g_get C hK inX12 rfl 18 (ga_18 cy A _) 37 (by decide) (fun _ h => h) wt_622 rfl dX12_image_72 ?_
        refine g_iload_n C 1 rfl rfl dX12_image_75 ?_
        refine g_aload_n C 0 rfl rfl dX12_image_76 ?_
        refine g_get C hK inX12 rfl 18 (ga_18 cy A _) 12 (by decide) (fun _ h => h) wt_597 rfl dX12_image_77 ?_
        refine g_iload_n C 1 rfl rfl dX12_image_80 ?_
        refine g_iald C hK 21 2 (ga_21 cy A _) rfl hw.1 dX12_image_81 ?_
        replace hw := hw.2
        refine g_iast C hK 28 2 (ga_28 cy A _) rfl hw.1 (gs_28 cy A _ _ _) dX12_image_82 ?_
        replace hw := hw.2
        refine g_aload_n C 0 rfl rfl dX12_image_83 ?_
        refine g_get C hK inX12 rfl 18 (ga_18 cy A _) 38 (by decide) (fun _ h => h) wt_623 rfl dX12_image_84 ?_
        refine g_iload_n C 1 rfl rfl dX12_image_87 ?_
        refine g_aload_n C 0 rfl rfl dX12_image_88 ?_
        refine g_get C hK inX12 rfl 18 (ga_18 cy A _) 13 (by decide) (fun _ h => h) wt_598 rfl dX12_image_89 ?_
        refine g_iload_n C 1 rfl rfl dX12_image_92 ?_
        refine g_iald C hK 22 2 (ga_22 cy A _) rfl hw.1 dX12_image_93 ?_
        replace hw := hw.2
        refine g_iast C hK 29 2 (ga_29 cy A _) rfl hw.1 (gs_29 cy A _ _ _) dX12_image_94 ?_
        replace hw := hw.2
        refine g_iinc (j := 1) C [(1, .int (v1 + 1)), (0, .ref (A 18))] F.2.2.2.1 rfl rfl (by decide) rfl dX12_image_95 ?_
        refine g_goto C 65 (by decide) dX12_image_98 ?_
        refine g_eql (lv' := [(0, .ref (A 18)), (1, .int (v1 + 1))]) [1, 0] rfl ?_
        exact ih (sV (sV σ 28 v1.toNatClampNeg (σ.1 21 v1.toNatClampNeg)) 29 v1.toNatClampNeg ((sV σ 28 v1.toNatClampNeg (σ.1 21 v1.toNatClampNeg)).1 22 v1.toNatClampNeg)) (v1 + 1) hw
  unfold wX12_image at hw
  refine g_aload_n C 0 rfl rfl dX12_image_0 ?_
  refine g_get C hK inX12 rfl 18 (ga_18 cy A _) 0 (by decide) (fun _ h => h) wt_585 rfl dX12_image_1 ?_
  refine g_if_ne C 10 (by decide) hw dX12_image_4 (fun hw => ?_) (fun hw => ?_)
  · refine g_aload_n C 0 rfl rfl dX12_image_10 ?_
    refine g_iconst (v := (1 : Int32)) C dX12_image_11 (by decide) ?_
    refine g_put (v := .int (1 : Int32)) C hK inX12 rfl tyX12 tyX12_ok nmX12 18 (ga_18 cy A _) 30 (by decide) (fun _ h => h) wt_615 rfl (by rcases hw.1 with e | e <;> rw [e] <;> rfl) (by rcases hw.1 with e | e <;> rw [e] <;> rfl) (Nat.le_of_ble_eq_true rfl) (gp_18_30 cy A _ _) dX12_image_12 ?_
    replace hw := hw.2
    refine g_aload_n C 0 rfl rfl dX12_image_15 ?_
    refine g_aload_n C 0 rfl rfl dX12_image_16 ?_
    refine g_get C hK inX12 rfl 18 (ga_18 cy A _) 1 (by decide) (fun _ h => h) wt_586 rfl dX12_image_17 ?_
    refine g_put (v := .int ((sV σ 18 30 (1 : Int32)).1 18 1)) C hK inX12 rfl tyX12 tyX12_ok nmX12 18 (ga_18 cy A _) 31 (by decide) (fun _ h => h) wt_616 rfl rfl rfl (Nat.le_of_ble_eq_true rfl) (gp_18_31 cy A _ _) dX12_image_20 ?_
    refine g_aload_n C 0 rfl rfl dX12_image_23 ?_
    refine g_aload_n C 0 rfl rfl dX12_image_24 ?_
    refine g_get C hK inX12 rfl 18 (ga_18 cy A _) 2 (by decide) (fun _ h => h) wt_587 rfl dX12_image_25 ?_
    refine g_put (v := .int ((sV (sV σ 18 30 (1 : Int32)) 18 31 ((sV σ 18 30 (1 : Int32)).1 18 1)).1 18 2)) C hK inX12 rfl tyX12 tyX12_ok nmX12 18 (ga_18 cy A _) 32 (by decide) (fun _ h => h) wt_617 rfl rfl rfl (Nat.le_of_ble_eq_true rfl) (gp_18_32 cy A _ _) dX12_image_28 ?_
    refine g_aload_n C 0 rfl rfl dX12_image_31 ?_
    refine g_aload_n C 0 rfl rfl dX12_image_32 ?_
    refine g_get C hK inX12 rfl 18 (ga_18 cy A _) 7 (by decide) (fun _ h => h) wt_592 rfl dX12_image_33 ?_
    refine g_put (v := .int ((sV (sV (sV σ 18 30 (1 : Int32)) 18 31 ((sV σ 18 30 (1 : Int32)).1 18 1)) 18 32 ((sV (sV σ 18 30 (1 : Int32)) 18 31 ((sV σ 18 30 (1 : Int32)).1 18 1)).1 18 2)).1 18 7)) C hK inX12 rfl tyX12 tyX12_ok nmX12 18 (ga_18 cy A _) 33 (by decide) (fun _ h => h) wt_618 rfl rfl rfl (Nat.le_of_ble_eq_true rfl) (gp_18_33 cy A _ _) dX12_image_36 ?_
    refine g_aload_n C 0 rfl rfl dX12_image_39 ?_
    refine g_aload_n C 0 rfl rfl dX12_image_40 ?_
    refine g_get C hK inX12 rfl 18 (ga_18 cy A _) 8 (by decide) (fun _ h => h) wt_593 rfl dX12_image_41 ?_
    refine g_put (v := .int ((sV (sV (sV (sV σ 18 30 (1 : Int32)) 18 31 ((sV σ 18 30 (1 : Int32)).1 18 1)) 18 32 ((sV (sV σ 18 30 (1 : Int32)) 18 31 ((sV σ 18 30 (1 : Int32)).1 18 1)).1 18 2)) 18 33 ((sV (sV (sV σ 18 30 (1 : Int32)) 18 31 ((sV σ 18 30 (1 : Int32)).1 18 1)) 18 32 ((sV (sV σ 18 30 (1 : Int32)) 18 31 ((sV σ 18 30 (1 : Int32)).1 18 1)).1 18 2)).1 18 7)).1 18 8)) C hK inX12 rfl tyX12 tyX12_ok nmX12 18 (ga_18 cy A _) 34 (by decide) (fun _ h => h) wt_619 rfl rfl rfl (Nat.le_of_ble_eq_true rfl) (gp_18_34 cy A _ _) dX12_image_44 ?_
    refine g_aload_n C 0 rfl rfl dX12_image_47 ?_
    refine g_aload_n C 0 rfl rfl dX12_image_48 ?_
    refine g_get C hK inX12 rfl 18 (ga_18 cy A _) 6 (by decide) (fun _ h => h) wt_591 rfl dX12_image_49 ?_
    refine g_put (v := .int ((sV (sV (sV (sV (sV σ 18 30 (1 : Int32)) 18 31 ((sV σ 18 30 (1 : Int32)).1 18 1)) 18 32 ((sV (sV σ 18 30 (1 : Int32)) 18 31 ((sV σ 18 30 (1 : Int32)).1 18 1)).1 18 2)) 18 33 ((sV (sV (sV σ 18 30 (1 : Int32)) 18 31 ((sV σ 18 30 (1 : Int32)).1 18 1)) 18 32 ((sV (sV σ 18 30 (1 : Int32)) 18 31 ((sV σ 18 30 (1 : Int32)).1 18 1)).1 18 2)).1 18 7)) 18 34 ((sV (sV (sV (sV σ 18 30 (1 : Int32)) 18 31 ((sV σ 18 30 (1 : Int32)).1 18 1)) 18 32 ((sV (sV σ 18 30 (1 : Int32)) 18 31 ((sV σ 18 30 (1 : Int32)).1 18 1)).1 18 2)) 18 33 ((sV (sV (sV σ 18 30 (1 : Int32)) 18 31 ((sV σ 18 30 (1 : Int32)).1 18 1)) 18 32 ((sV (sV σ 18 30 (1 : Int32)) 18 31 ((sV σ 18 30 (1 : Int32)).1 18 1)).1 18 2)).1 18 7)).1 18 8)).1 18 6)) C hK inX12 rfl tyX12 tyX12_ok nmX12 18 (ga_18 cy A _) 35 (by decide) (fun _ h => h) wt_620 rfl (by rcases hw.1 with e | e <;> rw [e] <;> rfl) (by rcases hw.1 with e | e <;> rw [e] <;> rfl) (Nat.le_of_ble_eq_true rfl) (gp_18_35 cy A _ _) dX12_image_52 ?_
    replace hw := hw.2
    refine g_aload_n C 0 rfl rfl dX12_image_55 ?_
    refine g_aload_n C 0 rfl rfl dX12_image_56 ?_
    refine g_get C hK inX12 rfl 18 (ga_18 cy A _) 9 (by decide) (fun _ h => h) wt_594 rfl dX12_image_57 ?_
    refine g_put (v := .int ((sV (sV (sV (sV (sV (sV σ 18 30 (1 : Int32)) 18 31 ((sV σ 18 30 (1 : Int32)).1 18 1)) 18 32 ((sV (sV σ 18 30 (1 : Int32)) 18 31 ((sV σ 18 30 (1 : Int32)).1 18 1)).1 18 2)) 18 33 ((sV (sV (sV σ 18 30 (1 : Int32)) 18 31 ((sV σ 18 30 (1 : Int32)).1 18 1)) 18 32 ((sV (sV σ 18 30 (1 : Int32)) 18 31 ((sV σ 18 30 (1 : Int32)).1 18 1)).1 18 2)).1 18 7)) 18 34 ((sV (sV (sV (sV σ 18 30 (1 : Int32)) 18 31 ((sV σ 18 30 (1 : Int32)).1 18 1)) 18 32 ((sV (sV σ 18 30 (1 : Int32)) 18 31 ((sV σ 18 30 (1 : Int32)).1 18 1)).1 18 2)) 18 33 ((sV (sV (sV σ 18 30 (1 : Int32)) 18 31 ((sV σ 18 30 (1 : Int32)).1 18 1)) 18 32 ((sV (sV σ 18 30 (1 : Int32)) 18 31 ((sV σ 18 30 (1 : Int32)).1 18 1)).1 18 2)).1 18 7)).1 18 8)) 18 35 ((sV (sV (sV (sV (sV σ 18 30 (1 : Int32)) 18 31 ((sV σ 18 30 (1 : Int32)).1 18 1)) 18 32 ((sV (sV σ 18 30 (1 : Int32)) 18 31 ((sV σ 18 30 (1 : Int32)).1 18 1)).1 18 2)) 18 33 ((sV (sV (sV σ 18 30 (1 : Int32)) 18 31 ((sV σ 18 30 (1 : Int32)).1 18 1)) 18 32 ((sV (sV σ 18 30 (1 : Int32)) 18 31 ((sV σ 18 30 (1 : Int32)).1 18 1)).1 18 2)).1 18 7)) 18 34 ((sV (sV (sV (sV σ 18 30 (1 : Int32)) 18 31 ((sV σ 18 30 (1 : Int32)).1 18 1)) 18 32 ((sV (sV σ 18 30 (1 : Int32)) 18 31 ((sV σ 18 30 (1 : Int32)).1 18 1)).1 18 2)) 18 33 ((sV (sV (sV σ 18 30 (1 : Int32)) 18 31 ((sV σ 18 30 (1 : Int32)).1 18 1)) 18 32 ((sV (sV σ 18 30 (1 : Int32)) 18 31 ((sV σ 18 30 (1 : Int32)).1 18 1)).1 18 2)).1 18 7)).1 18 8)).1 18 6)).1 18 9)) C hK inX12 rfl tyX12 tyX12_ok nmX12 18 (ga_18 cy A _) 36 (by decide) (fun _ h => h) wt_621 rfl rfl rfl (Nat.le_of_ble_eq_true rfl) (gp_18_36 cy A _ _) dX12_image_60 ?_
    refine g_iconst (v := (0 : Int32)) C dX12_image_63 (by decide) ?_
    refine g_istore_n C [(1, .int (0 : Int32)), (0, .ref (A 18))] F.2.2.2.1 rfl (by decide) rfl dX12_image_64 ?_
    refine g_eql (lv' := [(0, .ref (A 18)), (1, .int (0 : Int32))]) [1, 0] rfl ?_
    obtain ⟨n0, hw⟩ := hw
    exact J65 n0 (sV (sV (sV (sV (sV (sV (sV σ 18 30 (1 : Int32)) 18 31 ((sV σ 18 30 (1 : Int32)).1 18 1)) 18 32 ((sV (sV σ 18 30 (1 : Int32)) 18 31 ((sV σ 18 30 (1 : Int32)).1 18 1)).1 18 2)) 18 33 ((sV (sV (sV σ 18 30 (1 : Int32)) 18 31 ((sV σ 18 30 (1 : Int32)).1 18 1)) 18 32 ((sV (sV σ 18 30 (1 : Int32)) 18 31 ((sV σ 18 30 (1 : Int32)).1 18 1)).1 18 2)).1 18 7)) 18 34 ((sV (sV (sV (sV σ 18 30 (1 : Int32)) 18 31 ((sV σ 18 30 (1 : Int32)).1 18 1)) 18 32 ((sV (sV σ 18 30 (1 : Int32)) 18 31 ((sV σ 18 30 (1 : Int32)).1 18 1)).1 18 2)) 18 33 ((sV (sV (sV σ 18 30 (1 : Int32)) 18 31 ((sV σ 18 30 (1 : Int32)).1 18 1)) 18 32 ((sV (sV σ 18 30 (1 : Int32)) 18 31 ((sV σ 18 30 (1 : Int32)).1 18 1)).1 18 2)).1 18 7)).1 18 8)) 18 35 ((sV (sV (sV (sV (sV σ 18 30 (1 : Int32)) 18 31 ((sV σ 18 30 (1 : Int32)).1 18 1)) 18 32 ((sV (sV σ 18 30 (1 : Int32)) 18 31 ((sV σ 18 30 (1 : Int32)).1 18 1)).1 18 2)) 18 33 ((sV (sV (sV σ 18 30 (1 : Int32)) 18 31 ((sV σ 18 30 (1 : Int32)).1 18 1)) 18 32 ((sV (sV σ 18 30 (1 : Int32)) 18 31 ((sV σ 18 30 (1 : Int32)).1 18 1)).1 18 2)).1 18 7)) 18 34 ((sV (sV (sV (sV σ 18 30 (1 : Int32)) 18 31 ((sV σ 18 30 (1 : Int32)).1 18 1)) 18 32 ((sV (sV σ 18 30 (1 : Int32)) 18 31 ((sV σ 18 30 (1 : Int32)).1 18 1)).1 18 2)) 18 33 ((sV (sV (sV σ 18 30 (1 : Int32)) 18 31 ((sV σ 18 30 (1 : Int32)).1 18 1)) 18 32 ((sV (sV σ 18 30 (1 : Int32)) 18 31 ((sV σ 18 30 (1 : Int32)).1 18 1)).1 18 2)).1 18 7)).1 18 8)).1 18 6)) 18 36 ((sV (sV (sV (sV (sV (sV σ 18 30 (1 : Int32)) 18 31 ((sV σ 18 30 (1 : Int32)).1 18 1)) 18 32 ((sV (sV σ 18 30 (1 : Int32)) 18 31 ((sV σ 18 30 (1 : Int32)).1 18 1)).1 18 2)) 18 33 ((sV (sV (sV σ 18 30 (1 : Int32)) 18 31 ((sV σ 18 30 (1 : Int32)).1 18 1)) 18 32 ((sV (sV σ 18 30 (1 : Int32)) 18 31 ((sV σ 18 30 (1 : Int32)).1 18 1)).1 18 2)).1 18 7)) 18 34 ((sV (sV (sV (sV σ 18 30 (1 : Int32)) 18 31 ((sV σ 18 30 (1 : Int32)).1 18 1)) 18 32 ((sV (sV σ 18 30 (1 : Int32)) 18 31 ((sV σ 18 30 (1 : Int32)).1 18 1)).1 18 2)) 18 33 ((sV (sV (sV σ 18 30 (1 : Int32)) 18 31 ((sV σ 18 30 (1 : Int32)).1 18 1)) 18 32 ((sV (sV σ 18 30 (1 : Int32)) 18 31 ((sV σ 18 30 (1 : Int32)).1 18 1)).1 18 2)).1 18 7)).1 18 8)) 18 35 ((sV (sV (sV (sV (sV σ 18 30 (1 : Int32)) 18 31 ((sV σ 18 30 (1 : Int32)).1 18 1)) 18 32 ((sV (sV σ 18 30 (1 : Int32)) 18 31 ((sV σ 18 30 (1 : Int32)).1 18 1)).1 18 2)) 18 33 ((sV (sV (sV σ 18 30 (1 : Int32)) 18 31 ((sV σ 18 30 (1 : Int32)).1 18 1)) 18 32 ((sV (sV σ 18 30 (1 : Int32)) 18 31 ((sV σ 18 30 (1 : Int32)).1 18 1)).1 18 2)).1 18 7)) 18 34 ((sV (sV (sV (sV σ 18 30 (1 : Int32)) 18 31 ((sV σ 18 30 (1 : Int32)).1 18 1)) 18 32 ((sV (sV σ 18 30 (1 : Int32)) 18 31 ((sV σ 18 30 (1 : Int32)).1 18 1)).1 18 2)) 18 33 ((sV (sV (sV σ 18 30 (1 : Int32)) 18 31 ((sV σ 18 30 (1 : Int32)).1 18 1)) 18 32 ((sV (sV σ 18 30 (1 : Int32)) 18 31 ((sV σ 18 30 (1 : Int32)).1 18 1)).1 18 2)).1 18 7)).1 18 8)).1 18 6)).1 18 9)) (0 : Int32) hw
  · refine g_bipush (v := (-103 : Int32)) C dX12_image_7 (by decide) ?_
    exact gq_I C F (by decide) (by decide) hw dX12_image_9
set_option maxHeartbeats 4000000 in
set_option maxRecDepth 100000 in
theorem c_X12_restore (l : Launch) (D : va_G) (cy : Nat → ClassId) (A : Nat → Nat) {σ : St} {Φ : Int32 → St → Prop} (hw : wX12_restore σ Φ) : CtI l yX12_restore (.code yX12_restore cX12_restore 2 (some .int) :: gL) rm_X12_restore 0 0 [.ref (A 18)] D cy A σ Φ := by
  refine ct_any (fun sz => va_Qi Φ (HE D cy A (gZ cy A σ sz)) (gZ cy A σ sz)) (by decide +kernel) rfl rfl [(0, .ref (A 18))] rfl (Nat.le_of_ble_eq_true rfl) ?_
  intro κ hκl hnm C hK sz F
  subst hκl
  have J63 : ∀ (n : Nat) (σ : St) (v1 : Int32), wX12_restore_63 Φ n σ v1 → GW κ 0 0 (gW cy A σ) 63 [(0, .ref (A 18)), (1, .int v1)] [] := by
    intro n
    induction n with
    | zero => intro σ v1 hw; exact hw.elim
    | succ n ih =>
      intro σ v1 hw
      rw [wX12_restore_63] at hw
      refine g_iload_n C 1 rfl rfl dX12_restore_63 ?_
      refine g_bipush (v := (6 : Int32)) C dX12_restore_64 (by decide) ?_
      refine g_icmp_ge C 99 (by decide) hw dX12_restore_66 (fun hw => ?_) (fun hw => ?_)
      · refine g_aload_n C 0 rfl rfl dX12_restore_99 ?_
        refine g_get C hK inX12 rfl 18 (ga_18 cy A _) 8 (by decide) (fun _ h => h) wt_593 rfl dX12_restore_100 ?_
        exact gq_I C F (by decide) (by decide) hw dX12_restore_103
      · refine g_aload_n C 0 rfl rfl dX12_restore_69 ?_
        refine g_get C hK inX12 rfl 18 (ga_18 cy A _) 12 (by decide) (fun _ h => h) wt_597 rfl dX12_restore_70 ?_
        refine g_iload_n C 1 rfl rfl dX12_restore_73 ?_
        refine g_aload_n C 0 rfl rfl dX12_restore_74 ?_
        refine g_get C hK inX12 rfl 18 (ga_18 cy A _) 37 (by decide) (fun _ h => h) wt_622 rfl dX12_restore_75 ?_
        refine g_iload_n C 1 rfl rfl dX12_restore_78 ?_
        refine g_iald C hK 28 2 (ga_28 cy A _) rfl hw.1 dX12_restore_79 ?_
        replace hw := hw.2
        refine g_iast C hK 21 2 (ga_21 cy A _) rfl hw.1 (gs_21 cy A _ _ _) dX12_restore_80 ?_
        replace hw := hw.2
        refine g_aload_n C 0 rfl rfl dX12_restore_81 ?_
        refine g_get C hK inX12 rfl 18 (ga_18 cy A _) 13 (by decide) (fun _ h => h) wt_598 rfl dX12_restore_82 ?_
        refine g_iload_n C 1 rfl rfl dX12_restore_85 ?_
        refine g_aload_n C 0 rfl rfl dX12_restore_86 ?_
        refine g_get C hK inX12 rfl 18 (ga_18 cy A _) 38 (by decide) (fun _ h => h) wt_623 rfl dX12_restore_87 ?_
        refine g_iload_n C 1 rfl rfl dX12_restore_90 ?_
        refine g_iald C hK 29 2 (ga_29 cy A _) rfl hw.1 dX12_restore_91 ?_
        replace hw := hw.2
        refine g_iast C hK 22 2 (ga_22 cy A _) rfl hw.1 (gs_22 cy A _ _ _) dX12_restore_92 ?_
        replace hw := hw.2
        refine g_iinc (j := 1) C [(1, .int (v1 + 1)), (0, .ref (A 18))] F.2.2.2.1 rfl rfl (by decide) rfl dX12_restore_93 ?_
        refine g_goto C 63 (by decide) dX12_restore_96 ?_
        refine g_eql (lv' := [(0, .ref (A 18)), (1, .int (v1 + 1))]) [1, 0] rfl ?_
        exact ih (sV (sV σ 21 v1.toNatClampNeg (σ.1 28 v1.toNatClampNeg)) 22 v1.toNatClampNeg ((sV σ 21 v1.toNatClampNeg (σ.1 28 v1.toNatClampNeg)).1 29 v1.toNatClampNeg)) (v1 + 1) hw
  unfold wX12_restore at hw
  refine g_aload_n C 0 rfl rfl dX12_restore_0 ?_
  refine g_get C hK inX12 rfl 18 (ga_18 cy A _) 30 (by decide) (fun _ h => h) wt_615 rfl dX12_restore_1 ?_
  refine g_if_eq C 18 (by decide) hw dX12_restore_4 (fun hw => ?_) (fun hw => ?_)
  · refine g_bipush (v := (-103 : Int32)) C dX12_restore_18 (by decide) ?_
    exact gq_I C F (by decide) (by decide) hw dX12_restore_20
  · refine g_aload_n C 0 rfl rfl dX12_restore_7 ?_
    refine g_get C hK inX12 rfl 18 (ga_18 cy A _) 31 (by decide) (fun _ h => h) wt_616 rfl dX12_restore_8 ?_
    refine g_aload_n C 0 rfl rfl dX12_restore_11 ?_
    refine g_get C hK inX12 rfl 18 (ga_18 cy A _) 1 (by decide) (fun _ h => h) wt_586 rfl dX12_restore_12 ?_
    refine g_icmp_eq C 21 (by decide) hw dX12_restore_15 (fun hw => ?_) (fun hw => ?_)
    · refine g_aload_n C 0 rfl rfl dX12_restore_21 ?_
      refine g_aload_n C 0 rfl rfl dX12_restore_22 ?_
      refine g_get C hK inX12 rfl 18 (ga_18 cy A _) 32 (by decide) (fun _ h => h) wt_617 rfl dX12_restore_23 ?_
      refine g_put (v := .int (σ.1 18 32)) C hK inX12 rfl tyX12 tyX12_ok nmX12 18 (ga_18 cy A _) 2 (by decide) (fun _ h => h) wt_587 rfl rfl rfl (Nat.le_of_ble_eq_true rfl) (gp_18_2 cy A _ _) dX12_restore_26 ?_
      refine g_aload_n C 0 rfl rfl dX12_restore_29 ?_
      refine g_aload_n C 0 rfl rfl dX12_restore_30 ?_
      refine g_get C hK inX12 rfl 18 (ga_18 cy A _) 33 (by decide) (fun _ h => h) wt_618 rfl dX12_restore_31 ?_
      refine g_put (v := .int ((sV σ 18 2 (σ.1 18 32)).1 18 33)) C hK inX12 rfl tyX12 tyX12_ok nmX12 18 (ga_18 cy A _) 7 (by decide) (fun _ h => h) wt_592 rfl rfl rfl (Nat.le_of_ble_eq_true rfl) (gp_18_7 cy A _ _) dX12_restore_34 ?_
      refine g_aload_n C 0 rfl rfl dX12_restore_37 ?_
      refine g_aload_n C 0 rfl rfl dX12_restore_38 ?_
      refine g_get C hK inX12 rfl 18 (ga_18 cy A _) 34 (by decide) (fun _ h => h) wt_619 rfl dX12_restore_39 ?_
      refine g_put (v := .int ((sV (sV σ 18 2 (σ.1 18 32)) 18 7 ((sV σ 18 2 (σ.1 18 32)).1 18 33)).1 18 34)) C hK inX12 rfl tyX12 tyX12_ok nmX12 18 (ga_18 cy A _) 8 (by decide) (fun _ h => h) wt_593 rfl rfl rfl (Nat.le_of_ble_eq_true rfl) (gp_18_8 cy A _ _) dX12_restore_42 ?_
      refine g_aload_n C 0 rfl rfl dX12_restore_45 ?_
      refine g_aload_n C 0 rfl rfl dX12_restore_46 ?_
      refine g_get C hK inX12 rfl 18 (ga_18 cy A _) 35 (by decide) (fun _ h => h) wt_620 rfl dX12_restore_47 ?_
      refine g_put (v := .int ((sV (sV (sV σ 18 2 (σ.1 18 32)) 18 7 ((sV σ 18 2 (σ.1 18 32)).1 18 33)) 18 8 ((sV (sV σ 18 2 (σ.1 18 32)) 18 7 ((sV σ 18 2 (σ.1 18 32)).1 18 33)).1 18 34)).1 18 35)) C hK inX12 rfl tyX12 tyX12_ok nmX12 18 (ga_18 cy A _) 6 (by decide) (fun _ h => h) wt_591 rfl (by rcases hw.1 with e | e <;> rw [e] <;> rfl) (by rcases hw.1 with e | e <;> rw [e] <;> rfl) (Nat.le_of_ble_eq_true rfl) (gp_18_6 cy A _ _) dX12_restore_50 ?_
      replace hw := hw.2
      refine g_aload_n C 0 rfl rfl dX12_restore_53 ?_
      refine g_aload_n C 0 rfl rfl dX12_restore_54 ?_
      refine g_get C hK inX12 rfl 18 (ga_18 cy A _) 36 (by decide) (fun _ h => h) wt_621 rfl dX12_restore_55 ?_
      refine g_put (v := .int ((sV (sV (sV (sV σ 18 2 (σ.1 18 32)) 18 7 ((sV σ 18 2 (σ.1 18 32)).1 18 33)) 18 8 ((sV (sV σ 18 2 (σ.1 18 32)) 18 7 ((sV σ 18 2 (σ.1 18 32)).1 18 33)).1 18 34)) 18 6 ((sV (sV (sV σ 18 2 (σ.1 18 32)) 18 7 ((sV σ 18 2 (σ.1 18 32)).1 18 33)) 18 8 ((sV (sV σ 18 2 (σ.1 18 32)) 18 7 ((sV σ 18 2 (σ.1 18 32)).1 18 33)).1 18 34)).1 18 35)).1 18 36)) C hK inX12 rfl tyX12 tyX12_ok nmX12 18 (ga_18 cy A _) 9 (by decide) (fun _ h => h) wt_594 rfl rfl rfl (Nat.le_of_ble_eq_true rfl) (gp_18_9 cy A _ _) dX12_restore_58 ?_
      refine g_iconst (v := (0 : Int32)) C dX12_restore_61 (by decide) ?_
      refine g_istore_n C [(1, .int (0 : Int32)), (0, .ref (A 18))] F.2.2.2.1 rfl (by decide) rfl dX12_restore_62 ?_
      refine g_eql (lv' := [(0, .ref (A 18)), (1, .int (0 : Int32))]) [1, 0] rfl ?_
      obtain ⟨n0, hw⟩ := hw
      exact J63 n0 (sV (sV (sV (sV (sV σ 18 2 (σ.1 18 32)) 18 7 ((sV σ 18 2 (σ.1 18 32)).1 18 33)) 18 8 ((sV (sV σ 18 2 (σ.1 18 32)) 18 7 ((sV σ 18 2 (σ.1 18 32)).1 18 33)).1 18 34)) 18 6 ((sV (sV (sV σ 18 2 (σ.1 18 32)) 18 7 ((sV σ 18 2 (σ.1 18 32)).1 18 33)) 18 8 ((sV (sV σ 18 2 (σ.1 18 32)) 18 7 ((sV σ 18 2 (σ.1 18 32)).1 18 33)).1 18 34)).1 18 35)) 18 9 ((sV (sV (sV (sV σ 18 2 (σ.1 18 32)) 18 7 ((sV σ 18 2 (σ.1 18 32)).1 18 33)) 18 8 ((sV (sV σ 18 2 (σ.1 18 32)) 18 7 ((sV σ 18 2 (σ.1 18 32)).1 18 33)).1 18 34)) 18 6 ((sV (sV (sV σ 18 2 (σ.1 18 32)) 18 7 ((sV σ 18 2 (σ.1 18 32)).1 18 33)) 18 8 ((sV (sV σ 18 2 (σ.1 18 32)) 18 7 ((sV σ 18 2 (σ.1 18 32)).1 18 33)).1 18 34)).1 18 35)).1 18 36)) (0 : Int32) hw
    · refine g_bipush (v := (-103 : Int32)) C dX12_restore_18 (by decide) ?_
      exact gq_I C F (by decide) (by decide) hw dX12_restore_20
set_option maxHeartbeats 4000000 in
set_option maxRecDepth 100000 in
theorem c_X12_one (l : Launch) (D : va_G) (cy : Nat → ClassId) (A : Nat → Nat) {σ : St} {v0 : Int32} {Φ : Int32 → St → Prop} (hw : wX12_one σ v0 Φ) : CtI l yX12_one (.code yX12_one cX12_one 1 (some .int) :: gL) rm_X12_one 0 0 [.int v0] D cy A σ Φ := by
  refine ct_any (fun sz => va_Qi Φ (HE D cy A (gZ cy A σ sz)) (gZ cy A σ sz)) (by decide +kernel) rfl rfl [(0, .int v0)] rfl (Nat.le_of_ble_eq_true rfl) ?_
  intro κ hκl hnm C hK sz F
  subst hκl
  unfold wX12_one at hw
  refine g_iload_n C 0 rfl rfl dX12_one_0 ?_
  refine g_if_eq C 8 (by decide) hw dX12_one_1 (fun hw => ?_) (fun hw => ?_)
  · refine g_iconst (v := (0 : Int32)) C dX12_one_8 (by decide) ?_
    exact gq_I C F (by decide) (by decide) hw dX12_one_9
  · refine g_iconst (v := (1 : Int32)) C dX12_one_4 (by decide) ?_
    refine g_goto C 9 (by decide) dX12_one_5 ?_
    exact gq_I C F (by decide) (by decide) hw dX12_one_9
set_option maxHeartbeats 4000000 in
set_option maxRecDepth 100000 in
theorem c_X12_howMany (l : Launch) (D : va_G) (cy : Nat → ClassId) (A : Nat → Nat) {σ : St} {v1 : Int32} {Φ : Int32 → St → Prop} (hw : wX12_howMany σ v1 Φ) : CtI l yX12_howMany (.code yX12_howMany cX12_howMany 2 (some .int) :: gL) rm_X12_howMany 0 0 [.ref (A 18), .int v1] D cy A σ Φ := by
  refine ct_any (fun sz => va_Qi Φ (HE D cy A (gZ cy A σ sz)) (gZ cy A σ sz)) (by decide +kernel) rfl rfl [(0, .ref (A 18)), (1, .int v1)] rfl (Nat.le_of_ble_eq_true rfl) ?_
  intro κ hκl hnm C hK sz F
  subst hκl
  unfold wX12_howMany at hw
  refine g_iload_n C 1 rfl rfl dX12_howMany_0 ?_
  by_cases h9 : v1.toInt < 0 ∨ 12 < v1.toInt
  · refine g_swOut C 151 h9 (by decide) dX12_howMany_1 ?_
    replace hw := hw.2.2.2.2.2.2.2.2.2.2.2.2.2 h9
    refine g_bipush (v := (-102 : Int32)) C dX12_howMany_151 (by decide) ?_
    exact gq_I C F (by decide) (by decide) hw dX12_howMany_153
  · rcases (show v1.toInt = 0 ∨ v1.toInt = 1 ∨ v1.toInt = 2 ∨ v1.toInt = 3 ∨ v1.toInt = 4 ∨ v1.toInt = 5 ∨ v1.toInt = 6 ∨ v1.toInt = 7 ∨ v1.toInt = 8 ∨ v1.toInt = 9 ∨ v1.toInt = 10 ∨ v1.toInt = 11 ∨ v1.toInt = 12 by omega) with e9 | e9 | e9 | e9 | e9 | e9 | e9 | e9 | e9 | e9 | e9 | e9 | e9
    · refine g_swIn (off := 67) C 0 68 e9 (by decide) (by decide) (by decide) (by decide) dX12_howMany_1 ?_
      replace hw := hw.1 (Int32.toInt_inj.mp (e9.trans (by decide)))
      refine g_aload_n C 0 rfl rfl dX12_howMany_68 ?_
      refine g_get C hK inX12 rfl 18 (ga_18 cy A _) 2 (by decide) (fun _ h => h) wt_587 rfl dX12_howMany_69 ?_
      exact gq_I C F (by decide) (by decide) hw dX12_howMany_72
    · refine g_swIn (off := 72) C 1 73 e9 (by decide) (by decide) (by decide) (by decide) dX12_howMany_1 ?_
      replace hw := hw.2.1 (Int32.toInt_inj.mp (e9.trans (by decide)))
      refine g_aload_n C 0 rfl rfl dX12_howMany_73 ?_
      refine g_aload_n C 0 rfl rfl dX12_howMany_74 ?_
      refine g_get C hK inX12 rfl 18 (ga_18 cy A _) 2 (by decide) (fun _ h => h) wt_587 rfl dX12_howMany_75 ?_
      refine gc_I C (gr_V (As := [.int (σ.1 18 2)]) (rest := []) C hK 1 (gd_V wt_674 wt_675 wt_851 wt_8 wt_676) rfl rfl rfl ⟨rfl, hs_X12_turnsAt⟩ ⟨⟨Nat.le_of_ble_eq_true rfl, Nat.le_of_ble_eq_true rfl⟩, Nat.le_of_ble_eq_true rfl, Nat.le_of_ble_eq_true rfl⟩ rfl 18 (ga_18 cy A _) rfl rfl (Nat.le_of_ble_eq_true rfl) dX12_howMany_78 (c_X12_turnsAt (q_l κ) (q_D κ) cy A hw)) (fun r2 σ1 hw => ?_)
      exact gq_I C F (by decide) (by decide) hw dX12_howMany_81
    · refine g_swIn (off := 81) C 2 82 e9 (by decide) (by decide) (by decide) (by decide) dX12_howMany_1 ?_
      replace hw := hw.2.2.1 (Int32.toInt_inj.mp (e9.trans (by decide)))
      refine g_aload_n C 0 rfl rfl dX12_howMany_82 ?_
      refine g_get C hK inX12 rfl 18 (ga_18 cy A _) 3 (by decide) (fun _ h => h) wt_588 rfl dX12_howMany_83 ?_
      exact gq_I C F (by decide) (by decide) hw dX12_howMany_86
    · refine g_swIn (off := 86) C 3 87 e9 (by decide) (by decide) (by decide) (by decide) dX12_howMany_1 ?_
      replace hw := hw.2.2.2.1 (Int32.toInt_inj.mp (e9.trans (by decide)))
      refine g_aload_n C 0 rfl rfl dX12_howMany_87 ?_
      refine g_aload_n C 0 rfl rfl dX12_howMany_88 ?_
      refine g_get C hK inX12 rfl 18 (ga_18 cy A _) 2 (by decide) (fun _ h => h) wt_587 rfl dX12_howMany_89 ?_
      refine g_aload_n C 0 rfl rfl dX12_howMany_92 ?_
      refine g_get C hK inX12 rfl 18 (ga_18 cy A _) 8 (by decide) (fun _ h => h) wt_593 rfl dX12_howMany_93 ?_
      refine gc_I C (gr_V (As := [.int (σ.1 18 2), .int (σ.1 18 8)]) (rest := []) C hK 2 (gd_V wt_715 wt_716 wt_857 wt_8 wt_717) rfl rfl rfl ⟨rfl, hs_X12_strainAt⟩ ⟨⟨Nat.le_of_ble_eq_true rfl, Nat.le_of_ble_eq_true rfl⟩, Nat.le_of_ble_eq_true rfl, Nat.le_of_ble_eq_true rfl⟩ rfl 18 (ga_18 cy A _) rfl rfl (Nat.le_of_ble_eq_true rfl) dX12_howMany_96 (c_X12_strainAt (q_l κ) (q_D κ) cy A hw)) (fun r4 σ3 hw => ?_)
      exact gq_I C F (by decide) (by decide) hw dX12_howMany_99
    · refine g_swIn (off := 99) C 4 100 e9 (by decide) (by decide) (by decide) (by decide) dX12_howMany_1 ?_
      replace hw := hw.2.2.2.2.1 (Int32.toInt_inj.mp (e9.trans (by decide)))
      refine g_aload_n C 0 rfl rfl dX12_howMany_100 ?_
      refine g_get C hK inX12 rfl 18 (ga_18 cy A _) 4 (by decide) (fun _ h => h) wt_589 rfl dX12_howMany_101 ?_
      exact gq_I C F (by decide) (by decide) hw dX12_howMany_104
    · refine g_swIn (off := 104) C 5 105 e9 (by decide) (by decide) (by decide) (by decide) dX12_howMany_1 ?_
      replace hw := hw.2.2.2.2.2.1 (Int32.toInt_inj.mp (e9.trans (by decide)))
      refine g_aload_n C 0 rfl rfl dX12_howMany_105 ?_
      refine g_get C hK inX12 rfl 18 (ga_18 cy A _) 5 (by decide) (fun _ h => h) wt_590 rfl dX12_howMany_106 ?_
      refine gc_I C (gr_S (As := [.int (σ.1 18 5)]) (rest := []) C hK 1 (gd_S wt_818 wt_819 wt_8 wt_820) rfl rfl rfl hs_X12_one ⟨⟨Nat.le_of_ble_eq_true rfl, Nat.le_of_ble_eq_true rfl⟩, Nat.le_of_ble_eq_true rfl, Nat.le_of_ble_eq_true rfl⟩ rfl rfl (Nat.le_of_ble_eq_true rfl) dX12_howMany_109 (c_X12_one (q_l κ) (q_D κ) cy A hw)) (fun r6 σ5 hw => ?_)
      exact gq_I C F (by decide) (by decide) hw dX12_howMany_112
    · refine g_swIn (off := 112) C 6 113 e9 (by decide) (by decide) (by decide) (by decide) dX12_howMany_1 ?_
      replace hw := hw.2.2.2.2.2.2.1 (Int32.toInt_inj.mp (e9.trans (by decide)))
      refine g_aload_n C 0 rfl rfl dX12_howMany_113 ?_
      refine g_get C hK inX12 rfl 18 (ga_18 cy A _) 7 (by decide) (fun _ h => h) wt_592 rfl dX12_howMany_114 ?_
      exact gq_I C F (by decide) (by decide) hw dX12_howMany_117
    · refine g_swIn (off := 117) C 7 118 e9 (by decide) (by decide) (by decide) (by decide) dX12_howMany_1 ?_
      replace hw := hw.2.2.2.2.2.2.2.1 (Int32.toInt_inj.mp (e9.trans (by decide)))
      refine g_aload_n C 0 rfl rfl dX12_howMany_118 ?_
      refine g_get C hK inX12 rfl 18 (ga_18 cy A _) 8 (by decide) (fun _ h => h) wt_593 rfl dX12_howMany_119 ?_
      exact gq_I C F (by decide) (by decide) hw dX12_howMany_122
    · refine g_swIn (off := 122) C 8 123 e9 (by decide) (by decide) (by decide) (by decide) dX12_howMany_1 ?_
      replace hw := hw.2.2.2.2.2.2.2.2.1 (Int32.toInt_inj.mp (e9.trans (by decide)))
      refine g_aload_n C 0 rfl rfl dX12_howMany_123 ?_
      refine g_get C hK inX12 rfl 18 (ga_18 cy A _) 6 (by decide) (fun _ h => h) wt_591 rfl dX12_howMany_124 ?_
      refine gc_I C (gr_S (As := [.int (σ.1 18 6)]) (rest := []) C hK 1 (gd_S wt_818 wt_819 wt_8 wt_820) rfl rfl rfl hs_X12_one ⟨⟨Nat.le_of_ble_eq_true rfl, Nat.le_of_ble_eq_true rfl⟩, Nat.le_of_ble_eq_true rfl, Nat.le_of_ble_eq_true rfl⟩ rfl rfl (Nat.le_of_ble_eq_true rfl) dX12_howMany_127 (c_X12_one (q_l κ) (q_D κ) cy A hw)) (fun r8 σ7 hw => ?_)
      exact gq_I C F (by decide) (by decide) hw dX12_howMany_130
    · refine g_swIn (off := 130) C 9 131 e9 (by decide) (by decide) (by decide) (by decide) dX12_howMany_1 ?_
      replace hw := hw.2.2.2.2.2.2.2.2.2.1 (Int32.toInt_inj.mp (e9.trans (by decide)))
      refine g_aload_n C 0 rfl rfl dX12_howMany_131 ?_
      refine g_get C hK inX12 rfl 18 (ga_18 cy A _) 9 (by decide) (fun _ h => h) wt_594 rfl dX12_howMany_132 ?_
      exact gq_I C F (by decide) (by decide) hw dX12_howMany_135
    · refine g_swIn (off := 135) C 10 136 e9 (by decide) (by decide) (by decide) (by decide) dX12_howMany_1 ?_
      replace hw := hw.2.2.2.2.2.2.2.2.2.2.1 (Int32.toInt_inj.mp (e9.trans (by decide)))
      refine g_aload_n C 0 rfl rfl dX12_howMany_136 ?_
      refine g_get C hK inX12 rfl 18 (ga_18 cy A _) 17 (by decide) (fun _ h => h) wt_602 rfl dX12_howMany_137 ?_
      exact gq_I C F (by decide) (by decide) hw dX12_howMany_140
    · refine g_swIn (off := 140) C 11 141 e9 (by decide) (by decide) (by decide) (by decide) dX12_howMany_1 ?_
      replace hw := hw.2.2.2.2.2.2.2.2.2.2.2.1 (Int32.toInt_inj.mp (e9.trans (by decide)))
      refine g_aload_n C 0 rfl rfl dX12_howMany_141 ?_
      refine g_get C hK inX12 rfl 18 (ga_18 cy A _) 1 (by decide) (fun _ h => h) wt_586 rfl dX12_howMany_142 ?_
      exact gq_I C F (by decide) (by decide) hw dX12_howMany_145
    · refine g_swIn (off := 145) C 12 146 e9 (by decide) (by decide) (by decide) (by decide) dX12_howMany_1 ?_
      replace hw := hw.2.2.2.2.2.2.2.2.2.2.2.2.1 (Int32.toInt_inj.mp (e9.trans (by decide)))
      refine g_aload_n C 0 rfl rfl dX12_howMany_146 ?_
      refine g_get C hK inX12 rfl 18 (ga_18 cy A _) 14 (by decide) (fun _ h => h) wt_599 rfl dX12_howMany_147 ?_
      exact gq_I C F (by decide) (by decide) hw dX12_howMany_150
set_option maxHeartbeats 4000000 in
set_option maxRecDepth 100000 in
theorem c_X12_count (l : Launch) (D : va_G) (cy : Nat → ClassId) (A : Nat → Nat) {σ : St} {v1 : Int32} {Φ : Int32 → St → Prop} (hw : wX12_count σ v1 Φ) : CtI l yX12_count (.code yX12_count cX12_count 2 (some .int) :: gL) rm_X12_count 0 0 [.ref (A 18), .int v1] D cy A σ Φ := by
  refine ct_any (fun sz => va_Qi Φ (HE D cy A (gZ cy A σ sz)) (gZ cy A σ sz)) (by decide +kernel) rfl rfl [(0, .ref (A 18)), (1, .int v1)] rfl (Nat.le_of_ble_eq_true rfl) ?_
  intro κ hκl hnm C hK sz F
  subst hκl
  unfold wX12_count at hw
  refine g_aload_n C 0 rfl rfl dX12_count_0 ?_
  refine g_iload_n C 1 rfl rfl dX12_count_1 ?_
  refine gc_I C (gr_V (As := [.int v1]) (rest := []) C hK 1 (gd_V wt_815 wt_816 wt_869 wt_8 wt_817) rfl rfl rfl ⟨rfl, hs_X12_howMany⟩ ⟨⟨Nat.le_of_ble_eq_true rfl, Nat.le_of_ble_eq_true rfl⟩, Nat.le_of_ble_eq_true rfl, Nat.le_of_ble_eq_true rfl⟩ rfl 18 (ga_18 cy A _) rfl rfl (Nat.le_of_ble_eq_true rfl) dX12_count_2 (c_X12_howMany (q_l κ) (q_D κ) cy A hw)) (fun r2 σ1 hw => ?_)
  exact gq_I C F (by decide) (by decide) hw dX12_count_5
set_option maxHeartbeats 4000000 in
set_option maxRecDepth 100000 in
theorem c_X12_mix (l : Launch) (D : va_G) (cy : Nat → ClassId) (A : Nat → Nat) {σ : St} {v1 : Int64} {Φ : St → Prop} (hw : wX12_mix σ v1 Φ) : CtV l yX12_mix (.code yX12_mix cX12_mix 3 none :: gL) rm_X12_mix 0 0 [.ref (A 18), .long v1] D cy A σ Φ := by
  refine ct_any (fun sz => va_Qv Φ (HE D cy A (gZ cy A σ sz)) (gZ cy A σ sz)) (by decide +kernel) rfl rfl [(0, .ref (A 18)), (1, .long v1)] rfl (Nat.le_of_ble_eq_true rfl) ?_
  intro κ hκl hnm C hK sz F
  subst hκl
  unfold wX12_mix at hw
  refine g_aload_n C 0 rfl rfl dX12_mix_0 ?_
  refine g_ldc2 (v := (31 : Int64)) C dX12_mix_1 wt_829 ?_
  refine g_aload_n C 0 rfl rfl dX12_mix_4 ?_
  refine g_get C hK inX12 rfl 18 (ga_18 cy A _) 39 (by decide) (fun _ h => h) wt_624 rfl dX12_mix_5 ?_
  refine g_lmul C dX12_mix_8 ?_
  refine g_lload_n C 1 rfl rfl dX12_mix_9 ?_
  refine g_ladd C dX12_mix_10 ?_
  refine g_put (v := .long (((31 : Int64) * (σ.2.1 1)) + v1)) C hK inX12 rfl tyX12 tyX12_ok nmX12 18 (ga_18 cy A _) 39 (by decide) (fun _ h => h) wt_624 rfl rfl rfl (Nat.le_of_ble_eq_true rfl) (gp_18_39 cy A _ _) dX12_mix_11 ?_
  exact gq_V C F (by decide) (by decide) hw dX12_mix_14
set_option maxHeartbeats 4000000 in
set_option maxRecDepth 100000 in
theorem c_X12_digest (l : Launch) (D : va_G) (cy : Nat → ClassId) (A : Nat → Nat) {σ : St} {Φ : Int64 → St → Prop} (hw : wX12_digest σ Φ) : CtL l yX12_digest (.code yX12_digest cX12_digest 3 (some .long) :: gL) rm_X12_digest 0 0 [.ref (A 18)] D cy A σ Φ := by
  refine ct_any (fun sz => va_Ql Φ (HE D cy A (gZ cy A σ sz)) (gZ cy A σ sz)) (by decide +kernel) rfl rfl [(0, .ref (A 18))] rfl (Nat.le_of_ble_eq_true rfl) ?_
  intro κ hκl hnm C hK sz F
  subst hκl
  have J221 : ∀ (n : Nat) (σ : St) (v1 : Int32), wX12_digest_221 Φ n σ v1 → GW κ 0 0 (gW cy A σ) 221 [(0, .ref (A 18)), (1, .int v1)] [] := by
    intro n
    induction n with
    | zero => intro σ v1 hw; exact hw.elim
    | succ n ih =>
      intro σ v1 hw
      rw [wX12_digest_221] at hw
      refine g_iload_n C 1 rfl rfl dX12_digest_221 ?_
      refine g_bipush (v := (13 : Int32)) C dX12_digest_222 (by decide) ?_
      refine g_icmp_ge C 243 (by decide) hw dX12_digest_224 (fun hw => ?_) (fun hw => ?_)
      · refine g_aload_n C 0 rfl rfl dX12_digest_243 ?_
        refine g_get C hK inX12 rfl 18 (ga_18 cy A _) 39 (by decide) (fun _ h => h) wt_624 rfl dX12_digest_244 ?_
        exact gq_L C F (by decide) (by decide) hw dX12_digest_247
      · refine g_aload_n C 0 rfl rfl dX12_digest_227 ?_
        refine g_aload_n C 0 rfl rfl dX12_digest_228 ?_
        refine g_iload_n C 1 rfl rfl dX12_digest_229 ?_
        refine gc_I C (gr_V (As := [.int v1]) (rest := [.ref (A 18)]) C hK 1 (gd_V wt_815 wt_816 wt_869 wt_8 wt_817) rfl rfl rfl ⟨rfl, hs_X12_howMany⟩ ⟨⟨Nat.le_of_ble_eq_true rfl, Nat.le_of_ble_eq_true rfl⟩, Nat.le_of_ble_eq_true rfl, Nat.le_of_ble_eq_true rfl⟩ rfl 18 (ga_18 cy A _) rfl rfl (Nat.le_of_ble_eq_true rfl) dX12_digest_230 (c_X12_howMany (q_l κ) (q_D κ) cy A hw)) (fun r30 σ29 hw => ?_)
        refine g_i2l C dX12_digest_233 ?_
        refine gc_V C (gr_V (As := [.long r30.toInt64]) (rest := []) C hK 1 (gd_V wt_826 wt_827 wt_870 wt_8 wt_828) rfl rfl rfl ⟨rfl, hs_X12_mix⟩ ⟨⟨Nat.le_of_ble_eq_true rfl, Nat.le_of_ble_eq_true rfl⟩, Nat.le_of_ble_eq_true rfl, Nat.le_of_ble_eq_true rfl⟩ rfl 18 (ga_18 cy A _) rfl rfl (Nat.le_of_ble_eq_true rfl) dX12_digest_234 (c_X12_mix (q_l κ) (q_D κ) cy A hw)) (fun σ31 hw => ?_)
        refine g_iinc (j := 1) C [(1, .int (v1 + 1)), (0, .ref (A 18))] F.2.2.2.1 rfl rfl (by decide) rfl dX12_digest_237 ?_
        refine g_goto C 221 (by decide) dX12_digest_240 ?_
        refine g_eql (lv' := [(0, .ref (A 18)), (1, .int (v1 + 1))]) [1, 0] rfl ?_
        exact ih σ31 (v1 + 1) hw
  have J194 : ∀ (n : Nat) (σ : St) (v1 : Int32), wX12_digest_194 Φ n σ v1 → GW κ 0 0 (gW cy A σ) 194 [(0, .ref (A 18)), (1, .int v1)] [] := by
    intro n
    induction n with
    | zero => intro σ v1 hw; exact hw.elim
    | succ n ih =>
      intro σ v1 hw
      rw [wX12_digest_194] at hw
      refine g_iload_n C 1 rfl rfl dX12_digest_194 ?_
      refine g_aload_n C 0 rfl rfl dX12_digest_195 ?_
      refine g_get C hK inX12 rfl 18 (ga_18 cy A _) 17 (by decide) (fun _ h => h) wt_602 rfl dX12_digest_196 ?_
      refine g_icmp_ge C 219 (by decide) hw dX12_digest_199 (fun hw => ?_) (fun hw => ?_)
      · refine g_iconst (v := (0 : Int32)) C dX12_digest_219 (by decide) ?_
        refine g_istore_n C [(1, .int (0 : Int32)), (0, .ref (A 18))] F.2.2.2.1 rfl (by decide) rfl dX12_digest_220 ?_
        refine g_eql (lv' := [(0, .ref (A 18)), (1, .int (0 : Int32))]) [1, 0] rfl ?_
        obtain ⟨n0, hw⟩ := hw
        exact J221 n0 σ (0 : Int32) hw
      · refine g_aload_n C 0 rfl rfl dX12_digest_202 ?_
        refine g_aload_n C 0 rfl rfl dX12_digest_203 ?_
        refine g_get C hK inX12 rfl 18 (ga_18 cy A _) 18 (by decide) (fun _ h => h) wt_603 rfl dX12_digest_204 ?_
        refine g_iload_n C 1 rfl rfl dX12_digest_207 ?_
        refine g_bald C hK 25 0 (ga_25 cy A _) rfl hw.1 dX12_digest_208 ?_
        replace hw := hw.2
        refine g_i2l C dX12_digest_209 ?_
        refine gc_V C (gr_V (As := [.long (σ.1 25 v1.toNatClampNeg).toInt64]) (rest := []) C hK 1 (gd_V wt_826 wt_827 wt_870 wt_8 wt_828) rfl rfl rfl ⟨rfl, hs_X12_mix⟩ ⟨⟨Nat.le_of_ble_eq_true rfl, Nat.le_of_ble_eq_true rfl⟩, Nat.le_of_ble_eq_true rfl, Nat.le_of_ble_eq_true rfl⟩ rfl 18 (ga_18 cy A _) rfl rfl (Nat.le_of_ble_eq_true rfl) dX12_digest_210 (c_X12_mix (q_l κ) (q_D κ) cy A hw)) (fun σ28 hw => ?_)
        refine g_iinc (j := 1) C [(1, .int (v1 + 1)), (0, .ref (A 18))] F.2.2.2.1 rfl rfl (by decide) rfl dX12_digest_213 ?_
        refine g_goto C 194 (by decide) dX12_digest_216 ?_
        refine g_eql (lv' := [(0, .ref (A 18)), (1, .int (v1 + 1))]) [1, 0] rfl ?_
        exact ih σ28 (v1 + 1) hw
  have J171 : ∀ (n : Nat) (σ : St) (v1 : Int32), wX12_digest_171 Φ n σ v1 → GW κ 0 0 (gW cy A σ) 171 [(0, .ref (A 18)), (1, .int v1)] [] := by
    intro n
    induction n with
    | zero => intro σ v1 hw; exact hw.elim
    | succ n ih =>
      intro σ v1 hw
      rw [wX12_digest_171] at hw
      refine g_iload_n C 1 rfl rfl dX12_digest_171 ?_
      refine g_iconst (v := (3 : Int32)) C dX12_digest_172 (by decide) ?_
      refine g_icmp_ge C 192 (by decide) hw dX12_digest_173 (fun hw => ?_) (fun hw => ?_)
      · refine g_iconst (v := (0 : Int32)) C dX12_digest_192 (by decide) ?_
        refine g_istore_n C [(1, .int (0 : Int32)), (0, .ref (A 18))] F.2.2.2.1 rfl (by decide) rfl dX12_digest_193 ?_
        refine g_eql (lv' := [(0, .ref (A 18)), (1, .int (0 : Int32))]) [1, 0] rfl ?_
        obtain ⟨n0, hw⟩ := hw
        exact J194 n0 σ (0 : Int32) hw
      · refine g_aload_n C 0 rfl rfl dX12_digest_176 ?_
        refine g_aload_n C 0 rfl rfl dX12_digest_177 ?_
        refine g_iload_n C 1 rfl rfl dX12_digest_178 ?_
        refine gc_I C (gr_V (As := [.int v1]) (rest := [.ref (A 18)]) C hK 1 (gd_V wt_770 wt_771 wt_864 wt_8 wt_772) rfl rfl rfl ⟨rfl, hs_X12_fitsNow⟩ ⟨⟨Nat.le_of_ble_eq_true rfl, Nat.le_of_ble_eq_true rfl⟩, Nat.le_of_ble_eq_true rfl, Nat.le_of_ble_eq_true rfl⟩ rfl 18 (ga_18 cy A _) rfl rfl (Nat.le_of_ble_eq_true rfl) dX12_digest_179 (c_X12_fitsNow (q_l κ) (q_D κ) cy A hw)) (fun r26 σ25 hw => ?_)
        refine g_i2l C dX12_digest_182 ?_
        refine gc_V C (gr_V (As := [.long r26.toInt64]) (rest := []) C hK 1 (gd_V wt_826 wt_827 wt_870 wt_8 wt_828) rfl rfl rfl ⟨rfl, hs_X12_mix⟩ ⟨⟨Nat.le_of_ble_eq_true rfl, Nat.le_of_ble_eq_true rfl⟩, Nat.le_of_ble_eq_true rfl, Nat.le_of_ble_eq_true rfl⟩ rfl 18 (ga_18 cy A _) rfl rfl (Nat.le_of_ble_eq_true rfl) dX12_digest_183 (c_X12_mix (q_l κ) (q_D κ) cy A hw)) (fun σ27 hw => ?_)
        refine g_iinc (j := 1) C [(1, .int (v1 + 1)), (0, .ref (A 18))] F.2.2.2.1 rfl rfl (by decide) rfl dX12_digest_186 ?_
        refine g_goto C 171 (by decide) dX12_digest_189 ?_
        refine g_eql (lv' := [(0, .ref (A 18)), (1, .int (v1 + 1))]) [1, 0] rfl ?_
        exact ih σ27 (v1 + 1) hw
  have J169 : ∀ (σ : St), wX12_digest_169 Φ σ → GW κ 0 0 (gW cy A σ) 169 [(0, .ref (A 18))] [] := by
    intro σ hw
    unfold wX12_digest_169 at hw
    refine g_iconst (v := (0 : Int32)) C dX12_digest_169 (by decide) ?_
    refine g_istore_n C [(1, .int (0 : Int32)), (0, .ref (A 18))] F.2.2.2.1 rfl (by decide) rfl dX12_digest_170 ?_
    refine g_eql (lv' := [(0, .ref (A 18)), (1, .int (0 : Int32))]) [1, 0] rfl ?_
    obtain ⟨n0, hw⟩ := hw
    exact J171 n0 σ (0 : Int32) hw
  have J63 : ∀ (K53 : St → Int32 → Prop) (_ : ∀ (σ : St) (v1 : Int32), K53 σ v1 → GW κ 0 0 (gW cy A σ) 53 [(0, .ref (A 18)), (1, .int v1)] []), ∀ (n : Nat) (σ : St) (v1 : Int32) (v2 : Int32), wX12_digest_63 K53 Φ n σ v1 v2 → GW κ 0 0 (gW cy A σ) 63 [(0, .ref (A 18)), (1, .int v1), (2, .int v2)] [] := by
    intro K53 hK53 n
    induction n with
    | zero => intro σ v1 v2 hw; exact hw.elim
    | succ n ih =>
      intro σ v1 v2 hw
      rw [wX12_digest_63] at hw
      refine g_iload_n C 2 rfl rfl dX12_digest_63 ?_
      refine g_iconst (v := (5 : Int32)) C dX12_digest_64 (by decide) ?_
      refine g_icmp_ge C 85 (by decide) hw dX12_digest_65 (fun hw => ?_) (fun hw => ?_)
      · refine g_iinc (j := 1) C [(1, .int (v1 + 1)), (0, .ref (A 18)), (2, .int v2)] F.2.2.2.1 rfl rfl (by decide) rfl dX12_digest_85 ?_
        refine g_goto C 53 (by decide) dX12_digest_88 ?_
        refine g_eql (lv' := [(0, .ref (A 18)), (1, .int (v1 + 1))]) [1, 0] rfl ?_
        exact hK53 σ (v1 + 1) hw
      · refine g_aload_n C 0 rfl rfl dX12_digest_68 ?_
        refine g_aload_n C 0 rfl rfl dX12_digest_69 ?_
        refine g_iload_n C 1 rfl rfl dX12_digest_70 ?_
        refine g_iload_n C 2 rfl rfl dX12_digest_71 ?_
        refine gc_I C (gr_V (As := [.int v1, .int v2]) (rest := [.ref (A 18)]) C hK 2 (gd_V wt_691 wt_692 wt_854 wt_8 wt_693) rfl rfl rfl ⟨rfl, hs_X12_thingNow⟩ ⟨⟨Nat.le_of_ble_eq_true rfl, Nat.le_of_ble_eq_true rfl⟩, Nat.le_of_ble_eq_true rfl, Nat.le_of_ble_eq_true rfl⟩ rfl 18 (ga_18 cy A _) rfl rfl (Nat.le_of_ble_eq_true rfl) dX12_digest_72 (c_X12_thingNow (q_l κ) (q_D κ) cy A hw)) (fun r23 σ22 hw => ?_)
        refine g_i2l C dX12_digest_75 ?_
        refine gc_V C (gr_V (As := [.long r23.toInt64]) (rest := []) C hK 1 (gd_V wt_826 wt_827 wt_870 wt_8 wt_828) rfl rfl rfl ⟨rfl, hs_X12_mix⟩ ⟨⟨Nat.le_of_ble_eq_true rfl, Nat.le_of_ble_eq_true rfl⟩, Nat.le_of_ble_eq_true rfl, Nat.le_of_ble_eq_true rfl⟩ rfl 18 (ga_18 cy A _) rfl rfl (Nat.le_of_ble_eq_true rfl) dX12_digest_76 (c_X12_mix (q_l κ) (q_D κ) cy A hw)) (fun σ24 hw => ?_)
        refine g_iinc (j := 2) C [(2, .int (v2 + 1)), (0, .ref (A 18)), (1, .int v1)] F.2.2.2.1 rfl rfl (by decide) rfl dX12_digest_79 ?_
        refine g_goto C 63 (by decide) dX12_digest_82 ?_
        refine g_eql (lv' := [(0, .ref (A 18)), (1, .int v1), (2, .int (v2 + 1))]) [1, 2, 0] rfl ?_
        exact ih σ24 v1 (v2 + 1) hw
  have J53 : ∀ (n : Nat) (σ : St) (v1 : Int32), wX12_digest_53 Φ n σ v1 → GW κ 0 0 (gW cy A σ) 53 [(0, .ref (A 18)), (1, .int v1)] [] := by
    intro n
    induction n with
    | zero => intro σ v1 hw; exact hw.elim
    | succ n ih =>
      intro σ v1 hw
      rw [wX12_digest_53] at hw
      refine g_iload_n C 1 rfl rfl dX12_digest_53 ?_
      refine g_aload_n C 0 rfl rfl dX12_digest_54 ?_
      refine g_get C hK inX12 rfl 18 (ga_18 cy A _) 9 (by decide) (fun _ h => h) wt_594 rfl dX12_digest_55 ?_
      refine g_icmp_ge C 91 (by decide) hw dX12_digest_58 (fun hw => ?_) (fun hw => ?_)
      · refine g_aload_n C 0 rfl rfl dX12_digest_91 ?_
        refine g_get C hK inX12 rfl 18 (ga_18 cy A _) 0 (by decide) (fun _ h => h) wt_585 rfl dX12_digest_92 ?_
        refine g_if_eq C 169 (by decide) hw dX12_digest_95 (fun hw => ?_) (fun hw => ?_)
        · refine g_eql (lv' := [(0, .ref (A 18))]) [0] rfl ?_
          exact J169 σ hw
        · refine g_aload_n C 0 rfl rfl dX12_digest_98 ?_
          refine g_get C hK inX12 rfl 18 (ga_18 cy A _) 6 (by decide) (fun _ h => h) wt_591 rfl dX12_digest_99 ?_
          refine g_if_ne C 169 (by decide) hw dX12_digest_102 (fun hw => ?_) (fun hw => ?_)
          · refine g_eql (lv' := [(0, .ref (A 18))]) [0] rfl ?_
            exact J169 σ hw
          · refine g_aload_n C 0 rfl rfl dX12_digest_105 ?_
            refine g_aload_n C 0 rfl rfl dX12_digest_106 ?_
            refine g_iconst (v := (0 : Int32)) C dX12_digest_107 (by decide) ?_
            refine gc_I C (gr_V (As := [.int (0 : Int32)]) (rest := [.ref (A 18)]) C hK 1 (gd_V wt_722 wt_723 wt_858 wt_8 wt_724) rfl rfl rfl ⟨rfl, hs_X12_evenNow⟩ ⟨⟨Nat.le_of_ble_eq_true rfl, Nat.le_of_ble_eq_true rfl⟩, Nat.le_of_ble_eq_true rfl, Nat.le_of_ble_eq_true rfl⟩ rfl 18 (ga_18 cy A _) rfl rfl (Nat.le_of_ble_eq_true rfl) dX12_digest_108 (c_X12_evenNow (q_l κ) (q_D κ) cy A hw)) (fun r5 σ4 hw => ?_)
            refine g_i2l C dX12_digest_111 ?_
            refine gc_V C (gr_V (As := [.long r5.toInt64]) (rest := []) C hK 1 (gd_V wt_826 wt_827 wt_870 wt_8 wt_828) rfl rfl rfl ⟨rfl, hs_X12_mix⟩ ⟨⟨Nat.le_of_ble_eq_true rfl, Nat.le_of_ble_eq_true rfl⟩, Nat.le_of_ble_eq_true rfl, Nat.le_of_ble_eq_true rfl⟩ rfl 18 (ga_18 cy A _) rfl rfl (Nat.le_of_ble_eq_true rfl) dX12_digest_112 (c_X12_mix (q_l κ) (q_D κ) cy A hw)) (fun σ6 hw => ?_)
            refine g_aload_n C 0 rfl rfl dX12_digest_115 ?_
            refine g_aload_n C 0 rfl rfl dX12_digest_116 ?_
            refine g_iconst (v := (1 : Int32)) C dX12_digest_117 (by decide) ?_
            refine gc_I C (gr_V (As := [.int (1 : Int32)]) (rest := [.ref (A 18)]) C hK 1 (gd_V wt_722 wt_723 wt_858 wt_8 wt_724) rfl rfl rfl ⟨rfl, hs_X12_evenNow⟩ ⟨⟨Nat.le_of_ble_eq_true rfl, Nat.le_of_ble_eq_true rfl⟩, Nat.le_of_ble_eq_true rfl, Nat.le_of_ble_eq_true rfl⟩ rfl 18 (ga_18 cy A _) rfl rfl (Nat.le_of_ble_eq_true rfl) dX12_digest_118 (c_X12_evenNow (q_l κ) (q_D κ) cy A hw)) (fun r8 σ7 hw => ?_)
            refine g_i2l C dX12_digest_121 ?_
            refine gc_V C (gr_V (As := [.long r8.toInt64]) (rest := []) C hK 1 (gd_V wt_826 wt_827 wt_870 wt_8 wt_828) rfl rfl rfl ⟨rfl, hs_X12_mix⟩ ⟨⟨Nat.le_of_ble_eq_true rfl, Nat.le_of_ble_eq_true rfl⟩, Nat.le_of_ble_eq_true rfl, Nat.le_of_ble_eq_true rfl⟩ rfl 18 (ga_18 cy A _) rfl rfl (Nat.le_of_ble_eq_true rfl) dX12_digest_122 (c_X12_mix (q_l κ) (q_D κ) cy A hw)) (fun σ9 hw => ?_)
            refine g_aload_n C 0 rfl rfl dX12_digest_125 ?_
            refine g_aload_n C 0 rfl rfl dX12_digest_126 ?_
            refine g_bipush (v := (100 : Int32)) C dX12_digest_127 (by decide) ?_
            refine g_iconst (v := (0 : Int32)) C dX12_digest_129 (by decide) ?_
            refine gc_I C (gr_V (As := [.int (100 : Int32), .int (0 : Int32)]) (rest := [.ref (A 18)]) C hK 2 (gd_V wt_736 wt_737 wt_860 wt_8 wt_738) rfl rfl rfl ⟨rfl, hs_X12_soonestNow⟩ ⟨⟨Nat.le_of_ble_eq_true rfl, Nat.le_of_ble_eq_true rfl⟩, Nat.le_of_ble_eq_true rfl, Nat.le_of_ble_eq_true rfl⟩ rfl 18 (ga_18 cy A _) rfl rfl (Nat.le_of_ble_eq_true rfl) dX12_digest_130 (c_X12_soonestNow (q_l κ) (q_D κ) cy A hw)) (fun r11 σ10 hw => ?_)
            refine g_i2l C dX12_digest_133 ?_
            refine gc_V C (gr_V (As := [.long r11.toInt64]) (rest := []) C hK 1 (gd_V wt_826 wt_827 wt_870 wt_8 wt_828) rfl rfl rfl ⟨rfl, hs_X12_mix⟩ ⟨⟨Nat.le_of_ble_eq_true rfl, Nat.le_of_ble_eq_true rfl⟩, Nat.le_of_ble_eq_true rfl, Nat.le_of_ble_eq_true rfl⟩ rfl 18 (ga_18 cy A _) rfl rfl (Nat.le_of_ble_eq_true rfl) dX12_digest_134 (c_X12_mix (q_l κ) (q_D κ) cy A hw)) (fun σ12 hw => ?_)
            refine g_aload_n C 0 rfl rfl dX12_digest_137 ?_
            refine g_aload_n C 0 rfl rfl dX12_digest_138 ?_
            refine g_bipush (v := (100 : Int32)) C dX12_digest_139 (by decide) ?_
            refine g_iconst (v := (1 : Int32)) C dX12_digest_141 (by decide) ?_
            refine gc_I C (gr_V (As := [.int (100 : Int32), .int (1 : Int32)]) (rest := [.ref (A 18)]) C hK 2 (gd_V wt_736 wt_737 wt_860 wt_8 wt_738) rfl rfl rfl ⟨rfl, hs_X12_soonestNow⟩ ⟨⟨Nat.le_of_ble_eq_true rfl, Nat.le_of_ble_eq_true rfl⟩, Nat.le_of_ble_eq_true rfl, Nat.le_of_ble_eq_true rfl⟩ rfl 18 (ga_18 cy A _) rfl rfl (Nat.le_of_ble_eq_true rfl) dX12_digest_142 (c_X12_soonestNow (q_l κ) (q_D κ) cy A hw)) (fun r14 σ13 hw => ?_)
            refine g_i2l C dX12_digest_145 ?_
            refine gc_V C (gr_V (As := [.long r14.toInt64]) (rest := []) C hK 1 (gd_V wt_826 wt_827 wt_870 wt_8 wt_828) rfl rfl rfl ⟨rfl, hs_X12_mix⟩ ⟨⟨Nat.le_of_ble_eq_true rfl, Nat.le_of_ble_eq_true rfl⟩, Nat.le_of_ble_eq_true rfl, Nat.le_of_ble_eq_true rfl⟩ rfl 18 (ga_18 cy A _) rfl rfl (Nat.le_of_ble_eq_true rfl) dX12_digest_146 (c_X12_mix (q_l κ) (q_D κ) cy A hw)) (fun σ15 hw => ?_)
            refine g_aload_n C 0 rfl rfl dX12_digest_149 ?_
            refine g_aload_n C 0 rfl rfl dX12_digest_150 ?_
            refine g_iconst (v := (2 : Int32)) C dX12_digest_151 (by decide) ?_
            refine g_iconst (v := (0 : Int32)) C dX12_digest_152 (by decide) ?_
            refine gc_L C (gr_V (As := [.int (2 : Int32), .int (0 : Int32)]) (rest := [.ref (A 18)]) C hK 2 (gd_V wt_778 wt_779 wt_865 wt_8 wt_780) rfl rfl rfl ⟨rfl, hs_X12_lastsNow⟩ ⟨⟨Nat.le_of_ble_eq_true rfl, Nat.le_of_ble_eq_true rfl⟩, Nat.le_of_ble_eq_true rfl, Nat.le_of_ble_eq_true rfl⟩ rfl 18 (ga_18 cy A _) rfl rfl (Nat.le_of_ble_eq_true rfl) dX12_digest_153 (c_X12_lastsNow (q_l κ) (q_D κ) cy A hw)) (fun r17 σ16 hw => ?_)
            refine gc_V C (gr_V (As := [.long r17]) (rest := []) C hK 1 (gd_V wt_826 wt_827 wt_870 wt_8 wt_828) rfl rfl rfl ⟨rfl, hs_X12_mix⟩ ⟨⟨Nat.le_of_ble_eq_true rfl, Nat.le_of_ble_eq_true rfl⟩, Nat.le_of_ble_eq_true rfl, Nat.le_of_ble_eq_true rfl⟩ rfl 18 (ga_18 cy A _) rfl rfl (Nat.le_of_ble_eq_true rfl) dX12_digest_156 (c_X12_mix (q_l κ) (q_D κ) cy A hw)) (fun σ18 hw => ?_)
            refine g_aload_n C 0 rfl rfl dX12_digest_159 ?_
            refine g_aload_n C 0 rfl rfl dX12_digest_160 ?_
            refine g_iconst (v := (2 : Int32)) C dX12_digest_161 (by decide) ?_
            refine g_iconst (v := (1 : Int32)) C dX12_digest_162 (by decide) ?_
            refine gc_L C (gr_V (As := [.int (2 : Int32), .int (1 : Int32)]) (rest := [.ref (A 18)]) C hK 2 (gd_V wt_778 wt_779 wt_865 wt_8 wt_780) rfl rfl rfl ⟨rfl, hs_X12_lastsNow⟩ ⟨⟨Nat.le_of_ble_eq_true rfl, Nat.le_of_ble_eq_true rfl⟩, Nat.le_of_ble_eq_true rfl, Nat.le_of_ble_eq_true rfl⟩ rfl 18 (ga_18 cy A _) rfl rfl (Nat.le_of_ble_eq_true rfl) dX12_digest_163 (c_X12_lastsNow (q_l κ) (q_D κ) cy A hw)) (fun r20 σ19 hw => ?_)
            refine gc_V C (gr_V (As := [.long r20]) (rest := []) C hK 1 (gd_V wt_826 wt_827 wt_870 wt_8 wt_828) rfl rfl rfl ⟨rfl, hs_X12_mix⟩ ⟨⟨Nat.le_of_ble_eq_true rfl, Nat.le_of_ble_eq_true rfl⟩, Nat.le_of_ble_eq_true rfl, Nat.le_of_ble_eq_true rfl⟩ rfl 18 (ga_18 cy A _) rfl rfl (Nat.le_of_ble_eq_true rfl) dX12_digest_166 (c_X12_mix (q_l κ) (q_D κ) cy A hw)) (fun σ21 hw => ?_)
            refine g_eql (lv' := [(0, .ref (A 18))]) [0] rfl ?_
            exact J169 σ21 hw
      · refine g_iconst (v := (0 : Int32)) C dX12_digest_61 (by decide) ?_
        refine g_istore_n C [(2, .int (0 : Int32)), (0, .ref (A 18)), (1, .int v1)] F.2.2.2.1 rfl (by decide) rfl dX12_digest_62 ?_
        refine g_eql (lv' := [(0, .ref (A 18)), (1, .int v1), (2, .int (0 : Int32))]) [1, 2, 0] rfl ?_
        obtain ⟨n0, hw⟩ := hw
        exact J63 _ ih n0 σ v1 (0 : Int32) hw
  have J51 : ∀ (σ : St), wX12_digest_51 Φ σ → GW κ 0 0 (gW cy A σ) 51 [(0, .ref (A 18))] [] := by
    intro σ hw
    unfold wX12_digest_51 at hw
    refine g_iconst (v := (0 : Int32)) C dX12_digest_51 (by decide) ?_
    refine g_istore_n C [(1, .int (0 : Int32)), (0, .ref (A 18))] F.2.2.2.1 rfl (by decide) rfl dX12_digest_52 ?_
    refine g_eql (lv' := [(0, .ref (A 18)), (1, .int (0 : Int32))]) [1, 0] rfl ?_
    obtain ⟨n0, hw⟩ := hw
    exact J53 n0 σ (0 : Int32) hw
  have J23 : ∀ (K9 : St → Int32 → Prop) (_ : ∀ (σ : St) (v1 : Int32), K9 σ v1 → GW κ 0 0 (gW cy A σ) 9 [(0, .ref (A 18)), (1, .int v1)] []), ∀ (n : Nat) (σ : St) (v1 : Int32) (v2 : Int32), wX12_digest_23 K9 Φ n σ v1 v2 → GW κ 0 0 (gW cy A σ) 23 [(0, .ref (A 18)), (1, .int v1), (2, .int v2)] [] := by
    intro K9 hK9 n
    induction n with
    | zero => intro σ v1 v2 hw; exact hw.elim
    | succ n ih =>
      intro σ v1 v2 hw
      rw [wX12_digest_23] at hw
      refine g_iload_n C 2 rfl rfl dX12_digest_23 ?_
      refine g_iconst (v := (4 : Int32)) C dX12_digest_24 (by decide) ?_
      refine g_icmp_ge C 45 (by decide) hw dX12_digest_25 (fun hw => ?_) (fun hw => ?_)
      · refine g_iinc (j := 1) C [(1, .int (v1 + 1)), (0, .ref (A 18)), (2, .int v2)] F.2.2.2.1 rfl rfl (by decide) rfl dX12_digest_45 ?_
        refine g_goto C 9 (by decide) dX12_digest_48 ?_
        refine g_eql (lv' := [(0, .ref (A 18)), (1, .int (v1 + 1))]) [1, 0] rfl ?_
        exact hK9 σ (v1 + 1) hw
      · refine g_aload_n C 0 rfl rfl dX12_digest_28 ?_
        refine g_aload_n C 0 rfl rfl dX12_digest_29 ?_
        refine g_iload_n C 1 rfl rfl dX12_digest_30 ?_
        refine g_iload_n C 2 rfl rfl dX12_digest_31 ?_
        refine gc_I C (gr_V (As := [.int v1, .int v2]) (rest := [.ref (A 18)]) C hK 2 (gd_V wt_656 wt_657 wt_846 wt_8 wt_658) rfl rfl rfl ⟨rfl, hs_X12_cabinNow⟩ ⟨⟨Nat.le_of_ble_eq_true rfl, Nat.le_of_ble_eq_true rfl⟩, Nat.le_of_ble_eq_true rfl, Nat.le_of_ble_eq_true rfl⟩ rfl 18 (ga_18 cy A _) rfl rfl (Nat.le_of_ble_eq_true rfl) dX12_digest_32 (c_X12_cabinNow (q_l κ) (q_D κ) cy A hw)) (fun r2 σ1 hw => ?_)
        refine g_i2l C dX12_digest_35 ?_
        refine gc_V C (gr_V (As := [.long r2.toInt64]) (rest := []) C hK 1 (gd_V wt_826 wt_827 wt_870 wt_8 wt_828) rfl rfl rfl ⟨rfl, hs_X12_mix⟩ ⟨⟨Nat.le_of_ble_eq_true rfl, Nat.le_of_ble_eq_true rfl⟩, Nat.le_of_ble_eq_true rfl, Nat.le_of_ble_eq_true rfl⟩ rfl 18 (ga_18 cy A _) rfl rfl (Nat.le_of_ble_eq_true rfl) dX12_digest_36 (c_X12_mix (q_l κ) (q_D κ) cy A hw)) (fun σ3 hw => ?_)
        refine g_iinc (j := 2) C [(2, .int (v2 + 1)), (0, .ref (A 18)), (1, .int v1)] F.2.2.2.1 rfl rfl (by decide) rfl dX12_digest_39 ?_
        refine g_goto C 23 (by decide) dX12_digest_42 ?_
        refine g_eql (lv' := [(0, .ref (A 18)), (1, .int v1), (2, .int (v2 + 1))]) [1, 2, 0] rfl ?_
        exact ih σ3 v1 (v2 + 1) hw
  have J9 : ∀ (n : Nat) (σ : St) (v1 : Int32), wX12_digest_9 Φ n σ v1 → GW κ 0 0 (gW cy A σ) 9 [(0, .ref (A 18)), (1, .int v1)] [] := by
    intro n
    induction n with
    | zero => intro σ v1 hw; exact hw.elim
    | succ n ih =>
      intro σ v1 hw
      rw [wX12_digest_9] at hw
      refine g_iload_n C 1 rfl rfl dX12_digest_9 ?_
      refine g_iconst (v := (2 : Int32)) C dX12_digest_10 (by decide) ?_
      refine g_icmp_ge C 51 (by decide) hw dX12_digest_11 (fun hw => ?_) (fun hw => ?_)
      · refine g_eql (lv' := [(0, .ref (A 18))]) [0] rfl ?_
        exact J51 σ hw
      · refine g_aload_n C 0 rfl rfl dX12_digest_14 ?_
        refine g_get C hK inX12 rfl 18 (ga_18 cy A _) 0 (by decide) (fun _ h => h) wt_585 rfl dX12_digest_15 ?_
        refine g_if_eq C 51 (by decide) hw dX12_digest_18 (fun hw => ?_) (fun hw => ?_)
        · refine g_eql (lv' := [(0, .ref (A 18))]) [0] rfl ?_
          exact J51 σ hw
        · refine g_iconst (v := (0 : Int32)) C dX12_digest_21 (by decide) ?_
          refine g_istore_n C [(2, .int (0 : Int32)), (0, .ref (A 18)), (1, .int v1)] F.2.2.2.1 rfl (by decide) rfl dX12_digest_22 ?_
          refine g_eql (lv' := [(0, .ref (A 18)), (1, .int v1), (2, .int (0 : Int32))]) [1, 2, 0] rfl ?_
          obtain ⟨n0, hw⟩ := hw
          exact J23 _ ih n0 σ v1 (0 : Int32) hw
  unfold wX12_digest at hw
  refine g_aload_n C 0 rfl rfl dX12_digest_0 ?_
  refine g_ldc2 (v := (683 : Int64)) C dX12_digest_1 wt_825 ?_
  refine g_put (v := .long (683 : Int64)) C hK inX12 rfl tyX12 tyX12_ok nmX12 18 (ga_18 cy A _) 39 (by decide) (fun _ h => h) wt_624 rfl rfl rfl (Nat.le_of_ble_eq_true rfl) (gp_18_39 cy A _ _) dX12_digest_4 ?_
  refine g_iconst (v := (0 : Int32)) C dX12_digest_7 (by decide) ?_
  refine g_istore_n C [(1, .int (0 : Int32)), (0, .ref (A 18))] F.2.2.2.1 rfl (by decide) rfl dX12_digest_8 ?_
  refine g_eql (lv' := [(0, .ref (A 18)), (1, .int (0 : Int32))]) [1, 0] rfl ?_
  obtain ⟨n0, hw⟩ := hw
  exact J9 n0 (sJ σ 1 (683 : Int64)) (0 : Int32) hw
