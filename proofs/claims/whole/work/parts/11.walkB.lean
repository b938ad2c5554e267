set_option maxHeartbeats 4000000 in
set_option maxRecDepth 100000 in
theorem c_X1_init (l : Launch) (D : va_G) (cy : Nat → ClassId) (A : Nat → Nat) {σ : St} {a0 : Nat} {v1 : Int32} {v2 : Int32} {v3 : Int32} {Φ : St → Prop} (hw : wX1_init σ a0 v1 v2 v3 Φ) : CtV l yX1_init (.code yX1_init cX1_init 4 none :: gL) rm_X1_init 0 0 [.ref a0, .int v1, .int v2, .int v3] D cy A σ Φ := by
  refine ct_any (fun sz => va_Qv Φ (HE D cy A (gZ cy A σ sz)) (gZ cy A σ sz)) (by decide +kernel) rfl rfl [(0, .ref a0), (1, .int v1), (2, .int v2), (3, .int v3)] rfl (Nat.le_of_ble_eq_true rfl) ?_
  intro κ hκl hnm C hK sz F
  subst hκl
  unfold wX1_init at hw
  refine g_aload_n C 0 rfl rfl dX1_init_0 ?_
  refine g_iload_n C 1 rfl rfl dX1_init_1 ?_
  refine g_iload_n C 2 rfl rfl dX1_init_2 ?_
  refine g_iload_n C 3 rfl rfl dX1_init_3 ?_
  refine gc_V C (gr_N (As := [.int v1, .int v2, .int v3]) (rest := []) C hK 3 (gd_N wt_265) rfl rfl rfl wt_10 wt_263 wt_264 rfl hs_X9_init ⟨⟨Nat.le_of_ble_eq_true rfl, Nat.le_of_ble_eq_true rfl⟩, Nat.le_of_ble_eq_true rfl, Nat.le_of_ble_eq_true rfl⟩ rfl rfl (Nat.le_of_ble_eq_true rfl) dX1_init_4 (c_X9_init (q_l κ) (q_D κ) cy A hw)) (fun σ1 hw => ?_)
  exact gq_V C F (by decide) (by decide) hw dX1_init_7
set_option maxHeartbeats 4000000 in
set_option maxRecDepth 100000 in
theorem c_X1_kind (l : Launch) (D : va_G) (cy : Nat → ClassId) (A : Nat → Nat) {σ : St} {a0 : Nat} {Φ : Int32 → St → Prop} (hw : wX1_kind σ a0 Φ) : CtI l yX1_kind (.code yX1_kind cX1_kind 1 (some .int) :: gL) rm_X1_kind 0 0 [.ref a0] D cy A σ Φ := by
  refine ct_any (fun sz => va_Qi Φ (HE D cy A (gZ cy A σ sz)) (gZ cy A σ sz)) (by decide +kernel) rfl rfl [(0, .ref a0)] rfl (Nat.le_of_ble_eq_true rfl) ?_
  intro κ hκl hnm C hK sz F
  subst hκl
  unfold wX1_kind at hw
  refine g_iconst (v := (1 : Int32)) C dX1_kind_0 (by decide) ?_
  exact gq_I C F (by decide) (by decide) hw dX1_kind_1
set_option maxHeartbeats 4000000 in
set_option maxRecDepth 100000 in
theorem c_J9_abs_0f7a4 (l : Launch) (D : va_G) (cy : Nat → ClassId) (A : Nat → Nat) {σ : St} {v0 : Int32} {Φ : Int32 → St → Prop} (hw : wJ9_abs_0f7a4 σ v0 Φ) : CtI l yJ9_abs_0f7a4 (.code yJ9_abs_0f7a4 cJ9_abs_0f7a4 1 (some .int) :: gL) rm_J9_abs_0f7a4 0 0 [.int v0] D cy A σ Φ := by
  refine ct_any (fun sz => va_Qi Φ (HE D cy A (gZ cy A σ sz)) (gZ cy A σ sz)) (by decide +kernel) rfl rfl [(0, .int v0)] rfl (Nat.le_of_ble_eq_true rfl) ?_
  intro κ hκl hnm C hK sz F
  subst hκl
  unfold wJ9_abs_0f7a4 at hw
  refine g_iload_n C 0 rfl rfl dJ9_abs_0f7a4_0 ?_
  refine g_if_ge C 9 (by decide) hw dJ9_abs_0f7a4_1 (fun hw => ?_) (fun hw => ?_)
  · refine g_iload_n C 0 rfl rfl dJ9_abs_0f7a4_9 ?_
    exact gq_I C F (by decide) (by decide) hw dJ9_abs_0f7a4_10
  · refine g_iload_n C 0 rfl rfl dJ9_abs_0f7a4_4 ?_
    refine g_ineg C dJ9_abs_0f7a4_5 ?_
    refine g_goto C 10 (by decide) dJ9_abs_0f7a4_6 ?_
    exact gq_I C F (by decide) (by decide) hw dJ9_abs_0f7a4_10
set_option maxHeartbeats 4000000 in
set_option maxRecDepth 100000 in
theorem c_X2_summed (l : Launch) (D : va_G) (cy : Nat → ClassId) (A : Nat → Nat) {σ : St} {q : Nat} (hq : isQ q) {v1 : Int32} {Φ : Int32 → St → Prop} (hw : wX2_summed σ q v1 Φ) : CtI l yX2_summed (.code yX2_summed cX2_summed 4 (some .int) :: gL) rm_X2_summed 0 0 [.ref (A q), .int v1] D cy A σ Φ := by
  refine ct_any (fun sz => va_Qi Φ (HE D cy A (gZ cy A σ sz)) (gZ cy A σ sz)) (by decide +kernel) rfl rfl [(0, .ref (A q)), (1, .int v1)] rfl (Nat.le_of_ble_eq_true rfl) ?_
  intro κ hκl hnm C hK sz F
  subst hκl
  have J24 : ∀ (K4 : St → Int32 → Int32 → Int32 → Prop) (_ : ∀ (σ : St) (v1 : Int32) (v2 : Int32) (v3 : Int32), K4 σ v1 v2 v3 → GW κ 0 0 (gW cy A σ) 4 [(0, .ref (A q)), (1, .int v1), (2, .int v2), (3, .int v3)] []), ∀ (σ : St) (v1 : Int32) (v2 : Int32) (v3 : Int32), wX2_summed_24 q K4 Φ σ v1 v2 v3 → GW κ 0 0 (gW cy A σ) 24 [(0, .ref (A q)), (1, .int v1), (2, .int v2), (3, .int v3)] [] := by
    intro K4 hK4 σ v1 v2 v3 hw
    unfold wX2_summed_24 at hw
    refine g_iinc (j := 3) C [(3, .int (v3 + 1)), (0, .ref (A q)), (1, .int v1), (2, .int v2)] F.2.2.2.1 rfl rfl (by decide) rfl dX2_summed_24 ?_
    refine g_goto C 4 (by decide) dX2_summed_27 ?_
    refine g_eql (lv' := [(0, .ref (A q)), (1, .int v1), (2, .int v2), (3, .int (v3 + 1))]) [1, 2, 3, 0] rfl ?_
    exact hK4 σ v1 v2 (v3 + 1) hw
  have J4 : ∀ (n : Nat) (σ : St) (v1 : Int32) (v2 : Int32) (v3 : Int32), wX2_summed_4 q Φ n σ v1 v2 v3 → GW κ 0 0 (gW cy A σ) 4 [(0, .ref (A q)), (1, .int v1), (2, .int v2), (3, .int v3)] [] := by
    intro n
    induction n with
    | zero => intro σ v1 v2 v3 hw; exact hw.elim
    | succ n ih =>
      intro σ v1 v2 v3 hw
      rw [wX2_summed_4] at hw
      refine g_iload_n C 3 rfl rfl dX2_summed_4 ?_
      refine g_aload_n C 0 rfl rfl dX2_summed_5 ?_
      refine g_alen (v := 6) C hK q 2 (ga_q cy A _ hq) rfl rfl dX2_summed_6 ?_
      refine g_icmp_ge C 30 (by decide) hw dX2_summed_7 (fun hw => ?_) (fun hw => ?_)
      · refine g_iload_n C 2 rfl rfl dX2_summed_30 ?_
        exact gq_I C F (by decide) (by decide) hw dX2_summed_31
      · refine g_iload_n C 1 rfl rfl dX2_summed_10 ?_
        refine g_iload_n C 3 rfl rfl dX2_summed_11 ?_
        refine g_ishr C dX2_summed_12 ?_
        refine g_iconst (v := (1 : Int32)) C dX2_summed_13 (by decide) ?_
        refine g_iand C dX2_summed_14 ?_
        refine g_if_eq C 24 (by decide) hw dX2_summed_15 (fun hw => ?_) (fun hw => ?_)
        · exact J24 _ ih σ v1 v2 v3 hw
        · refine g_iload_n C 2 rfl rfl dX2_summed_18 ?_
          refine g_aload_n C 0 rfl rfl dX2_summed_19 ?_
          refine g_iload_n C 3 rfl rfl dX2_summed_20 ?_
          refine g_iald C hK q 2 (ga_q cy A _ hq) rfl hw.1 dX2_summed_21 ?_
          replace hw := hw.2
          refine g_iadd C dX2_summed_22 ?_
          refine g_istore_n C [(2, .int (v2 + (σ.1 q v3.toNatClampNeg))), (0, .ref (A q)), (1, .int v1), (3, .int v3)] F.2.2.2.1 rfl (by decide) rfl dX2_summed_23 ?_
          refine g_eql (lv' := [(0, .ref (A q)), (1, .int v1), (2, .int (v2 + (σ.1 q v3.toNatClampNeg))), (3, .int v3)]) [1, 2, 0, 3] rfl ?_
          exact J24 _ ih σ v1 (v2 + (σ.1 q v3.toNatClampNeg)) v3 hw
  unfold wX2_summed at hw
  refine g_iconst (v := (0 : Int32)) C dX2_summed_0 (by decide) ?_
  refine g_istore_n C [(2, .int (0 : Int32)), (0, .ref (A q)), (1, .int v1)] F.2.2.2.1 rfl (by decide) rfl dX2_summed_1 ?_
  refine g_iconst (v := (0 : Int32)) C dX2_summed_2 (by decide) ?_
  refine g_istore_n C [(3, .int (0 : Int32)), (2, .int (0 : Int32)), (0, .ref (A q)), (1, .int v1)] F.2.2.2.1 rfl (by decide) rfl dX2_summed_3 ?_
  refine g_eql (lv' := [(0, .ref (A q)), (1, .int v1), (2, .int (0 : Int32)), (3, .int (0 : Int32))]) [2, 3, 1, 0] rfl ?_
  obtain ⟨n0, hw⟩ := hw
  exact J4 n0 σ v1 (0 : Int32) (0 : Int32) hw
set_option maxHeartbeats 4000000 in
set_option maxRecDepth 100000 in
theorem c_X2_gapWith (l : Launch) (D : va_G) (cy : Nat → ClassId) (A : Nat → Nat) {σ : St} {v1 : Int32} {Φ : Int32 → St → Prop} (hw : wX2_gapWith σ v1 Φ) : CtI l yX2_gapWith (.code yX2_gapWith cX2_gapWith 5 (some .int) :: gL) rm_X2_gapWith 0 0 [.ref (A 10), .int v1, .ref (A 3)] D cy A σ Φ := by
  refine ct_any (fun sz => va_Qi Φ (HE D cy A (gZ cy A σ sz)) (gZ cy A σ sz)) (by decide +kernel) rfl rfl [(0, .ref (A 10)), (1, .int v1), (2, .ref (A 3))] rfl (Nat.le_of_ble_eq_true rfl) ?_
  intro κ hκl hnm C hK sz F
  subst hκl
  unfold wX2_gapWith at hw
  refine g_aload_n C 0 rfl rfl dX2_gapWith_0 ?_
  refine g_get C hK inX2 rfl 10 (ga_10 cy A _) 5 (by decide) (fun _ h => h) wt_90 rfl dX2_gapWith_1 ?_
  refine g_aload_n C 0 rfl rfl dX2_gapWith_4 ?_
  refine g_get C hK inX2 rfl 10 (ga_10 cy A _) 1 (by decide) (fun _ h => h) wt_84 rfl dX2_gapWith_5 ?_
  refine g_iload_n C 1 rfl rfl dX2_gapWith_8 ?_
  refine gc_I C (gr_S (As := [.ref (A 12), .int v1]) (rest := [.int (σ.1 10 5)]) C hK 2 (gd_S wt_417 wt_418 wt_6 wt_419) rfl rfl rfl hs_X2_summed ⟨⟨Nat.le_of_ble_eq_true rfl, Nat.le_of_ble_eq_true rfl⟩, Nat.le_of_ble_eq_true rfl, Nat.le_of_ble_eq_true rfl⟩ rfl rfl (Nat.le_of_ble_eq_true rfl) dX2_gapWith_9 (c_X2_summed (q_l κ) (q_D κ) cy A hQ12 hw)) (fun r2 σ1 hw => ?_)
  refine g_iadd C dX2_gapWith_12 ?_
  refine g_istore_n C [(3, .int ((σ.1 10 5) + r2)), (0, .ref (A 10)), (1, .int v1), (2, .ref (A 3))] F.2.2.2.1 rfl (by decide) rfl dX2_gapWith_13 ?_
  refine g_aload_n C 1 rfl rfl dX2_gapWith_14 ?_
  refine g_get C hK inX2 rfl 10 (ga_10 cy A _) 6 (by decide) (fun _ h => h) wt_91 rfl dX2_gapWith_15 ?_
  refine g_iload_n C 0 rfl rfl dX2_gapWith_18 ?_
  refine g_isub C dX2_gapWith_19 ?_
  refine g_istore C [(4, .int ((σ1.1 10 6) - ((σ.1 10 5) + r2))), (3, .int ((σ.1 10 5) + r2)), (0, .ref (A 10)), (1, .int v1), (2, .ref (A 3))] F.2.2.2.1 (by decide) rfl dX2_gapWith_20 ?_
  refine g_aload_n C 4 rfl rfl dX2_gapWith_22 ?_
  refine g_iconst (v := (0 : Int32)) C dX2_gapWith_23 (by decide) ?_
  refine g_aload_n C 4 rfl rfl dX2_gapWith_24 ?_
  refine g_get C hK inX0 rfl 3 (ga_3 cy A _) 0 (by decide) (fun _ h => h) wt_40 rfl dX2_gapWith_25 ?_
  refine g_iload_n C 1 rfl rfl dX2_gapWith_28 ?_
  refine g_iload C 0 rfl dX2_gapWith_29 ?_
  refine gc_I C (gr_V (As := [.int (0 : Int32), .int (σ1.1 3 0), .int ((σ.1 10 5) + r2), .int ((σ1.1 10 6) - ((σ.1 10 5) + r2))]) (rest := []) C hK 4 (gd_V wt_420 wt_233 wt_234 wt_3 wt_235) rfl rfl rfl ⟨rfl, hs_X0_floorAt⟩ ⟨⟨Nat.le_of_ble_eq_true rfl, Nat.le_of_ble_eq_true rfl⟩, Nat.le_of_ble_eq_true rfl, Nat.le_of_ble_eq_true rfl⟩ rfl 3 (ga_3 cy A _) rfl rfl (Nat.le_of_ble_eq_true rfl) dX2_gapWith_31 (c_X0_floorAt (q_l κ) (q_D κ) cy A hC3 hw)) (fun r4 σ3 hw => ?_)
  refine g_aload_n C 4 rfl rfl dX2_gapWith_34 ?_
  refine g_iconst (v := (1 : Int32)) C dX2_gapWith_35 (by decide) ?_
  refine g_aload_n C 4 rfl rfl dX2_gapWith_36 ?_
  refine g_get C hK inX0 rfl 3 (ga_3 cy A _) 0 (by decide) (fun _ h => h) wt_40 rfl dX2_gapWith_37 ?_
  refine g_iload_n C 1 rfl rfl dX2_gapWith_40 ?_
  refine g_iload C 0 rfl dX2_gapWith_41 ?_
  refine gc_I C (gr_V (As := [.int (1 : Int32), .int (σ3.1 3 0), .int ((σ.1 10 5) + r2), .int ((σ1.1 10 6) - ((σ.1 10 5) + r2))]) (rest := [.int r4]) C hK 4 (gd_V wt_420 wt_233 wt_234 wt_3 wt_235) rfl rfl rfl ⟨rfl, hs_X0_floorAt⟩ ⟨⟨Nat.le_of_ble_eq_true rfl, Nat.le_of_ble_eq_true rfl⟩, Nat.le_of_ble_eq_true rfl, Nat.le_of_ble_eq_true rfl⟩ rfl 3 (ga_3 cy A _) rfl rfl (Nat.le_of_ble_eq_true rfl) dX2_gapWith_43 (c_X0_floorAt (q_l κ) (q_D κ) cy A hC3 hw)) (fun r6 σ5 hw => ?_)
  refine g_isub C dX2_gapWith_46 ?_
  refine gc_I C (gr_S (As := [.int (r4 - r6)]) (rest := []) C hK 1 (gd_S wt_421 wt_422 wt_9 wt_423) rfl rfl rfl hs_J9_abs_0f7a4 ⟨⟨Nat.le_of_ble_eq_true rfl, Nat.le_of_ble_eq_true rfl⟩, Nat.le_of_ble_eq_true rfl, Nat.le_of_ble_eq_true rfl⟩ rfl rfl (Nat.le_of_ble_eq_true rfl) dX2_gapWith_47 (c_J9_abs_0f7a4 (q_l κ) (q_D κ) cy A hw)) (fun r8 σ7 hw => ?_)
  exact gq_I C F (by decide) (by decide) hw dX2_gapWith_50
set_option maxHeartbeats 4000000 in
set_option maxRecDepth 100000 in
theorem c_X3_goesAcross (l : Launch) (D : va_G) (cy : Nat → ClassId) (A : Nat → Nat) {σ : St} {a0 : Nat} {v1 : Int32} {Φ : Int32 → St → Prop} (hw : wX3_goesAcross σ a0 v1 Φ) : CtI l yX3_goesAcross (.code yX3_goesAcross cX3_goesAcross 2 (some .boolean) :: gL) rm_X3_goesAcross 0 0 [.ref a0, .int v1] D cy A σ Φ := by
  refine ct_any (fun sz => va_Qi Φ (HE D cy A (gZ cy A σ sz)) (gZ cy A σ sz)) (by decide +kernel) rfl rfl [(0, .ref a0), (1, .int v1)] rfl (Nat.le_of_ble_eq_true rfl) ?_
  intro κ hκl hnm C hK sz F
  subst hκl
  unfold wX3_goesAcross at hw
  refine g_iload_n C 1 rfl rfl dX3_goesAcross_0 ?_
  refine g_iconst (v := (2 : Int32)) C dX3_goesAcross_1 (by decide) ?_
  refine g_icmp_gt C 9 (by decide) hw dX3_goesAcross_2 (fun hw => ?_) (fun hw => ?_)
  · refine g_iconst (v := (0 : Int32)) C dX3_goesAcross_9 (by decide) ?_
    exact gq_Z C F (by decide) (by decide) hw dX3_goesAcross_10
  · refine g_iconst (v := (1 : Int32)) C dX3_goesAcross_5 (by decide) ?_
    refine g_goto C 10 (by decide) dX3_goesAcross_6 ?_
    exact gq_Z C F (by decide) (by decide) hw dX3_goesAcross_10
set_option maxHeartbeats 4000000 in
set_option maxRecDepth 100000 in
theorem c_X9_goesAcross (l : Launch) (D : va_G) (cy : Nat → ClassId) (A : Nat → Nat) {σ : St} {a0 : Nat} {v1 : Int32} {Φ : Int32 → St → Prop} (hw : wX9_goesAcross σ a0 v1 Φ) : CtI l yX9_goesAcross (.code yX9_goesAcross cX9_goesAcross 2 (some .boolean) :: gL) rm_X9_goesAcross 0 0 [.ref a0, .int v1] D cy A σ Φ := by
  refine ct_any (fun sz => va_Qi Φ (HE D cy A (gZ cy A σ sz)) (gZ cy A σ sz)) (by decide +kernel) rfl rfl [(0, .ref a0), (1, .int v1)] rfl (Nat.le_of_ble_eq_true rfl) ?_
  intro κ hκl hnm C hK sz F
  subst hκl
  unfold wX9_goesAcross at hw
  refine g_iconst (v := (1 : Int32)) C dX9_goesAcross_0 (by decide) ?_
  exact gq_Z C F (by decide) (by decide) hw dX9_goesAcross_1
set_option maxHeartbeats 4000000 in
set_option maxRecDepth 100000 in
theorem c_X2_setUp (l : Launch) (D : va_G) (cy : Nat → ClassId) (A : Nat → Nat) {σ : St} {Φ : St → Prop} (hw : wX2_setUp σ Φ) : CtV l yX2_setUp (.code yX2_setUp cX2_setUp 6 none :: gL) rm_X2_setUp 0 0 [.ref (A 10), .ref (A 3), .ref (A 4)] D cy A σ Φ := by
  refine ct_any (fun sz => va_Qv Φ (HE D cy A (gZ cy A σ sz)) (gZ cy A σ sz)) (by decide +kernel) rfl rfl [(0, .ref (A 10)), (1, .ref (A 3)), (2, .ref (A 4))] rfl (Nat.le_of_ble_eq_true rfl) ?_
  intro κ hκl hnm C hK sz F
  subst hκl
  have J151 : ∀ (K44 : St → Int32 → Int32 → Prop) (_ : ∀ (σ : St) (v3 : Int32) (v4 : Int32), K44 σ v3 v4 → GW κ 0 0 (gW cy A σ) 44 [(0, .ref (A 10)), (1, .ref (A 3)), (2, .ref (A 4)), (3, .int v3), (4, .int v4)] []), ∀ (σ : St) (v3 : Int32) (v4 : Int32), wX2_setUp_151 K44 Φ σ v3 v4 → GW κ 0 0 (gW cy A σ) 151 [(0, .ref (A 10)), (1, .ref (A 3)), (2, .ref (A 4)), (3, .int v3), (4, .int v4)] [] := by
    intro K44 hK44 σ v3 v4 hw
    unfold wX2_setUp_151 at hw
    refine g_iinc (j := 4) C [(4, .int (v4 + 1)), (0, .ref (A 10)), (1, .ref (A 3)), (2, .ref (A 4)), (3, .int v3)] F.2.2.2.1 rfl rfl (by decide) rfl dX2_setUp_151 ?_
    refine g_goto C 44 (by decide) dX2_setUp_154 ?_
    refine g_eql (lv' := [(0, .ref (A 10)), (1, .ref (A 3)), (2, .ref (A 4)), (3, .int v3), (4, .int (v4 + 1))]) [1, 2, 3, 4, 0] rfl ?_
    exact hK44 σ v3 (v4 + 1) hw
  have J150 : ∀ (K44 : St → Int32 → Int32 → Prop) (_ : ∀ (σ : St) (v3 : Int32) (v4 : Int32), K44 σ v3 v4 → GW κ 0 0 (gW cy A σ) 44 [(0, .ref (A 10)), (1, .ref (A 3)), (2, .ref (A 4)), (3, .int v3), (4, .int v4)] []), ∀ (σ : St) (v3 : Int32) (v4 : Int32) (s0 : Int32) (s1 : Int32), wX2_setUp_150 K44 Φ σ v3 v4 s0 s1 → GW κ 0 0 (gW cy A σ) 150 [(0, .ref (A 10)), (1, .ref (A 3)), (2, .ref (A 4)), (3, .int v3), (4, .int v4)] [.int s0, .int s1, .ref (A 12)] := by
    intro K44 hK44 σ v3 v4 s0 s1 hw
    unfold wX2_setUp_150 at hw
    refine g_iast C hK 12 2 (ga_12 cy A _) rfl hw.1 (gs_12 cy A _ _ _) dX2_setUp_150 ?_
    replace hw := hw.2
    exact J151 _ hK44 (sV σ 12 s1.toNatClampNeg s0) v3 v4 hw
  have J86 : ∀ (K44 : St → Int32 → Int32 → Prop) (_ : ∀ (σ : St) (v3 : Int32) (v4 : Int32), K44 σ v3 v4 → GW κ 0 0 (gW cy A σ) 44 [(0, .ref (A 10)), (1, .ref (A 3)), (2, .ref (A 4)), (3, .int v3), (4, .int v4)] []), ∀ (σ : St) (v3 : Int32) (v4 : Int32), wX2_setUp_86 K44 Φ σ v3 v4 → GW κ 0 0 (gW cy A σ) 86 [(0, .ref (A 10)), (1, .ref (A 3)), (2, .ref (A 4)), (3, .int v3), (4, .int v4)] [] := by
    intro K44 hK44 σ v3 v4 hw
    unfold wX2_setUp_86 at hw
    refine g_aload_n C 0 rfl rfl dX2_setUp_86 ?_
    refine g_dup C rfl dX2_setUp_87 ?_
    refine g_get C hK inX2 rfl 10 (ga_10 cy A _) 4 (by decide) (fun _ h => h) wt_89 rfl dX2_setUp_88 ?_
    refine g_iconst (v := (1 : Int32)) C dX2_setUp_91 (by decide) ?_
    refine g_iload C 4 rfl dX2_setUp_92 ?_
    refine g_ishl C dX2_setUp_94 ?_
    refine g_ior C dX2_setUp_95 ?_
    refine g_put (v := .int ((σ.1 10 4) ||| ((1 : Int32) <<< (v4 &&& 31)))) C hK inX2 rfl tyX2 tyX2_ok nmX2 10 (ga_10 cy A _) 4 (by decide) (fun _ h => h) wt_89 rfl rfl rfl (Nat.le_of_ble_eq_true rfl) (gp_10_4 cy A _ _) dX2_setUp_96 ?_
    refine g_goto C 151 (by decide) dX2_setUp_99 ?_
    exact J151 _ hK44 (sV σ 10 4 ((σ.1 10 4) ||| ((1 : Int32) <<< (v4 &&& 31)))) v3 v4 hw
  have J44 : ∀ (n : Nat) (σ : St) (v3 : Int32) (v4 : Int32), wX2_setUp_44 Φ n σ v3 v4 → GW κ 0 0 (gW cy A σ) 44 [(0, .ref (A 10)), (1, .ref (A 3)), (2, .ref (A 4)), (3, .int v3), (4, .int v4)] [] := by
    intro n
    induction n with
    | zero => intro σ v3 v4 hw; exact hw.elim
    | succ n ih =>
      intro σ v3 v4 hw
      rw [wX2_setUp_44] at hw
      refine g_iload C 4 rfl dX2_setUp_44 ?_
      refine g_aload_n C 0 rfl rfl dX2_setUp_46 ?_
      refine g_get C hK inX2 rfl 10 (ga_10 cy A _) 0 (by decide) (fun _ h => h) wt_83 rfl dX2_setUp_47 ?_
      refine g_alen (v := 6) C hK 11 2 (ga_11 cy A _) rfl rfl dX2_setUp_50 ?_
      refine g_icmp_ge C 157 (by decide) hw dX2_setUp_51 (fun hw => ?_) (fun hw => ?_)
      · exact gq_V C F (by decide) (by decide) hw dX2_setUp_157
      · refine g_iload C 4 rfl dX2_setUp_54 ?_
        refine g_aload_n C 0 rfl rfl dX2_setUp_56 ?_
        refine g_get C hK inX2 rfl 10 (ga_10 cy A _) 1 (by decide) (fun _ h => h) wt_84 rfl dX2_setUp_57 ?_
        refine g_alen (v := 6) C hK 12 2 (ga_12 cy A _) rfl rfl dX2_setUp_60 ?_
        refine g_icmp_ge C 157 (by decide) hw dX2_setUp_61 (fun hw => ?_) (fun hw => ?_)
        · exact gq_V C F (by decide) (by decide) hw dX2_setUp_157
        · refine g_aload_n C 2 rfl rfl dX2_setUp_64 ?_
          refine g_iload C 4 rfl dX2_setUp_65 ?_
          refine gc_Q C (gr_V (As := [.int v4]) (rest := []) C hK 1 (gd_V wt_411 wt_201 wt_202 wt_4 wt_203) rfl rfl rfl ⟨rfl, hs_X6_at⟩ ⟨⟨Nat.le_of_ble_eq_true rfl, Nat.le_of_ble_eq_true rfl⟩, Nat.le_of_ble_eq_true rfl, Nat.le_of_ble_eq_true rfl⟩ rfl 4 (ga_4 cy A _) rfl rfl (Nat.le_of_ble_eq_true rfl) dX2_setUp_67 (c_X6_at (q_l κ) (q_D κ) cy A hw)) (fun r8 σ7 hw => ?_)
          refine g_rstore C [(5, va_rf r8), (0, .ref (A 10)), (1, .ref (A 3)), (2, .ref (A 4)), (3, .int v3), (4, .int v4)] F.2.2.2.1 (by decide) rfl dX2_setUp_70 ?_
          refine g_rload C 0 rfl dX2_setUp_72 ?_
          refine g_ifnull C 86 (by decide) hw dX2_setUp_74 (fun hw1 e9 => ?_) (fun b9 e9 hw1 => ?_)
          · subst e9
            replace hw := hw1
            refine g_eql (lv' := [(0, .ref (A 10)), (1, .ref (A 3)), (2, .ref (A 4)), (3, .int v3), (4, .int v4)]) [1, 2, 3, 4, 5] rfl ?_
            exact J86 _ ih σ7 v3 v4 hw
          · subst e9
            replace hw := hw1
            refine g_aload C 0 rfl dX2_setUp_77 ?_
            refine g_iload_n C 4 rfl rfl dX2_setUp_79 ?_
            have hn : ∀ (r10 : Int32) (σ11 : St), ((if r10 = 0 then wX2_setUp_86 (wX2_setUp_44 Φ n) Φ σ11 v3 v4 else wT_weighs_13459 σ11 b9 (σ11.1 3 4) (fun r12 σ13 => vp_in v4 6 ∧ isT (sV σ13 11 v4.toNatClampNeg r12) b9 ∧ (if ((sV σ13 11 v4.toNatClampNeg r12).2.2.2.2.2 b9 2) = 0 then vp_in v4 6 ∧ wX2_setUp_150 (wX2_setUp_44 Φ n) Φ (sV σ13 11 v4.toNatClampNeg r12) v3 v4 (-((sV σ13 11 v4.toNatClampNeg r12).1 11 v4.toNatClampNeg)) v4 else vp_in v4 6 ∧ wX2_setUp_150 (wX2_setUp_44 Φ n) Φ (sV σ13 11 v4.toNatClampNeg r12) v3 v4 ((sV σ13 11 v4.toNatClampNeg r12).1 11 v4.toNatClampNeg) v4)))) → GW κ 0 0 (gW cy A σ11) 83 [(5, .ref b9), (0, .ref (A 10)), (1, .ref (A 3)), (2, .ref (A 4)), (3, .int v3), (4, .int v4)] [.int r10] := by
              intro r10 σ11 hw
              refine g_if_ne C 102 (by decide) hw dX2_setUp_83 (fun hw => ?_) (fun hw => ?_)
              · refine g_aload_n C 1 rfl rfl dX2_setUp_102 ?_
                refine g_get C hK inX2 rfl 10 (ga_10 cy A _) 0 (by decide) (fun _ h => h) wt_83 rfl dX2_setUp_103 ?_
                refine g_iload C 5 rfl dX2_setUp_106 ?_
                refine g_aload C 0 rfl dX2_setUp_108 ?_
                refine g_aload_n C 2 rfl rfl dX2_setUp_110 ?_
                refine g_get C hK inX0 rfl 3 (ga_3 cy A _) 4 (by decide) (fun _ h => h) wt_51 rfl dX2_setUp_111 ?_
                have hn : ∀ (r12 : Int32) (σ13 : St), (vp_in v4 6 ∧ isT (sV σ13 11 v4.toNatClampNeg r12) b9 ∧ (if ((sV σ13 11 v4.toNatClampNeg r12).2.2.2.2.2 b9 2) = 0 then vp_in v4 6 ∧ wX2_setUp_150 (wX2_setUp_44 Φ n) Φ (sV σ13 11 v4.toNatClampNeg r12) v3 v4 (-((sV σ13 11 v4.toNatClampNeg r12).1 11 v4.toNatClampNeg)) v4 else vp_in v4 6 ∧ wX2_setUp_150 (wX2_setUp_44 Φ n) Φ (sV σ13 11 v4.toNatClampNeg r12) v3 v4 ((sV σ13 11 v4.toNatClampNeg r12).1 11 v4.toNatClampNeg) v4)) → GW κ 0 0 (gW cy A σ13) 117 [(5, .ref b9), (0, .ref (A 10)), (1, .ref (A 3)), (2, .ref (A 4)), (3, .int v3), (4, .int v4)] [.int r12, .int v4, .ref (A 11)] := by
                  intro r12 σ13 hw
                  refine g_iast C hK 11 2 (ga_11 cy A _) rfl hw.1 (gs_11 cy A _ _ _) dX2_setUp_117 ?_
                  replace hw := hw.2
                  refine g_aload_n C 1 rfl rfl dX2_setUp_118 ?_
                  refine g_get C hK inX2 rfl 10 (ga_10 cy A _) 1 (by decide) (fun _ h => h) wt_84 rfl dX2_setUp_119 ?_
                  refine g_iload C 5 rfl dX2_setUp_122 ?_
                  refine g_aload C 0 rfl dX2_setUp_124 ?_
                  refine g_getT2 C hK hw.1 (fun _ h => h) wt_281 dX2_setUp_126 ?_
                  replace hw := hw.2
                  refine g_if_ne C 143 (by decide) hw dX2_setUp_129 (fun hw => ?_) (fun hw => ?_)
                  · refine g_aload_n C 1 rfl rfl dX2_setUp_143 ?_
                    refine g_get C hK inX2 rfl 10 (ga_10 cy A _) 0 (by decide) (fun _ h => h) wt_83 rfl dX2_setUp_144 ?_
                    refine g_iload C 5 rfl dX2_setUp_147 ?_
                    refine g_iald C hK 11 2 (ga_11 cy A _) rfl hw.1 dX2_setUp_149 ?_
                    replace hw := hw.2
                    refine g_eql (lv' := [(0, .ref (A 10)), (1, .ref (A 3)), (2, .ref (A 4)), (3, .int v3), (4, .int v4)]) [1, 2, 3, 4, 5] rfl ?_
                    exact J150 _ ih (sV σ13 11 v4.toNatClampNeg r12) v3 v4 ((sV σ13 11 v4.toNatClampNeg r12).1 11 v4.toNatClampNeg) v4 hw
                  · refine g_aload_n C 1 rfl rfl dX2_setUp_132 ?_
                    refine g_get C hK inX2 rfl 10 (ga_10 cy A _) 0 (by decide) (fun _ h => h) wt_83 rfl dX2_setUp_133 ?_
                    refine g_iload C 5 rfl dX2_setUp_136 ?_
                    refine g_iald C hK 11 2 (ga_11 cy A _) rfl hw.1 dX2_setUp_138 ?_
                    replace hw := hw.2
                    refine g_ineg C dX2_setUp_139 ?_
                    refine g_goto C 150 (by decide) dX2_setUp_140 ?_
                    refine g_eql (lv' := [(0, .ref (A 10)), (1, .ref (A 3)), (2, .ref (A 4)), (3, .int v3), (4, .int v4)]) [1, 2, 3, 4, 5] rfl ?_
                    exact J150 _ ih (sV σ13 11 v4.toNatClampNeg r12) v3 v4 (-((sV σ13 11 v4.toNatClampNeg r12).1 11 v4.toNatClampNeg)) v4 hw
                obtain ⟨h8, hw⟩ := hw
                rcases hw with ⟨h9, hw⟩ | ⟨h9, hw⟩ | ⟨h9, hw⟩ | ⟨h9, hw⟩ | ⟨h9, hw⟩
                · obtain ⟨q9, -, h9⟩ := ga_T cy A _ h8 h9
                  exact gc_I C (gr_O (As := [.int (σ11.1 3 4)]) (rest := [.int v4, .ref (A 11)]) C hK 1 (gd_O wt_413 wt_207 wt_205 wt_208 wt_209 wt_11 wt_210) rfl rfl rfl wt_218 hs_X9_weighs ⟨⟨Nat.le_of_ble_eq_true rfl, Nat.le_of_ble_eq_true rfl⟩, Nat.le_of_ble_eq_true rfl, Nat.le_of_ble_eq_true rfl⟩ rfl q9 h9 rfl rfl (Nat.le_of_ble_eq_true rfl) dX2_setUp_114 (c_X1_weighs (q_l κ) (q_D κ) cy A hw)) hn
                · obtain ⟨q9, -, h9⟩ := ga_T cy A _ h8 h9
                  exact gc_I C (gr_U (As := [.int (σ11.1 3 4)]) (rest := [.int v4, .ref (A 11)]) C hK 1 (gd_U wt_413 wt_207 wt_211 wt_205 wt_10 wt_218) rfl rfl rfl rfl hs_X9_weighs ⟨⟨Nat.le_of_ble_eq_true rfl, Nat.le_of_ble_eq_true rfl⟩, Nat.le_of_ble_eq_true rfl, Nat.le_of_ble_eq_true rfl⟩ rfl q9 h9 rfl rfl (Nat.le_of_ble_eq_true rfl) dX2_setUp_114 (c_X9_weighs (q_l κ) (q_D κ) cy A hw)) hn
                · obtain ⟨q9, -, h9⟩ := ga_T cy A _ h8 h9
                  exact gc_I C (gr_O (As := [.int (σ11.1 3 4)]) (rest := [.int v4, .ref (A 11)]) C hK 1 (gd_O wt_413 wt_207 wt_205 wt_212 wt_213 wt_14 wt_214) rfl rfl rfl wt_218 hs_X9_weighs ⟨⟨Nat.le_of_ble_eq_true rfl, Nat.le_of_ble_eq_true rfl⟩, Nat.le_of_ble_eq_true rfl, Nat.le_of_ble_eq_true rfl⟩ rfl q9 h9 rfl rfl (Nat.le_of_ble_eq_true rfl) dX2_setUp_114 (c_X4_weighs (q_l κ) (q_D κ) cy A hw)) hn
                · obtain ⟨q9, -, h9⟩ := ga_T cy A _ h8 h9
                  exact gc_I C (gr_O (As := [.int (σ11.1 3 4)]) (rest := [.int v4, .ref (A 11)]) C hK 1 (gd_O wt_413 wt_207 wt_205 wt_215 wt_216 wt_13 wt_217) rfl rfl rfl wt_218 hs_X9_weighs ⟨⟨Nat.le_of_ble_eq_true rfl, Nat.le_of_ble_eq_true rfl⟩, Nat.le_of_ble_eq_true rfl, Nat.le_of_ble_eq_true rfl⟩ rfl q9 h9 rfl rfl (Nat.le_of_ble_eq_true rfl) dX2_setUp_114 (c_X5_weighs (q_l κ) (q_D κ) cy A hw)) hn
                · obtain ⟨q9, -, h9⟩ := ga_T cy A _ h8 h9
                  exact gc_I C (gr_V (As := [.int (σ11.1 3 4)]) (rest := [.int v4, .ref (A 11)]) C hK 1 (gd_V wt_413 wt_205 wt_206 wt_10 wt_218) rfl rfl rfl ⟨rfl, hs_X9_weighs⟩ ⟨⟨Nat.le_of_ble_eq_true rfl, Nat.le_of_ble_eq_true rfl⟩, Nat.le_of_ble_eq_true rfl, Nat.le_of_ble_eq_true rfl⟩ rfl q9 h9 rfl rfl (Nat.le_of_ble_eq_true rfl) dX2_setUp_114 (c_X9_weighs (q_l κ) (q_D κ) cy A hw)) hn
              · refine g_eql (lv' := [(0, .ref (A 10)), (1, .ref (A 3)), (2, .ref (A 4)), (3, .int v3), (4, .int v4)]) [1, 2, 3, 4, 5] rfl ?_
                exact J86 _ ih σ11 v3 v4 hw
            obtain ⟨h8, hw⟩ := hw
            rcases hw with ⟨h9, hw⟩ | ⟨h9, hw⟩ | ⟨h9, hw⟩ | ⟨h9, hw⟩ | ⟨h9, hw⟩
            · obtain ⟨q9, -, h9⟩ := ga_T cy A _ h8 h9
              exact gc_I C (gr_U (As := [.int v3]) (rest := []) C hK 1 (gd_U wt_412 wt_363 wt_364 wt_361 wt_10 wt_370) rfl rfl rfl rfl hs_X9_goesAcross ⟨⟨Nat.le_of_ble_eq_true rfl, Nat.le_of_ble_eq_true rfl⟩, Nat.le_of_ble_eq_true rfl, Nat.le_of_ble_eq_true rfl⟩ rfl q9 h9 rfl rfl (Nat.le_of_ble_eq_true rfl) dX2_setUp_80 (c_X9_goesAcross (q_l κ) (q_D κ) cy A hw)) hn
            · obtain ⟨q9, -, h9⟩ := ga_T cy A _ h8 h9
              exact gc_I C (gr_O (As := [.int v3]) (rest := []) C hK 1 (gd_O wt_412 wt_363 wt_361 wt_365 wt_366 wt_12 wt_367) rfl rfl rfl wt_370 hs_X9_goesAcross ⟨⟨Nat.le_of_ble_eq_true rfl, Nat.le_of_ble_eq_true rfl⟩, Nat.le_of_ble_eq_true rfl, Nat.le_of_ble_eq_true rfl⟩ rfl q9 h9 rfl rfl (Nat.le_of_ble_eq_true rfl) dX2_setUp_80 (c_X3_goesAcross (q_l κ) (q_D κ) cy A hw)) hn
            · obtain ⟨q9, -, h9⟩ := ga_T cy A _ h8 h9
              exact gc_I C (gr_U (As := [.int v3]) (rest := []) C hK 1 (gd_U wt_412 wt_363 wt_368 wt_361 wt_10 wt_370) rfl rfl rfl rfl hs_X9_goesAcross ⟨⟨Nat.le_of_ble_eq_true rfl, Nat.le_of_ble_eq_true rfl⟩, Nat.le_of_ble_eq_true rfl, Nat.le_of_ble_eq_true rfl⟩ rfl q9 h9 rfl rfl (Nat.le_of_ble_eq_true rfl) dX2_setUp_80 (c_X9_goesAcross (q_l κ) (q_D κ) cy A hw)) hn
            · obtain ⟨q9, -, h9⟩ := ga_T cy A _ h8 h9
              exact gc_I C (gr_U (As := [.int v3]) (rest := []) C hK 1 (gd_U wt_412 wt_363 wt_369 wt_361 wt_10 wt_370) rfl rfl rfl rfl hs_X9_goesAcross ⟨⟨Nat.le_of_ble_eq_true rfl, Nat.le_of_ble_eq_true rfl⟩, Nat.le_of_ble_eq_true rfl, Nat.le_of_ble_eq_true rfl⟩ rfl q9 h9 rfl rfl (Nat.le_of_ble_eq_true rfl) dX2_setUp_80 (c_X9_goesAcross (q_l κ) (q_D κ) cy A hw)) hn
            · obtain ⟨q9, -, h9⟩ := ga_T cy A _ h8 h9
              exact gc_I C (gr_V (As := [.int v3]) (rest := []) C hK 1 (gd_V wt_412 wt_361 wt_362 wt_10 wt_370) rfl rfl rfl ⟨rfl, hs_X9_goesAcross⟩ ⟨⟨Nat.le_of_ble_eq_true rfl, Nat.le_of_ble_eq_true rfl⟩, Nat.le_of_ble_eq_true rfl, Nat.le_of_ble_eq_true rfl⟩ rfl q9 h9 rfl rfl (Nat.le_of_ble_eq_true rfl) dX2_setUp_80 (c_X9_goesAcross (q_l κ) (q_D κ) cy A hw)) hn
  unfold wX2_setUp at hw
  refine g_aload_n C 1 rfl rfl dX2_setUp_0 ?_
  refine gc_I C (gr_V (As := []) (rest := []) C hK 0 (gd_V wt_409 wt_357 wt_358 wt_3 wt_359) rfl rfl rfl ⟨rfl, hs_X0_turnsNow⟩ ⟨⟨Nat.le_of_ble_eq_true rfl, Nat.le_of_ble_eq_true rfl⟩, Nat.le_of_ble_eq_true rfl, Nat.le_of_ble_eq_true rfl⟩ rfl 3 (ga_3 cy A _) rfl rfl (Nat.le_of_ble_eq_true rfl) dX2_setUp_1 (c_X0_turnsNow (q_l κ) (q_D κ) cy A hC3 hw)) (fun r2 σ1 hw => ?_)
  refine g_istore_n C [(3, .int r2), (0, .ref (A 10)), (1, .ref (A 3)), (2, .ref (A 4))] F.2.2.2.1 rfl (by decide) rfl dX2_setUp_4 ?_
  refine g_aload_n C 1 rfl rfl dX2_setUp_5 ?_
  refine g_aload_n C 3 rfl rfl dX2_setUp_6 ?_
  refine g_iconst (v := (0 : Int32)) C dX2_setUp_7 (by decide) ?_
  refine g_aload_n C 2 rfl rfl dX2_setUp_8 ?_
  refine g_get C hK inX0 rfl 3 (ga_3 cy A _) 4 (by decide) (fun _ h => h) wt_51 rfl dX2_setUp_9 ?_
  refine gc_I C (gr_V (As := [.int (0 : Int32), .int (σ1.1 3 4)]) (rest := [.ref (A 10)]) C hK 2 (gd_V wt_410 wt_197 wt_198 wt_4 wt_199) rfl rfl rfl ⟨rfl, hs_X6_weighsIn⟩ ⟨⟨Nat.le_of_ble_eq_true rfl, Nat.le_of_ble_eq_true rfl⟩, Nat.le_of_ble_eq_true rfl, Nat.le_of_ble_eq_true rfl⟩ rfl 4 (ga_4 cy A _) rfl rfl (Nat.le_of_ble_eq_true rfl) dX2_setUp_12 (c_X6_weighsIn (q_l κ) (q_D κ) cy A hw)) (fun r4 σ3 hw => ?_)
  refine g_put (v := .int r4) C hK inX2 rfl tyX2 tyX2_ok nmX2 10 (ga_10 cy A _) 5 (by decide) (fun _ h => h) wt_90 rfl rfl rfl (Nat.le_of_ble_eq_true rfl) (gp_10_5 cy A _ _) dX2_setUp_15 ?_
  refine g_aload_n C 1 rfl rfl dX2_setUp_18 ?_
  refine g_aload_n C 1 rfl rfl dX2_setUp_19 ?_
  refine g_get C hK inX2 rfl 10 (ga_10 cy A _) 5 (by decide) (fun _ h => h) wt_90 rfl dX2_setUp_20 ?_
  refine g_aload_n C 3 rfl rfl dX2_setUp_23 ?_
  refine g_iconst (v := (1 : Int32)) C dX2_setUp_24 (by decide) ?_
  refine g_aload_n C 2 rfl rfl dX2_setUp_25 ?_
  refine g_get C hK inX0 rfl 3 (ga_3 cy A _) 4 (by decide) (fun _ h => h) wt_51 rfl dX2_setUp_26 ?_
  refine gc_I C (gr_V (As := [.int (1 : Int32), .int ((sV σ3 10 5 r4).1 3 4)]) (rest := [.int ((sV σ3 10 5 r4).1 10 5), .ref (A 10)]) C hK 2 (gd_V wt_410 wt_197 wt_198 wt_4 wt_199) rfl rfl rfl ⟨rfl, hs_X6_weighsIn⟩ ⟨⟨Nat.le_of_ble_eq_true rfl, Nat.le_of_ble_eq_true rfl⟩, Nat.le_of_ble_eq_true rfl, Nat.le_of_ble_eq_true rfl⟩ rfl 4 (ga_4 cy A _) rfl rfl (Nat.le_of_ble_eq_true rfl) dX2_setUp_29 (c_X6_weighsIn (q_l κ) (q_D κ) cy A hw)) (fun r6 σ5 hw => ?_)
  refine g_iadd C dX2_setUp_32 ?_
  refine g_put (v := .int (((sV σ3 10 5 r4).1 10 5) + r6)) C hK inX2 rfl tyX2 tyX2_ok nmX2 10 (ga_10 cy A _) 6 (by decide) (fun _ h => h) wt_91 rfl rfl rfl (Nat.le_of_ble_eq_true rfl) (gp_10_6 cy A _ _) dX2_setUp_33 ?_
  refine g_aload_n C 1 rfl rfl dX2_setUp_36 ?_
  refine g_iconst (v := (0 : Int32)) C dX2_setUp_37 (by decide) ?_
  refine g_put (v := .int (0 : Int32)) C hK inX2 rfl tyX2 tyX2_ok nmX2 10 (ga_10 cy A _) 4 (by decide) (fun _ h => h) wt_89 rfl rfl rfl (Nat.le_of_ble_eq_true rfl) (gp_10_4 cy A _ _) dX2_setUp_38 ?_
  refine g_iconst (v := (0 : Int32)) C dX2_setUp_41 (by decide) ?_
  refine g_istore C [(4, .int (0 : Int32)), (3, .int r2), (0, .ref (A 10)), (1, .ref (A 3)), (2, .ref (A 4))] F.2.2.2.1 (by decide) rfl dX2_setUp_42 ?_
  refine g_eql (lv' := [(0, .ref (A 10)), (1, .ref (A 3)), (2, .ref (A 4)), (3, .int r2), (4, .int (0 : Int32))]) [2, 3, 4, 1, 0] rfl ?_
  obtain ⟨n0, hw⟩ := hw
  exact J44 n0 (sV (sV σ5 10 6 (((sV σ3 10 5 r4).1 10 5) + r6)) 10 4 (0 : Int32)) r2 (0 : Int32) hw
set_option maxHeartbeats 4000000 in
set_option maxRecDepth 100000 in
theorem c_X2_find (l : Launch) (D : va_G) (cy : Nat → ClassId) (A : Nat → Nat) {σ : St} {Φ : St → Prop} (hw : wX2_find σ Φ) : CtV l yX2_find (.code yX2_find cX2_find 7 none :: gL) rm_X2_find 0 0 [.ref (A 10), .ref (A 3), .ref (A 4)] D cy A σ Φ := by
  refine ct_any (fun sz => va_Qv Φ (HE D cy A (gZ cy A σ sz)) (gZ cy A σ sz)) (by decide +kernel) rfl rfl [(0, .ref (A 10)), (1, .ref (A 3)), (2, .ref (A 4))] rfl (Nat.le_of_ble_eq_true rfl) ?_
  intro κ hκl hnm C hK sz F
  subst hκl
  have J95 : ∀ (K11 : St → Int32 → Int32 → Prop) (_ : ∀ (σ : St) (v3 : Int32) (v4 : Int32), K11 σ v3 v4 → GW κ 0 0 (gW cy A σ) 11 [(0, .ref (A 10)), (1, .ref (A 3)), (3, .int v3), (4, .int v4)] []), ∀ (σ : St) (v3 : Int32) (v4 : Int32), wX2_find_95 K11 Φ σ v3 v4 → GW κ 0 0 (gW cy A σ) 95 [(0, .ref (A 10)), (1, .ref (A 3)), (3, .int v3), (4, .int v4)] [] := by
    intro K11 hK11 σ v3 v4 hw
    unfold wX2_find_95 at hw
    refine g_iinc (j := 3) C [(4, .int (v4 + 1)), (0, .ref (A 10)), (1, .ref (A 3)), (3, .int v3)] F.2.2.2.1 rfl rfl (by decide) rfl dX2_find_95 ?_
    refine g_goto C 11 (by decide) dX2_find_98 ?_
    refine g_eql (lv' := [(0, .ref (A 10)), (1, .ref (A 3)), (3, .int v3), (4, .int (v4 + 1))]) [1, 2, 3, 0] rfl ?_
    exact hK11 σ v3 (v4 + 1) hw
  have J80 : ∀ (K11 : St → Int32 → Int32 → Prop) (_ : ∀ (σ : St) (v3 : Int32) (v4 : Int32), K11 σ v3 v4 → GW κ 0 0 (gW cy A σ) 11 [(0, .ref (A 10)), (1, .ref (A 3)), (3, .int v3), (4, .int v4)] []), ∀ (σ : St) (v4 : Int32) (v5 : Int32) (v6 : Int32), wX2_find_80 K11 Φ σ v4 v5 v6 → GW κ 0 0 (gW cy A σ) 80 [(0, .ref (A 10)), (1, .ref (A 3)), (4, .int v4), (5, .int v5), (6, .int v6)] [] := by
    intro K11 hK11 σ v4 v5 v6 hw
    unfold wX2_find_80 at hw
    refine g_aload_n C 0 rfl rfl dX2_find_80 ?_
    refine g_iload C 3 rfl dX2_find_81 ?_
    refine g_put (v := .int v5) C hK inX2 rfl tyX2 tyX2_ok nmX2 10 (ga_10 cy A _) 2 (by decide) (fun _ h => h) wt_85 rfl rfl rfl (Nat.le_of_ble_eq_true rfl) (gp_10_2 cy A _ _) dX2_find_83 ?_
    refine g_iload C 4 rfl dX2_find_86 ?_
    refine g_istore_n C [(3, .int v6), (0, .ref (A 10)), (1, .ref (A 3)), (4, .int v4), (5, .int v5), (6, .int v6)] F.2.2.2.1 rfl (by decide) rfl dX2_find_88 ?_
    refine g_aload_n C 1 rfl rfl dX2_find_89 ?_
    refine g_iload C 3 rfl dX2_find_90 ?_
    refine g_put (v := .int v4) C hK inX2 rfl tyX2 tyX2_ok nmX2 10 (ga_10 cy A _) 3 (by decide) (fun _ h => h) wt_87 rfl rfl rfl (Nat.le_of_ble_eq_true rfl) (gp_10_3 cy A _ _) dX2_find_92 ?_
    refine g_eql (lv' := [(0, .ref (A 10)), (1, .ref (A 3)), (3, .int v6), (4, .int v4)]) [1, 2, 0, 3] rfl ?_
    exact J95 _ hK11 (sV (sV σ 10 2 v5) 10 3 v4) v6 v4 hw
  have J11 : ∀ (n : Nat) (σ : St) (v3 : Int32) (v4 : Int32), wX2_find_11 Φ n σ v3 v4 → GW κ 0 0 (gW cy A σ) 11 [(0, .ref (A 10)), (1, .ref (A 3)), (3, .int v3), (4, .int v4)] [] := by
    intro n
    induction n with
    | zero => intro σ v3 v4 hw; exact hw.elim
    | succ n ih =>
      intro σ v3 v4 hw
      rw [wX2_find_11] at hw
      refine g_iload C 3 rfl dX2_find_11 ?_
      refine g_bipush (v := (64 : Int32)) C dX2_find_13 (by decide) ?_
      refine g_icmp_ge C 101 (by decide) hw dX2_find_15 (fun hw => ?_) (fun hw => ?_)
      · exact gq_V C F (by decide) (by decide) hw dX2_find_101
      · refine g_iload C 3 rfl dX2_find_18 ?_
        refine g_aload_n C 0 rfl rfl dX2_find_20 ?_
        refine g_get C hK inX2 rfl 10 (ga_10 cy A _) 4 (by decide) (fun _ h => h) wt_89 rfl dX2_find_21 ?_
        refine g_iand C dX2_find_24 ?_
        refine g_if_eq C 31 (by decide) hw dX2_find_25 (fun hw => ?_) (fun hw => ?_)
        · refine g_aload_n C 0 rfl rfl dX2_find_31 ?_
          refine g_iload C 3 rfl dX2_find_32 ?_
          refine g_aload_n C 1 rfl rfl dX2_find_34 ?_
          refine gc_I C (gr_V (As := [.int v4, .ref (A 3)]) (rest := []) C hK 2 (gd_V wt_414 wt_415 wt_834 wt_6 wt_416) rfl rfl rfl ⟨rfl, hs_X2_gapWith⟩ ⟨⟨Nat.le_of_ble_eq_true rfl, Nat.le_of_ble_eq_true rfl⟩, Nat.le_of_ble_eq_true rfl, Nat.le_of_ble_eq_true rfl⟩ rfl 10 (ga_10 cy A _) rfl rfl (Nat.le_of_ble_eq_true rfl) dX2_find_35 (c_X2_gapWith (q_l κ) (q_D κ) cy A hw)) (fun r3 σ2 hw => ?_)
          refine g_istore C [(5, .int r3), (0, .ref (A 10)), (1, .ref (A 3)), (3, .int v3), (4, .int v4)] F.2.2.2.1 (by decide) rfl dX2_find_38 ?_
          refine g_aload_n C 1 rfl rfl dX2_find_40 ?_
          refine g_get C hK inX2 rfl 10 (ga_10 cy A _) 0 (by decide) (fun _ h => h) wt_83 rfl dX2_find_41 ?_
          refine g_iload C 4 rfl dX2_find_44 ?_
          refine gc_I C (gr_S (As := [.ref (A 11), .int v4]) (rest := []) C hK 2 (gd_S wt_417 wt_418 wt_6 wt_419) rfl rfl rfl hs_X2_summed ⟨⟨Nat.le_of_ble_eq_true rfl, Nat.le_of_ble_eq_true rfl⟩, Nat.le_of_ble_eq_true rfl, Nat.le_of_ble_eq_true rfl⟩ rfl rfl (Nat.le_of_ble_eq_true rfl) dX2_find_46 (c_X2_summed (q_l κ) (q_D κ) cy A hQ11 hw)) (fun r5 σ4 hw => ?_)
          refine g_istore C [(6, .int r5), (5, .int r3), (0, .ref (A 10)), (1, .ref (A 3)), (3, .int v3), (4, .int v4)] F.2.2.2.1 (by decide) rfl dX2_find_49 ?_
          refine g_iload C 5 rfl dX2_find_51 ?_
          refine g_if_eq C 80 (by decide) hw dX2_find_53 (fun hw => ?_) (fun hw => ?_)
          · refine g_eql (lv' := [(0, .ref (A 10)), (1, .ref (A 3)), (4, .int v4), (5, .int r3), (6, .int r5)]) [2, 3, 5, 1, 0] rfl ?_
            exact J80 _ ih σ4 v4 r3 r5 hw
          · refine g_iload C 1 rfl dX2_find_56 ?_
            refine g_aload_n C 2 rfl rfl dX2_find_58 ?_
            refine g_get C hK inX2 rfl 10 (ga_10 cy A _) 2 (by decide) (fun _ h => h) wt_85 rfl dX2_find_59 ?_
            refine g_icmp_lt C 80 (by decide) hw dX2_find_62 (fun hw => ?_) (fun hw => ?_)
            · refine g_eql (lv' := [(0, .ref (A 10)), (1, .ref (A 3)), (4, .int v4), (5, .int r3), (6, .int r5)]) [2, 3, 5, 1, 0] rfl ?_
              exact J80 _ ih σ4 v4 r3 r5 hw
            · refine g_iload C 1 rfl dX2_find_65 ?_
              refine g_aload_n C 2 rfl rfl dX2_find_67 ?_
              refine g_get C hK inX2 rfl 10 (ga_10 cy A _) 2 (by decide) (fun _ h => h) wt_85 rfl dX2_find_68 ?_
              refine g_icmp_ne C 95 (by decide) hw dX2_find_71 (fun hw => ?_) (fun hw => ?_)
              · refine g_eql (lv' := [(0, .ref (A 10)), (1, .ref (A 3)), (3, .int v3), (4, .int v4)]) [2, 3, 4, 5] rfl ?_
                exact J95 _ ih σ4 v3 v4 hw
              · refine g_iload C 0 rfl dX2_find_74 ?_
                refine g_iload_n C 4 rfl rfl dX2_find_76 ?_
                refine g_icmp_ge C 95 (by decide) hw dX2_find_77 (fun hw => ?_) (fun hw => ?_)
                · refine g_eql (lv' := [(0, .ref (A 10)), (1, .ref (A 3)), (3, .int v3), (4, .int v4)]) [2, 3, 4, 5] rfl ?_
                  exact J95 _ ih σ4 v3 v4 hw
                · refine g_eql (lv' := [(0, .ref (A 10)), (1, .ref (A 3)), (4, .int v4), (5, .int r3), (6, .int r5)]) [2, 3, 5, 1, 0] rfl ?_
                  exact J80 _ ih σ4 v4 r3 r5 hw
        · refine g_goto C 95 (by decide) dX2_find_28 ?_
          exact J95 _ ih σ v3 v4 hw
  unfold wX2_find at hw
  refine g_aload_n C 0 rfl rfl dX2_find_0 ?_
  refine g_aload_n C 1 rfl rfl dX2_find_1 ?_
  refine g_aload_n C 2 rfl rfl dX2_find_2 ?_
  refine gc_V C (gr_V (As := [.ref (A 3), .ref (A 4)]) (rest := []) C hK 2 (gd_V wt_406 wt_407 wt_833 wt_6 wt_408) rfl rfl rfl ⟨rfl, hs_X2_setUp⟩ ⟨⟨Nat.le_of_ble_eq_true rfl, Nat.le_of_ble_eq_true rfl⟩, Nat.le_of_ble_eq_true rfl, Nat.le_of_ble_eq_true rfl⟩ rfl 10 (ga_10 cy A _) rfl rfl (Nat.le_of_ble_eq_true rfl) dX2_find_3 (c_X2_setUp (q_l κ) (q_D κ) cy A hw)) (fun σ1 hw => ?_)
  refine g_iconst (v := (0 : Int32)) C dX2_find_6 (by decide) ?_
  refine g_istore_n C [(3, .int (0 : Int32)), (0, .ref (A 10)), (1, .ref (A 3)), (2, .ref (A 4))] F.2.2.2.1 rfl (by decide) rfl dX2_find_7 ?_
  refine g_iconst (v := (0 : Int32)) C dX2_find_8 (by decide) ?_
  refine g_istore C [(4, .int (0 : Int32)), (3, .int (0 : Int32)), (0, .ref (A 10)), (1, .ref (A 3)), (2, .ref (A 4))] F.2.2.2.1 (by decide) rfl dX2_find_9 ?_
  refine g_eql (lv' := [(0, .ref (A 10)), (1, .ref (A 3)), (3, .int (0 : Int32)), (4, .int (0 : Int32))]) [2, 3, 1, 0] rfl ?_
  obtain ⟨n0, hw⟩ := hw
  exact J11 n0 σ1 (0 : Int32) (0 : Int32) hw
set_option maxHeartbeats 4000000 in
set_option maxRecDepth 100000 in
theorem c_X3_init (l : Launch) (D : va_G) (cy : Nat → ClassId) (A : Nat → Nat) {σ : St} {a0 : Nat} {v1 : Int32} {v2 : Int32} {v3 : Int32} {Φ : St → Prop} (hw : wX3_init σ a0 v1 v2 v3 Φ) : CtV l yX3_init (.code yX3_init cX3_init 4 none :: gL) rm_X3_init 0 0 [.ref a0, .int v1, .int v2, .int v3] D cy A σ Φ := by
  refine ct_any (fun sz => va_Qv Φ (HE D cy A (gZ cy A σ sz)) (gZ cy A σ sz)) (by decide +kernel) rfl rfl [(0, .ref a0), (1, .int v1), (2, .int v2), (3, .int v3)] rfl (Nat.le_of_ble_eq_true rfl) ?_
  intro κ hκl hnm C hK sz F
  subst hκl
  unfold wX3_init at hw
  refine g_aload_n C 0 rfl rfl dX3_init_0 ?_
  refine g_iload_n C 1 rfl rfl dX3_init_1 ?_
  refine g_iload_n C 2 rfl rfl dX3_init_2 ?_
  refine g_iload_n C 3 rfl rfl dX3_init_3 ?_
  refine gc_V C (gr_N (As := [.int v1, .int v2, .int v3]) (rest := []) C hK 3 (gd_N wt_265) rfl rfl rfl wt_10 wt_289 wt_264 rfl hs_X9_init ⟨⟨Nat.le_of_ble_eq_true rfl, Nat.le_of_ble_eq_true rfl⟩, Nat.le_of_ble_eq_true rfl, Nat.le_of_ble_eq_true rfl⟩ rfl rfl (Nat.le_of_ble_eq_true rfl) dX3_init_4 (c_X9_init (q_l κ) (q_D κ) cy A hw)) (fun σ1 hw => ?_)
  exact gq_V C F (by decide) (by decide) hw dX3_init_7
set_option maxHeartbeats 4000000 in
set_option maxRecDepth 100000 in
theorem c_X3_kind (l : Launch) (D : va_G) (cy : Nat → ClassId) (A : Nat → Nat) {σ : St} {a0 : Nat} {Φ : Int32 → St → Prop} (hw : wX3_kind σ a0 Φ) : CtI l yX3_kind (.code yX3_kind cX3_kind 1 (some .int) :: gL) rm_X3_kind 0 0 [.ref a0] D cy A σ Φ := by
  refine ct_any (fun sz => va_Qi Φ (HE D cy A (gZ cy A σ sz)) (gZ cy A σ sz)) (by decide +kernel) rfl rfl [(0, .ref a0)] rfl (Nat.le_of_ble_eq_true rfl) ?_
  intro κ hκl hnm C hK sz F
  subst hκl
  unfold wX3_kind at hw
  refine g_iconst (v := (2 : Int32)) C dX3_kind_0 (by decide) ?_
  exact gq_I C F (by decide) (by decide) hw dX3_kind_1
set_option maxHeartbeats 4000000 in
set_option maxRecDepth 100000 in
theorem c_X5_init (l : Launch) (D : va_G) (cy : Nat → ClassId) (A : Nat → Nat) {σ : St} {a0 : Nat} {v1 : Int32} {v2 : Int32} {v3 : Int32} {Φ : St → Prop} (hw : wX5_init σ a0 v1 v2 v3 Φ) : CtV l yX5_init (.code yX5_init cX5_init 4 none :: gL) rm_X5_init 0 0 [.ref a0, .int v1, .int v2, .int v3] D cy A σ Φ := by
  refine ct_any (fun sz => va_Qv Φ (HE D cy A (gZ cy A σ sz)) (gZ cy A σ sz)) (by decide +kernel) rfl rfl [(0, .ref a0), (1, .int v1), (2, .int v2), (3, .int v3)] rfl (Nat.le_of_ble_eq_true rfl) ?_
  intro κ hκl hnm C hK sz F
  subst hκl
  unfold wX5_init at hw
  refine g_aload_n C 0 rfl rfl dX5_init_0 ?_
  refine g_iload_n C 1 rfl rfl dX5_init_1 ?_
  refine g_iload_n C 2 rfl rfl dX5_init_2 ?_
  refine g_iload_n C 3 rfl rfl dX5_init_3 ?_
  refine gc_V C (gr_N (As := [.int v1, .int v2, .int v3]) (rest := []) C hK 3 (gd_N wt_265) rfl rfl rfl wt_10 wt_295 wt_264 rfl hs_X9_init ⟨⟨Nat.le_of_ble_eq_true rfl, Nat.le_of_ble_eq_true rfl⟩, Nat.le_of_ble_eq_true rfl, Nat.le_of_ble_eq_true rfl⟩ rfl rfl (Nat.le_of_ble_eq_true rfl) dX5_init_4 (c_X9_init (q_l κ) (q_D κ) cy A hw)) (fun σ1 hw => ?_)
  exact gq_V C F (by decide) (by decide) hw dX5_init_7
set_option maxHeartbeats 4000000 in
set_option maxRecDepth 100000 in
theorem c_X4_init (l : Launch) (D : va_G) (cy : Nat → ClassId) (A : Nat → Nat) {σ : St} {a0 : Nat} {v1 : Int32} {v2 : Int32} {v3 : Int32} {Φ : St → Prop} (hw : wX4_init σ a0 v1 v2 v3 Φ) : CtV l yX4_init (.code yX4_init cX4_init 4 none :: gL) rm_X4_init 0 0 [.ref a0, .int v1, .int v2, .int v3] D cy A σ Φ := by
  refine ct_any (fun sz => va_Qv Φ (HE D cy A (gZ cy A σ sz)) (gZ cy A σ sz)) (by decide +kernel) rfl rfl [(0, .ref a0), (1, .int v1), (2, .int v2), (3, .int v3)] rfl (Nat.le_of_ble_eq_true rfl) ?_
  intro κ hκl hnm C hK sz F
  subst hκl
  unfold wX4_init at hw
  refine g_aload_n C 0 rfl rfl dX4_init_0 ?_
  refine g_iload_n C 1 rfl rfl dX4_init_1 ?_
  refine g_iload_n C 2 rfl rfl dX4_init_2 ?_
  refine g_iload_n C 3 rfl rfl dX4_init_3 ?_
  refine gc_V C (gr_N (As := [.int v1, .int v2, .int v3]) (rest := []) C hK 3 (gd_N wt_294) rfl rfl rfl wt_13 wt_301 wt_293 rfl hs_X5_init ⟨⟨Nat.le_of_ble_eq_true rfl, Nat.le_of_ble_eq_true rfl⟩, Nat.le_of_ble_eq_true rfl, Nat.le_of_ble_eq_true rfl⟩ rfl rfl (Nat.le_of_ble_eq_true rfl) dX4_init_4 (c_X5_init (q_l κ) (q_D κ) cy A hw)) (fun σ1 hw => ?_)
  exact gq_V C F (by decide) (by decide) hw dX4_init_7
set_option maxHeartbeats 4000000 in
set_option maxRecDepth 100000 in
theorem c_X4_kind (l : Launch) (D : va_G) (cy : Nat → ClassId) (A : Nat → Nat) {σ : St} {a0 : Nat} {Φ : Int32 → St → Prop} (hw : wX4_kind σ a0 Φ) : CtI l yX4_kind (.code yX4_kind cX4_kind 1 (some .int) :: gL) rm_X4_kind 0 0 [.ref a0] D cy A σ Φ := by
  refine ct_any (fun sz => va_Qi Φ (HE D cy A (gZ cy A σ sz)) (gZ cy A σ sz)) (by decide +kernel) rfl rfl [(0, .ref a0)] rfl (Nat.le_of_ble_eq_true rfl) ?_
  intro κ hκl hnm C hK sz F
  subst hκl
  unfold wX4_kind at hw
  refine g_iconst (v := (4 : Int32)) C dX4_kind_0 (by decide) ?_
  exact gq_I C F (by decide) (by decide) hw dX4_kind_1
set_option maxHeartbeats 4000000 in
set_option maxRecDepth 100000 in
theorem c_X5_kind (l : Launch) (D : va_G) (cy : Nat → ClassId) (A : Nat → Nat) {σ : St} {a0 : Nat} {Φ : Int32 → St → Prop} (hw : wX5_kind σ a0 Φ) : CtI l yX5_kind (.code yX5_kind cX5_kind 1 (some .int) :: gL) rm_X5_kind 0 0 [.ref a0] D cy A σ Φ := by
  refine ct_any (fun sz => va_Qi Φ (HE D cy A (gZ cy A σ sz)) (gZ cy A σ sz)) (by decide +kernel) rfl rfl [(0, .ref a0)] rfl (Nat.le_of_ble_eq_true rfl) ?_
  intro κ hκl hnm C hK sz F
  subst hκl
  unfold wX5_kind at hw
  refine g_iconst (v := (3 : Int32)) C dX5_kind_0 (by decide) ?_
  exact gq_I C F (by decide) (by decide) hw dX5_kind_1
set_option maxHeartbeats 4000000 in
set_option maxRecDepth 100000 in
theorem c_X6_isFull (l : Launch) (D : va_G) (cy : Nat → ClassId) (A : Nat → Nat) {σ : St} {Φ : Int32 → St → Prop} (hw : wX6_isFull σ Φ) : CtI l yX6_isFull (.code yX6_isFull cX6_isFull 1 (some .boolean) :: gL) rm_X6_isFull 0 0 [.ref (A 4)] D cy A σ Φ := by
  refine ct_any (fun sz => va_Qi Φ (HE D cy A (gZ cy A σ sz)) (gZ cy A σ sz)) (by decide +kernel) rfl rfl [(0, .ref (A 4))] rfl (Nat.le_of_ble_eq_true rfl) ?_
  intro κ hκl hnm C hK sz F
  subst hκl
  unfold wX6_isFull at hw
  refine g_aload_n C 0 rfl rfl dX6_isFull_0 ?_
  refine g_get C hK inX6 rfl 4 (ga_4 cy A _) 2 (by decide) (fun _ h => h) wt_65 rfl dX6_isFull_1 ?_
  refine g_aload_n C 0 rfl rfl dX6_isFull_4 ?_
  refine g_get C hK inX6 rfl 4 (ga_4 cy A _) 0 (by decide) (fun _ h => h) wt_63 rfl dX6_isFull_5 ?_
  refine g_alen (v := 6) C hK 5 3 (ga_5 cy A _) rfl rfl dX6_isFull_8 ?_
  refine g_icmp_lt C 16 (by decide) hw dX6_isFull_9 (fun hw => ?_) (fun hw => ?_)
  · refine g_iconst (v := (0 : Int32)) C dX6_isFull_16 (by decide) ?_
    exact gq_Z C F (by decide) (by decide) hw dX6_isFull_17
  · refine g_iconst (v := (1 : Int32)) C dX6_isFull_12 (by decide) ?_
    refine g_goto C 17 (by decide) dX6_isFull_13 ?_
    exact gq_Z C F (by decide) (by decide) hw dX6_isFull_17
set_option maxHeartbeats 4000000 in
set_option maxRecDepth 100000 in
theorem c_X6_put (l : Launch) (D : va_G) (cy : Nat → ClassId) (A : Nat → Nat) {σ : St} {a1 : Nat} {Φ : Int32 → St → Prop} (hw : wX6_put σ a1 Φ) : CtI l yX6_put (.code yX6_put cX6_put 2 (some .int) :: gL) rm_X6_put 0 0 [.ref (A 4), .ref a1] D cy A σ Φ := by
  refine ct_any (fun sz => va_Qi Φ (HE D cy A (gZ cy A σ sz)) (gZ cy A σ sz)) (by decide +kernel) rfl rfl [(0, .ref (A 4)), (1, .ref a1)] rfl (Nat.le_of_ble_eq_true rfl) ?_
  intro κ hκl hnm C hK sz F
  subst hκl
  unfold wX6_put at hw
  refine g_aload_n C 0 rfl rfl dX6_put_0 ?_
  refine g_get C hK inX6 rfl 4 (ga_4 cy A _) 2 (by decide) (fun _ h => h) wt_65 rfl dX6_put_1 ?_
  refine g_if_lt C 19 (by decide) hw dX6_put_4 (fun hw => ?_) (fun hw => ?_)
  · refine g_bipush (v := (-104 : Int32)) C dX6_put_19 (by decide) ?_
    exact gq_I C F (by decide) (by decide) hw dX6_put_21
  · refine g_aload_n C 0 rfl rfl dX6_put_7 ?_
    refine g_get C hK inX6 rfl 4 (ga_4 cy A _) 2 (by decide) (fun _ h => h) wt_65 rfl dX6_put_8 ?_
    refine g_aload_n C 0 rfl rfl dX6_put_11 ?_
    refine g_get C hK inX6 rfl 4 (ga_4 cy A _) 0 (by decide) (fun _ h => h) wt_63 rfl dX6_put_12 ?_
    refine g_alen (v := 6) C hK 5 3 (ga_5 cy A _) rfl rfl dX6_put_15 ?_
    refine g_icmp_lt C 22 (by decide) hw dX6_put_16 (fun hw => ?_) (fun hw => ?_)
    · refine g_aload_n C 0 rfl rfl dX6_put_22 ?_
      refine g_get C hK inX6 rfl 4 (ga_4 cy A _) 0 (by decide) (fun _ h => h) wt_63 rfl dX6_put_23 ?_
      refine g_aload_n C 0 rfl rfl dX6_put_26 ?_
      refine g_get C hK inX6 rfl 4 (ga_4 cy A _) 2 (by decide) (fun _ h => h) wt_65 rfl dX6_put_27 ?_
      refine g_aload_n C 1 rfl rfl dX6_put_30 ?_
      refine g_aastT C hK hw.1 hw.2.1 dX6_put_31 ?_
      replace hw := hw.2.2
      refine g_aload_n C 0 rfl rfl dX6_put_32 ?_
      refine g_dup C rfl dX6_put_33 ?_
      refine g_get C hK inX6 rfl 4 (ga_4 cy A _) 2 (by decide) (fun _ h => h) wt_65 rfl dX6_put_34 ?_
      refine g_iconst (v := (1 : Int32)) C dX6_put_37 (by decide) ?_
      refine g_iadd C dX6_put_38 ?_
      refine g_put (v := .int (((sH σ (σ.1 4 2).toNatClampNeg (some a1)).1 4 2) + (1 : Int32))) C hK inX6 rfl tyX6 tyX6_ok nmX6 4 (ga_4 cy A _) 2 (by decide) (fun _ h => h) wt_65 rfl rfl rfl (Nat.le_of_ble_eq_true rfl) (gp_4_2 cy A _ _) dX6_put_39 ?_
      refine g_aload_n C 0 rfl rfl dX6_put_42 ?_
      refine g_get C hK inX6 rfl 4 (ga_4 cy A _) 2 (by decide) (fun _ h => h) wt_65 rfl dX6_put_43 ?_
      refine g_iconst (v := (1 : Int32)) C dX6_put_46 (by decide) ?_
      refine g_isub C dX6_put_47 ?_
      exact gq_I C F (by decide) (by decide) hw dX6_put_48
    · refine g_bipush (v := (-104 : Int32)) C dX6_put_19 (by decide) ?_
      exact gq_I C F (by decide) (by decide) hw dX6_put_21
set_option maxHeartbeats 4000000 in
set_option maxRecDepth 100000 in
theorem c_X6_cutTo (l : Launch) (D : va_G) (cy : Nat → ClassId) (A : Nat → Nat) {σ : St} {v1 : Int32} {Φ : St → Prop} (hw : wX6_cutTo σ v1 Φ) : CtV l yX6_cutTo (.code yX6_cutTo cX6_cutTo 3 none :: gL) rm_X6_cutTo 0 0 [.ref (A 4), .int v1] D cy A σ Φ := by
  refine ct_any (fun sz => va_Qv Φ (HE D cy A (gZ cy A σ sz)) (gZ cy A σ sz)) (by decide +kernel) rfl rfl [(0, .ref (A 4)), (1, .int v1)] rfl (Nat.le_of_ble_eq_true rfl) ?_
  intro κ hκl hnm C hK sz F
  subst hκl
  have J23 : ∀ (K2 : St → Int32 → Int32 → Prop) (_ : ∀ (σ : St) (v1 : Int32) (v2 : Int32), K2 σ v1 v2 → GW κ 0 0 (gW cy A σ) 2 [(0, .ref (A 4)), (1, .int v1), (2, .int v2)] []), ∀ (σ : St) (v1 : Int32) (v2 : Int32), wX6_cutTo_23 K2 Φ σ v1 v2 → GW κ 0 0 (gW cy A σ) 23 [(0, .ref (A 4)), (1, .int v1), (2, .int v2)] [] := by
    intro K2 hK2 σ v1 v2 hw
    unfold wX6_cutTo_23 at hw
    refine g_iinc (j := 2) C [(2, .int (v2 + 1)), (0, .ref (A 4)), (1, .int v1)] F.2.2.2.1 rfl rfl (by decide) rfl dX6_cutTo_23 ?_
    refine g_goto C 2 (by decide) dX6_cutTo_26 ?_
    refine g_eql (lv' := [(0, .ref (A 4)), (1, .int v1), (2, .int (v2 + 1))]) [1, 2, 0] rfl ?_
    exact hK2 σ v1 (v2 + 1) hw
  have J2 : ∀ (n : Nat) (σ : St) (v1 : Int32) (v2 : Int32), wX6_cutTo_2 Φ n σ v1 v2 → GW κ 0 0 (gW cy A σ) 2 [(0, .ref (A 4)), (1, .int v1), (2, .int v2)] [] := by
    intro n
    induction n with
    | zero => intro σ v1 v2 hw; exact hw.elim
    | succ n ih =>
      intro σ v1 v2 hw
      rw [wX6_cutTo_2] at hw
      refine g_iload_n C 2 rfl rfl dX6_cutTo_2 ?_
      refine g_aload_n C 0 rfl rfl dX6_cutTo_3 ?_
      refine g_get C hK inX6 rfl 4 (ga_4 cy A _) 0 (by decide) (fun _ h => h) wt_63 rfl dX6_cutTo_4 ?_
      refine g_alen (v := 6) C hK 5 3 (ga_5 cy A _) rfl rfl dX6_cutTo_7 ?_
      refine g_icmp_ge C 29 (by decide) hw dX6_cutTo_8 (fun hw => ?_) (fun hw => ?_)
      · refine g_aload_n C 0 rfl rfl dX6_cutTo_29 ?_
        refine g_aload_n C 0 rfl rfl dX6_cutTo_30 ?_
        refine g_get C hK inX6 rfl 4 (ga_4 cy A _) 2 (by decide) (fun _ h => h) wt_65 rfl dX6_cutTo_31 ?_
        refine g_iload_n C 1 rfl rfl dX6_cutTo_34 ?_
        refine gc_I C (gr_S (As := [.int (σ.1 4 2), .int v1]) (rest := [.ref (A 4)]) C hK 2 (gd_S wt_178 wt_179 wt_9 wt_180) rfl rfl rfl hs_J9_min_7cf53 ⟨⟨Nat.le_of_ble_eq_true rfl, Nat.le_of_ble_eq_true rfl⟩, Nat.le_of_ble_eq_true rfl, Nat.le_of_ble_eq_true rfl⟩ rfl rfl (Nat.le_of_ble_eq_true rfl) dX6_cutTo_35 (c_J9_min_7cf53 (q_l κ) (q_D κ) cy A hw)) (fun r2 σ1 hw => ?_)
        refine g_put (v := .int r2) C hK inX6 rfl tyX6 tyX6_ok nmX6 4 (ga_4 cy A _) 2 (by decide) (fun _ h => h) wt_65 rfl rfl rfl (Nat.le_of_ble_eq_true rfl) (gp_4_2 cy A _ _) dX6_cutTo_38 ?_
        exact gq_V C F (by decide) (by decide) hw dX6_cutTo_41
      · refine g_iload_n C 2 rfl rfl dX6_cutTo_11 ?_
        refine g_iload_n C 1 rfl rfl dX6_cutTo_12 ?_
        refine g_icmp_lt C 23 (by decide) hw dX6_cutTo_13 (fun hw => ?_) (fun hw => ?_)
        · exact J23 _ ih σ v1 v2 hw
        · refine g_aload_n C 0 rfl rfl dX6_cutTo_16 ?_
          refine g_get C hK inX6 rfl 4 (ga_4 cy A _) 0 (by decide) (fun _ h => h) wt_63 rfl dX6_cutTo_17 ?_
          refine g_iload_n C 2 rfl rfl dX6_cutTo_20 ?_
          refine g_null C dX6_cutTo_21 ?_
          refine g_aastN C hK 5 3 (ga_5 cy A _) rfl hw.1 (gs_5 cy A _ _ _) dX6_cutTo_22 ?_
          replace hw := hw.2
          exact J23 _ ih (sH σ v2.toNatClampNeg none) v1 v2 hw
  unfold wX6_cutTo at hw
  refine g_iconst (v := (0 : Int32)) C dX6_cutTo_0 (by decide) ?_
  refine g_istore_n C [(2, .int (0 : Int32)), (0, .ref (A 4)), (1, .int v1)] F.2.2.2.1 rfl (by decide) rfl dX6_cutTo_1 ?_
  refine g_eql (lv' := [(0, .ref (A 4)), (1, .int v1), (2, .int (0 : Int32))]) [1, 2, 0] rfl ?_
  obtain ⟨n0, hw⟩ := hw
  exact J2 n0 σ v1 (0 : Int32) hw
set_option maxHeartbeats 4000000 in
set_option maxRecDepth 100000 in
theorem c_X6_keepPlaces (l : Launch) (D : va_G) (cy : Nat → ClassId) (A : Nat → Nat) {σ : St} {Φ : St → Prop} (hw : wX6_keepPlaces σ Φ) : CtV l yX6_keepPlaces (.code yX6_keepPlaces cX6_keepPlaces 3 none :: gL) rm_X6_keepPlaces 0 0 [.ref (A 4)] D cy A σ Φ := by
  refine ct_any (fun sz => va_Qv Φ (HE D cy A (gZ cy A σ sz)) (gZ cy A σ sz)) (by decide +kernel) rfl rfl [(0, .ref (A 4))] rfl (Nat.le_of_ble_eq_true rfl) ?_
  intro κ hκl hnm C hK sz F
  subst hκl
  have J42 : ∀ (K10 : St → Int32 → Prop) (_ : ∀ (σ : St) (v1 : Int32), K10 σ v1 → GW κ 0 0 (gW cy A σ) 10 [(0, .ref (A 4)), (1, .int v1)] []), ∀ (σ : St) (v1 : Int32) (s0 : Int32) (s1 : Int32), wX6_keepPlaces_42 K10 Φ σ v1 s0 s1 → GW κ 0 0 (gW cy A σ) 42 [(0, .ref (A 4)), (1, .int v1)] [.int s0, .int s1, .ref (A 6)] := by
    intro K10 hK10 σ v1 s0 s1 hw
    unfold wX6_keepPlaces_42 at hw
    refine g_iast C hK 6 2 (ga_6 cy A _) rfl hw.1 (gs_6 cy A _ _ _) dX6_keepPlaces_42 ?_
    replace hw := hw.2
    refine g_iinc (j := 1) C [(1, .int (v1 + 1)), (0, .ref (A 4))] F.2.2.2.1 rfl rfl (by decide) rfl dX6_keepPlaces_43 ?_
    refine g_goto C 10 (by decide) dX6_keepPlaces_46 ?_
    refine g_eql (lv' := [(0, .ref (A 4)), (1, .int (v1 + 1))]) [1, 0] rfl ?_
    exact hK10 (sV σ 6 s1.toNatClampNeg s0) (v1 + 1) hw
  have J10 : ∀ (n : Nat) (σ : St) (v1 : Int32), wX6_keepPlaces_10 Φ n σ v1 → GW κ 0 0 (gW cy A σ) 10 [(0, .ref (A 4)), (1, .int v1)] [] := by
    intro n
    induction n with
    | zero => intro σ v1 hw; exact hw.elim
    | succ n ih =>
      intro σ v1 hw
      rw [wX6_keepPlaces_10] at hw
      refine g_iload_n C 1 rfl rfl dX6_keepPlaces_10 ?_
      refine g_aload_n C 0 rfl rfl dX6_keepPlaces_11 ?_
      refine g_get C hK inX6 rfl 4 (ga_4 cy A _) 1 (by decide) (fun _ h => h) wt_64 rfl dX6_keepPlaces_12 ?_
      refine g_alen (v := 6) C hK 6 2 (ga_6 cy A _) rfl rfl dX6_keepPlaces_15 ?_
      refine g_icmp_ge C 49 (by decide) hw dX6_keepPlaces_16 (fun hw => ?_) (fun hw => ?_)
      · exact gq_V C F (by decide) (by decide) hw dX6_keepPlaces_49
      · refine g_aload_n C 0 rfl rfl dX6_keepPlaces_19 ?_
        refine g_iload_n C 1 rfl rfl dX6_keepPlaces_20 ?_
        refine gc_Q C (gr_V (As := [.int v1]) (rest := []) C hK 1 (gd_V wt_200 wt_201 wt_202 wt_4 wt_203) rfl rfl rfl ⟨rfl, hs_X6_at⟩ ⟨⟨Nat.le_of_ble_eq_true rfl, Nat.le_of_ble_eq_true rfl⟩, Nat.le_of_ble_eq_true rfl, Nat.le_of_ble_eq_true rfl⟩ rfl 4 (ga_4 cy A _) rfl rfl (Nat.le_of_ble_eq_true rfl) dX6_keepPlaces_21 (c_X6_at (q_l κ) (q_D κ) cy A hw)) (fun r2 σ1 hw => ?_)
        refine g_rstore_n C [(2, va_rf r2), (0, .ref (A 4)), (1, .int v1)] F.2.2.2.1 rfl (by decide) rfl dX6_keepPlaces_24 ?_
        refine g_aload_n C 1 rfl rfl dX6_keepPlaces_25 ?_
        refine g_get C hK inX6 rfl 4 (ga_4 cy A _) 1 (by decide) (fun _ h => h) wt_64 rfl dX6_keepPlaces_26 ?_
        refine g_iload_n C 2 rfl rfl dX6_keepPlaces_29 ?_
        refine g_rload_n C 0 rfl rfl dX6_keepPlaces_30 ?_
        refine g_ifnonnull C 38 (by decide) hw dX6_keepPlaces_31 (fun b3 e9 hw1 => ?_) (fun hw1 e9 => ?_)
        · subst e9
          replace hw := hw1
          refine g_aload_n C 0 rfl rfl dX6_keepPlaces_38 ?_
          refine g_getT2 C hK hw.1 (fun _ h => h) wt_282 dX6_keepPlaces_39 ?_
          replace hw := hw.2
          refine g_eql (lv' := [(0, .ref (A 4)), (1, .int v1)]) [1, 2] rfl ?_
          exact J42 _ ih σ1 v1 (σ1.2.2.2.2.2 b3 2) v1 hw
        · subst e9
          replace hw := hw1
          refine g_iconst (v := (0 : Int32)) C dX6_keepPlaces_34 (by decide) ?_
          refine g_goto C 42 (by decide) dX6_keepPlaces_35 ?_
          refine g_eql (lv' := [(0, .ref (A 4)), (1, .int v1)]) [1, 2] rfl ?_
          exact J42 _ ih σ1 v1 (0 : Int32) v1 hw
  unfold wX6_keepPlaces at hw
  refine g_aload_n C 0 rfl rfl dX6_keepPlaces_0 ?_
  refine g_aload_n C 0 rfl rfl dX6_keepPlaces_1 ?_
  refine g_get C hK inX6 rfl 4 (ga_4 cy A _) 2 (by decide) (fun _ h => h) wt_65 rfl dX6_keepPlaces_2 ?_
  refine g_put (v := .int (σ.1 4 2)) C hK inX6 rfl tyX6 tyX6_ok nmX6 4 (ga_4 cy A _) 3 (by decide) (fun _ h => h) wt_67 rfl rfl rfl (Nat.le_of_ble_eq_true rfl) (gp_4_3 cy A _ _) dX6_keepPlaces_5 ?_
  refine g_iconst (v := (0 : Int32)) C dX6_keepPlaces_8 (by decide) ?_
  refine g_istore_n C [(1, .int (0 : Int32)), (0, .ref (A 4))] F.2.2.2.1 rfl (by decide) rfl dX6_keepPlaces_9 ?_
  refine g_eql (lv' := [(0, .ref (A 4)), (1, .int (0 : Int32))]) [1, 0] rfl ?_
  obtain ⟨n0, hw⟩ := hw
  exact J10 n0 (sV σ 4 3 (σ.1 4 2)) (0 : Int32) hw
set_option maxHeartbeats 4000000 in
set_option maxRecDepth 100000 in
theorem c_X6_goBack (l : Launch) (D : va_G) (cy : Nat → ClassId) (A : Nat → Nat) {σ : St} {Φ : St → Prop} (hw : wX6_goBack σ Φ) : CtV l yX6_goBack (.code yX6_goBack cX6_goBack 3 none :: gL) rm_X6_goBack 0 0 [.ref (A 4)] D cy A σ Φ := by
  refine ct_any (fun sz => va_Qv Φ (HE D cy A (gZ cy A σ sz)) (gZ cy A σ sz)) (by decide +kernel) rfl rfl [(0, .ref (A 4))] rfl (Nat.le_of_ble_eq_true rfl) ?_
  intro κ hκl hnm C hK sz F
  subst hκl
  have J39 : ∀ (K10 : St → Int32 → Prop) (_ : ∀ (σ : St) (v1 : Int32), K10 σ v1 → GW κ 0 0 (gW cy A σ) 10 [(0, .ref (A 4)), (1, .int v1)] []), ∀ (σ : St) (v1 : Int32), wX6_goBack_39 K10 Φ σ v1 → GW κ 0 0 (gW cy A σ) 39 [(0, .ref (A 4)), (1, .int v1)] [] := by
    intro K10 hK10 σ v1 hw
    unfold wX6_goBack_39 at hw
    refine g_iinc (j := 1) C [(1, .int (v1 + 1)), (0, .ref (A 4))] F.2.2.2.1 rfl rfl (by decide) rfl dX6_goBack_39 ?_
    refine g_goto C 10 (by decide) dX6_goBack_42 ?_
    refine g_eql (lv' := [(0, .ref (A 4)), (1, .int (v1 + 1))]) [1, 0] rfl ?_
    exact hK10 σ (v1 + 1) hw
  have J10 : ∀ (n : Nat) (σ : St) (v1 : Int32), wX6_goBack_10 Φ n σ v1 → GW κ 0 0 (gW cy A σ) 10 [(0, .ref (A 4)), (1, .int v1)] [] := by
    intro n
    induction n with
    | zero => intro σ v1 hw; exact hw.elim
    | succ n ih =>
      intro σ v1 hw
      rw [wX6_goBack_10] at hw
      refine g_iload_n C 1 rfl rfl dX6_goBack_10 ?_
      refine g_aload_n C 0 rfl rfl dX6_goBack_11 ?_
      refine g_get C hK inX6 rfl 4 (ga_4 cy A _) 1 (by decide) (fun _ h => h) wt_64 rfl dX6_goBack_12 ?_
      refine g_alen (v := 6) C hK 6 2 (ga_6 cy A _) rfl rfl dX6_goBack_15 ?_
      refine g_icmp_ge C 45 (by decide) hw dX6_goBack_16 (fun hw => ?_) (fun hw => ?_)
      · exact gq_V C F (by decide) (by decide) hw dX6_goBack_45
      · refine g_aload_n C 0 rfl rfl dX6_goBack_19 ?_
        refine g_iload_n C 1 rfl rfl dX6_goBack_20 ?_
        refine gc_Q C (gr_V (As := [.int v1]) (rest := []) C hK 1 (gd_V wt_200 wt_201 wt_202 wt_4 wt_203) rfl rfl rfl ⟨rfl, hs_X6_at⟩ ⟨⟨Nat.le_of_ble_eq_true rfl, Nat.le_of_ble_eq_true rfl⟩, Nat.le_of_ble_eq_true rfl, Nat.le_of_ble_eq_true rfl⟩ rfl 4 (ga_4 cy A _) rfl rfl (Nat.le_of_ble_eq_true rfl) dX6_goBack_21 (c_X6_at (q_l κ) (q_D κ) cy A hw)) (fun r3 σ2 hw => ?_)
        refine g_rstore_n C [(2, va_rf r3), (0, .ref (A 4)), (1, .int v1)] F.2.2.2.1 rfl (by decide) rfl dX6_goBack_24 ?_
        refine g_rload_n C 0 rfl rfl dX6_goBack_25 ?_
        refine g_ifnull C 39 (by decide) hw dX6_goBack_26 (fun hw1 e9 => ?_) (fun b4 e9 hw1 => ?_)
        · subst e9
          replace hw := hw1
          refine g_eql (lv' := [(0, .ref (A 4)), (1, .int v1)]) [1, 2] rfl ?_
          exact J39 _ ih σ2 v1 hw
        · subst e9
          replace hw := hw1
          refine g_aload_n C 0 rfl rfl dX6_goBack_29 ?_
          refine g_aload_n C 1 rfl rfl dX6_goBack_30 ?_
          refine g_get C hK inX6 rfl 4 (ga_4 cy A _) 1 (by decide) (fun _ h => h) wt_64 rfl dX6_goBack_31 ?_
          refine g_iload_n C 2 rfl rfl dX6_goBack_34 ?_
          refine g_iald C hK 6 2 (ga_6 cy A _) rfl hw.1 dX6_goBack_35 ?_
          replace hw := hw.2
          refine g_putT2 C hK hw.1 (fun _ h => h) wt_282 dX6_goBack_36 ?_
          replace hw := hw.2
          refine g_eql (lv' := [(0, .ref (A 4)), (1, .int v1)]) [1, 2] rfl ?_
          exact J39 _ ih (sT σ2 b4 2 (σ2.1 6 v1.toNatClampNeg)) v1 hw
  unfold wX6_goBack at hw
  refine g_aload_n C 0 rfl rfl dX6_goBack_0 ?_
  refine g_aload_n C 0 rfl rfl dX6_goBack_1 ?_
  refine g_get C hK inX6 rfl 4 (ga_4 cy A _) 3 (by decide) (fun _ h => h) wt_67 rfl dX6_goBack_2 ?_
  refine gc_V C (gr_V (As := [.int (σ.1 4 3)]) (rest := []) C hK 1 (gd_V wt_548 wt_175 wt_176 wt_4 wt_177) rfl rfl rfl ⟨rfl, hs_X6_cutTo⟩ ⟨⟨Nat.le_of_ble_eq_true rfl, Nat.le_of_ble_eq_true rfl⟩, Nat.le_of_ble_eq_true rfl, Nat.le_of_ble_eq_true rfl⟩ rfl 4 (ga_4 cy A _) rfl rfl (Nat.le_of_ble_eq_true rfl) dX6_goBack_5 (c_X6_cutTo (q_l κ) (q_D κ) cy A hw)) (fun σ1 hw => ?_)
  refine g_iconst (v := (0 : Int32)) C dX6_goBack_8 (by decide) ?_
  refine g_istore_n C [(1, .int (0 : Int32)), (0, .ref (A 4))] F.2.2.2.1 rfl (by decide) rfl dX6_goBack_9 ?_
  refine g_eql (lv' := [(0, .ref (A 4)), (1, .int (0 : Int32))]) [1, 0] rfl ?_
  obtain ⟨n0, hw⟩ := hw
  exact J10 n0 σ1 (0 : Int32) hw
set_option maxHeartbeats 4000000 in
set_option maxRecDepth 100000 in
theorem c_X6_sizeIn (l : Launch) (D : va_G) (cy : Nat → ClassId) (A : Nat → Nat) {σ : St} {v1 : Int32} {Φ : Int32 → St → Prop} (hw : wX6_sizeIn σ v1 Φ) : CtI l yX6_sizeIn (.code yX6_sizeIn cX6_sizeIn 5 (some .int) :: gL) rm_X6_sizeIn 0 0 [.ref (A 4), .int v1] D cy A σ Φ := by
  refine ct_any (fun sz => va_Qi Φ (HE D cy A (gZ cy A σ sz)) (gZ cy A σ sz)) (by decide +kernel) rfl rfl [(0, .ref (A 4)), (1, .int v1)] rfl (Nat.le_of_ble_eq_true rfl) ?_
  intro κ hκl hnm C hK sz F
  subst hκl
  have J36 : ∀ (K4 : St → Int32 → Int32 → Int32 → Prop) (_ : ∀ (σ : St) (v1 : Int32) (v2 : Int32) (v3 : Int32), K4 σ v1 v2 v3 → GW κ 0 0 (gW cy A σ) 4 [(0, .ref (A 4)), (1, .int v1), (2, .int v2), (3, .int v3)] []), ∀ (σ : St) (v1 : Int32) (v2 : Int32) (v3 : Int32), wX6_sizeIn_36 K4 Φ σ v1 v2 v3 → GW κ 0 0 (gW cy A σ) 36 [(0, .ref (A 4)), (1, .int v1), (2, .int v2), (3, .int v3)] [] := by
    intro K4 hK4 σ v1 v2 v3 hw
    unfold wX6_sizeIn_36 at hw
    refine g_iinc (j := 3) C [(3, .int (v3 + 1)), (0, .ref (A 4)), (1, .int v1), (2, .int v2)] F.2.2.2.1 rfl rfl (by decide) rfl dX6_sizeIn_36 ?_
    refine g_goto C 4 (by decide) dX6_sizeIn_39 ?_
    refine g_eql (lv' := [(0, .ref (A 4)), (1, .int v1), (2, .int v2), (3, .int (v3 + 1))]) [1, 2, 3, 0] rfl ?_
    exact hK4 σ v1 v2 (v3 + 1) hw
  have J4 : ∀ (n : Nat) (σ : St) (v1 : Int32) (v2 : Int32) (v3 : Int32), wX6_sizeIn_4 Φ n σ v1 v2 v3 → GW κ 0 0 (gW cy A σ) 4 [(0, .ref (A 4)), (1, .int v1), (2, .int v2), (3, .int v3)] [] := by
    intro n
    induction n with
    | zero => intro σ v1 v2 v3 hw; exact hw.elim
    | succ n ih =>
      intro σ v1 v2 v3 hw
      rw [wX6_sizeIn_4] at hw
      refine g_iload_n C 3 rfl rfl dX6_sizeIn_4 ?_
      refine g_aload_n C 0 rfl rfl dX6_sizeIn_5 ?_
      refine g_get C hK inX6 rfl 4 (ga_4 cy A _) 2 (by decide) (fun _ h => h) wt_65 rfl dX6_sizeIn_6 ?_
      refine g_icmp_ge C 42 (by decide) hw dX6_sizeIn_9 (fun hw => ?_) (fun hw => ?_)
      · refine g_iload_n C 2 rfl rfl dX6_sizeIn_42 ?_
        exact gq_I C F (by decide) (by decide) hw dX6_sizeIn_43
      · refine g_aload_n C 0 rfl rfl dX6_sizeIn_12 ?_
        refine g_iload_n C 3 rfl rfl dX6_sizeIn_13 ?_
        refine gc_Q C (gr_V (As := [.int v3]) (rest := []) C hK 1 (gd_V wt_200 wt_201 wt_202 wt_4 wt_203) rfl rfl rfl ⟨rfl, hs_X6_at⟩ ⟨⟨Nat.le_of_ble_eq_true rfl, Nat.le_of_ble_eq_true rfl⟩, Nat.le_of_ble_eq_true rfl, Nat.le_of_ble_eq_true rfl⟩ rfl 4 (ga_4 cy A _) rfl rfl (Nat.le_of_ble_eq_true rfl) dX6_sizeIn_14 (c_X6_at (q_l κ) (q_D κ) cy A hw)) (fun r2 σ1 hw => ?_)
        refine g_rstore C [(4, va_rf r2), (0, .ref (A 4)), (1, .int v1), (2, .int v2), (3, .int v3)] F.2.2.2.1 (by decide) rfl dX6_sizeIn_17 ?_
        refine g_rload C 0 rfl dX6_sizeIn_19 ?_
        refine g_ifnull C 36 (by decide) hw dX6_sizeIn_21 (fun hw1 e9 => ?_) (fun b3 e9 hw1 => ?_)
        · subst e9
          replace hw := hw1
          refine g_eql (lv' := [(0, .ref (A 4)), (1, .int v1), (2, .int v2), (3, .int v3)]) [1, 2, 3, 4] rfl ?_
          exact J36 _ ih σ1 v1 v2 v3 hw
        · subst e9
          replace hw := hw1
          refine g_aload C 0 rfl dX6_sizeIn_24 ?_
          refine g_getT2 C hK hw.1 (fun _ h => h) wt_282 dX6_sizeIn_26 ?_
          replace hw := hw.2
          refine g_iload_n C 2 rfl rfl dX6_sizeIn_29 ?_
          refine g_icmp_ne C 36 (by decide) hw dX6_sizeIn_30 (fun hw => ?_) (fun hw => ?_)
          · refine g_eql (lv' := [(0, .ref (A 4)), (1, .int v1), (2, .int v2), (3, .int v3)]) [1, 2, 3, 4] rfl ?_
            exact J36 _ ih σ1 v1 v2 v3 hw
          · refine g_iinc (j := 3) C [(2, .int (v2 + 1)), (4, .ref b3), (0, .ref (A 4)), (1, .int v1), (3, .int v3)] F.2.2.2.1 rfl rfl (by decide) rfl dX6_sizeIn_33 ?_
            refine g_eql (lv' := [(0, .ref (A 4)), (1, .int v1), (2, .int (v2 + 1)), (3, .int v3)]) [2, 3, 0, 4] rfl ?_
            exact J36 _ ih σ1 v1 (v2 + 1) v3 hw
  unfold wX6_sizeIn at hw
  refine g_iconst (v := (0 : Int32)) C dX6_sizeIn_0 (by decide) ?_
  refine g_istore_n C [(2, .int (0 : Int32)), (0, .ref (A 4)), (1, .int v1)] F.2.2.2.1 rfl (by decide) rfl dX6_sizeIn_1 ?_
  refine g_iconst (v := (0 : Int32)) C dX6_sizeIn_2 (by decide) ?_
  refine g_istore_n C [(3, .int (0 : Int32)), (2, .int (0 : Int32)), (0, .ref (A 4)), (1, .int v1)] F.2.2.2.1 rfl (by decide) rfl dX6_sizeIn_3 ?_
  refine g_eql (lv' := [(0, .ref (A 4)), (1, .int v1), (2, .int (0 : Int32)), (3, .int (0 : Int32))]) [2, 3, 1, 0] rfl ?_
  obtain ⟨n0, hw⟩ := hw
  exact J4 n0 σ v1 (0 : Int32) (0 : Int32) hw
