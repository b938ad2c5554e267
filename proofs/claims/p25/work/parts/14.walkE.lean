set_option maxHeartbeats 4000000 in
set_option maxRecDepth 100000 in
theorem c_L_floor (l : Launch) (D : va_G) (cy : Nat → ClassId) (A : Nat → Nat) {σ : St} {q : Nat} (hq : isQ q) {v1 : Int32} {v2 : Int32} {v3 : Int32} {v4 : Int32} {Φ : Int32 → St → Prop} (hw : wL_floor σ q v1 v2 v3 v4 Φ) : CtI l yL_floor (.code yL_floor cL_floor 6 (some .int) :: gL) rm_L_floor 0 0 [.ref (A q), .int v1, .int v2, .int v3, .int v4] D cy A σ Φ := by
  refine ct_any (fun sz => va_Qi Φ (HE D cy A (gZ cy A σ sz)) (gZ cy A σ sz)) (by decide +kernel) rfl rfl [(0, .ref (A q)), (1, .int v1), (2, .int v2), (3, .int v3), (4, .int v4)] rfl (Nat.le_of_ble_eq_true rfl) ?_
  intro κ hκl hnm C hK sz F
  subst hκl
  unfold wL_floor at hw
  refine g_aload_n C 0 rfl rfl dL_floor_0 ?_
  refine g_iload_n C 3 rfl rfl dL_floor_1 ?_
  refine gc_I C (gr_S (As := [.ref (A q), .int v3]) (rest := []) C hK 2 (gd_S wt_420 wt_421 wt_0 wt_422) rfl rfl rfl hs_L_turns ⟨⟨Nat.le_of_ble_eq_true rfl, Nat.le_of_ble_eq_true rfl⟩, Nat.le_of_ble_eq_true rfl, Nat.le_of_ble_eq_true rfl⟩ rfl rfl (Nat.le_of_ble_eq_true rfl) dL_floor_2 (c_L_turns (q_l κ) (q_D κ) cy A hq hw)) (fun r2 σ1 hw => ?_)
  refine g_istore C [(5, .int r2), (0, .ref (A q)), (1, .int v1), (2, .int v2), (3, .int v3), (4, .int v4)] F.2.2.2.1 (by decide) rfl dL_floor_5 ?_
  refine g_iload C 0 rfl dL_floor_7 ?_
  refine g_aload_n C 1 rfl rfl dL_floor_9 ?_
  refine g_iload_n C 2 rfl rfl dL_floor_10 ?_
  refine g_iload_n C 3 rfl rfl dL_floor_11 ?_
  refine g_iload_n C 4 rfl rfl dL_floor_12 ?_
  refine g_iload C 5 rfl dL_floor_13 ?_
  refine gc_I C (gr_S (As := [.ref (A q), .int v1, .int v2, .int v3, .int v4]) (rest := [.int r2]) C hK 5 (gd_S wt_432 wt_433 wt_0 wt_434) rfl rfl rfl hs_L_arm ⟨⟨Nat.le_of_ble_eq_true rfl, Nat.le_of_ble_eq_true rfl⟩, Nat.le_of_ble_eq_true rfl, Nat.le_of_ble_eq_true rfl⟩ rfl rfl (Nat.le_of_ble_eq_true rfl) dL_floor_15 (c_L_arm (q_l κ) (q_D κ) cy A hq hw)) (fun r4 σ3 hw => ?_)
  refine g_imul C dL_floor_18 ?_
  refine g_iload C 0 rfl dL_floor_19 ?_
  refine g_imul C dL_floor_21 ?_
  exact gq_I C F (by decide) (by decide) hw dL_floor_22
set_option maxHeartbeats 4000000 in
set_option maxRecDepth 100000 in
theorem c_L_strain (l : Launch) (D : va_G) (cy : Nat → ClassId) (A : Nat → Nat) {σ : St} {q : Nat} (hq : isQ q) {v1 : Int32} {v2 : Int32} {Φ : Int32 → St → Prop} (hw : wL_strain σ q v1 v2 Φ) : CtI l yL_strain (.code yL_strain cL_strain 3 (some .int) :: gL) rm_L_strain 0 0 [.ref (A q), .int v1, .int v2] D cy A σ Φ := by
  refine ct_any (fun sz => va_Qi Φ (HE D cy A (gZ cy A σ sz)) (gZ cy A σ sz)) (by decide +kernel) rfl rfl [(0, .ref (A q)), (1, .int v1), (2, .int v2)] rfl (Nat.le_of_ble_eq_true rfl) ?_
  intro κ hκl hnm C hK sz F
  subst hκl
  unfold wL_strain at hw
  refine g_aload_n C 0 rfl rfl dL_strain_0 ?_
  refine g_iconst (v := (0 : Int32)) C dL_strain_1 (by decide) ?_
  refine g_iconst (v := (0 : Int32)) C dL_strain_2 (by decide) ?_
  refine g_iload_n C 1 rfl rfl dL_strain_3 ?_
  refine g_iload_n C 2 rfl rfl dL_strain_4 ?_
  refine gc_I C (gr_S (As := [.ref (A q), .int (0 : Int32), .int (0 : Int32), .int v1, .int v2]) (rest := []) C hK 5 (gd_S wt_429 wt_430 wt_0 wt_431) rfl rfl rfl hs_L_floor ⟨⟨Nat.le_of_ble_eq_true rfl, Nat.le_of_ble_eq_true rfl⟩, Nat.le_of_ble_eq_true rfl, Nat.le_of_ble_eq_true rfl⟩ rfl rfl (Nat.le_of_ble_eq_true rfl) dL_strain_5 (c_L_floor (q_l κ) (q_D κ) cy A hq hw)) (fun r2 σ1 hw => ?_)
  refine g_aload_n C 0 rfl rfl dL_strain_8 ?_
  refine g_iconst (v := (0 : Int32)) C dL_strain_9 (by decide) ?_
  refine g_iconst (v := (0 : Int32)) C dL_strain_10 (by decide) ?_
  refine g_iload_n C 2 rfl rfl dL_strain_11 ?_
  refine gc_I C (gr_S (As := [.ref (A q), .int (0 : Int32), .int (0 : Int32), .int v2]) (rest := [.int r2]) C hK 4 (gd_S wt_435 wt_436 wt_0 wt_437) rfl rfl rfl hs_L_cabin ⟨⟨Nat.le_of_ble_eq_true rfl, Nat.le_of_ble_eq_true rfl⟩, Nat.le_of_ble_eq_true rfl, Nat.le_of_ble_eq_true rfl⟩ rfl rfl (Nat.le_of_ble_eq_true rfl) dL_strain_12 (c_L_cabin (q_l κ) (q_D κ) cy A hq hw)) (fun r4 σ3 hw => ?_)
  refine g_imul C dL_strain_15 ?_
  refine g_bipush (v := (100 : Int32)) C dL_strain_16 (by decide) ?_
  refine g_idiv C hw.1 dL_strain_18 ?_
  replace hw := hw.2
  exact gq_I C F (by decide) (by decide) hw dL_strain_19
set_option maxHeartbeats 4000000 in
set_option maxRecDepth 100000 in
theorem c_L_hour (l : Launch) (D : va_G) (cy : Nat → ClassId) (A : Nat → Nat) {σ : St} {q : Nat} (hq : isQ q) {v1 : Int32} {Φ : Int32 → St → Prop} (hw : wL_hour σ q v1 Φ) : CtI l yL_hour (.code yL_hour cL_hour 2 (some .int) :: gL) rm_L_hour 0 0 [.ref (A q), .int v1] D cy A σ Φ := by
  refine ct_any (fun sz => va_Qi Φ (HE D cy A (gZ cy A σ sz)) (gZ cy A σ sz)) (by decide +kernel) rfl rfl [(0, .ref (A q)), (1, .int v1)] rfl (Nat.le_of_ble_eq_true rfl) ?_
  intro κ hκl hnm C hK sz F
  subst hκl
  have J57 : ∀ (σ : St) (s0 : Int32) (s1 : Int32), wL_hour_57 q Φ σ s0 s1 → GW κ 0 0 (gW cy A σ) 57 [(0, .ref (A q))] [.int s0, .int s1, .ref (A q)] := by
    intro σ s0 s1 hw
    unfold wL_hour_57 at hw
    refine g_iast C hK q 2 (ga_q cy A _ hq) rfl hw.1 (gs_q cy A _ _ _ hq) dL_hour_57 ?_
    replace hw := hw.2
    refine g_aload_n C 0 rfl rfl dL_hour_58 ?_
    refine g_bipush (v := (6 : Int32)) C dL_hour_59 (by decide) ?_
    refine g_iald C hK q 2 (ga_q cy A _ hq) rfl hw.1 dL_hour_61 ?_
    replace hw := hw.2
    refine g_iconst (v := (1 : Int32)) C dL_hour_62 (by decide) ?_
    refine g_icmp_ne C 70 (by decide) hw dL_hour_63 (fun hw => ?_) (fun hw => ?_)
    · refine g_aload_n C 0 rfl rfl dL_hour_70 ?_
      refine g_iconst (v := (0 : Int32)) C dL_hour_71 (by decide) ?_
      refine g_iald C hK q 2 (ga_q cy A _ hq) rfl hw.1 dL_hour_72 ?_
      replace hw := hw.2
      exact gq_I C F (by decide) (by decide) hw dL_hour_73
    · refine g_iconst (v := (-1 : Int32)) C dL_hour_66 (by decide) ?_
      refine g_goto C 73 (by decide) dL_hour_67 ?_
      exact gq_I C F (by decide) (by decide) hw dL_hour_73
  unfold wL_hour at hw
  refine g_aload_n C 0 rfl rfl dL_hour_0 ?_
  refine g_iconst (v := (0 : Int32)) C dL_hour_1 (by decide) ?_
  refine g_dup2 C rfl rfl dL_hour_2 ?_
  refine g_iald C hK q 2 (ga_q cy A _ hq) rfl hw.1 dL_hour_3 ?_
  replace hw := hw.2
  refine g_iload_n C 1 rfl rfl dL_hour_4 ?_
  refine g_isub C dL_hour_5 ?_
  refine g_iast C hK q 2 (ga_q cy A _ hq) rfl hw.1 (gs_q cy A _ _ _ hq) dL_hour_6 ?_
  replace hw := hw.2
  refine g_aload_n C 0 rfl rfl dL_hour_7 ?_
  refine g_iconst (v := (5 : Int32)) C dL_hour_8 (by decide) ?_
  refine g_dup2 C rfl rfl dL_hour_9 ?_
  refine g_iald C hK q 2 (ga_q cy A _ hq) rfl hw.1 dL_hour_10 ?_
  replace hw := hw.2
  refine g_iconst (v := (1 : Int32)) C dL_hour_11 (by decide) ?_
  refine g_iadd C dL_hour_12 ?_
  refine g_iast C hK q 2 (ga_q cy A _ hq) rfl hw.1 (gs_q cy A _ _ _ hq) dL_hour_13 ?_
  replace hw := hw.2
  refine g_aload_n C 0 rfl rfl dL_hour_14 ?_
  refine g_iconst (v := (4 : Int32)) C dL_hour_15 (by decide) ?_
  refine g_aload_n C 0 rfl rfl dL_hour_16 ?_
  refine g_iconst (v := (4 : Int32)) C dL_hour_17 (by decide) ?_
  refine g_iald C hK q 2 (ga_q cy A _ hq) rfl hw.1 dL_hour_18 ?_
  replace hw := hw.2
  refine g_aload_n C 0 rfl rfl dL_hour_19 ?_
  refine g_aload_n C 0 rfl rfl dL_hour_20 ?_
  refine g_iconst (v := (0 : Int32)) C dL_hour_21 (by decide) ?_
  refine g_iald C hK q 2 (ga_q cy A _ hq) rfl hw.1 dL_hour_22 ?_
  replace hw := hw.2
  refine gc_I C (gr_S (As := [.ref (A q), .int ((sV (sV σ q (0 : Int32).toNatClampNeg ((σ.1 q (0 : Int32).toNatClampNeg) - v1)) q (5 : Int32).toNatClampNeg (((sV σ q (0 : Int32).toNatClampNeg ((σ.1 q (0 : Int32).toNatClampNeg) - v1)).1 q (5 : Int32).toNatClampNeg) + (1 : Int32))).1 q (0 : Int32).toNatClampNeg)]) (rest := [.int ((sV (sV σ q (0 : Int32).toNatClampNeg ((σ.1 q (0 : Int32).toNatClampNeg) - v1)) q (5 : Int32).toNatClampNeg (((sV σ q (0 : Int32).toNatClampNeg ((σ.1 q (0 : Int32).toNatClampNeg) - v1)).1 q (5 : Int32).toNatClampNeg) + (1 : Int32))).1 q (4 : Int32).toNatClampNeg), .int (4 : Int32), .ref (A q)]) C hK 2 (gd_S wt_420 wt_421 wt_0 wt_422) rfl rfl rfl hs_L_turns ⟨⟨Nat.le_of_ble_eq_true rfl, Nat.le_of_ble_eq_true rfl⟩, Nat.le_of_ble_eq_true rfl, Nat.le_of_ble_eq_true rfl⟩ rfl rfl (Nat.le_of_ble_eq_true rfl) dL_hour_23 (c_L_turns (q_l κ) (q_D κ) cy A hq hw)) (fun r2 σ1 hw => ?_)
  refine g_bipush (v := (10 : Int32)) C dL_hour_26 (by decide) ?_
  refine g_imul C dL_hour_28 ?_
  refine g_iadd C dL_hour_29 ?_
  refine g_sipush (v := (360 : Int32)) C dL_hour_30 (by decide) ?_
  refine g_irem C hw.1 dL_hour_33 ?_
  replace hw := hw.2
  refine g_iast C hK q 2 (ga_q cy A _ hq) rfl hw.1 (gs_q cy A _ _ _ hq) dL_hour_34 ?_
  replace hw := hw.2
  refine g_aload_n C 0 rfl rfl dL_hour_35 ?_
  refine g_bipush (v := (6 : Int32)) C dL_hour_36 (by decide) ?_
  refine g_aload_n C 0 rfl rfl dL_hour_38 ?_
  refine g_aload_n C 0 rfl rfl dL_hour_39 ?_
  refine g_iconst (v := (0 : Int32)) C dL_hour_40 (by decide) ?_
  refine g_iald C hK q 2 (ga_q cy A _ hq) rfl hw.1 dL_hour_41 ?_
  replace hw := hw.2
  refine g_iconst (v := (0 : Int32)) C dL_hour_42 (by decide) ?_
  refine gc_I C (gr_S (As := [.ref (A q), .int ((sV σ1 q (4 : Int32).toNatClampNeg ((((sV (sV σ q (0 : Int32).toNatClampNeg ((σ.1 q (0 : Int32).toNatClampNeg) - v1)) q (5 : Int32).toNatClampNeg (((sV σ q (0 : Int32).toNatClampNeg ((σ.1 q (0 : Int32).toNatClampNeg) - v1)).1 q (5 : Int32).toNatClampNeg) + (1 : Int32))).1 q (4 : Int32).toNatClampNeg) + (r2 * (10 : Int32))) - (((sV (sV σ q (0 : Int32).toNatClampNeg ((σ.1 q (0 : Int32).toNatClampNeg) - v1)) q (5 : Int32).toNatClampNeg (((sV σ q (0 : Int32).toNatClampNeg ((σ.1 q (0 : Int32).toNatClampNeg) - v1)).1 q (5 : Int32).toNatClampNeg) + (1 : Int32))).1 q (4 : Int32).toNatClampNeg) + (r2 * (10 : Int32))) / (360 : Int32) * (360 : Int32))).1 q (0 : Int32).toNatClampNeg), .int (0 : Int32)]) (rest := [.int (6 : Int32), .ref (A q)]) C hK 3 (gd_S wt_426 wt_427 wt_0 wt_428) rfl rfl rfl hs_L_strain ⟨⟨Nat.le_of_ble_eq_true rfl, Nat.le_of_ble_eq_true rfl⟩, Nat.le_of_ble_eq_true rfl, Nat.le_of_ble_eq_true rfl⟩ rfl rfl (Nat.le_of_ble_eq_true rfl) dL_hour_43 (c_L_strain (q_l κ) (q_D κ) cy A hq hw)) (fun r4 σ3 hw => ?_)
  refine g_aload_n C 0 rfl rfl dL_hour_46 ?_
  refine g_iconst (v := (2 : Int32)) C dL_hour_47 (by decide) ?_
  refine g_iald C hK q 2 (ga_q cy A _ hq) rfl hw.1 dL_hour_48 ?_
  replace hw := hw.2
  refine g_icmp_le C 56 (by decide) hw dL_hour_49 (fun hw => ?_) (fun hw => ?_)
  · refine g_iconst (v := (0 : Int32)) C dL_hour_56 (by decide) ?_
    refine g_eql (lv' := [(0, .ref (A q))]) [0] rfl ?_
    exact J57 σ3 (0 : Int32) (6 : Int32) hw
  · refine g_iconst (v := (1 : Int32)) C dL_hour_52 (by decide) ?_
    refine g_goto C 57 (by decide) dL_hour_53 ?_
    refine g_eql (lv' := [(0, .ref (A q))]) [0] rfl ?_
    exact J57 σ3 (1 : Int32) (6 : Int32) hw
set_option maxHeartbeats 4000000 in
set_option maxRecDepth 100000 in
theorem c_L_told (l : Launch) (D : va_G) (cy : Nat → ClassId) (A : Nat → Nat) {σ : St} {q : Nat} (hq : isQ q) {Φ : Int32 → St → Prop} (hw : wL_told σ q Φ) : CtI l yL_told (.code yL_told cL_told 5 (some .boolean) :: gL) rm_L_told 0 0 [.ref (A 0), .ref (A q)] D cy A σ Φ := by
  refine ct_any (fun sz => va_Qi Φ (HE D cy A (gZ cy A σ sz)) (gZ cy A σ sz)) (by decide +kernel) rfl rfl [(0, .ref (A 0)), (1, .ref (A q))] rfl (Nat.le_of_ble_eq_true rfl) ?_
  intro κ hκl hnm C hK sz F
  subst hκl
  have J381 : ∀ (K281 : St → Int32 → Int32 → Int32 → Prop) (_ : ∀ (σ : St) (v2 : Int32) (v3 : Int32) (v4 : Int32), K281 σ v2 v3 v4 → GW κ 0 0 (gW cy A σ) 281 [(0, .ref (A 0)), (1, .ref (A q)), (2, .int v2), (3, .int v3), (4, .int v4)] []), ∀ (σ : St) (v3 : Int32) (v4 : Int32) (s0 : Int32), wL_told_381 q K281 Φ σ v3 v4 s0 → GW κ 0 0 (gW cy A σ) 381 [(0, .ref (A 0)), (1, .ref (A q)), (3, .int v3), (4, .int v4)] [.int s0] := by
    intro K281 hK281 σ v3 v4 s0 hw
    unfold wL_told_381 at hw
    refine g_istore_n C [(2, .int s0), (0, .ref (A 0)), (1, .ref (A q)), (3, .int v3), (4, .int v4)] F.2.2.2.1 rfl (by decide) rfl dL_told_381 ?_
    refine g_iinc (j := 4) C [(4, .int (v4 + 1)), (2, .int s0), (0, .ref (A 0)), (1, .ref (A q)), (3, .int v3)] F.2.2.2.1 rfl rfl (by decide) rfl dL_told_382 ?_
    refine g_goto C 281 (by decide) dL_told_385 ?_
    refine g_eql (lv' := [(0, .ref (A 0)), (1, .ref (A q)), (2, .int s0), (3, .int v3), (4, .int (v4 + 1))]) [2, 3, 1, 4, 0] rfl ?_
    exact hK281 σ s0 v3 (v4 + 1) hw
  have J380 : ∀ (K281 : St → Int32 → Int32 → Int32 → Prop) (_ : ∀ (σ : St) (v2 : Int32) (v3 : Int32) (v4 : Int32), K281 σ v2 v3 v4 → GW κ 0 0 (gW cy A σ) 281 [(0, .ref (A 0)), (1, .ref (A q)), (2, .int v2), (3, .int v3), (4, .int v4)] []), ∀ (σ : St) (v3 : Int32) (v4 : Int32), wL_told_380 q K281 Φ σ v3 v4 → GW κ 0 0 (gW cy A σ) 380 [(0, .ref (A 0)), (1, .ref (A q)), (3, .int v3), (4, .int v4)] [] := by
    intro K281 hK281 σ v3 v4 hw
    unfold wL_told_380 at hw
    refine g_iconst (v := (0 : Int32)) C dL_told_380 (by decide) ?_
    exact J381 _ hK281 σ v3 v4 (0 : Int32) hw
  have J373 : ∀ (K281 : St → Int32 → Int32 → Int32 → Prop) (_ : ∀ (σ : St) (v2 : Int32) (v3 : Int32) (v4 : Int32), K281 σ v2 v3 v4 → GW κ 0 0 (gW cy A σ) 281 [(0, .ref (A 0)), (1, .ref (A q)), (2, .int v2), (3, .int v3), (4, .int v4)] []), ∀ (σ : St) (v3 : Int32) (v4 : Int32) (s0 : Int32) (s1 : Int32), wL_told_373 q K281 Φ σ v3 v4 s0 s1 → GW κ 0 0 (gW cy A σ) 373 [(0, .ref (A 0)), (1, .ref (A q)), (3, .int v3), (4, .int v4)] [.int s0, .int s1] := by
    intro K281 hK281 σ v3 v4 s0 s1 hw
    unfold wL_told_373 at hw
    refine g_icmp_ne C 380 (by decide) hw dL_told_373 (fun hw => ?_) (fun hw => ?_)
    · exact J380 _ hK281 σ v3 v4 hw
    · refine g_iconst (v := (1 : Int32)) C dL_told_376 (by decide) ?_
      refine g_goto C 381 (by decide) dL_told_377 ?_
      exact J381 _ hK281 σ v3 v4 (1 : Int32) hw
  have J281 : ∀ (n : Nat) (σ : St) (v2 : Int32) (v3 : Int32) (v4 : Int32), wL_told_281 q Φ n σ v2 v3 v4 → GW κ 0 0 (gW cy A σ) 281 [(0, .ref (A 0)), (1, .ref (A q)), (2, .int v2), (3, .int v3), (4, .int v4)] [] := by
    intro n
    induction n with
    | zero => intro σ v2 v3 v4 hw; exact hw.elim
    | succ n ih =>
      intro σ v2 v3 v4 hw
      rw [wL_told_281] at hw
      refine g_iload C 4 rfl dL_told_281 ?_
      refine g_iconst (v := (2 : Int32)) C dL_told_283 (by decide) ?_
      refine g_icmp_ge C 388 (by decide) hw dL_told_284 (fun hw => ?_) (fun hw => ?_)
      · refine g_iload_n C 2 rfl rfl dL_told_388 ?_
        exact gq_Z C F (by decide) (by decide) hw dL_told_389
      · refine g_iload_n C 2 rfl rfl dL_told_287 ?_
        refine g_if_eq C 380 (by decide) hw dL_told_288 (fun hw => ?_) (fun hw => ?_)
        · refine g_eql (lv' := [(0, .ref (A 0)), (1, .ref (A q)), (3, .int v3), (4, .int v4)]) [0, 1, 3, 4] rfl ?_
          exact J380 _ ih σ v3 v4 hw
        · refine g_aload_n C 0 rfl rfl dL_told_291 ?_
          refine g_iload C 4 rfl dL_told_292 ?_
          refine g_iconst (v := (0 : Int32)) C dL_told_294 (by decide) ?_
          refine gc_I C (gr_V (As := [.int v4, .int (0 : Int32)]) (rest := []) C hK 2 (gd_V wt_95 wt_96 wt_97 wt_1 wt_98) rfl rfl rfl ⟨rfl, hs_X11_cabin⟩ ⟨⟨Nat.le_of_ble_eq_true rfl, Nat.le_of_ble_eq_true rfl⟩, Nat.le_of_ble_eq_true rfl, Nat.le_of_ble_eq_true rfl⟩ rfl 0 (ga_0 cy A _) rfl rfl (Nat.le_of_ble_eq_true rfl) dL_told_295 (c_X11_cabin (q_l κ) (q_D κ) cy A hw)) (fun r38 σ37 hw => ?_)
          refine g_aload_n C 1 rfl rfl dL_told_298 ?_
          refine g_iload C 4 rfl dL_told_299 ?_
          refine g_iconst (v := (0 : Int32)) C dL_told_301 (by decide) ?_
          refine g_iconst (v := (0 : Int32)) C dL_told_302 (by decide) ?_
          refine gc_I C (gr_S (As := [.ref (A q), .int v4, .int (0 : Int32), .int (0 : Int32)]) (rest := [.int r38]) C hK 4 (gd_S wt_435 wt_436 wt_0 wt_437) rfl rfl rfl hs_L_cabin ⟨⟨Nat.le_of_ble_eq_true rfl, Nat.le_of_ble_eq_true rfl⟩, Nat.le_of_ble_eq_true rfl, Nat.le_of_ble_eq_true rfl⟩ rfl rfl (Nat.le_of_ble_eq_true rfl) dL_told_303 (c_L_cabin (q_l κ) (q_D κ) cy A hq hw)) (fun r40 σ39 hw => ?_)
          refine g_icmp_ne C 380 (by decide) hw dL_told_306 (fun hw => ?_) (fun hw => ?_)
          · refine g_eql (lv' := [(0, .ref (A 0)), (1, .ref (A q)), (3, .int v3), (4, .int v4)]) [0, 1, 3, 4] rfl ?_
            exact J380 _ ih σ39 v3 v4 hw
          · refine g_aload_n C 0 rfl rfl dL_told_309 ?_
            refine g_iload C 4 rfl dL_told_310 ?_
            refine g_iconst (v := (1 : Int32)) C dL_told_312 (by decide) ?_
            refine gc_I C (gr_V (As := [.int v4, .int (1 : Int32)]) (rest := []) C hK 2 (gd_V wt_95 wt_96 wt_97 wt_1 wt_98) rfl rfl rfl ⟨rfl, hs_X11_cabin⟩ ⟨⟨Nat.le_of_ble_eq_true rfl, Nat.le_of_ble_eq_true rfl⟩, Nat.le_of_ble_eq_true rfl, Nat.le_of_ble_eq_true rfl⟩ rfl 0 (ga_0 cy A _) rfl rfl (Nat.le_of_ble_eq_true rfl) dL_told_313 (c_X11_cabin (q_l κ) (q_D κ) cy A hw)) (fun r42 σ41 hw => ?_)
            refine g_aload_n C 1 rfl rfl dL_told_316 ?_
            refine g_iload C 4 rfl dL_told_317 ?_
            refine g_iconst (v := (0 : Int32)) C dL_told_319 (by decide) ?_
            refine g_aload_n C 1 rfl rfl dL_told_320 ?_
            refine g_iconst (v := (0 : Int32)) C dL_told_321 (by decide) ?_
            refine g_iald C hK q 2 (ga_q cy A _ hq) rfl hw.1 dL_told_322 ?_
            replace hw := hw.2
            refine g_iconst (v := (0 : Int32)) C dL_told_323 (by decide) ?_
            refine gc_I C (gr_S (As := [.ref (A q), .int v4, .int (0 : Int32), .int (σ41.1 q (0 : Int32).toNatClampNeg), .int (0 : Int32)]) (rest := [.int r42]) C hK 5 (gd_S wt_432 wt_433 wt_0 wt_434) rfl rfl rfl hs_L_arm ⟨⟨Nat.le_of_ble_eq_true rfl, Nat.le_of_ble_eq_true rfl⟩, Nat.le_of_ble_eq_true rfl, Nat.le_of_ble_eq_true rfl⟩ rfl rfl (Nat.le_of_ble_eq_true rfl) dL_told_324 (c_L_arm (q_l κ) (q_D κ) cy A hq hw)) (fun r44 σ43 hw => ?_)
            refine g_icmp_ne C 380 (by decide) hw dL_told_327 (fun hw => ?_) (fun hw => ?_)
            · refine g_eql (lv' := [(0, .ref (A 0)), (1, .ref (A q)), (3, .int v3), (4, .int v4)]) [0, 1, 3, 4] rfl ?_
              exact J380 _ ih σ43 v3 v4 hw
            · refine g_aload_n C 0 rfl rfl dL_told_330 ?_
              refine g_iload C 4 rfl dL_told_331 ?_
              refine g_iconst (v := (2 : Int32)) C dL_told_333 (by decide) ?_
              refine gc_I C (gr_V (As := [.int v4, .int (2 : Int32)]) (rest := []) C hK 2 (gd_V wt_95 wt_96 wt_97 wt_1 wt_98) rfl rfl rfl ⟨rfl, hs_X11_cabin⟩ ⟨⟨Nat.le_of_ble_eq_true rfl, Nat.le_of_ble_eq_true rfl⟩, Nat.le_of_ble_eq_true rfl, Nat.le_of_ble_eq_true rfl⟩ rfl 0 (ga_0 cy A _) rfl rfl (Nat.le_of_ble_eq_true rfl) dL_told_334 (c_X11_cabin (q_l κ) (q_D κ) cy A hw)) (fun r46 σ45 hw => ?_)
              refine g_aload_n C 1 rfl rfl dL_told_337 ?_
              refine g_iload C 4 rfl dL_told_338 ?_
              refine g_iconst (v := (0 : Int32)) C dL_told_340 (by decide) ?_
              refine g_aload_n C 1 rfl rfl dL_told_341 ?_
              refine g_iconst (v := (0 : Int32)) C dL_told_342 (by decide) ?_
              refine g_iald C hK q 2 (ga_q cy A _ hq) rfl hw.1 dL_told_343 ?_
              replace hw := hw.2
              refine g_iconst (v := (0 : Int32)) C dL_told_344 (by decide) ?_
              refine gc_I C (gr_S (As := [.ref (A q), .int v4, .int (0 : Int32), .int (σ45.1 q (0 : Int32).toNatClampNeg), .int (0 : Int32)]) (rest := [.int r46]) C hK 5 (gd_S wt_429 wt_430 wt_0 wt_431) rfl rfl rfl hs_L_floor ⟨⟨Nat.le_of_ble_eq_true rfl, Nat.le_of_ble_eq_true rfl⟩, Nat.le_of_ble_eq_true rfl, Nat.le_of_ble_eq_true rfl⟩ rfl rfl (Nat.le_of_ble_eq_true rfl) dL_told_345 (c_L_floor (q_l κ) (q_D κ) cy A hq hw)) (fun r48 σ47 hw => ?_)
              refine g_icmp_ne C 380 (by decide) hw dL_told_348 (fun hw => ?_) (fun hw => ?_)
              · refine g_eql (lv' := [(0, .ref (A 0)), (1, .ref (A q)), (3, .int v3), (4, .int v4)]) [0, 1, 3, 4] rfl ?_
                exact J380 _ ih σ47 v3 v4 hw
              · refine g_aload_n C 0 rfl rfl dL_told_351 ?_
                refine g_iload C 4 rfl dL_told_352 ?_
                refine g_iconst (v := (3 : Int32)) C dL_told_354 (by decide) ?_
                refine gc_I C (gr_V (As := [.int v4, .int (3 : Int32)]) (rest := []) C hK 2 (gd_V wt_95 wt_96 wt_97 wt_1 wt_98) rfl rfl rfl ⟨rfl, hs_X11_cabin⟩ ⟨⟨Nat.le_of_ble_eq_true rfl, Nat.le_of_ble_eq_true rfl⟩, Nat.le_of_ble_eq_true rfl, Nat.le_of_ble_eq_true rfl⟩ rfl 0 (ga_0 cy A _) rfl rfl (Nat.le_of_ble_eq_true rfl) dL_told_355 (c_X11_cabin (q_l κ) (q_D κ) cy A hw)) (fun r50 σ49 hw => ?_)
                refine g_iload C 4 rfl dL_told_358 ?_
                refine g_if_ne C 367 (by decide) hw dL_told_360 (fun hw => ?_) (fun hw => ?_)
                · refine g_aload_n C 1 rfl rfl dL_told_367 ?_
                  refine g_bipush (v := (7 : Int32)) C dL_told_368 (by decide) ?_
                  refine g_iald C hK q 2 (ga_q cy A _ hq) rfl hw.1 dL_told_370 ?_
                  replace hw := hw.2
                  refine g_iload_n C 3 rfl rfl dL_told_371 ?_
                  refine g_isub C dL_told_372 ?_
                  refine g_eql (lv' := [(0, .ref (A 0)), (1, .ref (A q)), (3, .int v3), (4, .int v4)]) [0, 1, 3, 4] rfl ?_
                  exact J373 _ ih σ49 v3 v4 ((σ49.1 q (7 : Int32).toNatClampNeg) - v3) r50 hw
                · refine g_iload_n C 3 rfl rfl dL_told_363 ?_
                  refine g_goto C 373 (by decide) dL_told_364 ?_
                  refine g_eql (lv' := [(0, .ref (A 0)), (1, .ref (A q)), (3, .int v3), (4, .int v4)]) [0, 1, 3, 4] rfl ?_
                  exact J373 _ ih σ49 v3 v4 v3 r50 hw
  have J271 : ∀ (K136 : St → Int32 → Int32 → Int32 → Prop) (_ : ∀ (σ : St) (v2 : Int32) (v3 : Int32) (v4 : Int32), K136 σ v2 v3 v4 → GW κ 0 0 (gW cy A σ) 136 [(0, .ref (A 0)), (1, .ref (A q)), (2, .int v2), (3, .int v3), (4, .int v4)] []), ∀ (σ : St) (v3 : Int32) (v4 : Int32) (s0 : Int32), wL_told_271 q K136 Φ σ v3 v4 s0 → GW κ 0 0 (gW cy A σ) 271 [(0, .ref (A 0)), (1, .ref (A q)), (3, .int v3), (4, .int v4)] [.int s0] := by
    intro K136 hK136 σ v3 v4 s0 hw
    unfold wL_told_271 at hw
    refine g_istore_n C [(2, .int s0), (0, .ref (A 0)), (1, .ref (A q)), (3, .int v3), (4, .int v4)] F.2.2.2.1 rfl (by decide) rfl dL_told_271 ?_
    refine g_iinc (j := 4) C [(4, .int (v4 + 1)), (2, .int s0), (0, .ref (A 0)), (1, .ref (A q)), (3, .int v3)] F.2.2.2.1 rfl rfl (by decide) rfl dL_told_272 ?_
    refine g_goto C 136 (by decide) dL_told_275 ?_
    refine g_eql (lv' := [(0, .ref (A 0)), (1, .ref (A q)), (2, .int s0), (3, .int v3), (4, .int (v4 + 1))]) [2, 3, 1, 4, 0] rfl ?_
    exact hK136 σ s0 v3 (v4 + 1) hw
  have J270 : ∀ (K136 : St → Int32 → Int32 → Int32 → Prop) (_ : ∀ (σ : St) (v2 : Int32) (v3 : Int32) (v4 : Int32), K136 σ v2 v3 v4 → GW κ 0 0 (gW cy A σ) 136 [(0, .ref (A 0)), (1, .ref (A q)), (2, .int v2), (3, .int v3), (4, .int v4)] []), ∀ (σ : St) (v3 : Int32) (v4 : Int32), wL_told_270 q K136 Φ σ v3 v4 → GW κ 0 0 (gW cy A σ) 270 [(0, .ref (A 0)), (1, .ref (A q)), (3, .int v3), (4, .int v4)] [] := by
    intro K136 hK136 σ v3 v4 hw
    unfold wL_told_270 at hw
    refine g_iconst (v := (0 : Int32)) C dL_told_270 (by decide) ?_
    exact J271 _ hK136 σ v3 v4 (0 : Int32) hw
  have J163 : ∀ (K136 : St → Int32 → Int32 → Int32 → Prop) (_ : ∀ (σ : St) (v2 : Int32) (v3 : Int32) (v4 : Int32), K136 σ v2 v3 v4 → GW κ 0 0 (gW cy A σ) 136 [(0, .ref (A 0)), (1, .ref (A q)), (2, .int v2), (3, .int v3), (4, .int v4)] []), ∀ (σ : St) (v2 : Int32) (v4 : Int32) (s0 : Int32) (s1 : Int32), wL_told_163 q K136 Φ σ v2 v4 s0 s1 → GW κ 0 0 (gW cy A σ) 163 [(0, .ref (A 0)), (1, .ref (A q)), (2, .int v2), (4, .int v4)] [.int s0, .int s1] := by
    intro K136 hK136 σ v2 v4 s0 s1 hw
    unfold wL_told_163 at hw
    refine g_iadd C dL_told_163 ?_
    refine g_istore_n C [(3, .int (s1 + s0)), (0, .ref (A 0)), (1, .ref (A q)), (2, .int v2), (4, .int v4)] F.2.2.2.1 rfl (by decide) rfl dL_told_164 ?_
    refine g_iload_n C 3 rfl rfl dL_told_165 ?_
    refine g_if_eq C 270 (by decide) hw dL_told_166 (fun hw => ?_) (fun hw => ?_)
    · refine g_eql (lv' := [(0, .ref (A 0)), (1, .ref (A q)), (3, .int (s1 + s0)), (4, .int v4)]) [1, 2, 0, 4] rfl ?_
      exact J270 _ hK136 σ (s1 + s0) v4 hw
    · refine g_aload_n C 1 rfl rfl dL_told_169 ?_
      refine g_iload C 4 rfl dL_told_170 ?_
      refine g_iconst (v := (0 : Int32)) C dL_told_172 (by decide) ?_
      refine gc_I C (gr_V (As := [.int v4, .int (0 : Int32)]) (rest := []) C hK 2 (gd_V wt_154 wt_155 wt_156 wt_1 wt_157) rfl rfl rfl ⟨rfl, hs_X11_about⟩ ⟨⟨Nat.le_of_ble_eq_true rfl, Nat.le_of_ble_eq_true rfl⟩, Nat.le_of_ble_eq_true rfl, Nat.le_of_ble_eq_true rfl⟩ rfl 0 (ga_0 cy A _) rfl rfl (Nat.le_of_ble_eq_true rfl) dL_told_173 (c_X11_about (q_l κ) (q_D κ) cy A hw)) (fun r26 σ25 hw => ?_)
      refine g_aload_n C 2 rfl rfl dL_told_176 ?_
      refine g_bipush (v := (8 : Int32)) C dL_told_177 (by decide) ?_
      refine g_iconst (v := (4 : Int32)) C dL_told_179 (by decide) ?_
      refine g_iload C 4 rfl dL_told_180 ?_
      refine g_imul C dL_told_182 ?_
      refine g_iadd C dL_told_183 ?_
      refine g_iald C hK q 2 (ga_q cy A _ hq) rfl hw.1 dL_told_184 ?_
      replace hw := hw.2
      refine g_icmp_ne C 270 (by decide) hw dL_told_185 (fun hw => ?_) (fun hw => ?_)
      · refine g_eql (lv' := [(0, .ref (A 0)), (1, .ref (A q)), (3, .int (s1 + s0)), (4, .int v4)]) [1, 2, 0, 4] rfl ?_
        exact J270 _ hK136 σ25 (s1 + s0) v4 hw
      · refine g_aload_n C 1 rfl rfl dL_told_188 ?_
        refine g_iload C 4 rfl dL_told_189 ?_
        refine g_iconst (v := (1 : Int32)) C dL_told_191 (by decide) ?_
        refine gc_I C (gr_V (As := [.int v4, .int (1 : Int32)]) (rest := []) C hK 2 (gd_V wt_154 wt_155 wt_156 wt_1 wt_157) rfl rfl rfl ⟨rfl, hs_X11_about⟩ ⟨⟨Nat.le_of_ble_eq_true rfl, Nat.le_of_ble_eq_true rfl⟩, Nat.le_of_ble_eq_true rfl, Nat.le_of_ble_eq_true rfl⟩ rfl 0 (ga_0 cy A _) rfl rfl (Nat.le_of_ble_eq_true rfl) dL_told_192 (c_X11_about (q_l κ) (q_D κ) cy A hw)) (fun r28 σ27 hw => ?_)
        refine g_aload_n C 2 rfl rfl dL_told_195 ?_
        refine g_bipush (v := (9 : Int32)) C dL_told_196 (by decide) ?_
        refine g_iconst (v := (4 : Int32)) C dL_told_198 (by decide) ?_
        refine g_iload C 4 rfl dL_told_199 ?_
        refine g_imul C dL_told_201 ?_
        refine g_iadd C dL_told_202 ?_
        refine g_iald C hK q 2 (ga_q cy A _ hq) rfl hw.1 dL_told_203 ?_
        replace hw := hw.2
        refine g_icmp_ne C 270 (by decide) hw dL_told_204 (fun hw => ?_) (fun hw => ?_)
        · refine g_eql (lv' := [(0, .ref (A 0)), (1, .ref (A q)), (3, .int (s1 + s0)), (4, .int v4)]) [1, 2, 0, 4] rfl ?_
          exact J270 _ hK136 σ27 (s1 + s0) v4 hw
        · refine g_aload_n C 1 rfl rfl dL_told_207 ?_
          refine g_iload C 4 rfl dL_told_208 ?_
          refine g_iconst (v := (2 : Int32)) C dL_told_210 (by decide) ?_
          refine gc_I C (gr_V (As := [.int v4, .int (2 : Int32)]) (rest := []) C hK 2 (gd_V wt_154 wt_155 wt_156 wt_1 wt_157) rfl rfl rfl ⟨rfl, hs_X11_about⟩ ⟨⟨Nat.le_of_ble_eq_true rfl, Nat.le_of_ble_eq_true rfl⟩, Nat.le_of_ble_eq_true rfl, Nat.le_of_ble_eq_true rfl⟩ rfl 0 (ga_0 cy A _) rfl rfl (Nat.le_of_ble_eq_true rfl) dL_told_211 (c_X11_about (q_l κ) (q_D κ) cy A hw)) (fun r30 σ29 hw => ?_)
          refine g_aload_n C 2 rfl rfl dL_told_214 ?_
          refine g_bipush (v := (10 : Int32)) C dL_told_215 (by decide) ?_
          refine g_iconst (v := (4 : Int32)) C dL_told_217 (by decide) ?_
          refine g_iload C 4 rfl dL_told_218 ?_
          refine g_imul C dL_told_220 ?_
          refine g_iadd C dL_told_221 ?_
          refine g_iald C hK q 2 (ga_q cy A _ hq) rfl hw.1 dL_told_222 ?_
          replace hw := hw.2
          refine g_icmp_ne C 270 (by decide) hw dL_told_223 (fun hw => ?_) (fun hw => ?_)
          · refine g_eql (lv' := [(0, .ref (A 0)), (1, .ref (A q)), (3, .int (s1 + s0)), (4, .int v4)]) [1, 2, 0, 4] rfl ?_
            exact J270 _ hK136 σ29 (s1 + s0) v4 hw
          · refine g_aload_n C 1 rfl rfl dL_told_226 ?_
            refine g_iload C 4 rfl dL_told_227 ?_
            refine g_iconst (v := (3 : Int32)) C dL_told_229 (by decide) ?_
            refine gc_I C (gr_V (As := [.int v4, .int (3 : Int32)]) (rest := []) C hK 2 (gd_V wt_154 wt_155 wt_156 wt_1 wt_157) rfl rfl rfl ⟨rfl, hs_X11_about⟩ ⟨⟨Nat.le_of_ble_eq_true rfl, Nat.le_of_ble_eq_true rfl⟩, Nat.le_of_ble_eq_true rfl, Nat.le_of_ble_eq_true rfl⟩ rfl 0 (ga_0 cy A _) rfl rfl (Nat.le_of_ble_eq_true rfl) dL_told_230 (c_X11_about (q_l κ) (q_D κ) cy A hw)) (fun r32 σ31 hw => ?_)
            refine g_aload_n C 2 rfl rfl dL_told_233 ?_
            refine g_iload C 4 rfl dL_told_234 ?_
            refine g_iconst (v := (0 : Int32)) C dL_told_236 (by decide) ?_
            refine gc_I C (gr_S (As := [.ref (A q), .int v4, .int (0 : Int32)]) (rest := [.int r32]) C hK 3 (gd_S wt_438 wt_439 wt_0 wt_440) rfl rfl rfl hs_L_weighs ⟨⟨Nat.le_of_ble_eq_true rfl, Nat.le_of_ble_eq_true rfl⟩, Nat.le_of_ble_eq_true rfl, Nat.le_of_ble_eq_true rfl⟩ rfl rfl (Nat.le_of_ble_eq_true rfl) dL_told_237 (c_L_weighs (q_l κ) (q_D κ) cy A hq hw)) (fun r34 σ33 hw => ?_)
            refine g_icmp_ne C 270 (by decide) hw dL_told_240 (fun hw => ?_) (fun hw => ?_)
            · refine g_eql (lv' := [(0, .ref (A 0)), (1, .ref (A q)), (3, .int (s1 + s0)), (4, .int v4)]) [1, 2, 0, 4] rfl ?_
              exact J270 _ hK136 σ33 (s1 + s0) v4 hw
            · refine g_aload_n C 1 rfl rfl dL_told_243 ?_
              refine g_iload C 4 rfl dL_told_244 ?_
              refine g_iconst (v := (4 : Int32)) C dL_told_246 (by decide) ?_
              refine gc_I C (gr_V (As := [.int v4, .int (4 : Int32)]) (rest := []) C hK 2 (gd_V wt_154 wt_155 wt_156 wt_1 wt_157) rfl rfl rfl ⟨rfl, hs_X11_about⟩ ⟨⟨Nat.le_of_ble_eq_true rfl, Nat.le_of_ble_eq_true rfl⟩, Nat.le_of_ble_eq_true rfl, Nat.le_of_ble_eq_true rfl⟩ rfl 0 (ga_0 cy A _) rfl rfl (Nat.le_of_ble_eq_true rfl) dL_told_247 (c_X11_about (q_l κ) (q_D κ) cy A hw)) (fun r36 σ35 hw => ?_)
              refine g_aload_n C 2 rfl rfl dL_told_250 ?_
              refine g_iconst (v := (5 : Int32)) C dL_told_251 (by decide) ?_
              refine g_iald C hK q 2 (ga_q cy A _ hq) rfl hw.1 dL_told_252 ?_
              replace hw := hw.2
              refine g_aload_n C 2 rfl rfl dL_told_253 ?_
              refine g_bipush (v := (11 : Int32)) C dL_told_254 (by decide) ?_
              refine g_iconst (v := (4 : Int32)) C dL_told_256 (by decide) ?_
              refine g_iload C 4 rfl dL_told_257 ?_
              refine g_imul C dL_told_259 ?_
              refine g_iadd C dL_told_260 ?_
              refine g_iald C hK q 2 (ga_q cy A _ hq) rfl hw.1 dL_told_261 ?_
              replace hw := hw.2
              refine g_isub C dL_told_262 ?_
              refine g_icmp_ne C 270 (by decide) hw dL_told_263 (fun hw => ?_) (fun hw => ?_)
              · refine g_eql (lv' := [(0, .ref (A 0)), (1, .ref (A q)), (3, .int (s1 + s0)), (4, .int v4)]) [1, 2, 0, 4] rfl ?_
                exact J270 _ hK136 σ35 (s1 + s0) v4 hw
              · refine g_iconst (v := (1 : Int32)) C dL_told_266 (by decide) ?_
                refine g_goto C 271 (by decide) dL_told_267 ?_
                refine g_eql (lv' := [(0, .ref (A 0)), (1, .ref (A q)), (3, .int (s1 + s0)), (4, .int v4)]) [1, 2, 0, 4] rfl ?_
                exact J271 _ hK136 σ35 (s1 + s0) v4 (1 : Int32) hw
  have J136 : ∀ (n : Nat) (σ : St) (v2 : Int32) (v3 : Int32) (v4 : Int32), wL_told_136 q Φ n σ v2 v3 v4 → GW κ 0 0 (gW cy A σ) 136 [(0, .ref (A 0)), (1, .ref (A q)), (2, .int v2), (3, .int v3), (4, .int v4)] [] := by
    intro n
    induction n with
    | zero => intro σ v2 v3 v4 hw; exact hw.elim
    | succ n ih =>
      intro σ v2 v3 v4 hw
      rw [wL_told_136] at hw
      refine g_iload C 4 rfl dL_told_136 ?_
      refine g_aload_n C 1 rfl rfl dL_told_138 ?_
      refine g_bipush (v := (7 : Int32)) C dL_told_139 (by decide) ?_
      refine g_iald C hK q 2 (ga_q cy A _ hq) rfl hw.1 dL_told_141 ?_
      replace hw := hw.2
      refine g_icmp_ge C 278 (by decide) hw dL_told_142 (fun hw => ?_) (fun hw => ?_)
      · refine g_iconst (v := (0 : Int32)) C dL_told_278 (by decide) ?_
        refine g_istore C [(4, .int (0 : Int32)), (0, .ref (A 0)), (1, .ref (A q)), (2, .int v2), (3, .int v3)] F.2.2.2.1 (by decide) rfl dL_told_279 ?_
        refine g_eql (lv' := [(0, .ref (A 0)), (1, .ref (A q)), (2, .int v2), (3, .int v3), (4, .int (0 : Int32))]) [1, 2, 3, 4, 0] rfl ?_
        obtain ⟨n0, hw⟩ := hw
        exact J281 n0 σ v2 v3 (0 : Int32) hw
      · refine g_iload_n C 3 rfl rfl dL_told_145 ?_
        refine g_aload_n C 1 rfl rfl dL_told_146 ?_
        refine g_bipush (v := (10 : Int32)) C dL_told_147 (by decide) ?_
        refine g_iconst (v := (4 : Int32)) C dL_told_149 (by decide) ?_
        refine g_iload C 4 rfl dL_told_150 ?_
        refine g_imul C dL_told_152 ?_
        refine g_iadd C dL_told_153 ?_
        refine g_iald C hK q 2 (ga_q cy A _ hq) rfl hw.1 dL_told_154 ?_
        replace hw := hw.2
        refine g_if_ne C 162 (by decide) hw dL_told_155 (fun hw => ?_) (fun hw => ?_)
        · refine g_iconst (v := (0 : Int32)) C dL_told_162 (by decide) ?_
          refine g_eql (lv' := [(0, .ref (A 0)), (1, .ref (A q)), (2, .int v2), (4, .int v4)]) [0, 1, 2, 4] rfl ?_
          exact J163 _ ih σ v2 v4 (0 : Int32) v3 hw
        · refine g_iconst (v := (1 : Int32)) C dL_told_158 (by decide) ?_
          refine g_goto C 163 (by decide) dL_told_159 ?_
          refine g_eql (lv' := [(0, .ref (A 0)), (1, .ref (A q)), (2, .int v2), (4, .int v4)]) [0, 1, 2, 4] rfl ?_
          exact J163 _ ih σ v2 v4 (1 : Int32) v3 hw
  have J130 : ∀ (σ : St) (s0 : Int32), wL_told_130 q Φ σ s0 → GW κ 0 0 (gW cy A σ) 130 [(0, .ref (A 0)), (1, .ref (A q))] [.int s0] := by
    intro σ s0 hw
    unfold wL_told_130 at hw
    refine g_istore_n C [(2, .int s0), (0, .ref (A 0)), (1, .ref (A q))] F.2.2.2.1 rfl (by decide) rfl dL_told_130 ?_
    refine g_iconst (v := (0 : Int32)) C dL_told_131 (by decide) ?_
    refine g_istore_n C [(3, .int (0 : Int32)), (2, .int s0), (0, .ref (A 0)), (1, .ref (A q))] F.2.2.2.1 rfl (by decide) rfl dL_told_132 ?_
    refine g_iconst (v := (0 : Int32)) C dL_told_133 (by decide) ?_
    refine g_istore C [(4, .int (0 : Int32)), (3, .int (0 : Int32)), (2, .int s0), (0, .ref (A 0)), (1, .ref (A q))] F.2.2.2.1 (by decide) rfl dL_told_134 ?_
    refine g_eql (lv' := [(0, .ref (A 0)), (1, .ref (A q)), (2, .int s0), (3, .int (0 : Int32)), (4, .int (0 : Int32))]) [3, 4, 2, 1, 0] rfl ?_
    obtain ⟨n0, hw⟩ := hw
    exact J136 n0 σ s0 (0 : Int32) (0 : Int32) hw
  have J129 : ∀ (σ : St), wL_told_129 q Φ σ → GW κ 0 0 (gW cy A σ) 129 [(0, .ref (A 0)), (1, .ref (A q))] [] := by
    intro σ hw
    unfold wL_told_129 at hw
    refine g_iconst (v := (0 : Int32)) C dL_told_129 (by decide) ?_
    exact J130 σ (0 : Int32) hw
  unfold wL_told at hw
  refine g_aload_n C 0 rfl rfl dL_told_0 ?_
  refine g_iconst (v := (0 : Int32)) C dL_told_1 (by decide) ?_
  refine gc_I C (gr_V (As := [.int (0 : Int32)]) (rest := []) C hK 1 (gd_V wt_444 wt_445 wt_446 wt_1 wt_447) rfl rfl rfl ⟨rfl, hs_X11_count⟩ ⟨⟨Nat.le_of_ble_eq_true rfl, Nat.le_of_ble_eq_true rfl⟩, Nat.le_of_ble_eq_true rfl, Nat.le_of_ble_eq_true rfl⟩ rfl 0 (ga_0 cy A _) rfl rfl (Nat.le_of_ble_eq_true rfl) dL_told_2 (c_X11_count (q_l κ) (q_D κ) cy A hw)) (fun r2 σ1 hw => ?_)
  refine g_aload_n C 1 rfl rfl dL_told_5 ?_
  refine g_iconst (v := (0 : Int32)) C dL_told_6 (by decide) ?_
  refine g_iald C hK q 2 (ga_q cy A _ hq) rfl hw.1 dL_told_7 ?_
  replace hw := hw.2
  refine g_icmp_ne C 129 (by decide) hw dL_told_8 (fun hw => ?_) (fun hw => ?_)
  · exact J129 σ1 hw
  · refine g_aload_n C 0 rfl rfl dL_told_11 ?_
    refine g_iconst (v := (1 : Int32)) C dL_told_12 (by decide) ?_
    refine gc_I C (gr_V (As := [.int (1 : Int32)]) (rest := []) C hK 1 (gd_V wt_444 wt_445 wt_446 wt_1 wt_447) rfl rfl rfl ⟨rfl, hs_X11_count⟩ ⟨⟨Nat.le_of_ble_eq_true rfl, Nat.le_of_ble_eq_true rfl⟩, Nat.le_of_ble_eq_true rfl, Nat.le_of_ble_eq_true rfl⟩ rfl 0 (ga_0 cy A _) rfl rfl (Nat.le_of_ble_eq_true rfl) dL_told_13 (c_X11_count (q_l κ) (q_D κ) cy A hw)) (fun r4 σ3 hw => ?_)
    refine g_aload_n C 1 rfl rfl dL_told_16 ?_
    refine g_aload_n C 1 rfl rfl dL_told_17 ?_
    refine g_iconst (v := (0 : Int32)) C dL_told_18 (by decide) ?_
    refine g_iald C hK q 2 (ga_q cy A _ hq) rfl hw.1 dL_told_19 ?_
    replace hw := hw.2
    refine gc_I C (gr_S (As := [.ref (A q), .int (σ3.1 q (0 : Int32).toNatClampNeg)]) (rest := [.int r4]) C hK 2 (gd_S wt_420 wt_421 wt_0 wt_422) rfl rfl rfl hs_L_turns ⟨⟨Nat.le_of_ble_eq_true rfl, Nat.le_of_ble_eq_true rfl⟩, Nat.le_of_ble_eq_true rfl, Nat.le_of_ble_eq_true rfl⟩ rfl rfl (Nat.le_of_ble_eq_true rfl) dL_told_20 (c_L_turns (q_l κ) (q_D κ) cy A hq hw)) (fun r6 σ5 hw => ?_)
    refine g_icmp_ne C 129 (by decide) hw dL_told_23 (fun hw => ?_) (fun hw => ?_)
    · exact J129 σ5 hw
    · refine g_aload_n C 0 rfl rfl dL_told_26 ?_
      refine g_iconst (v := (2 : Int32)) C dL_told_27 (by decide) ?_
      refine gc_I C (gr_V (As := [.int (2 : Int32)]) (rest := []) C hK 1 (gd_V wt_444 wt_445 wt_446 wt_1 wt_447) rfl rfl rfl ⟨rfl, hs_X11_count⟩ ⟨⟨Nat.le_of_ble_eq_true rfl, Nat.le_of_ble_eq_true rfl⟩, Nat.le_of_ble_eq_true rfl, Nat.le_of_ble_eq_true rfl⟩ rfl 0 (ga_0 cy A _) rfl rfl (Nat.le_of_ble_eq_true rfl) dL_told_28 (c_X11_count (q_l κ) (q_D κ) cy A hw)) (fun r8 σ7 hw => ?_)
      refine g_aload_n C 1 rfl rfl dL_told_31 ?_
      refine g_iconst (v := (1 : Int32)) C dL_told_32 (by decide) ?_
      refine g_iald C hK q 2 (ga_q cy A _ hq) rfl hw.1 dL_told_33 ?_
      replace hw := hw.2
      refine g_icmp_ne C 129 (by decide) hw dL_told_34 (fun hw => ?_) (fun hw => ?_)
      · exact J129 σ7 hw
      · refine g_aload_n C 0 rfl rfl dL_told_37 ?_
        refine g_iconst (v := (3 : Int32)) C dL_told_38 (by decide) ?_
        refine gc_I C (gr_V (As := [.int (3 : Int32)]) (rest := []) C hK 1 (gd_V wt_444 wt_445 wt_446 wt_1 wt_447) rfl rfl rfl ⟨rfl, hs_X11_count⟩ ⟨⟨Nat.le_of_ble_eq_true rfl, Nat.le_of_ble_eq_true rfl⟩, Nat.le_of_ble_eq_true rfl, Nat.le_of_ble_eq_true rfl⟩ rfl 0 (ga_0 cy A _) rfl rfl (Nat.le_of_ble_eq_true rfl) dL_told_39 (c_X11_count (q_l κ) (q_D κ) cy A hw)) (fun r10 σ9 hw => ?_)
        refine g_aload_n C 1 rfl rfl dL_told_42 ?_
        refine g_aload_n C 1 rfl rfl dL_told_43 ?_
        refine g_iconst (v := (0 : Int32)) C dL_told_44 (by decide) ?_
        refine g_iald C hK q 2 (ga_q cy A _ hq) rfl hw.1 dL_told_45 ?_
        replace hw := hw.2
        refine g_iconst (v := (0 : Int32)) C dL_told_46 (by decide) ?_
        refine gc_I C (gr_S (As := [.ref (A q), .int (σ9.1 q (0 : Int32).toNatClampNeg), .int (0 : Int32)]) (rest := [.int r10]) C hK 3 (gd_S wt_426 wt_427 wt_0 wt_428) rfl rfl rfl hs_L_strain ⟨⟨Nat.le_of_ble_eq_true rfl, Nat.le_of_ble_eq_true rfl⟩, Nat.le_of_ble_eq_true rfl, Nat.le_of_ble_eq_true rfl⟩ rfl rfl (Nat.le_of_ble_eq_true rfl) dL_told_47 (c_L_strain (q_l κ) (q_D κ) cy A hq hw)) (fun r12 σ11 hw => ?_)
        refine g_icmp_ne C 129 (by decide) hw dL_told_50 (fun hw => ?_) (fun hw => ?_)
        · exact J129 σ11 hw
        · refine g_aload_n C 0 rfl rfl dL_told_53 ?_
          refine g_iconst (v := (4 : Int32)) C dL_told_54 (by decide) ?_
          refine gc_I C (gr_V (As := [.int (4 : Int32)]) (rest := []) C hK 1 (gd_V wt_444 wt_445 wt_446 wt_1 wt_447) rfl rfl rfl ⟨rfl, hs_X11_count⟩ ⟨⟨Nat.le_of_ble_eq_true rfl, Nat.le_of_ble_eq_true rfl⟩, Nat.le_of_ble_eq_true rfl, Nat.le_of_ble_eq_true rfl⟩ rfl 0 (ga_0 cy A _) rfl rfl (Nat.le_of_ble_eq_true rfl) dL_told_55 (c_X11_count (q_l κ) (q_D κ) cy A hw)) (fun r14 σ13 hw => ?_)
          refine g_aload_n C 1 rfl rfl dL_told_58 ?_
          refine g_iconst (v := (2 : Int32)) C dL_told_59 (by decide) ?_
          refine g_iald C hK q 2 (ga_q cy A _ hq) rfl hw.1 dL_told_60 ?_
          replace hw := hw.2
          refine g_icmp_ne C 129 (by decide) hw dL_told_61 (fun hw => ?_) (fun hw => ?_)
          · exact J129 σ13 hw
          · refine g_aload_n C 0 rfl rfl dL_told_64 ?_
            refine g_iconst (v := (5 : Int32)) C dL_told_65 (by decide) ?_
            refine gc_I C (gr_V (As := [.int (5 : Int32)]) (rest := []) C hK 1 (gd_V wt_444 wt_445 wt_446 wt_1 wt_447) rfl rfl rfl ⟨rfl, hs_X11_count⟩ ⟨⟨Nat.le_of_ble_eq_true rfl, Nat.le_of_ble_eq_true rfl⟩, Nat.le_of_ble_eq_true rfl, Nat.le_of_ble_eq_true rfl⟩ rfl 0 (ga_0 cy A _) rfl rfl (Nat.le_of_ble_eq_true rfl) dL_told_66 (c_X11_count (q_l κ) (q_D κ) cy A hw)) (fun r16 σ15 hw => ?_)
            refine g_aload_n C 1 rfl rfl dL_told_69 ?_
            refine g_iconst (v := (3 : Int32)) C dL_told_70 (by decide) ?_
            refine g_iald C hK q 2 (ga_q cy A _ hq) rfl hw.1 dL_told_71 ?_
            replace hw := hw.2
            refine g_icmp_ne C 129 (by decide) hw dL_told_72 (fun hw => ?_) (fun hw => ?_)
            · exact J129 σ15 hw
            · refine g_aload_n C 0 rfl rfl dL_told_75 ?_
              refine g_bipush (v := (6 : Int32)) C dL_told_76 (by decide) ?_
              refine gc_I C (gr_V (As := [.int (6 : Int32)]) (rest := []) C hK 1 (gd_V wt_444 wt_445 wt_446 wt_1 wt_447) rfl rfl rfl ⟨rfl, hs_X11_count⟩ ⟨⟨Nat.le_of_ble_eq_true rfl, Nat.le_of_ble_eq_true rfl⟩, Nat.le_of_ble_eq_true rfl, Nat.le_of_ble_eq_true rfl⟩ rfl 0 (ga_0 cy A _) rfl rfl (Nat.le_of_ble_eq_true rfl) dL_told_78 (c_X11_count (q_l κ) (q_D κ) cy A hw)) (fun r18 σ17 hw => ?_)
              refine g_aload_n C 1 rfl rfl dL_told_81 ?_
              refine g_iconst (v := (4 : Int32)) C dL_told_82 (by decide) ?_
              refine g_iald C hK q 2 (ga_q cy A _ hq) rfl hw.1 dL_told_83 ?_
              replace hw := hw.2
              refine g_icmp_ne C 129 (by decide) hw dL_told_84 (fun hw => ?_) (fun hw => ?_)
              · exact J129 σ17 hw
              · refine g_aload_n C 0 rfl rfl dL_told_87 ?_
                refine g_bipush (v := (7 : Int32)) C dL_told_88 (by decide) ?_
                refine gc_I C (gr_V (As := [.int (7 : Int32)]) (rest := []) C hK 1 (gd_V wt_444 wt_445 wt_446 wt_1 wt_447) rfl rfl rfl ⟨rfl, hs_X11_count⟩ ⟨⟨Nat.le_of_ble_eq_true rfl, Nat.le_of_ble_eq_true rfl⟩, Nat.le_of_ble_eq_true rfl, Nat.le_of_ble_eq_true rfl⟩ rfl 0 (ga_0 cy A _) rfl rfl (Nat.le_of_ble_eq_true rfl) dL_told_90 (c_X11_count (q_l κ) (q_D κ) cy A hw)) (fun r20 σ19 hw => ?_)
                refine g_aload_n C 1 rfl rfl dL_told_93 ?_
                refine g_iconst (v := (5 : Int32)) C dL_told_94 (by decide) ?_
                refine g_iald C hK q 2 (ga_q cy A _ hq) rfl hw.1 dL_told_95 ?_
                replace hw := hw.2
                refine g_icmp_ne C 129 (by decide) hw dL_told_96 (fun hw => ?_) (fun hw => ?_)
                · exact J129 σ19 hw
                · refine g_aload_n C 0 rfl rfl dL_told_99 ?_
                  refine g_bipush (v := (8 : Int32)) C dL_told_100 (by decide) ?_
                  refine gc_I C (gr_V (As := [.int (8 : Int32)]) (rest := []) C hK 1 (gd_V wt_444 wt_445 wt_446 wt_1 wt_447) rfl rfl rfl ⟨rfl, hs_X11_count⟩ ⟨⟨Nat.le_of_ble_eq_true rfl, Nat.le_of_ble_eq_true rfl⟩, Nat.le_of_ble_eq_true rfl, Nat.le_of_ble_eq_true rfl⟩ rfl 0 (ga_0 cy A _) rfl rfl (Nat.le_of_ble_eq_true rfl) dL_told_102 (c_X11_count (q_l κ) (q_D κ) cy A hw)) (fun r22 σ21 hw => ?_)
                  refine g_aload_n C 1 rfl rfl dL_told_105 ?_
                  refine g_bipush (v := (6 : Int32)) C dL_told_106 (by decide) ?_
                  refine g_iald C hK q 2 (ga_q cy A _ hq) rfl hw.1 dL_told_108 ?_
                  replace hw := hw.2
                  refine g_icmp_ne C 129 (by decide) hw dL_told_109 (fun hw => ?_) (fun hw => ?_)
                  · exact J129 σ21 hw
                  · refine g_aload_n C 0 rfl rfl dL_told_112 ?_
                    refine g_bipush (v := (9 : Int32)) C dL_told_113 (by decide) ?_
                    refine gc_I C (gr_V (As := [.int (9 : Int32)]) (rest := []) C hK 1 (gd_V wt_444 wt_445 wt_446 wt_1 wt_447) rfl rfl rfl ⟨rfl, hs_X11_count⟩ ⟨⟨Nat.le_of_ble_eq_true rfl, Nat.le_of_ble_eq_true rfl⟩, Nat.le_of_ble_eq_true rfl, Nat.le_of_ble_eq_true rfl⟩ rfl 0 (ga_0 cy A _) rfl rfl (Nat.le_of_ble_eq_true rfl) dL_told_115 (c_X11_count (q_l κ) (q_D κ) cy A hw)) (fun r24 σ23 hw => ?_)
                    refine g_aload_n C 1 rfl rfl dL_told_118 ?_
                    refine g_bipush (v := (7 : Int32)) C dL_told_119 (by decide) ?_
                    refine g_iald C hK q 2 (ga_q cy A _ hq) rfl hw.1 dL_told_121 ?_
                    replace hw := hw.2
                    refine g_icmp_ne C 129 (by decide) hw dL_told_122 (fun hw => ?_) (fun hw => ?_)
                    · exact J129 σ23 hw
                    · refine g_iconst (v := (1 : Int32)) C dL_told_125 (by decide) ?_
                      refine g_goto C 130 (by decide) dL_told_126 ?_
                      exact J130 σ23 (1 : Int32) hw
