set_option maxHeartbeats 4000000 in
set_option maxRecDepth 100000 in
theorem c_X5_init (l : Launch) (D : va_G) (cy : Nat → ClassId) (A : Nat → Nat) {σ : St} {a0 : Nat} {v1 : Int32} {v2 : Int32} {v3 : Int32} {Φ : St → Prop} (hw : wX5_init σ a0 v1 v2 v3 Φ) : CtV l yX5_init (.code yX5_init cX5_init 4 none :: gL) rm_X5_init 0 0 [.ref a0, .int v1, .int v2, .int v3] D cy A σ Φ := by
  refine ct_any (fun sz => va_Qv Φ (HE D cy A (gZ cy A σ sz)) (gZ cy A σ sz)) (by decide +kernel) rfl rfl [(0, .ref a0), (1, .int v1), (2, .int v2), (3, .int v3)] rfl (Nat.le_of_ble_eq_true rfl) ?_
  intro κ hκl hnm C hK sz F
  subst hκl
  unfold wX5_init at hw
  refine g_aload_n C 0 rfl rfl dX5_init_0 ?_
  refine g_iload_n C 1 rfl rfl dX5_init_1 ?_
  refine g_iload_n C 2 rfl rfl dX5_init_2 ?_
  refine g_iload_n C 3 rfl rfl dX5_init_3 ?_
  refine gc_V C (gr_N (As := [.int v1, .int v2, .int v3]) (rest := []) C hK 3 (gd_N wt_380) rfl rfl rfl wt_9 wt_407 wt_379 rfl hs_X9_init ⟨⟨Nat.le_of_ble_eq_true rfl, Nat.le_of_ble_eq_true rfl⟩, Nat.le_of_ble_eq_true rfl, Nat.le_of_ble_eq_true rfl⟩ rfl rfl (Nat.le_of_ble_eq_true rfl) dX5_init_4 (c_X9_init (q_l κ) (q_D κ) cy A hw)) (fun σ1 hw => ?_)
  exact gq_V C F (by decide) (by decide) hw dX5_init_7
set_option maxHeartbeats 4000000 in
set_option maxRecDepth 100000 in
theorem c_X4_init (l : Launch) (D : va_G) (cy : Nat → ClassId) (A : Nat → Nat) {σ : St} {a0 : Nat} {v1 : Int32} {v2 : Int32} {v3 : Int32} {Φ : St → Prop} (hw : wX4_init σ a0 v1 v2 v3 Φ) : CtV l yX4_init (.code yX4_init cX4_init 4 none :: gL) rm_X4_init 0 0 [.ref a0, .int v1, .int v2, .int v3] D cy A σ Φ := by
  refine ct_any (fun sz => va_Qv Φ (HE D cy A (gZ cy A σ sz)) (gZ cy A σ sz)) (by decide +kernel) rfl rfl [(0, .ref a0), (1, .int v1), (2, .int v2), (3, .int v3)] rfl (Nat.le_of_ble_eq_true rfl) ?_
  intro κ hκl hnm C hK sz F
  subst hκl
  unfold wX4_init at hw
  refine g_aload_n C 0 rfl rfl dX4_init_0 ?_
  refine g_iload_n C 1 rfl rfl dX4_init_1 ?_
  refine g_iload_n C 2 rfl rfl dX4_init_2 ?_
  refine g_iload_n C 3 rfl rfl dX4_init_3 ?_
  refine gc_V C (gr_N (As := [.int v1, .int v2, .int v3]) (rest := []) C hK 3 (gd_N wt_406) rfl rfl rfl wt_12 wt_412 wt_405 rfl hs_X5_init ⟨⟨Nat.le_of_ble_eq_true rfl, Nat.le_of_ble_eq_true rfl⟩, Nat.le_of_ble_eq_true rfl, Nat.le_of_ble_eq_true rfl⟩ rfl rfl (Nat.le_of_ble_eq_true rfl) dX4_init_4 (c_X5_init (q_l κ) (q_D κ) cy A hw)) (fun σ1 hw => ?_)
  exact gq_V C F (by decide) (by decide) hw dX4_init_7
set_option maxHeartbeats 4000000 in
set_option maxRecDepth 100000 in
theorem c_X4_kind (l : Launch) (D : va_G) (cy : Nat → ClassId) (A : Nat → Nat) {σ : St} {a0 : Nat} {Φ : Int32 → St → Prop} (hw : wX4_kind σ a0 Φ) : CtI l yX4_kind (.code yX4_kind cX4_kind 1 (some .int) :: gL) rm_X4_kind 0 0 [.ref a0] D cy A σ Φ := by
  refine ct_any (fun sz => va_Qi Φ (HE D cy A (gZ cy A σ sz)) (gZ cy A σ sz)) (by decide +kernel) rfl rfl [(0, .ref a0)] rfl (Nat.le_of_ble_eq_true rfl) ?_
  intro κ hκl hnm C hK sz F
  subst hκl
  unfold wX4_kind at hw
  refine g_iconst (v := (4 : Int32)) C dX4_kind_0 (by decide) ?_
  exact gq_I C F (by decide) (by decide) hw dX4_kind_1
set_option maxHeartbeats 4000000 in
set_option maxRecDepth 100000 in
theorem c_X5_kind (l : Launch) (D : va_G) (cy : Nat → ClassId) (A : Nat → Nat) {σ : St} {a0 : Nat} {Φ : Int32 → St → Prop} (hw : wX5_kind σ a0 Φ) : CtI l yX5_kind (.code yX5_kind cX5_kind 1 (some .int) :: gL) rm_X5_kind 0 0 [.ref a0] D cy A σ Φ := by
  refine ct_any (fun sz => va_Qi Φ (HE D cy A (gZ cy A σ sz)) (gZ cy A σ sz)) (by decide +kernel) rfl rfl [(0, .ref a0)] rfl (Nat.le_of_ble_eq_true rfl) ?_
  intro κ hκl hnm C hK sz F
  subst hκl
  unfold wX5_kind at hw
  refine g_iconst (v := (3 : Int32)) C dX5_kind_0 (by decide) ?_
  exact gq_I C F (by decide) (by decide) hw dX5_kind_1
set_option maxHeartbeats 4000000 in
set_option maxRecDepth 100000 in
theorem c_X6_isFull (l : Launch) (D : va_G) (cy : Nat → ClassId) (A : Nat → Nat) {σ : St} {Φ : Int32 → St → Prop} (hw : wX6_isFull σ Φ) : CtI l yX6_isFull (.code yX6_isFull cX6_isFull 1 (some .boolean) :: gL) rm_X6_isFull 0 0 [.ref (A 4)] D cy A σ Φ := by
  refine ct_any (fun sz => va_Qi Φ (HE D cy A (gZ cy A σ sz)) (gZ cy A σ sz)) (by decide +kernel) rfl rfl [(0, .ref (A 4))] rfl (Nat.le_of_ble_eq_true rfl) ?_
  intro κ hκl hnm C hK sz F
  subst hκl
  unfold wX6_isFull at hw
  refine g_aload_n C 0 rfl rfl dX6_isFull_0 ?_
  refine g_get C hK inX6 rfl 4 (ga_4 cy A _) 2 (by decide) (fun _ h => h) wt_59 rfl dX6_isFull_1 ?_
  refine g_aload_n C 0 rfl rfl dX6_isFull_4 ?_
  refine g_get C hK inX6 rfl 4 (ga_4 cy A _) 0 (by decide) (fun _ h => h) wt_57 rfl dX6_isFull_5 ?_
  refine g_alen (v := 6) C hK 5 3 (ga_5 cy A _) rfl rfl dX6_isFull_8 ?_
  refine g_icmp_lt C 16 (by decide) hw dX6_isFull_9 (fun hw => ?_) (fun hw => ?_)
  · refine g_iconst (v := (0 : Int32)) C dX6_isFull_16 (by decide) ?_
    exact gq_Z C F (by decide) (by decide) hw dX6_isFull_17
  · refine g_iconst (v := (1 : Int32)) C dX6_isFull_12 (by decide) ?_
    refine g_goto C 17 (by decide) dX6_isFull_13 ?_
    exact gq_Z C F (by decide) (by decide) hw dX6_isFull_17
set_option maxHeartbeats 4000000 in
set_option maxRecDepth 100000 in
theorem c_X6_put (l : Launch) (D : va_G) (cy : Nat → ClassId) (A : Nat → Nat) {σ : St} {a1 : Nat} {Φ : Int32 → St → Prop} (hw : wX6_put σ a1 Φ) : CtI l yX6_put (.code yX6_put cX6_put 2 (some .int) :: gL) rm_X6_put 0 0 [.ref (A 4), .ref a1] D cy A σ Φ := by
  refine ct_any (fun sz => va_Qi Φ (HE D cy A (gZ cy A σ sz)) (gZ cy A σ sz)) (by decide +kernel) rfl rfl [(0, .ref (A 4)), (1, .ref a1)] rfl (Nat.le_of_ble_eq_true rfl) ?_
  intro κ hκl hnm C hK sz F
  subst hκl
  unfold wX6_put at hw
  refine g_aload_n C 0 rfl rfl dX6_put_0 ?_
  refine g_get C hK inX6 rfl 4 (ga_4 cy A _) 2 (by decide) (fun _ h => h) wt_59 rfl dX6_put_1 ?_
  refine g_if_lt C 19 (by decide) hw dX6_put_4 (fun hw => ?_) (fun hw => ?_)
  · refine g_bipush (v := (-104 : Int32)) C dX6_put_19 (by decide) ?_
    exact gq_I C F (by decide) (by decide) hw dX6_put_21
  · refine g_aload_n C 0 rfl rfl dX6_put_7 ?_
    refine g_get C hK inX6 rfl 4 (ga_4 cy A _) 2 (by decide) (fun _ h => h) wt_59 rfl dX6_put_8 ?_
    refine g_aload_n C 0 rfl rfl dX6_put_11 ?_
    refine g_get C hK inX6 rfl 4 (ga_4 cy A _) 0 (by decide) (fun _ h => h) wt_57 rfl dX6_put_12 ?_
    refine g_alen (v := 6) C hK 5 3 (ga_5 cy A _) rfl rfl dX6_put_15 ?_
    refine g_icmp_lt C 22 (by decide) hw dX6_put_16 (fun hw => ?_) (fun hw => ?_)
    · refine g_aload_n C 0 rfl rfl dX6_put_22 ?_
      refine g_get C hK inX6 rfl 4 (ga_4 cy A _) 0 (by decide) (fun _ h => h) wt_57 rfl dX6_put_23 ?_
      refine g_aload_n C 0 rfl rfl dX6_put_26 ?_
      refine g_get C hK inX6 rfl 4 (ga_4 cy A _) 2 (by decide) (fun _ h => h) wt_59 rfl dX6_put_27 ?_
      refine g_aload_n C 1 rfl rfl dX6_put_30 ?_
      refine g_aastT C hK hw.1 hw.2.1 dX6_put_31 ?_
      replace hw := hw.2.2
      refine g_aload_n C 0 rfl rfl dX6_put_32 ?_
      refine g_dup C rfl dX6_put_33 ?_
      refine g_get C hK inX6 rfl 4 (ga_4 cy A _) 2 (by decide) (fun _ h => h) wt_59 rfl dX6_put_34 ?_
      refine g_iconst (v := (1 : Int32)) C dX6_put_37 (by decide) ?_
      refine g_iadd C dX6_put_38 ?_
      refine g_put (v := .int (((sH σ (σ.1 4 2).toNatClampNeg (some a1)).1 4 2) + (1 : Int32))) C hK inX6 rfl tyX6 tyX6_ok nmX6 4 (ga_4 cy A _) 2 (by decide) (fun _ h => h) wt_59 rfl rfl rfl (Nat.le_of_ble_eq_true rfl) (gp_4_2 cy A _ _) dX6_put_39 ?_
      refine g_aload_n C 0 rfl rfl dX6_put_42 ?_
      refine g_get C hK inX6 rfl 4 (ga_4 cy A _) 2 (by decide) (fun _ h => h) wt_59 rfl dX6_put_43 ?_
      refine g_iconst (v := (1 : Int32)) C dX6_put_46 (by decide) ?_
      refine g_isub C dX6_put_47 ?_
      exact gq_I C F (by decide) (by decide) hw dX6_put_48
    · refine g_bipush (v := (-104 : Int32)) C dX6_put_19 (by decide) ?_
      exact gq_I C F (by decide) (by decide) hw dX6_put_21
set_option maxHeartbeats 4000000 in
set_option maxRecDepth 100000 in
theorem c_J9_min_7cf53 (l : Launch) (D : va_G) (cy : Nat → ClassId) (A : Nat → Nat) {σ : St} {v0 : Int32} {v1 : Int32} {Φ : Int32 → St → Prop} (hw : wJ9_min_7cf53 σ v0 v1 Φ) : CtI l yJ9_min_7cf53 (.code yJ9_min_7cf53 cJ9_min_7cf53 2 (some .int) :: gL) rm_J9_min_7cf53 0 0 [.int v0, .int v1] D cy A σ Φ := by
  refine ct_any (fun sz => va_Qi Φ (HE D cy A (gZ cy A σ sz)) (gZ cy A σ sz)) (by decide +kernel) rfl rfl [(0, .int v0), (1, .int v1)] rfl (Nat.le_of_ble_eq_true rfl) ?_
  intro κ hκl hnm C hK sz F
  subst hκl
  unfold wJ9_min_7cf53 at hw
  refine g_iload_n C 0 rfl rfl dJ9_min_7cf53_0 ?_
  refine g_iload_n C 1 rfl rfl dJ9_min_7cf53_1 ?_
  refine g_icmp_gt C 9 (by decide) hw dJ9_min_7cf53_2 (fun hw => ?_) (fun hw => ?_)
  · refine g_iload_n C 1 rfl rfl dJ9_min_7cf53_9 ?_
    exact gq_I C F (by decide) (by decide) hw dJ9_min_7cf53_10
  · refine g_iload_n C 0 rfl rfl dJ9_min_7cf53_5 ?_
    refine g_goto C 10 (by decide) dJ9_min_7cf53_6 ?_
    exact gq_I C F (by decide) (by decide) hw dJ9_min_7cf53_10
set_option maxHeartbeats 4000000 in
set_option maxRecDepth 100000 in
theorem c_X6_cutTo (l : Launch) (D : va_G) (cy : Nat → ClassId) (A : Nat → Nat) {σ : St} {v1 : Int32} {Φ : St → Prop} (hw : wX6_cutTo σ v1 Φ) : CtV l yX6_cutTo (.code yX6_cutTo cX6_cutTo 3 none :: gL) rm_X6_cutTo 0 0 [.ref (A 4), .int v1] D cy A σ Φ := by
  refine ct_any (fun sz => va_Qv Φ (HE D cy A (gZ cy A σ sz)) (gZ cy A σ sz)) (by decide +kernel) rfl rfl [(0, .ref (A 4)), (1, .int v1)] rfl (Nat.le_of_ble_eq_true rfl) ?_
  intro κ hκl hnm C hK sz F
  subst hκl
  have J23 : ∀ (K2 : St → Int32 → Int32 → Prop) (_ : ∀ (σ : St) (v1 : Int32) (v2 : Int32), K2 σ v1 v2 → GW κ 0 0 (gW cy A σ) 2 [(0, .ref (A 4)), (1, .int v1), (2, .int v2)] []), ∀ (σ : St) (v1 : Int32) (v2 : Int32), wX6_cutTo_23 K2 Φ σ v1 v2 → GW κ 0 0 (gW cy A σ) 23 [(0, .ref (A 4)), (1, .int v1), (2, .int v2)] [] := by
    intro K2 hK2 σ v1 v2 hw
    unfold wX6_cutTo_23 at hw
    refine g_iinc (j := 2) C [(2, .int (v2 + 1)), (0, .ref (A 4)), (1, .int v1)] F.2.2.2.1 rfl rfl (by decide) rfl dX6_cutTo_23 ?_
    refine g_goto C 2 (by decide) dX6_cutTo_26 ?_
    refine g_eql (lv' := [(0, .ref (A 4)), (1, .int v1), (2, .int (v2 + 1))]) [1, 2, 0] rfl ?_
    exact hK2 σ v1 (v2 + 1) hw
  have J2 : ∀ (n : Nat) (σ : St) (v1 : Int32) (v2 : Int32), wX6_cutTo_2 Φ n σ v1 v2 → GW κ 0 0 (gW cy A σ) 2 [(0, .ref (A 4)), (1, .int v1), (2, .int v2)] [] := by
    intro n
    induction n with
    | zero => intro σ v1 v2 hw; exact hw.elim
    | succ n ih =>
      intro σ v1 v2 hw
      rw [wX6_cutTo_2] at hw
      refine g_iload_n C 2 rfl rfl dX6_cutTo_2 ?_
      refine g_aload_n C 0 rfl rfl dX6_cutTo_3 ?_
      refine g_get C hK inX6 rfl 4 (ga_4 cy A _) 0 (by decide) (fun _ h => h) wt_57 rfl dX6_cutTo_4 ?_
      refine g_alen (v := 6) C hK 5 3 (ga_5 cy A _) rfl rfl dX6_cutTo_7 ?_
      refine g_icmp_ge C 29 (by decide) hw dX6_cutTo_8 (fun hw => ?_) (fun hw => ?_)
      · refine g_aload_n C 0 rfl rfl dX6_cutTo_29 ?_
        refine g_aload_n C 0 rfl rfl dX6_cutTo_30 ?_
        refine g_get C hK inX6 rfl 4 (ga_4 cy A _) 2 (by decide) (fun _ h => h) wt_59 rfl dX6_cutTo_31 ?_
        refine g_iload_n C 1 rfl rfl dX6_cutTo_34 ?_
        refine gc_I C (gr_S (As := [.int (σ.1 4 2), .int v1]) (rest := [.ref (A 4)]) C hK 2 (gd_S wt_355 wt_260 wt_8 wt_261) rfl rfl rfl hs_J9_min_7cf53 ⟨⟨Nat.le_of_ble_eq_true rfl, Nat.le_of_ble_eq_true rfl⟩, Nat.le_of_ble_eq_true rfl, Nat.le_of_ble_eq_true rfl⟩ rfl rfl (Nat.le_of_ble_eq_true rfl) dX6_cutTo_35 (c_J9_min_7cf53 (q_l κ) (q_D κ) cy A hw)) (fun r2 σ1 hw => ?_)
        refine g_put (v := .int r2) C hK inX6 rfl tyX6 tyX6_ok nmX6 4 (ga_4 cy A _) 2 (by decide) (fun _ h => h) wt_59 rfl rfl rfl (Nat.le_of_ble_eq_true rfl) (gp_4_2 cy A _ _) dX6_cutTo_38 ?_
        exact gq_V C F (by decide) (by decide) hw dX6_cutTo_41
      · refine g_iload_n C 2 rfl rfl dX6_cutTo_11 ?_
        refine g_iload_n C 1 rfl rfl dX6_cutTo_12 ?_
        refine g_icmp_lt C 23 (by decide) hw dX6_cutTo_13 (fun hw => ?_) (fun hw => ?_)
        · exact J23 _ ih σ v1 v2 hw
        · refine g_aload_n C 0 rfl rfl dX6_cutTo_16 ?_
          refine g_get C hK inX6 rfl 4 (ga_4 cy A _) 0 (by decide) (fun _ h => h) wt_57 rfl dX6_cutTo_17 ?_
          refine g_iload_n C 2 rfl rfl dX6_cutTo_20 ?_
          refine g_null C dX6_cutTo_21 ?_
          refine g_aastN C hK 5 3 (ga_5 cy A _) rfl hw.1 (gs_5 cy A _ _ _) dX6_cutTo_22 ?_
          replace hw := hw.2
          exact J23 _ ih (sH σ v2.toNatClampNeg none) v1 v2 hw
  unfold wX6_cutTo at hw
  refine g_iconst (v := (0 : Int32)) C dX6_cutTo_0 (by decide) ?_
  refine g_istore_n C [(2, .int (0 : Int32)), (0, .ref (A 4)), (1, .int v1)] F.2.2.2.1 rfl (by decide) rfl dX6_cutTo_1 ?_
  refine g_eql (lv' := [(0, .ref (A 4)), (1, .int v1), (2, .int (0 : Int32))]) [1, 2, 0] rfl ?_
  obtain ⟨n0, hw⟩ := hw
  exact J2 n0 σ v1 (0 : Int32) hw
set_option maxHeartbeats 4000000 in
set_option maxRecDepth 100000 in
theorem c_X6_sizeIn (l : Launch) (D : va_G) (cy : Nat → ClassId) (A : Nat → Nat) {σ : St} {v1 : Int32} {Φ : Int32 → St → Prop} (hw : wX6_sizeIn σ v1 Φ) : CtI l yX6_sizeIn (.code yX6_sizeIn cX6_sizeIn 5 (some .int) :: gL) rm_X6_sizeIn 0 0 [.ref (A 4), .int v1] D cy A σ Φ := by
  refine ct_any (fun sz => va_Qi Φ (HE D cy A (gZ cy A σ sz)) (gZ cy A σ sz)) (by decide +kernel) rfl rfl [(0, .ref (A 4)), (1, .int v1)] rfl (Nat.le_of_ble_eq_true rfl) ?_
  intro κ hκl hnm C hK sz F
  subst hκl
  have J36 : ∀ (K4 : St → Int32 → Int32 → Int32 → Prop) (_ : ∀ (σ : St) (v1 : Int32) (v2 : Int32) (v3 : Int32), K4 σ v1 v2 v3 → GW κ 0 0 (gW cy A σ) 4 [(0, .ref (A 4)), (1, .int v1), (2, .int v2), (3, .int v3)] []), ∀ (σ : St) (v1 : Int32) (v2 : Int32) (v3 : Int32), wX6_sizeIn_36 K4 Φ σ v1 v2 v3 → GW κ 0 0 (gW cy A σ) 36 [(0, .ref (A 4)), (1, .int v1), (2, .int v2), (3, .int v3)] [] := by
    intro K4 hK4 σ v1 v2 v3 hw
    unfold wX6_sizeIn_36 at hw
    refine g_iinc (j := 3) C [(3, .int (v3 + 1)), (0, .ref (A 4)), (1, .int v1), (2, .int v2)] F.2.2.2.1 rfl rfl (by decide) rfl dX6_sizeIn_36 ?_
    refine g_goto C 4 (by decide) dX6_sizeIn_39 ?_
    refine g_eql (lv' := [(0, .ref (A 4)), (1, .int v1), (2, .int v2), (3, .int (v3 + 1))]) [1, 2, 3, 0] rfl ?_
    exact hK4 σ v1 v2 (v3 + 1) hw
  have J4 : ∀ (n : Nat) (σ : St) (v1 : Int32) (v2 : Int32) (v3 : Int32), wX6_sizeIn_4 Φ n σ v1 v2 v3 → GW κ 0 0 (gW cy A σ) 4 [(0, .ref (A 4)), (1, .int v1), (2, .int v2), (3, .int v3)] [] := by
    intro n
    induction n with
    | zero => intro σ v1 v2 v3 hw; exact hw.elim
    | succ n ih =>
      intro σ v1 v2 v3 hw
      rw [wX6_sizeIn_4] at hw
      refine g_iload_n C 3 rfl rfl dX6_sizeIn_4 ?_
      refine g_aload_n C 0 rfl rfl dX6_sizeIn_5 ?_
      refine g_get C hK inX6 rfl 4 (ga_4 cy A _) 2 (by decide) (fun _ h => h) wt_59 rfl dX6_sizeIn_6 ?_
      refine g_icmp_ge C 42 (by decide) hw dX6_sizeIn_9 (fun hw => ?_) (fun hw => ?_)
      · refine g_iload_n C 2 rfl rfl dX6_sizeIn_42 ?_
        exact gq_I C F (by decide) (by decide) hw dX6_sizeIn_43
      · refine g_aload_n C 0 rfl rfl dX6_sizeIn_12 ?_
        refine g_iload_n C 3 rfl rfl dX6_sizeIn_13 ?_
        refine gc_Q C (gr_V (As := [.int v3]) (rest := []) C hK 1 (gd_V wt_110 wt_111 wt_112 wt_4 wt_113) rfl rfl rfl ⟨rfl, hs_X6_at⟩ ⟨⟨Nat.le_of_ble_eq_true rfl, Nat.le_of_ble_eq_true rfl⟩, Nat.le_of_ble_eq_true rfl, Nat.le_of_ble_eq_true rfl⟩ rfl 4 (ga_4 cy A _) rfl rfl (Nat.le_of_ble_eq_true rfl) dX6_sizeIn_14 (c_X6_at (q_l κ) (q_D κ) cy A hw)) (fun r2 σ1 hw => ?_)
        refine g_rstore C [(4, va_rf r2), (0, .ref (A 4)), (1, .int v1), (2, .int v2), (3, .int v3)] F.2.2.2.1 (by decide) rfl dX6_sizeIn_17 ?_
        refine g_rload C 0 rfl dX6_sizeIn_19 ?_
        refine g_ifnull C 36 (by decide) hw dX6_sizeIn_21 (fun hw1 e9 => ?_) (fun b3 e9 hw1 => ?_)
        · subst e9
          replace hw := hw1
          refine g_eql (lv' := [(0, .ref (A 4)), (1, .int v1), (2, .int v2), (3, .int v3)]) [1, 2, 3, 4] rfl ?_
          exact J36 _ ih σ1 v1 v2 v3 hw
        · subst e9
          replace hw := hw1
          refine g_aload C 0 rfl dX6_sizeIn_24 ?_
          refine g_getT2 C hK hw.1 (fun _ h => h) wt_396 dX6_sizeIn_26 ?_
          replace hw := hw.2
          refine g_iload_n C 2 rfl rfl dX6_sizeIn_29 ?_
          refine g_icmp_ne C 36 (by decide) hw dX6_sizeIn_30 (fun hw => ?_) (fun hw => ?_)
          · refine g_eql (lv' := [(0, .ref (A 4)), (1, .int v1), (2, .int v2), (3, .int v3)]) [1, 2, 3, 4] rfl ?_
            exact J36 _ ih σ1 v1 v2 v3 hw
          · refine g_iinc (j := 3) C [(2, .int (v2 + 1)), (4, .ref b3), (0, .ref (A 4)), (1, .int v1), (3, .int v3)] F.2.2.2.1 rfl rfl (by decide) rfl dX6_sizeIn_33 ?_
            refine g_eql (lv' := [(0, .ref (A 4)), (1, .int v1), (2, .int (v2 + 1)), (3, .int v3)]) [2, 3, 0, 4] rfl ?_
            exact J36 _ ih σ1 v1 (v2 + 1) v3 hw
  unfold wX6_sizeIn at hw
  refine g_iconst (v := (0 : Int32)) C dX6_sizeIn_0 (by decide) ?_
  refine g_istore_n C [(2, .int (0 : Int32)), (0, .ref (A 4)), (1, .int v1)] F.2.2.2.1 rfl (by decide) rfl dX6_sizeIn_1 ?_
  refine g_iconst (v := (0 : Int32)) C dX6_sizeIn_2 (by decide) ?_
  refine g_istore_n C [(3, .int (0 : Int32)), (2, .int (0 : Int32)), (0, .ref (A 4)), (1, .int v1)] F.2.2.2.1 rfl (by decide) rfl dX6_sizeIn_3 ?_
  refine g_eql (lv' := [(0, .ref (A 4)), (1, .int v1), (2, .int (0 : Int32)), (3, .int (0 : Int32))]) [2, 3, 1, 0] rfl ?_
  obtain ⟨n0, hw⟩ := hw
  exact J4 n0 σ v1 (0 : Int32) (0 : Int32) hw
set_option maxHeartbeats 4000000 in
set_option maxRecDepth 100000 in
theorem c_X7_hasRoomFor (l : Launch) (D : va_G) (cy : Nat → ClassId) (A : Nat → Nat) {σ : St} {v1 : Int32} {Φ : Int32 → St → Prop} (hw : wX7_hasRoomFor σ v1 Φ) : CtI l yX7_hasRoomFor (.code yX7_hasRoomFor cX7_hasRoomFor 2 (some .boolean) :: gL) rm_X7_hasRoomFor 0 0 [.ref (A 1), .int v1] D cy A σ Φ := by
  refine ct_any (fun sz => va_Qi Φ (HE D cy A (gZ cy A σ sz)) (gZ cy A σ sz)) (by decide +kernel) rfl rfl [(0, .ref (A 1)), (1, .int v1)] rfl (Nat.le_of_ble_eq_true rfl) ?_
  intro κ hκl hnm C hK sz F
  subst hκl
  unfold wX7_hasRoomFor at hw
  refine g_aload_n C 0 rfl rfl dX7_hasRoomFor_0 ?_
  refine g_get C hK inX7 rfl 1 (ga_1 cy A _) 1 (by decide) (fun _ h => h) wt_28 rfl dX7_hasRoomFor_1 ?_
  refine g_iload_n C 1 rfl rfl dX7_hasRoomFor_4 ?_
  refine g_iadd C dX7_hasRoomFor_5 ?_
  refine g_aload_n C 0 rfl rfl dX7_hasRoomFor_6 ?_
  refine g_get C hK inX7 rfl 1 (ga_1 cy A _) 0 (by decide) (fun _ h => h) wt_27 rfl dX7_hasRoomFor_7 ?_
  refine g_alen (v := 12) C hK 2 1 (ga_2 cy A _) rfl rfl dX7_hasRoomFor_10 ?_
  refine g_icmp_gt C 18 (by decide) hw dX7_hasRoomFor_11 (fun hw => ?_) (fun hw => ?_)
  · refine g_iconst (v := (0 : Int32)) C dX7_hasRoomFor_18 (by decide) ?_
    exact gq_Z C F (by decide) (by decide) hw dX7_hasRoomFor_19
  · refine g_iconst (v := (1 : Int32)) C dX7_hasRoomFor_14 (by decide) ?_
    refine g_goto C 19 (by decide) dX7_hasRoomFor_15 ?_
    exact gq_Z C F (by decide) (by decide) hw dX7_hasRoomFor_19
set_option maxHeartbeats 4000000 in
set_option maxRecDepth 100000 in
theorem c_X7_put (l : Launch) (D : va_G) (cy : Nat → ClassId) (A : Nat → Nat) {σ : St} {v1 : Int32} {Φ : St → Prop} (hw : wX7_put σ v1 Φ) : CtV l yX7_put (.code yX7_put cX7_put 2 none :: gL) rm_X7_put 0 0 [.ref (A 1), .int v1] D cy A σ Φ := by
  refine ct_any (fun sz => va_Qv Φ (HE D cy A (gZ cy A σ sz)) (gZ cy A σ sz)) (by decide +kernel) rfl rfl [(0, .ref (A 1)), (1, .int v1)] rfl (Nat.le_of_ble_eq_true rfl) ?_
  intro κ hκl hnm C hK sz F
  subst hκl
  unfold wX7_put at hw
  refine g_aload_n C 0 rfl rfl dX7_put_0 ?_
  refine g_get C hK inX7 rfl 1 (ga_1 cy A _) 1 (by decide) (fun _ h => h) wt_28 rfl dX7_put_1 ?_
  refine g_if_lt C 39 (by decide) hw dX7_put_4 (fun hw => ?_) (fun hw => ?_)
  · exact gq_V C F (by decide) (by decide) hw dX7_put_39
  · refine g_aload_n C 0 rfl rfl dX7_put_7 ?_
    refine g_get C hK inX7 rfl 1 (ga_1 cy A _) 1 (by decide) (fun _ h => h) wt_28 rfl dX7_put_8 ?_
    refine g_aload_n C 0 rfl rfl dX7_put_11 ?_
    refine g_get C hK inX7 rfl 1 (ga_1 cy A _) 0 (by decide) (fun _ h => h) wt_27 rfl dX7_put_12 ?_
    refine g_alen (v := 12) C hK 2 1 (ga_2 cy A _) rfl rfl dX7_put_15 ?_
    refine g_icmp_ge C 39 (by decide) hw dX7_put_16 (fun hw => ?_) (fun hw => ?_)
    · exact gq_V C F (by decide) (by decide) hw dX7_put_39
    · refine g_aload_n C 0 rfl rfl dX7_put_19 ?_
      refine g_get C hK inX7 rfl 1 (ga_1 cy A _) 0 (by decide) (fun _ h => h) wt_27 rfl dX7_put_20 ?_
      refine g_aload_n C 0 rfl rfl dX7_put_23 ?_
      refine g_get C hK inX7 rfl 1 (ga_1 cy A _) 1 (by decide) (fun _ h => h) wt_28 rfl dX7_put_24 ?_
      refine g_iload_n C 1 rfl rfl dX7_put_27 ?_
      refine g_cast C hK 2 1 (ga_2 cy A _) rfl hw.1 (gs_2 cy A _ _ _) dX7_put_28 ?_
      replace hw := hw.2
      refine g_aload_n C 0 rfl rfl dX7_put_29 ?_
      refine g_dup C rfl dX7_put_30 ?_
      refine g_get C hK inX7 rfl 1 (ga_1 cy A _) 1 (by decide) (fun _ h => h) wt_28 rfl dX7_put_31 ?_
      refine g_iconst (v := (1 : Int32)) C dX7_put_34 (by decide) ?_
      refine g_iadd C dX7_put_35 ?_
      refine g_put (v := .int (((sV σ 2 (σ.1 1 1).toNatClampNeg (vp_nar .char v1)).1 1 1) + (1 : Int32))) C hK inX7 rfl tyX7 tyX7_ok nmX7 1 (ga_1 cy A _) 1 (by decide) (fun _ h => h) wt_28 rfl rfl rfl (Nat.le_of_ble_eq_true rfl) (gp_1_1 cy A _ _) dX7_put_36 ?_
      exact gq_V C F (by decide) (by decide) hw dX7_put_39
set_option maxHeartbeats 4000000 in
set_option maxRecDepth 100000 in
theorem c_X7_emptied (l : Launch) (D : va_G) (cy : Nat → ClassId) (A : Nat → Nat) {σ : St} {Φ : Int32 → St → Prop} (hw : wX7_emptied σ Φ) : CtI l yX7_emptied (.code yX7_emptied cX7_emptied 2 (some .int) :: gL) rm_X7_emptied 0 0 [.ref (A 1)] D cy A σ Φ := by
  refine ct_any (fun sz => va_Qi Φ (HE D cy A (gZ cy A σ sz)) (gZ cy A σ sz)) (by decide +kernel) rfl rfl [(0, .ref (A 1))] rfl (Nat.le_of_ble_eq_true rfl) ?_
  intro κ hκl hnm C hK sz F
  subst hκl
  unfold wX7_emptied at hw
  refine g_aload_n C 0 rfl rfl dX7_emptied_0 ?_
  refine g_get C hK inX7 rfl 1 (ga_1 cy A _) 1 (by decide) (fun _ h => h) wt_28 rfl dX7_emptied_1 ?_
  refine g_istore_n C [(1, .int (σ.1 1 1)), (0, .ref (A 1))] F.2.2.2.1 rfl (by decide) rfl dX7_emptied_4 ?_
  refine g_aload_n C 1 rfl rfl dX7_emptied_5 ?_
  refine g_iconst (v := (0 : Int32)) C dX7_emptied_6 (by decide) ?_
  refine g_put (v := .int (0 : Int32)) C hK inX7 rfl tyX7 tyX7_ok nmX7 1 (ga_1 cy A _) 1 (by decide) (fun _ h => h) wt_28 rfl rfl rfl (Nat.le_of_ble_eq_true rfl) (gp_1_1 cy A _ _) dX7_emptied_7 ?_
  refine g_iload_n C 0 rfl rfl dX7_emptied_10 ?_
  exact gq_I C F (by decide) (by decide) hw dX7_emptied_11
set_option maxHeartbeats 4000000 in
set_option maxRecDepth 100000 in
theorem c_X7_isBetween (l : Launch) (D : va_G) (cy : Nat → ClassId) (A : Nat → Nat) {σ : St} {v1 : Int32} {v2 : Int32} {v3 : Int32} {Φ : Int32 → St → Prop} (hw : wX7_isBetween σ v1 v2 v3 Φ) : CtI l yX7_isBetween (.code yX7_isBetween cX7_isBetween 4 (some .boolean) :: gL) rm_X7_isBetween 0 0 [.ref (A 1), .int v1, .int v2, .int v3] D cy A σ Φ := by
  refine ct_any (fun sz => va_Qi Φ (HE D cy A (gZ cy A σ sz)) (gZ cy A σ sz)) (by decide +kernel) rfl rfl [(0, .ref (A 1)), (1, .int v1), (2, .int v2), (3, .int v3)] rfl (Nat.le_of_ble_eq_true rfl) ?_
  intro κ hκl hnm C hK sz F
  subst hκl
  unfold wX7_isBetween at hw
  refine g_aload_n C 0 rfl rfl dX7_isBetween_0 ?_
  refine g_iload_n C 1 rfl rfl dX7_isBetween_1 ?_
  refine gc_I C (gr_V (As := [.int v1]) (rest := []) C hK 1 (gd_V wt_326 wt_327 wt_328 wt_2 wt_329) rfl rfl rfl ⟨rfl, hs_X7_at⟩ ⟨⟨Nat.le_of_ble_eq_true rfl, Nat.le_of_ble_eq_true rfl⟩, Nat.le_of_ble_eq_true rfl, Nat.le_of_ble_eq_true rfl⟩ rfl 1 (ga_1 cy A _) rfl rfl (Nat.le_of_ble_eq_true rfl) dX7_isBetween_2 (c_X7_at (q_l κ) (q_D κ) cy A hw)) (fun r2 σ1 hw => ?_)
  refine g_iload_n C 2 rfl rfl dX7_isBetween_5 ?_
  refine g_icmp_lt C 22 (by decide) hw dX7_isBetween_6 (fun hw => ?_) (fun hw => ?_)
  · refine g_iconst (v := (0 : Int32)) C dX7_isBetween_22 (by decide) ?_
    exact gq_Z C F (by decide) (by decide) hw dX7_isBetween_23
  · refine g_aload_n C 0 rfl rfl dX7_isBetween_9 ?_
    refine g_iload_n C 1 rfl rfl dX7_isBetween_10 ?_
    refine gc_I C (gr_V (As := [.int v1]) (rest := []) C hK 1 (gd_V wt_326 wt_327 wt_328 wt_2 wt_329) rfl rfl rfl ⟨rfl, hs_X7_at⟩ ⟨⟨Nat.le_of_ble_eq_true rfl, Nat.le_of_ble_eq_true rfl⟩, Nat.le_of_ble_eq_true rfl, Nat.le_of_ble_eq_true rfl⟩ rfl 1 (ga_1 cy A _) rfl rfl (Nat.le_of_ble_eq_true rfl) dX7_isBetween_11 (c_X7_at (q_l κ) (q_D κ) cy A hw)) (fun r4 σ3 hw => ?_)
    refine g_iload_n C 3 rfl rfl dX7_isBetween_14 ?_
    refine g_icmp_gt C 22 (by decide) hw dX7_isBetween_15 (fun hw => ?_) (fun hw => ?_)
    · refine g_iconst (v := (0 : Int32)) C dX7_isBetween_22 (by decide) ?_
      exact gq_Z C F (by decide) (by decide) hw dX7_isBetween_23
    · refine g_iconst (v := (1 : Int32)) C dX7_isBetween_18 (by decide) ?_
      refine g_goto C 23 (by decide) dX7_isBetween_19 ?_
      exact gq_Z C F (by decide) (by decide) hw dX7_isBetween_23
set_option maxHeartbeats 4000000 in
set_option maxRecDepth 100000 in
theorem c_X7_isWireLetter (l : Launch) (D : va_G) (cy : Nat → ClassId) (A : Nat → Nat) {σ : St} {v1 : Int32} {Φ : Int32 → St → Prop} (hw : wX7_isWireLetter σ v1 Φ) : CtI l yX7_isWireLetter (.code yX7_isWireLetter cX7_isWireLetter 2 (some .boolean) :: gL) rm_X7_isWireLetter 0 0 [.ref (A 1), .int v1] D cy A σ Φ := by
  refine ct_any (fun sz => va_Qi Φ (HE D cy A (gZ cy A σ sz)) (gZ cy A σ sz)) (by decide +kernel) rfl rfl [(0, .ref (A 1)), (1, .int v1)] rfl (Nat.le_of_ble_eq_true rfl) ?_
  intro κ hκl hnm C hK sz F
  subst hκl
  have J113 : ∀ (σ : St) (v1 : Int32), wX7_isWireLetter_113 Φ σ v1 → GW κ 0 0 (gW cy A σ) 113 [(0, .ref (A 1)), (1, .int v1)] [] := by
    intro σ v1 hw
    unfold wX7_isWireLetter_113 at hw
    refine g_aload_n C 0 rfl rfl dX7_isWireLetter_113 ?_
    refine g_iload_n C 1 rfl rfl dX7_isWireLetter_114 ?_
    refine g_bipush (v := (48 : Int32)) C dX7_isWireLetter_115 (by decide) ?_
    refine g_bipush (v := (57 : Int32)) C dX7_isWireLetter_117 (by decide) ?_
    refine gc_I C (gr_V (As := [.int v1, .int (48 : Int32), .int (57 : Int32)]) (rest := []) C hK 3 (gd_V wt_323 wt_324 wt_457 wt_2 wt_325) rfl rfl rfl ⟨rfl, hs_X7_isBetween⟩ ⟨⟨Nat.le_of_ble_eq_true rfl, Nat.le_of_ble_eq_true rfl⟩, Nat.le_of_ble_eq_true rfl, Nat.le_of_ble_eq_true rfl⟩ rfl 1 (ga_1 cy A _) rfl rfl (Nat.le_of_ble_eq_true rfl) dX7_isWireLetter_119 (c_X7_isBetween (q_l κ) (q_D κ) cy A hw)) (fun r14 σ13 hw => ?_)
    exact gq_Z C F (by decide) (by decide) hw dX7_isWireLetter_122
  have J103 : ∀ (σ : St) (v1 : Int32), wX7_isWireLetter_103 Φ σ v1 → GW κ 0 0 (gW cy A σ) 103 [(0, .ref (A 1)), (1, .int v1)] [] := by
    intro σ v1 hw
    unfold wX7_isWireLetter_103 at hw
    refine g_aload_n C 0 rfl rfl dX7_isWireLetter_103 ?_
    refine g_iload_n C 1 rfl rfl dX7_isWireLetter_104 ?_
    refine g_bipush (v := (49 : Int32)) C dX7_isWireLetter_105 (by decide) ?_
    refine g_bipush (v := (57 : Int32)) C dX7_isWireLetter_107 (by decide) ?_
    refine gc_I C (gr_V (As := [.int v1, .int (49 : Int32), .int (57 : Int32)]) (rest := []) C hK 3 (gd_V wt_323 wt_324 wt_457 wt_2 wt_325) rfl rfl rfl ⟨rfl, hs_X7_isBetween⟩ ⟨⟨Nat.le_of_ble_eq_true rfl, Nat.le_of_ble_eq_true rfl⟩, Nat.le_of_ble_eq_true rfl, Nat.le_of_ble_eq_true rfl⟩ rfl 1 (ga_1 cy A _) rfl rfl (Nat.le_of_ble_eq_true rfl) dX7_isWireLetter_109 (c_X7_isBetween (q_l κ) (q_D κ) cy A hw)) (fun r12 σ11 hw => ?_)
    exact gq_Z C F (by decide) (by decide) hw dX7_isWireLetter_112
  have J87 : ∀ (σ : St) (v1 : Int32), wX7_isWireLetter_87 Φ σ v1 → GW κ 0 0 (gW cy A σ) 87 [(0, .ref (A 1)), (1, .int v1)] [] := by
    intro σ v1 hw
    unfold wX7_isWireLetter_87 at hw
    refine g_aload_n C 0 rfl rfl dX7_isWireLetter_87 ?_
    refine g_iload_n C 1 rfl rfl dX7_isWireLetter_88 ?_
    refine gc_I C (gr_V (As := [.int v1]) (rest := []) C hK 1 (gd_V wt_326 wt_327 wt_328 wt_2 wt_329) rfl rfl rfl ⟨rfl, hs_X7_at⟩ ⟨⟨Nat.le_of_ble_eq_true rfl, Nat.le_of_ble_eq_true rfl⟩, Nat.le_of_ble_eq_true rfl, Nat.le_of_ble_eq_true rfl⟩ rfl 1 (ga_1 cy A _) rfl rfl (Nat.le_of_ble_eq_true rfl) dX7_isWireLetter_89 (c_X7_at (q_l κ) (q_D κ) cy A hw)) (fun r10 σ9 hw => ?_)
    refine g_bipush (v := (58 : Int32)) C dX7_isWireLetter_92 (by decide) ?_
    refine g_icmp_ne C 101 (by decide) hw dX7_isWireLetter_94 (fun hw => ?_) (fun hw => ?_)
    · refine g_iconst (v := (0 : Int32)) C dX7_isWireLetter_101 (by decide) ?_
      exact gq_Z C F (by decide) (by decide) hw dX7_isWireLetter_102
    · refine g_iconst (v := (1 : Int32)) C dX7_isWireLetter_97 (by decide) ?_
      refine g_goto C 102 (by decide) dX7_isWireLetter_98 ?_
      exact gq_Z C F (by decide) (by decide) hw dX7_isWireLetter_102
  have J83 : ∀ (σ : St) (s0 : Int32) (s1 : Int32) (s2 : Int32), wX7_isWireLetter_83 Φ σ s0 s1 s2 → GW κ 0 0 (gW cy A σ) 83 [] [.int s0, .int s1, .int s2, .ref (A 1)] := by
    intro σ s0 s1 s2 hw
    unfold wX7_isWireLetter_83 at hw
    refine gc_I C (gr_V (As := [.int s2, .int s1, .int s0]) (rest := []) C hK 3 (gd_V wt_323 wt_324 wt_457 wt_2 wt_325) rfl rfl rfl ⟨rfl, hs_X7_isBetween⟩ ⟨⟨Nat.le_of_ble_eq_true rfl, Nat.le_of_ble_eq_true rfl⟩, Nat.le_of_ble_eq_true rfl, Nat.le_of_ble_eq_true rfl⟩ rfl 1 (ga_1 cy A _) rfl rfl (Nat.le_of_ble_eq_true rfl) dX7_isWireLetter_83 (c_X7_isBetween (q_l κ) (q_D κ) cy A hw)) (fun r8 σ7 hw => ?_)
    exact gq_Z C F (by decide) (by decide) hw dX7_isWireLetter_86
  unfold wX7_isWireLetter at hw
  refine g_iload_n C 1 rfl rfl dX7_isWireLetter_0 ?_
  by_cases h9 : v1.toInt < 0 ∨ 8 < v1.toInt
  · refine g_swOut C 139 h9 (by decide) dX7_isWireLetter_1 ?_
    replace hw := hw.2.2.2.2.2.2.2.2.2 h9
    refine g_iconst (v := (0 : Int32)) C dX7_isWireLetter_139 (by decide) ?_
    exact gq_Z C F (by decide) (by decide) hw dX7_isWireLetter_140
  · rcases (show v1.toInt = 0 ∨ v1.toInt = 1 ∨ v1.toInt = 2 ∨ v1.toInt = 3 ∨ v1.toInt = 4 ∨ v1.toInt = 5 ∨ v1.toInt = 6 ∨ v1.toInt = 7 ∨ v1.toInt = 8 by omega) with e9 | e9 | e9 | e9 | e9 | e9 | e9 | e9 | e9
    · refine g_swIn (off := 51) C 0 52 e9 (by decide) (by decide) (by decide) (by decide) dX7_isWireLetter_1 ?_
      replace hw := hw.1 (Int32.toInt_inj.mp (e9.trans (by decide)))
      refine g_aload_n C 0 rfl rfl dX7_isWireLetter_52 ?_
      refine g_iload_n C 1 rfl rfl dX7_isWireLetter_53 ?_
      refine g_bipush (v := (49 : Int32)) C dX7_isWireLetter_54 (by decide) ?_
      refine g_bipush (v := (52 : Int32)) C dX7_isWireLetter_56 (by decide) ?_
      refine gc_I C (gr_V (As := [.int v1, .int (49 : Int32), .int (52 : Int32)]) (rest := []) C hK 3 (gd_V wt_323 wt_324 wt_457 wt_2 wt_325) rfl rfl rfl ⟨rfl, hs_X7_isBetween⟩ ⟨⟨Nat.le_of_ble_eq_true rfl, Nat.le_of_ble_eq_true rfl⟩, Nat.le_of_ble_eq_true rfl, Nat.le_of_ble_eq_true rfl⟩ rfl 1 (ga_1 cy A _) rfl rfl (Nat.le_of_ble_eq_true rfl) dX7_isWireLetter_58 (c_X7_isBetween (q_l κ) (q_D κ) cy A hw)) (fun r2 σ1 hw => ?_)
      exact gq_Z C F (by decide) (by decide) hw dX7_isWireLetter_61
    · refine g_swIn (off := 61) C 1 62 e9 (by decide) (by decide) (by decide) (by decide) dX7_isWireLetter_1 ?_
      replace hw := hw.2.1 (Int32.toInt_inj.mp (e9.trans (by decide)))
      refine g_aload_n C 0 rfl rfl dX7_isWireLetter_62 ?_
      refine g_iload_n C 1 rfl rfl dX7_isWireLetter_63 ?_
      refine g_bipush (v := (48 : Int32)) C dX7_isWireLetter_64 (by decide) ?_
      refine g_aload_n C 0 rfl rfl dX7_isWireLetter_66 ?_
      refine g_iconst (v := (0 : Int32)) C dX7_isWireLetter_67 (by decide) ?_
      refine gc_I C (gr_V (As := [.int (0 : Int32)]) (rest := [.int (48 : Int32), .int v1, .ref (A 1)]) C hK 1 (gd_V wt_326 wt_327 wt_328 wt_2 wt_329) rfl rfl rfl ⟨rfl, hs_X7_at⟩ ⟨⟨Nat.le_of_ble_eq_true rfl, Nat.le_of_ble_eq_true rfl⟩, Nat.le_of_ble_eq_true rfl, Nat.le_of_ble_eq_true rfl⟩ rfl 1 (ga_1 cy A _) rfl rfl (Nat.le_of_ble_eq_true rfl) dX7_isWireLetter_68 (c_X7_at (q_l κ) (q_D κ) cy A hw)) (fun r4 σ3 hw => ?_)
      refine g_bipush (v := (52 : Int32)) C dX7_isWireLetter_71 (by decide) ?_
      refine g_icmp_ne C 81 (by decide) hw dX7_isWireLetter_73 (fun hw => ?_) (fun hw => ?_)
      · refine g_bipush (v := (57 : Int32)) C dX7_isWireLetter_81 (by decide) ?_
        refine g_eql (lv' := []) [] rfl ?_
        exact J83 σ3 (57 : Int32) (48 : Int32) v1 hw
      · refine g_bipush (v := (48 : Int32)) C dX7_isWireLetter_76 (by decide) ?_
        refine g_goto C 83 (by decide) dX7_isWireLetter_78 ?_
        refine g_eql (lv' := []) [] rfl ?_
        exact J83 σ3 (48 : Int32) (48 : Int32) v1 hw
    · refine g_swIn (off := 86) C 2 87 e9 (by decide) (by decide) (by decide) (by decide) dX7_isWireLetter_1 ?_
      replace hw := hw.2.2.1 (Int32.toInt_inj.mp (e9.trans (by decide)))
      exact J87 σ v1 hw
    · refine g_swIn (off := 102) C 3 103 e9 (by decide) (by decide) (by decide) (by decide) dX7_isWireLetter_1 ?_
      replace hw := hw.2.2.2.1 (Int32.toInt_inj.mp (e9.trans (by decide)))
      exact J103 σ v1 hw
    · refine g_swIn (off := 86) C 4 87 e9 (by decide) (by decide) (by decide) (by decide) dX7_isWireLetter_1 ?_
      replace hw := hw.2.2.2.2.1 (Int32.toInt_inj.mp (e9.trans (by decide)))
      exact J87 σ v1 hw
    · refine g_swIn (off := 102) C 5 103 e9 (by decide) (by decide) (by decide) (by decide) dX7_isWireLetter_1 ?_
      replace hw := hw.2.2.2.2.2.1 (Int32.toInt_inj.mp (e9.trans (by decide)))
      exact J103 σ v1 hw
    · refine g_swIn (off := 112) C 6 113 e9 (by decide) (by decide) (by decide) (by decide) dX7_isWireLetter_1 ?_
      replace hw := hw.2.2.2.2.2.2.1 (Int32.toInt_inj.mp (e9.trans (by decide)))
      exact J113 σ v1 hw
    · refine g_swIn (off := 112) C 7 113 e9 (by decide) (by decide) (by decide) (by decide) dX7_isWireLetter_1 ?_
      replace hw := hw.2.2.2.2.2.2.2.1 (Int32.toInt_inj.mp (e9.trans (by decide)))
      exact J113 σ v1 hw
    · refine g_swIn (off := 122) C 8 123 e9 (by decide) (by decide) (by decide) (by decide) dX7_isWireLetter_1 ?_
      replace hw := hw.2.2.2.2.2.2.2.2.1 (Int32.toInt_inj.mp (e9.trans (by decide)))
      refine g_aload_n C 0 rfl rfl dX7_isWireLetter_123 ?_
      refine g_iload_n C 1 rfl rfl dX7_isWireLetter_124 ?_
      refine gc_I C (gr_V (As := [.int v1]) (rest := []) C hK 1 (gd_V wt_326 wt_327 wt_328 wt_2 wt_329) rfl rfl rfl ⟨rfl, hs_X7_at⟩ ⟨⟨Nat.le_of_ble_eq_true rfl, Nat.le_of_ble_eq_true rfl⟩, Nat.le_of_ble_eq_true rfl, Nat.le_of_ble_eq_true rfl⟩ rfl 1 (ga_1 cy A _) rfl rfl (Nat.le_of_ble_eq_true rfl) dX7_isWireLetter_125 (c_X7_at (q_l κ) (q_D κ) cy A hw)) (fun r6 σ5 hw => ?_)
      refine g_bipush (v := (111 : Int32)) C dX7_isWireLetter_128 (by decide) ?_
      refine g_icmp_ne C 137 (by decide) hw dX7_isWireLetter_130 (fun hw => ?_) (fun hw => ?_)
      · refine g_iconst (v := (0 : Int32)) C dX7_isWireLetter_137 (by decide) ?_
        exact gq_Z C F (by decide) (by decide) hw dX7_isWireLetter_138
      · refine g_iconst (v := (1 : Int32)) C dX7_isWireLetter_133 (by decide) ?_
        refine g_goto C 138 (by decide) dX7_isWireLetter_134 ?_
        exact gq_Z C F (by decide) (by decide) hw dX7_isWireLetter_138
set_option maxHeartbeats 4000000 in
set_option maxRecDepth 100000 in
theorem c_X7_firstWrong (l : Launch) (D : va_G) (cy : Nat → ClassId) (A : Nat → Nat) {σ : St} {Φ : Int32 → St → Prop} (hw : wX7_firstWrong σ Φ) : CtI l yX7_firstWrong (.code yX7_firstWrong cX7_firstWrong 2 (some .int) :: gL) rm_X7_firstWrong 0 0 [.ref (A 1)] D cy A σ Φ := by
  refine ct_any (fun sz => va_Qi Φ (HE D cy A (gZ cy A σ sz)) (gZ cy A σ sz)) (by decide +kernel) rfl rfl [(0, .ref (A 1))] rfl (Nat.le_of_ble_eq_true rfl) ?_
  intro κ hκl hnm C hK sz F
  subst hκl
  have J2 : ∀ (n : Nat) (σ : St) (v1 : Int32), wX7_firstWrong_2 Φ n σ v1 → GW κ 0 0 (gW cy A σ) 2 [(0, .ref (A 1)), (1, .int v1)] [] := by
    intro n
    induction n with
    | zero => intro σ v1 hw; exact hw.elim
    | succ n ih =>
      intro σ v1 hw
      rw [wX7_firstWrong_2] at hw
      refine g_iload_n C 1 rfl rfl dX7_firstWrong_2 ?_
      refine g_aload_n C 0 rfl rfl dX7_firstWrong_3 ?_
      refine g_get C hK inX7 rfl 1 (ga_1 cy A _) 1 (by decide) (fun _ h => h) wt_28 rfl dX7_firstWrong_4 ?_
      refine g_icmp_ge C 26 (by decide) hw dX7_firstWrong_7 (fun hw => ?_) (fun hw => ?_)
      · refine g_aload_n C 0 rfl rfl dX7_firstWrong_26 ?_
        refine g_get C hK inX7 rfl 1 (ga_1 cy A _) 1 (by decide) (fun _ h => h) wt_28 rfl dX7_firstWrong_27 ?_
        exact gq_I C F (by decide) (by decide) hw dX7_firstWrong_30
      · refine g_aload_n C 0 rfl rfl dX7_firstWrong_10 ?_
        refine g_iload_n C 1 rfl rfl dX7_firstWrong_11 ?_
        refine gc_I C (gr_V (As := [.int v1]) (rest := []) C hK 1 (gd_V wt_320 wt_321 wt_456 wt_2 wt_322) rfl rfl rfl ⟨rfl, hs_X7_isWireLetter⟩ ⟨⟨Nat.le_of_ble_eq_true rfl, Nat.le_of_ble_eq_true rfl⟩, Nat.le_of_ble_eq_true rfl, Nat.le_of_ble_eq_true rfl⟩ rfl 1 (ga_1 cy A _) rfl rfl (Nat.le_of_ble_eq_true rfl) dX7_firstWrong_12 (c_X7_isWireLetter (q_l κ) (q_D κ) cy A hw)) (fun r2 σ1 hw => ?_)
        refine g_if_ne C 20 (by decide) hw dX7_firstWrong_15 (fun hw => ?_) (fun hw => ?_)
        · refine g_iinc (j := 1) C [(1, .int (v1 + 1)), (0, .ref (A 1))] F.2.2.2.1 rfl rfl (by decide) rfl dX7_firstWrong_20 ?_
          refine g_goto C 2 (by decide) dX7_firstWrong_23 ?_
          refine g_eql (lv' := [(0, .ref (A 1)), (1, .int (v1 + 1))]) [1, 0] rfl ?_
          exact ih σ1 (v1 + 1) hw
        · refine g_iload_n C 1 rfl rfl dX7_firstWrong_18 ?_
          exact gq_I C F (by decide) (by decide) hw dX7_firstWrong_19
  unfold wX7_firstWrong at hw
  refine g_iconst (v := (0 : Int32)) C dX7_firstWrong_0 (by decide) ?_
  refine g_istore_n C [(1, .int (0 : Int32)), (0, .ref (A 1))] F.2.2.2.1 rfl (by decide) rfl dX7_firstWrong_1 ?_
  refine g_eql (lv' := [(0, .ref (A 1)), (1, .int (0 : Int32))]) [1, 0] rfl ?_
  obtain ⟨n0, hw⟩ := hw
  exact J2 n0 σ (0 : Int32) hw
set_option maxHeartbeats 4000000 in
set_option maxRecDepth 100000 in
theorem c_X7_isWire (l : Launch) (D : va_G) (cy : Nat → ClassId) (A : Nat → Nat) {σ : St} {Φ : Int32 → St → Prop} (hw : wX7_isWire σ Φ) : CtI l yX7_isWire (.code yX7_isWire cX7_isWire 1 (some .boolean) :: gL) rm_X7_isWire 0 0 [.ref (A 1)] D cy A σ Φ := by
  refine ct_any (fun sz => va_Qi Φ (HE D cy A (gZ cy A σ sz)) (gZ cy A σ sz)) (by decide +kernel) rfl rfl [(0, .ref (A 1))] rfl (Nat.le_of_ble_eq_true rfl) ?_
  intro κ hκl hnm C hK sz F
  subst hκl
  unfold wX7_isWire at hw
  refine g_aload_n C 0 rfl rfl dX7_isWire_0 ?_
  refine g_get C hK inX7 rfl 1 (ga_1 cy A _) 1 (by decide) (fun _ h => h) wt_28 rfl dX7_isWire_1 ?_
  refine g_bipush (v := (8 : Int32)) C dX7_isWire_4 (by decide) ?_
  refine g_icmp_lt C 24 (by decide) hw dX7_isWire_6 (fun hw => ?_) (fun hw => ?_)
  · refine g_iconst (v := (0 : Int32)) C dX7_isWire_24 (by decide) ?_
    exact gq_Z C F (by decide) (by decide) hw dX7_isWire_25
  · refine g_aload_n C 0 rfl rfl dX7_isWire_9 ?_
    refine gc_I C (gr_V (As := []) (rest := []) C hK 0 (gd_V wt_338 wt_317 wt_318 wt_2 wt_319) rfl rfl rfl ⟨rfl, hs_X7_firstWrong⟩ ⟨⟨Nat.le_of_ble_eq_true rfl, Nat.le_of_ble_eq_true rfl⟩, Nat.le_of_ble_eq_true rfl, Nat.le_of_ble_eq_true rfl⟩ rfl 1 (ga_1 cy A _) rfl rfl (Nat.le_of_ble_eq_true rfl) dX7_isWire_10 (c_X7_firstWrong (q_l κ) (q_D κ) cy A hw)) (fun r2 σ1 hw => ?_)
    refine g_aload_n C 0 rfl rfl dX7_isWire_13 ?_
    refine g_get C hK inX7 rfl 1 (ga_1 cy A _) 1 (by decide) (fun _ h => h) wt_28 rfl dX7_isWire_14 ?_
    refine g_icmp_ne C 24 (by decide) hw dX7_isWire_17 (fun hw => ?_) (fun hw => ?_)
    · refine g_iconst (v := (0 : Int32)) C dX7_isWire_24 (by decide) ?_
      exact gq_Z C F (by decide) (by decide) hw dX7_isWire_25
    · refine g_iconst (v := (1 : Int32)) C dX7_isWire_20 (by decide) ?_
      refine g_goto C 25 (by decide) dX7_isWire_21 ?_
      exact gq_Z C F (by decide) (by decide) hw dX7_isWire_25
set_option maxHeartbeats 4000000 in
set_option maxRecDepth 100000 in
theorem c_X9_kind (l : Launch) (D : va_G) (cy : Nat → ClassId) (A : Nat → Nat) {σ : St} {a0 : Nat} {Φ : Int32 → St → Prop} (hw : wX9_kind σ a0 Φ) : CtI l yX9_kind (.code yX9_kind cX9_kind 1 (some .int) :: gL) rm_X9_kind 0 0 [.ref a0] D cy A σ Φ := by
  refine ct_any (fun sz => va_Qi Φ (HE D cy A (gZ cy A σ sz)) (gZ cy A σ sz)) (by decide +kernel) rfl rfl [(0, .ref a0)] rfl (Nat.le_of_ble_eq_true rfl) ?_
  intro κ hκl hnm C hK sz F
  subst hκl
  unfold wX9_kind at hw
  refine g_iconst (v := (0 : Int32)) C dX9_kind_0 (by decide) ?_
  exact gq_I C F (by decide) (by decide) hw dX9_kind_1
set_option maxHeartbeats 4000000 in
set_option maxRecDepth 100000 in
theorem c_X9_goesAcross (l : Launch) (D : va_G) (cy : Nat → ClassId) (A : Nat → Nat) {σ : St} {a0 : Nat} {v1 : Int32} {Φ : Int32 → St → Prop} (hw : wX9_goesAcross σ a0 v1 Φ) : CtI l yX9_goesAcross (.code yX9_goesAcross cX9_goesAcross 2 (some .boolean) :: gL) rm_X9_goesAcross 0 0 [.ref a0, .int v1] D cy A σ Φ := by
  refine ct_any (fun sz => va_Qi Φ (HE D cy A (gZ cy A σ sz)) (gZ cy A σ sz)) (by decide +kernel) rfl rfl [(0, .ref a0), (1, .int v1)] rfl (Nat.le_of_ble_eq_true rfl) ?_
  intro κ hκl hnm C hK sz F
  subst hκl
  unfold wX9_goesAcross at hw
  refine g_iconst (v := (1 : Int32)) C dX9_goesAcross_0 (by decide) ?_
  exact gq_Z C F (by decide) (by decide) hw dX9_goesAcross_1
set_option maxHeartbeats 4000000 in
set_option maxRecDepth 100000 in
theorem c_X9_hoursHere (l : Launch) (D : va_G) (cy : Nat → ClassId) (A : Nat → Nat) {σ : St} {a0 : Nat} {v1 : Int32} {Φ : Int32 → St → Prop} (hw : wX9_hoursHere σ a0 v1 Φ) : CtI l yX9_hoursHere (.code yX9_hoursHere cX9_hoursHere 2 (some .int) :: gL) rm_X9_hoursHere 0 0 [.ref a0, .int v1] D cy A σ Φ := by
  refine ct_any (fun sz => va_Qi Φ (HE D cy A (gZ cy A σ sz)) (gZ cy A σ sz)) (by decide +kernel) rfl rfl [(0, .ref a0), (1, .int v1)] rfl (Nat.le_of_ble_eq_true rfl) ?_
  intro κ hκl hnm C hK sz F
  subst hκl
  unfold wX9_hoursHere at hw
  refine g_iload_n C 1 rfl rfl dX9_hoursHere_0 ?_
  refine g_aload_n C 0 rfl rfl dX9_hoursHere_1 ?_
  refine g_getT1 C hK hw.1 (fun _ h => h) wt_390 dX9_hoursHere_2 ?_
  replace hw := hw.2
  refine g_isub C dX9_hoursHere_5 ?_
  exact gq_I C F (by decide) (by decide) hw dX9_hoursHere_6
set_option maxHeartbeats 4000000 in
set_option maxRecDepth 100000 in
theorem c_X10_emptied (l : Launch) (D : va_G) (cy : Nat → ClassId) (A : Nat → Nat) {σ : St} {Φ : Int32 → St → Prop} (hw : wX10_emptied σ Φ) : CtI l yX10_emptied (.code yX10_emptied cX10_emptied 2 (some .int) :: gL) rm_X10_emptied 0 0 [.ref (A 7)] D cy A σ Φ := by
  refine ct_any (fun sz => va_Qi Φ (HE D cy A (gZ cy A σ sz)) (gZ cy A σ sz)) (by decide +kernel) rfl rfl [(0, .ref (A 7))] rfl (Nat.le_of_ble_eq_true rfl) ?_
  intro κ hκl hnm C hK sz F
  subst hκl
  unfold wX10_emptied at hw
  refine g_aload_n C 0 rfl rfl dX10_emptied_0 ?_
  refine g_get C hK inX10 rfl 7 (ga_7 cy A _) 2 (by decide) (fun _ h => h) wt_69 rfl dX10_emptied_1 ?_
  refine g_istore_n C [(1, .int (σ.1 7 2)), (0, .ref (A 7))] F.2.2.2.1 rfl (by decide) rfl dX10_emptied_4 ?_
  refine g_aload_n C 1 rfl rfl dX10_emptied_5 ?_
  refine g_iconst (v := (0 : Int32)) C dX10_emptied_6 (by decide) ?_
  refine g_put (v := .int (0 : Int32)) C hK inX10 rfl tyX10 tyX10_ok nmX10 7 (ga_7 cy A _) 2 (by decide) (fun _ h => h) wt_69 rfl rfl rfl (Nat.le_of_ble_eq_true rfl) (gp_7_2 cy A _ _) dX10_emptied_7 ?_
  refine g_iload_n C 0 rfl rfl dX10_emptied_10 ?_
  exact gq_I C F (by decide) (by decide) hw dX10_emptied_11
set_option maxHeartbeats 4000000 in
set_option maxRecDepth 100000 in
theorem c_X11_byteOf (l : Launch) (D : va_G) (cy : Nat → ClassId) (A : Nat → Nat) {σ : St} {v0 : Int64} {v2 : Int32} {Φ : Int32 → St → Prop} (hw : wX11_byteOf σ v0 v2 Φ) : CtI l yX11_byteOf (.code yX11_byteOf cX11_byteOf 3 (some .int) :: gL) rm_X11_byteOf 0 0 [.long v0, .int v2] D cy A σ Φ := by
  refine ct_any (fun sz => va_Qi Φ (HE D cy A (gZ cy A σ sz)) (gZ cy A σ sz)) (by decide +kernel) rfl rfl [(0, .long v0), (2, .int v2)] rfl (Nat.le_of_ble_eq_true rfl) ?_
  intro κ hκl hnm C hK sz F
  subst hκl
  unfold wX11_byteOf at hw
  refine g_lload_n C 0 rfl rfl dX11_byteOf_0 ?_
  refine g_bipush (v := (8 : Int32)) C dX11_byteOf_1 (by decide) ?_
  refine g_iload_n C 1 rfl rfl dX11_byteOf_3 ?_
  refine g_imul C dX11_byteOf_4 ?_
  refine g_lushr C dX11_byteOf_5 ?_
  refine g_l2i C dX11_byteOf_6 ?_
  refine g_sipush (v := (255 : Int32)) C dX11_byteOf_7 (by decide) ?_
  refine g_iand C dX11_byteOf_10 ?_
  exact gq_I C F (by decide) (by decide) hw dX11_byteOf_11
set_option maxHeartbeats 4000000 in
set_option maxRecDepth 100000 in
theorem c_X11_lettersIn (l : Launch) (D : va_G) (cy : Nat → ClassId) (A : Nat → Nat) {σ : St} {v0 : Int64} {Φ : Int32 → St → Prop} (hw : wX11_lettersIn σ v0 Φ) : CtI l yX11_lettersIn (.code yX11_lettersIn cX11_lettersIn 6 (some .int) :: gL) rm_X11_lettersIn 0 0 [.long v0] D cy A σ Φ := by
  refine ct_any (fun sz => va_Qi Φ (HE D cy A (gZ cy A σ sz)) (gZ cy A σ sz)) (by decide +kernel) rfl rfl [(0, .long v0)] rfl (Nat.le_of_ble_eq_true rfl) ?_
  intro κ hκl hnm C hK sz F
  subst hκl
  have J53 : ∀ (K7 : St → Int64 → Int32 → Int32 → Int32 → Prop) (_ : ∀ (σ : St) (v0 : Int64) (v2 : Int32) (v3 : Int32) (v4 : Int32), K7 σ v0 v2 v3 v4 → GW κ 0 0 (gW cy A σ) 7 [(0, .long v0), (2, .int v2), (3, .int v3), (4, .int v4)] []), ∀ (σ : St) (v0 : Int64) (v2 : Int32) (v3 : Int32) (v4 : Int32), wX11_lettersIn_53 K7 Φ σ v0 v2 v3 v4 → GW κ 0 0 (gW cy A σ) 53 [(0, .long v0), (2, .int v2), (3, .int v3), (4, .int v4)] [] := by
    intro K7 hK7 σ v0 v2 v3 v4 hw
    unfold wX11_lettersIn_53 at hw
    refine g_iinc (j := 3) C [(4, .int (v4 + 1)), (0, .long v0), (2, .int v2), (3, .int v3)] F.2.2.2.1 rfl rfl (by decide) rfl dX11_lettersIn_53 ?_
    refine g_goto C 7 (by decide) dX11_lettersIn_56 ?_
    refine g_eql (lv' := [(0, .long v0), (2, .int v2), (3, .int v3), (4, .int (v4 + 1))]) [1, 2, 3, 0] rfl ?_
    exact hK7 σ v0 v2 v3 (v4 + 1) hw
  have J40 : ∀ (K7 : St → Int64 → Int32 → Int32 → Int32 → Prop) (_ : ∀ (σ : St) (v0 : Int64) (v2 : Int32) (v3 : Int32) (v4 : Int32), K7 σ v0 v2 v3 v4 → GW κ 0 0 (gW cy A σ) 7 [(0, .long v0), (2, .int v2), (3, .int v3), (4, .int v4)] []), ∀ (σ : St) (v0 : Int64) (v2 : Int32) (v3 : Int32) (v4 : Int32) (v5 : Int32), wX11_lettersIn_40 K7 Φ σ v0 v2 v3 v4 v5 → GW κ 0 0 (gW cy A σ) 40 [(0, .long v0), (2, .int v2), (3, .int v3), (4, .int v4), (5, .int v5)] [] := by
    intro K7 hK7 σ v0 v2 v3 v4 v5 hw
    unfold wX11_lettersIn_40 at hw
    refine g_iload C 4 rfl dX11_lettersIn_40 ?_
    refine g_if_ne C 50 (by decide) hw dX11_lettersIn_42 (fun hw => ?_) (fun hw => ?_)
    · refine g_iinc (j := 1) C [(2, .int (v2 + 1)), (0, .long v0), (3, .int v3), (4, .int v4), (5, .int v5)] F.2.2.2.1 rfl rfl (by decide) rfl dX11_lettersIn_50 ?_
      refine g_eql (lv' := [(0, .long v0), (2, .int (v2 + 1)), (3, .int v3), (4, .int v4)]) [1, 0, 2, 3] rfl ?_
      exact J53 _ hK7 σ v0 (v2 + 1) v3 v4 hw
    · refine g_iconst (v := (1 : Int32)) C dX11_lettersIn_45 (by decide) ?_
      refine g_istore_n C [(3, .int (1 : Int32)), (0, .long v0), (2, .int v2), (4, .int v4), (5, .int v5)] F.2.2.2.1 rfl (by decide) rfl dX11_lettersIn_46 ?_
      refine g_goto C 53 (by decide) dX11_lettersIn_47 ?_
      refine g_eql (lv' := [(0, .long v0), (2, .int v2), (3, .int (1 : Int32)), (4, .int v4)]) [1, 2, 0, 3] rfl ?_
      exact J53 _ hK7 σ v0 v2 (1 : Int32) v4 hw
  have J7 : ∀ (n : Nat) (σ : St) (v0 : Int64) (v2 : Int32) (v3 : Int32) (v4 : Int32), wX11_lettersIn_7 Φ n σ v0 v2 v3 v4 → GW κ 0 0 (gW cy A σ) 7 [(0, .long v0), (2, .int v2), (3, .int v3), (4, .int v4)] [] := by
    intro n
    induction n with
    | zero => intro σ v0 v2 v3 v4 hw; exact hw.elim
    | succ n ih =>
      intro σ v0 v2 v3 v4 hw
      rw [wX11_lettersIn_7] at hw
      refine g_iload C 3 rfl dX11_lettersIn_7 ?_
      refine g_bipush (v := (8 : Int32)) C dX11_lettersIn_9 (by decide) ?_
      refine g_icmp_ge C 59 (by decide) hw dX11_lettersIn_11 (fun hw => ?_) (fun hw => ?_)
      · refine g_iload_n C 1 rfl rfl dX11_lettersIn_59 ?_
        exact gq_I C F (by decide) (by decide) hw dX11_lettersIn_60
      · refine g_lload_n C 0 rfl rfl dX11_lettersIn_14 ?_
        refine g_iload C 3 rfl dX11_lettersIn_15 ?_
        refine gc_I C (gr_S (As := [.long v0, .int v4]) (rest := []) C hK 2 (gd_S wt_301 wt_302 wt_1 wt_303) rfl rfl rfl hs_X11_byteOf ⟨⟨Nat.le_of_ble_eq_true rfl, Nat.le_of_ble_eq_true rfl⟩, Nat.le_of_ble_eq_true rfl, Nat.le_of_ble_eq_true rfl⟩ rfl rfl (Nat.le_of_ble_eq_true rfl) dX11_lettersIn_17 (c_X11_byteOf (q_l κ) (q_D κ) cy A hw)) (fun r2 σ1 hw => ?_)
        refine g_istore C [(5, .int r2), (0, .long v0), (2, .int v2), (3, .int v3), (4, .int v4)] F.2.2.2.1 (by decide) rfl dX11_lettersIn_20 ?_
        refine g_iload C 0 rfl dX11_lettersIn_22 ?_
        refine g_bipush (v := (126 : Int32)) C dX11_lettersIn_24 (by decide) ?_
        refine g_icmp_gt C 38 (by decide) hw dX11_lettersIn_26 (fun hw => ?_) (fun hw => ?_)
        · refine g_iconst (v := (-1 : Int32)) C dX11_lettersIn_38 (by decide) ?_
          exact gq_I C F (by decide) (by decide) hw dX11_lettersIn_39
        · refine g_iload_n C 3 rfl rfl dX11_lettersIn_29 ?_
          refine g_if_eq C 40 (by decide) hw dX11_lettersIn_30 (fun hw => ?_) (fun hw => ?_)
          · refine g_eql (lv' := [(0, .long v0), (2, .int v2), (3, .int v3), (4, .int v4), (5, .int r2)]) [1, 2, 3, 4, 0] rfl ?_
            exact J40 _ ih σ1 v0 v2 v3 v4 r2 hw
          · refine g_iload C 0 rfl dX11_lettersIn_33 ?_
            refine g_if_eq C 40 (by decide) hw dX11_lettersIn_35 (fun hw => ?_) (fun hw => ?_)
            · refine g_eql (lv' := [(0, .long v0), (2, .int v2), (3, .int v3), (4, .int v4), (5, .int r2)]) [1, 2, 3, 4, 0] rfl ?_
              exact J40 _ ih σ1 v0 v2 v3 v4 r2 hw
            · refine g_iconst (v := (-1 : Int32)) C dX11_lettersIn_38 (by decide) ?_
              exact gq_I C F (by decide) (by decide) hw dX11_lettersIn_39
  unfold wX11_lettersIn at hw
  refine g_iconst (v := (0 : Int32)) C dX11_lettersIn_0 (by decide) ?_
  refine g_istore_n C [(2, .int (0 : Int32)), (0, .long v0)] F.2.2.2.1 rfl (by decide) rfl dX11_lettersIn_1 ?_
  refine g_iconst (v := (0 : Int32)) C dX11_lettersIn_2 (by decide) ?_
  refine g_istore_n C [(3, .int (0 : Int32)), (2, .int (0 : Int32)), (0, .long v0)] F.2.2.2.1 rfl (by decide) rfl dX11_lettersIn_3 ?_
  refine g_iconst (v := (0 : Int32)) C dX11_lettersIn_4 (by decide) ?_
  refine g_istore C [(4, .int (0 : Int32)), (3, .int (0 : Int32)), (2, .int (0 : Int32)), (0, .long v0)] F.2.2.2.1 (by decide) rfl dX11_lettersIn_5 ?_
  refine g_eql (lv' := [(0, .long v0), (2, .int (0 : Int32)), (3, .int (0 : Int32)), (4, .int (0 : Int32))]) [3, 2, 1, 0] rfl ?_
  obtain ⟨n0, hw⟩ := hw
  exact J7 n0 σ v0 (0 : Int32) (0 : Int32) (0 : Int32) hw
set_option maxHeartbeats 4000000 in
set_option maxRecDepth 100000 in
theorem c_X11_letters (l : Launch) (D : va_G) (cy : Nat → ClassId) (A : Nat → Nat) {σ : St} {v1 : Int64} {Φ : Int32 → St → Prop} (hw : wX11_letters σ v1 Φ) : CtI l yX11_letters (.code yX11_letters cX11_letters 5 (some .int) :: gL) rm_X11_letters 0 0 [.ref (A 0), .long v1] D cy A σ Φ := by
  refine ct_any (fun sz => va_Qi Φ (HE D cy A (gZ cy A σ sz)) (gZ cy A σ sz)) (by decide +kernel) rfl rfl [(0, .ref (A 0)), (1, .long v1)] rfl (Nat.le_of_ble_eq_true rfl) ?_
  intro κ hκl hnm C hK sz F
  subst hκl
  have J29 : ∀ (n : Nat) (σ : St) (v1 : Int64) (v3 : Int32) (v4 : Int32), wX11_letters_29 Φ n σ v1 v3 v4 → GW κ 0 0 (gW cy A σ) 29 [(0, .ref (A 0)), (1, .long v1), (3, .int v3), (4, .int v4)] [] := by
    intro n
    induction n with
    | zero => intro σ v1 v3 v4 hw; exact hw.elim
    | succ n ih =>
      intro σ v1 v3 v4 hw
      rw [wX11_letters_29] at hw
      refine g_iload C 3 rfl dX11_letters_29 ?_
      refine g_iload_n C 2 rfl rfl dX11_letters_31 ?_
      refine g_icmp_ge C 55 (by decide) hw dX11_letters_32 (fun hw => ?_) (fun hw => ?_)
      · refine g_aload_n C 0 rfl rfl dX11_letters_55 ?_
        refine g_get C hK inX11 rfl 0 (ga_0 cy A _) 0 (by decide) (fun _ h => h) wt_85 rfl dX11_letters_56 ?_
        refine g_get C hK inX7 rfl 1 (ga_1 cy A _) 1 (by decide) (fun _ h => h) wt_29 rfl dX11_letters_59 ?_
        exact gq_I C F (by decide) (by decide) hw dX11_letters_62
      · refine g_aload_n C 0 rfl rfl dX11_letters_35 ?_
        refine g_get C hK inX11 rfl 0 (ga_0 cy A _) 0 (by decide) (fun _ h => h) wt_85 rfl dX11_letters_36 ?_
        refine g_lload_n C 1 rfl rfl dX11_letters_39 ?_
        refine g_iload C 3 rfl dX11_letters_40 ?_
        refine gc_I C (gr_S (As := [.long v1, .int v4]) (rest := [.ref (A 1)]) C hK 2 (gd_S wt_301 wt_302 wt_1 wt_303) rfl rfl rfl hs_X11_byteOf ⟨⟨Nat.le_of_ble_eq_true rfl, Nat.le_of_ble_eq_true rfl⟩, Nat.le_of_ble_eq_true rfl, Nat.le_of_ble_eq_true rfl⟩ rfl rfl (Nat.le_of_ble_eq_true rfl) dX11_letters_42 (c_X11_byteOf (q_l κ) (q_D κ) cy A hw)) (fun r6 σ5 hw => ?_)
        refine g_i2c C dX11_letters_45 ?_
        refine gc_V C (gr_V (As := [.int (r6.toUInt32 % 65536).toInt32]) (rest := []) C hK 1 (gd_V wt_308 wt_309 wt_310 wt_2 wt_311) rfl rfl rfl ⟨rfl, hs_X7_put⟩ ⟨⟨Nat.le_of_ble_eq_true rfl, Nat.le_of_ble_eq_true rfl⟩, Nat.le_of_ble_eq_true rfl, Nat.le_of_ble_eq_true rfl⟩ rfl 1 (ga_1 cy A _) rfl rfl (Nat.le_of_ble_eq_true rfl) dX11_letters_46 (c_X7_put (q_l κ) (q_D κ) cy A hw)) (fun σ7 hw => ?_)
        refine g_iinc (j := 3) C [(4, .int (v4 + 1)), (0, .ref (A 0)), (1, .long v1), (3, .int v3)] F.2.2.2.1 rfl rfl (by decide) rfl dX11_letters_49 ?_
        refine g_goto C 29 (by decide) dX11_letters_52 ?_
        refine g_eql (lv' := [(0, .ref (A 0)), (1, .long v1), (3, .int v3), (4, .int (v4 + 1))]) [1, 2, 3, 0] rfl ?_
        exact ih σ7 v1 v3 (v4 + 1) hw
  unfold wX11_letters at hw
  refine g_lload_n C 1 rfl rfl dX11_letters_0 ?_
  refine gc_I C (gr_S (As := [.long v1]) (rest := []) C hK 1 (gd_S wt_298 wt_299 wt_1 wt_300) rfl rfl rfl hs_X11_lettersIn ⟨⟨Nat.le_of_ble_eq_true rfl, Nat.le_of_ble_eq_true rfl⟩, Nat.le_of_ble_eq_true rfl, Nat.le_of_ble_eq_true rfl⟩ rfl rfl (Nat.le_of_ble_eq_true rfl) dX11_letters_1 (c_X11_lettersIn (q_l κ) (q_D κ) cy A hw)) (fun r2 σ1 hw => ?_)
  refine g_istore_n C [(3, .int r2), (0, .ref (A 0)), (1, .long v1)] F.2.2.2.1 rfl (by decide) rfl dX11_letters_4 ?_
  refine g_iload_n C 0 rfl rfl dX11_letters_5 ?_
  refine g_if_ge C 12 (by decide) hw dX11_letters_6 (fun hw => ?_) (fun hw => ?_)
  · refine g_aload_n C 1 rfl rfl dX11_letters_12 ?_
    refine g_get C hK inX11 rfl 0 (ga_0 cy A _) 0 (by decide) (fun _ h => h) wt_85 rfl dX11_letters_13 ?_
    refine g_iload_n C 0 rfl rfl dX11_letters_16 ?_
    refine gc_I C (gr_V (As := [.int r2]) (rest := []) C hK 1 (gd_V wt_304 wt_305 wt_306 wt_2 wt_307) rfl rfl rfl ⟨rfl, hs_X7_hasRoomFor⟩ ⟨⟨Nat.le_of_ble_eq_true rfl, Nat.le_of_ble_eq_true rfl⟩, Nat.le_of_ble_eq_true rfl, Nat.le_of_ble_eq_true rfl⟩ rfl 1 (ga_1 cy A _) rfl rfl (Nat.le_of_ble_eq_true rfl) dX11_letters_17 (c_X7_hasRoomFor (q_l κ) (q_D κ) cy A hw)) (fun r4 σ3 hw => ?_)
    refine g_if_ne C 26 (by decide) hw dX11_letters_20 (fun hw => ?_) (fun hw => ?_)
    · refine g_iconst (v := (0 : Int32)) C dX11_letters_26 (by decide) ?_
      refine g_istore C [(4, .int (0 : Int32)), (3, .int r2), (0, .ref (A 0)), (1, .long v1)] F.2.2.2.1 (by decide) rfl dX11_letters_27 ?_
      refine g_eql (lv' := [(0, .ref (A 0)), (1, .long v1), (3, .int r2), (4, .int (0 : Int32))]) [2, 3, 1, 0] rfl ?_
      obtain ⟨n0, hw⟩ := hw
      exact J29 n0 σ3 v1 r2 (0 : Int32) hw
    · refine g_bipush (v := (-104 : Int32)) C dX11_letters_23 (by decide) ?_
      exact gq_I C F (by decide) (by decide) hw dX11_letters_25
  · refine g_bipush (v := (-102 : Int32)) C dX11_letters_9 (by decide) ?_
    exact gq_I C F (by decide) (by decide) hw dX11_letters_11
set_option maxHeartbeats 4000000 in
set_option maxRecDepth 100000 in
theorem c_X11_fault (l : Launch) (D : va_G) (cy : Nat → ClassId) (A : Nat → Nat) {σ : St} {Φ : Int32 → St → Prop} (hw : wX11_fault σ Φ) : CtI l yX11_fault (.code yX11_fault cX11_fault 1 (some .int) :: gL) rm_X11_fault 0 0 [.ref (A 0)] D cy A σ Φ := by
  refine ct_any (fun sz => va_Qi Φ (HE D cy A (gZ cy A σ sz)) (gZ cy A σ sz)) (by decide +kernel) rfl rfl [(0, .ref (A 0))] rfl (Nat.le_of_ble_eq_true rfl) ?_
  intro κ hκl hnm C hK sz F
  subst hκl
  unfold wX11_fault at hw
  refine g_aload_n C 0 rfl rfl dX11_fault_0 ?_
  refine g_get C hK inX11 rfl 0 (ga_0 cy A _) 0 (by decide) (fun _ h => h) wt_85 rfl dX11_fault_1 ?_
  refine gc_I C (gr_V (As := []) (rest := []) C hK 0 (gd_V wt_316 wt_317 wt_318 wt_2 wt_319) rfl rfl rfl ⟨rfl, hs_X7_firstWrong⟩ ⟨⟨Nat.le_of_ble_eq_true rfl, Nat.le_of_ble_eq_true rfl⟩, Nat.le_of_ble_eq_true rfl, Nat.le_of_ble_eq_true rfl⟩ rfl 1 (ga_1 cy A _) rfl rfl (Nat.le_of_ble_eq_true rfl) dX11_fault_4 (c_X7_firstWrong (q_l κ) (q_D κ) cy A hw)) (fun r2 σ1 hw => ?_)
  exact gq_I C F (by decide) (by decide) hw dX11_fault_7
set_option maxHeartbeats 4000000 in
set_option maxRecDepth 100000 in
theorem c_X11_wire (l : Launch) (D : va_G) (cy : Nat → ClassId) (A : Nat → Nat) {σ : St} {Φ : Int32 → St → Prop} (hw : wX11_wire σ Φ) : CtI l yX11_wire (.code yX11_wire cX11_wire 1 (some .int) :: gL) rm_X11_wire 0 0 [.ref (A 0)] D cy A σ Φ := by
  refine ct_any (fun sz => va_Qi Φ (HE D cy A (gZ cy A σ sz)) (gZ cy A σ sz)) (by decide +kernel) rfl rfl [(0, .ref (A 0))] rfl (Nat.le_of_ble_eq_true rfl) ?_
  intro κ hκl hnm C hK sz F
  subst hκl
  unfold wX11_wire at hw
  refine g_aload_n C 0 rfl rfl dX11_wire_0 ?_
  refine g_get C hK inX11 rfl 0 (ga_0 cy A _) 0 (by decide) (fun _ h => h) wt_85 rfl dX11_wire_1 ?_
  refine gc_I C (gr_V (As := []) (rest := []) C hK 0 (gd_V wt_334 wt_335 wt_336 wt_2 wt_337) rfl rfl rfl ⟨rfl, hs_X7_isWire⟩ ⟨⟨Nat.le_of_ble_eq_true rfl, Nat.le_of_ble_eq_true rfl⟩, Nat.le_of_ble_eq_true rfl, Nat.le_of_ble_eq_true rfl⟩ rfl 1 (ga_1 cy A _) rfl rfl (Nat.le_of_ble_eq_true rfl) dX11_wire_4 (c_X7_isWire (q_l κ) (q_D κ) cy A hw)) (fun r2 σ1 hw => ?_)
  refine g_if_ne C 13 (by decide) hw dX11_wire_7 (fun hw => ?_) (fun hw => ?_)
  · refine g_aload_n C 0 rfl rfl dX11_wire_13 ?_
    refine g_get C hK inX11 rfl 0 (ga_0 cy A _) 1 (by decide) (fun _ h => h) wt_86 rfl dX11_wire_14 ?_
    refine g_aload_n C 0 rfl rfl dX11_wire_17 ?_
    refine g_get C hK inX11 rfl 0 (ga_0 cy A _) 0 (by decide) (fun _ h => h) wt_85 rfl dX11_wire_18 ?_
    refine gc_V C (gr_V (As := [.ref (A 1)]) (rest := []) C hK 1 (gd_V wt_339 wt_340 wt_341 wt_3 wt_342) rfl rfl rfl ⟨rfl, hs_X0_hang⟩ ⟨⟨Nat.le_of_ble_eq_true rfl, Nat.le_of_ble_eq_true rfl⟩, Nat.le_of_ble_eq_true rfl, Nat.le_of_ble_eq_true rfl⟩ rfl 3 (ga_3 cy A _) rfl rfl (Nat.le_of_ble_eq_true rfl) dX11_wire_21 (c_X0_hang (q_l κ) (q_D κ) cy A hC3 hw)) (fun σ3 hw => ?_)
    refine g_aload_n C 0 rfl rfl dX11_wire_24 ?_
    refine g_get C hK inX11 rfl 0 (ga_0 cy A _) 0 (by decide) (fun _ h => h) wt_85 rfl dX11_wire_25 ?_
    refine gc_I C (gr_V (As := []) (rest := []) C hK 0 (gd_V wt_347 wt_348 wt_349 wt_2 wt_350) rfl rfl rfl ⟨rfl, hs_X7_emptied⟩ ⟨⟨Nat.le_of_ble_eq_true rfl, Nat.le_of_ble_eq_true rfl⟩, Nat.le_of_ble_eq_true rfl, Nat.le_of_ble_eq_true rfl⟩ rfl 1 (ga_1 cy A _) rfl rfl (Nat.le_of_ble_eq_true rfl) dX11_wire_28 (c_X7_emptied (q_l κ) (q_D κ) cy A hw)) (fun r5 σ4 hw => ?_)
    refine g_pop C rfl dX11_wire_31 ?_
    refine g_aload_n C 0 rfl rfl dX11_wire_32 ?_
    refine g_get C hK inX11 rfl 0 (ga_0 cy A _) 2 (by decide) (fun _ h => h) wt_87 rfl dX11_wire_33 ?_
    refine g_iconst (v := (0 : Int32)) C dX11_wire_36 (by decide) ?_
    refine gc_V C (gr_V (As := [.int (0 : Int32)]) (rest := []) C hK 1 (gd_V wt_351 wt_352 wt_353 wt_4 wt_354) rfl rfl rfl ⟨rfl, hs_X6_cutTo⟩ ⟨⟨Nat.le_of_ble_eq_true rfl, Nat.le_of_ble_eq_true rfl⟩, Nat.le_of_ble_eq_true rfl, Nat.le_of_ble_eq_true rfl⟩ rfl 4 (ga_4 cy A _) rfl rfl (Nat.le_of_ble_eq_true rfl) dX11_wire_37 (c_X6_cutTo (q_l κ) (q_D κ) cy A hw)) (fun σ6 hw => ?_)
    refine g_aload_n C 0 rfl rfl dX11_wire_40 ?_
    refine g_get C hK inX11 rfl 0 (ga_0 cy A _) 3 (by decide) (fun _ h => h) wt_88 rfl dX11_wire_41 ?_
    refine gc_I C (gr_V (As := []) (rest := []) C hK 0 (gd_V wt_356 wt_357 wt_358 wt_5 wt_359) rfl rfl rfl ⟨rfl, hs_X10_emptied⟩ ⟨⟨Nat.le_of_ble_eq_true rfl, Nat.le_of_ble_eq_true rfl⟩, Nat.le_of_ble_eq_true rfl, Nat.le_of_ble_eq_true rfl⟩ rfl 7 (ga_7 cy A _) rfl rfl (Nat.le_of_ble_eq_true rfl) dX11_wire_44 (c_X10_emptied (q_l κ) (q_D κ) cy A hw)) (fun r8 σ7 hw => ?_)
    refine g_pop C rfl dX11_wire_47 ?_
    refine g_aload_n C 0 rfl rfl dX11_wire_48 ?_
    refine g_iconst (v := (0 : Int32)) C dX11_wire_49 (by decide) ?_
    refine g_put (v := .int (0 : Int32)) C hK inX11 rfl tyX11 tyX11_ok nmX11 0 (ga_0 cy A _) 8 (by decide) (fun _ h => h) wt_93 rfl (by rcases hw.1 with e | e <;> rw [e] <;> rfl) (by rcases hw.1 with e | e <;> rw [e] <;> rfl) (Nat.le_of_ble_eq_true rfl) (gp_0_8 cy A _ _) dX11_wire_50 ?_
    replace hw := hw.2
    refine g_aload_n C 0 rfl rfl dX11_wire_53 ?_
    refine g_dup C rfl dX11_wire_54 ?_
    refine g_get C hK inX11 rfl 0 (ga_0 cy A _) 9 (by decide) (fun _ h => h) wt_94 rfl dX11_wire_55 ?_
    refine g_iconst (v := (1 : Int32)) C dX11_wire_58 (by decide) ?_
    refine g_iadd C dX11_wire_59 ?_
    refine g_put (v := .int (((sV σ7 0 8 (0 : Int32)).1 0 9) + (1 : Int32))) C hK inX11 rfl tyX11 tyX11_ok nmX11 0 (ga_0 cy A _) 9 (by decide) (fun _ h => h) wt_94 rfl rfl rfl (Nat.le_of_ble_eq_true rfl) (gp_0_9 cy A _ _) dX11_wire_60 ?_
    refine g_aload_n C 0 rfl rfl dX11_wire_63 ?_
    refine g_get C hK inX11 rfl 0 (ga_0 cy A _) 1 (by decide) (fun _ h => h) wt_86 rfl dX11_wire_64 ?_
    refine g_get C hK inX0 rfl 3 (ga_3 cy A _) 1 (by decide) (fun _ h => h) wt_40 rfl dX11_wire_67 ?_
    exact gq_I C F (by decide) (by decide) hw dX11_wire_70
  · refine g_bipush (v := (-103 : Int32)) C dX11_wire_10 (by decide) ?_
    exact gq_I C F (by decide) (by decide) hw dX11_wire_12
