set_option maxHeartbeats 4000000 in
set_option maxRecDepth 100000 in
theorem c_X9_kind (l : Launch) (D : va_G) (cy : Nat → ClassId) (A : Nat → Nat) {σ : St} {a0 : Nat} {Φ : Int32 → St → Prop} (hw : wX9_kind σ a0 Φ) : CtI l yX9_kind (.code yX9_kind cX9_kind 1 (some .int) :: gL) rm_X9_kind 0 0 [.ref a0] D cy A σ Φ := by
  refine ct_any (fun sz => va_Qi Φ (HE D cy A (gZ cy A σ sz)) (gZ cy A σ sz)) (by decide +kernel) rfl rfl [(0, .ref a0)] rfl (Nat.le_of_ble_eq_true rfl) ?_
  intro κ hκl hnm C hK sz F
  subst hκl
  unfold wX9_kind at hw
  refine g_iconst (v := (0 : Int32)) C dX9_kind_0 (by decide) ?_
  exact gq_I C F (by decide) (by decide) hw dX9_kind_1
set_option maxHeartbeats 4000000 in
set_option maxRecDepth 100000 in
theorem c_X9_hoursHere (l : Launch) (D : va_G) (cy : Nat → ClassId) (A : Nat → Nat) {σ : St} {a0 : Nat} {v1 : Int32} {Φ : Int32 → St → Prop} (hw : wX9_hoursHere σ a0 v1 Φ) : CtI l yX9_hoursHere (.code yX9_hoursHere cX9_hoursHere 2 (some .int) :: gL) rm_X9_hoursHere 0 0 [.ref a0, .int v1] D cy A σ Φ := by
  refine ct_any (fun sz => va_Qi Φ (HE D cy A (gZ cy A σ sz)) (gZ cy A σ sz)) (by decide +kernel) rfl rfl [(0, .ref a0), (1, .int v1)] rfl (Nat.le_of_ble_eq_true rfl) ?_
  intro κ hκl hnm C hK sz F
  subst hκl
  unfold wX9_hoursHere at hw
  refine g_iload_n C 1 rfl rfl dX9_hoursHere_0 ?_
  refine g_aload_n C 0 rfl rfl dX9_hoursHere_1 ?_
  refine g_getT1 C hK hw.1 (fun _ h => h) wt_275 dX9_hoursHere_2 ?_
  replace hw := hw.2
  refine g_isub C dX9_hoursHere_5 ?_
  exact gq_I C F (by decide) (by decide) hw dX9_hoursHere_6
set_option maxHeartbeats 4000000 in
set_option maxRecDepth 100000 in
theorem c_X10_isFull (l : Launch) (D : va_G) (cy : Nat → ClassId) (A : Nat → Nat) {σ : St} {Φ : Int32 → St → Prop} (hw : wX10_isFull σ Φ) : CtI l yX10_isFull (.code yX10_isFull cX10_isFull 1 (some .boolean) :: gL) rm_X10_isFull 0 0 [.ref (A 7)] D cy A σ Φ := by
  refine ct_any (fun sz => va_Qi Φ (HE D cy A (gZ cy A σ sz)) (gZ cy A σ sz)) (by decide +kernel) rfl rfl [(0, .ref (A 7))] rfl (Nat.le_of_ble_eq_true rfl) ?_
  intro κ hκl hnm C hK sz F
  subst hκl
  unfold wX10_isFull at hw
  refine g_aload_n C 0 rfl rfl dX10_isFull_0 ?_
  refine g_get C hK inX10 rfl 7 (ga_7 cy A _) 2 (by decide) (fun _ h => h) wt_76 rfl dX10_isFull_1 ?_
  refine g_bipush (v := (6 : Int32)) C dX10_isFull_4 (by decide) ?_
  refine g_icmp_lt C 13 (by decide) hw dX10_isFull_6 (fun hw => ?_) (fun hw => ?_)
  · refine g_iconst (v := (0 : Int32)) C dX10_isFull_13 (by decide) ?_
    exact gq_Z C F (by decide) (by decide) hw dX10_isFull_14
  · refine g_iconst (v := (1 : Int32)) C dX10_isFull_9 (by decide) ?_
    refine g_goto C 14 (by decide) dX10_isFull_10 ?_
    exact gq_Z C F (by decide) (by decide) hw dX10_isFull_14
set_option maxHeartbeats 4000000 in
set_option maxRecDepth 100000 in
theorem c_X10_put (l : Launch) (D : va_G) (cy : Nat → ClassId) (A : Nat → Nat) {σ : St} {v1 : Int32} {v2 : Int32} {Φ : Int32 → St → Prop} (hw : wX10_put σ v1 v2 Φ) : CtI l yX10_put (.code yX10_put cX10_put 3 (some .int) :: gL) rm_X10_put 0 0 [.ref (A 7), .int v1, .int v2] D cy A σ Φ := by
  refine ct_any (fun sz => va_Qi Φ (HE D cy A (gZ cy A σ sz)) (gZ cy A σ sz)) (by decide +kernel) rfl rfl [(0, .ref (A 7)), (1, .int v1), (2, .int v2)] rfl (Nat.le_of_ble_eq_true rfl) ?_
  intro κ hκl hnm C hK sz F
  subst hκl
  unfold wX10_put at hw
  refine g_aload_n C 0 rfl rfl dX10_put_0 ?_
  refine g_get C hK inX10 rfl 7 (ga_7 cy A _) 2 (by decide) (fun _ h => h) wt_76 rfl dX10_put_1 ?_
  refine g_if_lt C 61 (by decide) hw dX10_put_4 (fun hw => ?_) (fun hw => ?_)
  · refine g_aload_n C 0 rfl rfl dX10_put_61 ?_
    refine g_get C hK inX10 rfl 7 (ga_7 cy A _) 2 (by decide) (fun _ h => h) wt_76 rfl dX10_put_62 ?_
    exact gq_I C F (by decide) (by decide) hw dX10_put_65
  · refine g_aload_n C 0 rfl rfl dX10_put_7 ?_
    refine g_get C hK inX10 rfl 7 (ga_7 cy A _) 2 (by decide) (fun _ h => h) wt_76 rfl dX10_put_8 ?_
    refine g_aload_n C 0 rfl rfl dX10_put_11 ?_
    refine g_get C hK inX10 rfl 7 (ga_7 cy A _) 0 (by decide) (fun _ h => h) wt_74 rfl dX10_put_12 ?_
    refine g_alen (v := 6) C hK 8 2 (ga_8 cy A _) rfl rfl dX10_put_15 ?_
    refine g_icmp_ge C 61 (by decide) hw dX10_put_16 (fun hw => ?_) (fun hw => ?_)
    · refine g_aload_n C 0 rfl rfl dX10_put_61 ?_
      refine g_get C hK inX10 rfl 7 (ga_7 cy A _) 2 (by decide) (fun _ h => h) wt_76 rfl dX10_put_62 ?_
      exact gq_I C F (by decide) (by decide) hw dX10_put_65
    · refine g_aload_n C 0 rfl rfl dX10_put_19 ?_
      refine g_get C hK inX10 rfl 7 (ga_7 cy A _) 2 (by decide) (fun _ h => h) wt_76 rfl dX10_put_20 ?_
      refine g_aload_n C 0 rfl rfl dX10_put_23 ?_
      refine g_get C hK inX10 rfl 7 (ga_7 cy A _) 1 (by decide) (fun _ h => h) wt_75 rfl dX10_put_24 ?_
      refine g_alen (v := 6) C hK 9 2 (ga_9 cy A _) rfl rfl dX10_put_27 ?_
      refine g_icmp_ge C 61 (by decide) hw dX10_put_28 (fun hw => ?_) (fun hw => ?_)
      · refine g_aload_n C 0 rfl rfl dX10_put_61 ?_
        refine g_get C hK inX10 rfl 7 (ga_7 cy A _) 2 (by decide) (fun _ h => h) wt_76 rfl dX10_put_62 ?_
        exact gq_I C F (by decide) (by decide) hw dX10_put_65
      · refine g_aload_n C 0 rfl rfl dX10_put_31 ?_
        refine g_get C hK inX10 rfl 7 (ga_7 cy A _) 0 (by decide) (fun _ h => h) wt_74 rfl dX10_put_32 ?_
        refine g_aload_n C 0 rfl rfl dX10_put_35 ?_
        refine g_get C hK inX10 rfl 7 (ga_7 cy A _) 2 (by decide) (fun _ h => h) wt_76 rfl dX10_put_36 ?_
        refine g_iload_n C 1 rfl rfl dX10_put_39 ?_
        refine g_iast C hK 8 2 (ga_8 cy A _) rfl hw.1 (gs_8 cy A _ _ _) dX10_put_40 ?_
        replace hw := hw.2
        refine g_aload_n C 0 rfl rfl dX10_put_41 ?_
        refine g_get C hK inX10 rfl 7 (ga_7 cy A _) 1 (by decide) (fun _ h => h) wt_75 rfl dX10_put_42 ?_
        refine g_aload_n C 0 rfl rfl dX10_put_45 ?_
        refine g_get C hK inX10 rfl 7 (ga_7 cy A _) 2 (by decide) (fun _ h => h) wt_76 rfl dX10_put_46 ?_
        refine g_iload_n C 2 rfl rfl dX10_put_49 ?_
        refine g_iast C hK 9 2 (ga_9 cy A _) rfl hw.1 (gs_9 cy A _ _ _) dX10_put_50 ?_
        replace hw := hw.2
        refine g_aload_n C 0 rfl rfl dX10_put_51 ?_
        refine g_dup C rfl dX10_put_52 ?_
        refine g_get C hK inX10 rfl 7 (ga_7 cy A _) 2 (by decide) (fun _ h => h) wt_76 rfl dX10_put_53 ?_
        refine g_iconst (v := (1 : Int32)) C dX10_put_56 (by decide) ?_
        refine g_iadd C dX10_put_57 ?_
        refine g_put (v := .int (((sV (sV σ 8 (σ.1 7 2).toNatClampNeg v1) 9 ((sV σ 8 (σ.1 7 2).toNatClampNeg v1).1 7 2).toNatClampNeg v2).1 7 2) + (1 : Int32))) C hK inX10 rfl tyX10 tyX10_ok nmX10 7 (ga_7 cy A _) 2 (by decide) (fun _ h => h) wt_76 rfl rfl rfl (Nat.le_of_ble_eq_true rfl) (gp_7_2 cy A _ _) dX10_put_58 ?_
        refine g_aload_n C 0 rfl rfl dX10_put_61 ?_
        refine g_get C hK inX10 rfl 7 (ga_7 cy A _) 2 (by decide) (fun _ h => h) wt_76 rfl dX10_put_62 ?_
        exact gq_I C F (by decide) (by decide) hw dX10_put_65
set_option maxHeartbeats 4000000 in
set_option maxRecDepth 100000 in
theorem c_X10_emptied (l : Launch) (D : va_G) (cy : Nat → ClassId) (A : Nat → Nat) {σ : St} {Φ : Int32 → St → Prop} (hw : wX10_emptied σ Φ) : CtI l yX10_emptied (.code yX10_emptied cX10_emptied 2 (some .int) :: gL) rm_X10_emptied 0 0 [.ref (A 7)] D cy A σ Φ := by
  refine ct_any (fun sz => va_Qi Φ (HE D cy A (gZ cy A σ sz)) (gZ cy A σ sz)) (by decide +kernel) rfl rfl [(0, .ref (A 7))] rfl (Nat.le_of_ble_eq_true rfl) ?_
  intro κ hκl hnm C hK sz F
  subst hκl
  unfold wX10_emptied at hw
  refine g_aload_n C 0 rfl rfl dX10_emptied_0 ?_
  refine g_get C hK inX10 rfl 7 (ga_7 cy A _) 2 (by decide) (fun _ h => h) wt_76 rfl dX10_emptied_1 ?_
  refine g_istore_n C [(1, .int (σ.1 7 2)), (0, .ref (A 7))] F.2.2.2.1 rfl (by decide) rfl dX10_emptied_4 ?_
  refine g_aload_n C 1 rfl rfl dX10_emptied_5 ?_
  refine g_iconst (v := (0 : Int32)) C dX10_emptied_6 (by decide) ?_
  refine g_put (v := .int (0 : Int32)) C hK inX10 rfl tyX10 tyX10_ok nmX10 7 (ga_7 cy A _) 2 (by decide) (fun _ h => h) wt_76 rfl rfl rfl (Nat.le_of_ble_eq_true rfl) (gp_7_2 cy A _ _) dX10_emptied_7 ?_
  refine g_iload_n C 0 rfl rfl dX10_emptied_10 ?_
  exact gq_I C F (by decide) (by decide) hw dX10_emptied_11
set_option maxHeartbeats 4000000 in
set_option maxRecDepth 100000 in
theorem c_J9_max_7cf53 (l : Launch) (D : va_G) (cy : Nat → ClassId) (A : Nat → Nat) {σ : St} {v0 : Int32} {v1 : Int32} {Φ : Int32 → St → Prop} (hw : wJ9_max_7cf53 σ v0 v1 Φ) : CtI l yJ9_max_7cf53 (.code yJ9_max_7cf53 cJ9_max_7cf53 2 (some .int) :: gL) rm_J9_max_7cf53 0 0 [.int v0, .int v1] D cy A σ Φ := by
  refine ct_any (fun sz => va_Qi Φ (HE D cy A (gZ cy A σ sz)) (gZ cy A σ sz)) (by decide +kernel) rfl rfl [(0, .int v0), (1, .int v1)] rfl (Nat.le_of_ble_eq_true rfl) ?_
  intro κ hκl hnm C hK sz F
  subst hκl
  unfold wJ9_max_7cf53 at hw
  refine g_iload_n C 0 rfl rfl dJ9_max_7cf53_0 ?_
  refine g_iload_n C 1 rfl rfl dJ9_max_7cf53_1 ?_
  refine g_icmp_lt C 9 (by decide) hw dJ9_max_7cf53_2 (fun hw => ?_) (fun hw => ?_)
  · refine g_iload_n C 1 rfl rfl dJ9_max_7cf53_9 ?_
    exact gq_I C F (by decide) (by decide) hw dJ9_max_7cf53_10
  · refine g_iload_n C 0 rfl rfl dJ9_max_7cf53_5 ?_
    refine g_goto C 10 (by decide) dJ9_max_7cf53_6 ?_
    exact gq_I C F (by decide) (by decide) hw dJ9_max_7cf53_10
set_option maxHeartbeats 4000000 in
set_option maxRecDepth 100000 in
theorem c_X10_leastSpin (l : Launch) (D : va_G) (cy : Nat → ClassId) (A : Nat → Nat) {σ : St} {Φ : Int32 → St → Prop} (hw : wX10_leastSpin σ Φ) : CtI l yX10_leastSpin (.code yX10_leastSpin cX10_leastSpin 3 (some .int) :: gL) rm_X10_leastSpin 0 0 [.ref (A 7)] D cy A σ Φ := by
  refine ct_any (fun sz => va_Qi Φ (HE D cy A (gZ cy A σ sz)) (gZ cy A σ sz)) (by decide +kernel) rfl rfl [(0, .ref (A 7))] rfl (Nat.le_of_ble_eq_true rfl) ?_
  intro κ hκl hnm C hK sz F
  subst hκl
  have J4 : ∀ (n : Nat) (σ : St) (v1 : Int32) (v2 : Int32), wX10_leastSpin_4 Φ n σ v1 v2 → GW κ 0 0 (gW cy A σ) 4 [(0, .ref (A 7)), (1, .int v1), (2, .int v2)] [] := by
    intro n
    induction n with
    | zero => intro σ v1 v2 hw; exact hw.elim
    | succ n ih =>
      intro σ v1 v2 hw
      rw [wX10_leastSpin_4] at hw
      refine g_iload_n C 2 rfl rfl dX10_leastSpin_4 ?_
      refine g_aload_n C 0 rfl rfl dX10_leastSpin_5 ?_
      refine g_get C hK inX10 rfl 7 (ga_7 cy A _) 2 (by decide) (fun _ h => h) wt_76 rfl dX10_leastSpin_6 ?_
      refine g_icmp_ge C 61 (by decide) hw dX10_leastSpin_9 (fun hw => ?_) (fun hw => ?_)
      · refine g_iload_n C 1 rfl rfl dX10_leastSpin_61 ?_
        exact gq_I C F (by decide) (by decide) hw dX10_leastSpin_62
      · refine g_iload_n C 2 rfl rfl dX10_leastSpin_12 ?_
        refine g_aload_n C 0 rfl rfl dX10_leastSpin_13 ?_
        refine g_get C hK inX10 rfl 7 (ga_7 cy A _) 0 (by decide) (fun _ h => h) wt_74 rfl dX10_leastSpin_14 ?_
        refine g_alen (v := 6) C hK 8 2 (ga_8 cy A _) rfl rfl dX10_leastSpin_17 ?_
        refine g_icmp_ge C 61 (by decide) hw dX10_leastSpin_18 (fun hw => ?_) (fun hw => ?_)
        · refine g_iload_n C 1 rfl rfl dX10_leastSpin_61 ?_
          exact gq_I C F (by decide) (by decide) hw dX10_leastSpin_62
        · refine g_iload_n C 2 rfl rfl dX10_leastSpin_21 ?_
          refine g_aload_n C 0 rfl rfl dX10_leastSpin_22 ?_
          refine g_get C hK inX10 rfl 7 (ga_7 cy A _) 1 (by decide) (fun _ h => h) wt_75 rfl dX10_leastSpin_23 ?_
          refine g_alen (v := 6) C hK 9 2 (ga_9 cy A _) rfl rfl dX10_leastSpin_26 ?_
          refine g_icmp_ge C 61 (by decide) hw dX10_leastSpin_27 (fun hw => ?_) (fun hw => ?_)
          · refine g_iload_n C 1 rfl rfl dX10_leastSpin_61 ?_
            exact gq_I C F (by decide) (by decide) hw dX10_leastSpin_62
          · refine g_iload_n C 1 rfl rfl dX10_leastSpin_30 ?_
            refine g_aload_n C 0 rfl rfl dX10_leastSpin_31 ?_
            refine g_get C hK inX10 rfl 7 (ga_7 cy A _) 1 (by decide) (fun _ h => h) wt_75 rfl dX10_leastSpin_32 ?_
            refine g_iload_n C 2 rfl rfl dX10_leastSpin_35 ?_
            refine g_iald C hK 9 2 (ga_9 cy A _) rfl hw.1 dX10_leastSpin_36 ?_
            replace hw := hw.2
            refine g_aload_n C 0 rfl rfl dX10_leastSpin_37 ?_
            refine g_get C hK inX10 rfl 7 (ga_7 cy A _) 0 (by decide) (fun _ h => h) wt_74 rfl dX10_leastSpin_38 ?_
            refine g_iload_n C 2 rfl rfl dX10_leastSpin_41 ?_
            refine g_iald C hK 8 2 (ga_8 cy A _) rfl hw.1 dX10_leastSpin_42 ?_
            replace hw := hw.2
            refine g_imul C dX10_leastSpin_43 ?_
            refine g_aload_n C 0 rfl rfl dX10_leastSpin_44 ?_
            refine g_get C hK inX10 rfl 7 (ga_7 cy A _) 0 (by decide) (fun _ h => h) wt_74 rfl dX10_leastSpin_45 ?_
            refine g_iload_n C 2 rfl rfl dX10_leastSpin_48 ?_
            refine g_iald C hK 8 2 (ga_8 cy A _) rfl hw.1 dX10_leastSpin_49 ?_
            replace hw := hw.2
            refine g_imul C dX10_leastSpin_50 ?_
            refine gc_I C (gr_S (As := [.int v1, .int (((σ.1 9 v2.toNatClampNeg) * (σ.1 8 v2.toNatClampNeg)) * (σ.1 8 v2.toNatClampNeg))]) (rest := []) C hK 2 (gd_S wt_487 wt_488 wt_9 wt_489) rfl rfl rfl hs_J9_max_7cf53 ⟨⟨Nat.le_of_ble_eq_true rfl, Nat.le_of_ble_eq_true rfl⟩, Nat.le_of_ble_eq_true rfl, Nat.le_of_ble_eq_true rfl⟩ rfl rfl (Nat.le_of_ble_eq_true rfl) dX10_leastSpin_51 (c_J9_max_7cf53 (q_l κ) (q_D κ) cy A hw)) (fun r2 σ1 hw => ?_)
            refine g_istore_n C [(1, .int r2), (0, .ref (A 7)), (2, .int v2)] F.2.2.2.1 rfl (by decide) rfl dX10_leastSpin_54 ?_
            refine g_iinc (j := 2) C [(2, .int (v2 + 1)), (1, .int r2), (0, .ref (A 7))] F.2.2.2.1 rfl rfl (by decide) rfl dX10_leastSpin_55 ?_
            refine g_goto C 4 (by decide) dX10_leastSpin_58 ?_
            refine g_eql (lv' := [(0, .ref (A 7)), (1, .int r2), (2, .int (v2 + 1))]) [2, 1, 0] rfl ?_
            exact ih σ1 r2 (v2 + 1) hw
  unfold wX10_leastSpin at hw
  refine g_iconst (v := (1 : Int32)) C dX10_leastSpin_0 (by decide) ?_
  refine g_istore_n C [(1, .int (1 : Int32)), (0, .ref (A 7))] F.2.2.2.1 rfl (by decide) rfl dX10_leastSpin_1 ?_
  refine g_iconst (v := (0 : Int32)) C dX10_leastSpin_2 (by decide) ?_
  refine g_istore_n C [(2, .int (0 : Int32)), (1, .int (1 : Int32)), (0, .ref (A 7))] F.2.2.2.1 rfl (by decide) rfl dX10_leastSpin_3 ?_
  refine g_eql (lv' := [(0, .ref (A 7)), (1, .int (1 : Int32)), (2, .int (0 : Int32))]) [2, 1, 0] rfl ?_
  obtain ⟨n0, hw⟩ := hw
  exact J4 n0 σ (1 : Int32) (0 : Int32) hw
set_option maxHeartbeats 4000000 in
set_option maxRecDepth 100000 in
theorem c_X10_greatestSpin (l : Launch) (D : va_G) (cy : Nat → ClassId) (A : Nat → Nat) {σ : St} {Φ : Int32 → St → Prop} (hw : wX10_greatestSpin σ Φ) : CtI l yX10_greatestSpin (.code yX10_greatestSpin cX10_greatestSpin 3 (some .int) :: gL) rm_X10_greatestSpin 0 0 [.ref (A 7)] D cy A σ Φ := by
  refine ct_any (fun sz => va_Qi Φ (HE D cy A (gZ cy A σ sz)) (gZ cy A σ sz)) (by decide +kernel) rfl rfl [(0, .ref (A 7))] rfl (Nat.le_of_ble_eq_true rfl) ?_
  intro κ hκl hnm C hK sz F
  subst hκl
  have J6 : ∀ (n : Nat) (σ : St) (v1 : Int32) (v2 : Int32), wX10_greatestSpin_6 Φ n σ v1 v2 → GW κ 0 0 (gW cy A σ) 6 [(0, .ref (A 7)), (1, .int v1), (2, .int v2)] [] := by
    intro n
    induction n with
    | zero => intro σ v1 v2 hw; exact hw.elim
    | succ n ih =>
      intro σ v1 v2 hw
      rw [wX10_greatestSpin_6] at hw
      refine g_iload_n C 2 rfl rfl dX10_greatestSpin_6 ?_
      refine g_aload_n C 0 rfl rfl dX10_greatestSpin_7 ?_
      refine g_get C hK inX10 rfl 7 (ga_7 cy A _) 2 (by decide) (fun _ h => h) wt_76 rfl dX10_greatestSpin_8 ?_
      refine g_icmp_ge C 67 (by decide) hw dX10_greatestSpin_11 (fun hw => ?_) (fun hw => ?_)
      · refine g_iload_n C 1 rfl rfl dX10_greatestSpin_67 ?_
        exact gq_I C F (by decide) (by decide) hw dX10_greatestSpin_68
      · refine g_iload_n C 2 rfl rfl dX10_greatestSpin_14 ?_
        refine g_aload_n C 0 rfl rfl dX10_greatestSpin_15 ?_
        refine g_get C hK inX10 rfl 7 (ga_7 cy A _) 0 (by decide) (fun _ h => h) wt_74 rfl dX10_greatestSpin_16 ?_
        refine g_alen (v := 6) C hK 8 2 (ga_8 cy A _) rfl rfl dX10_greatestSpin_19 ?_
        refine g_icmp_ge C 67 (by decide) hw dX10_greatestSpin_20 (fun hw => ?_) (fun hw => ?_)
        · refine g_iload_n C 1 rfl rfl dX10_greatestSpin_67 ?_
          exact gq_I C F (by decide) (by decide) hw dX10_greatestSpin_68
        · refine g_iload_n C 2 rfl rfl dX10_greatestSpin_23 ?_
          refine g_aload_n C 0 rfl rfl dX10_greatestSpin_24 ?_
          refine g_get C hK inX10 rfl 7 (ga_7 cy A _) 1 (by decide) (fun _ h => h) wt_75 rfl dX10_greatestSpin_25 ?_
          refine g_alen (v := 6) C hK 9 2 (ga_9 cy A _) rfl rfl dX10_greatestSpin_28 ?_
          refine g_icmp_ge C 67 (by decide) hw dX10_greatestSpin_29 (fun hw => ?_) (fun hw => ?_)
          · refine g_iload_n C 1 rfl rfl dX10_greatestSpin_67 ?_
            exact gq_I C F (by decide) (by decide) hw dX10_greatestSpin_68
          · refine g_iload_n C 1 rfl rfl dX10_greatestSpin_32 ?_
            refine g_aload_n C 0 rfl rfl dX10_greatestSpin_33 ?_
            refine g_get C hK inX10 rfl 7 (ga_7 cy A _) 1 (by decide) (fun _ h => h) wt_75 rfl dX10_greatestSpin_34 ?_
            refine g_iload_n C 2 rfl rfl dX10_greatestSpin_37 ?_
            refine g_iald C hK 9 2 (ga_9 cy A _) rfl hw.1 dX10_greatestSpin_38 ?_
            replace hw := hw.2
            refine g_iconst (v := (1 : Int32)) C dX10_greatestSpin_39 (by decide) ?_
            refine g_iadd C dX10_greatestSpin_40 ?_
            refine g_aload_n C 0 rfl rfl dX10_greatestSpin_41 ?_
            refine g_get C hK inX10 rfl 7 (ga_7 cy A _) 0 (by decide) (fun _ h => h) wt_74 rfl dX10_greatestSpin_42 ?_
            refine g_iload_n C 2 rfl rfl dX10_greatestSpin_45 ?_
            refine g_iald C hK 8 2 (ga_8 cy A _) rfl hw.1 dX10_greatestSpin_46 ?_
            replace hw := hw.2
            refine g_imul C dX10_greatestSpin_47 ?_
            refine g_aload_n C 0 rfl rfl dX10_greatestSpin_48 ?_
            refine g_get C hK inX10 rfl 7 (ga_7 cy A _) 0 (by decide) (fun _ h => h) wt_74 rfl dX10_greatestSpin_49 ?_
            refine g_iload_n C 2 rfl rfl dX10_greatestSpin_52 ?_
            refine g_iald C hK 8 2 (ga_8 cy A _) rfl hw.1 dX10_greatestSpin_53 ?_
            replace hw := hw.2
            refine g_imul C dX10_greatestSpin_54 ?_
            refine g_iconst (v := (1 : Int32)) C dX10_greatestSpin_55 (by decide) ?_
            refine g_isub C dX10_greatestSpin_56 ?_
            refine gc_I C (gr_S (As := [.int v1, .int (((((σ.1 9 v2.toNatClampNeg) + (1 : Int32)) * (σ.1 8 v2.toNatClampNeg)) * (σ.1 8 v2.toNatClampNeg)) - (1 : Int32))]) (rest := []) C hK 2 (gd_S wt_494 wt_179 wt_9 wt_180) rfl rfl rfl hs_J9_min_7cf53 ⟨⟨Nat.le_of_ble_eq_true rfl, Nat.le_of_ble_eq_true rfl⟩, Nat.le_of_ble_eq_true rfl, Nat.le_of_ble_eq_true rfl⟩ rfl rfl (Nat.le_of_ble_eq_true rfl) dX10_greatestSpin_57 (c_J9_min_7cf53 (q_l κ) (q_D κ) cy A hw)) (fun r2 σ1 hw => ?_)
            refine g_istore_n C [(1, .int r2), (0, .ref (A 7)), (2, .int v2)] F.2.2.2.1 rfl (by decide) rfl dX10_greatestSpin_60 ?_
            refine g_iinc (j := 2) C [(2, .int (v2 + 1)), (1, .int r2), (0, .ref (A 7))] F.2.2.2.1 rfl rfl (by decide) rfl dX10_greatestSpin_61 ?_
            refine g_goto C 6 (by decide) dX10_greatestSpin_64 ?_
            refine g_eql (lv' := [(0, .ref (A 7)), (1, .int r2), (2, .int (v2 + 1))]) [2, 1, 0] rfl ?_
            exact ih σ1 r2 (v2 + 1) hw
  unfold wX10_greatestSpin at hw
  refine g_sipush (v := (14400 : Int32)) C dX10_greatestSpin_0 (by decide) ?_
  refine g_istore_n C [(1, .int (14400 : Int32)), (0, .ref (A 7))] F.2.2.2.1 rfl (by decide) rfl dX10_greatestSpin_3 ?_
  refine g_iconst (v := (0 : Int32)) C dX10_greatestSpin_4 (by decide) ?_
  refine g_istore_n C [(2, .int (0 : Int32)), (1, .int (14400 : Int32)), (0, .ref (A 7))] F.2.2.2.1 rfl (by decide) rfl dX10_greatestSpin_5 ?_
  refine g_eql (lv' := [(0, .ref (A 7)), (1, .int (14400 : Int32)), (2, .int (0 : Int32))]) [2, 1, 0] rfl ?_
  obtain ⟨n0, hw⟩ := hw
  exact J6 n0 σ (14400 : Int32) (0 : Int32) hw
set_option maxHeartbeats 4000000 in
set_option maxRecDepth 100000 in
theorem c_X11_byteOf (l : Launch) (D : va_G) (cy : Nat → ClassId) (A : Nat → Nat) {σ : St} {v0 : Int64} {v2 : Int32} {Φ : Int32 → St → Prop} (hw : wX11_byteOf σ v0 v2 Φ) : CtI l yX11_byteOf (.code yX11_byteOf cX11_byteOf 3 (some .int) :: gL) rm_X11_byteOf 0 0 [.long v0, .int v2] D cy A σ Φ := by
  refine ct_any (fun sz => va_Qi Φ (HE D cy A (gZ cy A σ sz)) (gZ cy A σ sz)) (by decide +kernel) rfl rfl [(0, .long v0), (2, .int v2)] rfl (Nat.le_of_ble_eq_true rfl) ?_
  intro κ hκl hnm C hK sz F
  subst hκl
  unfold wX11_byteOf at hw
  refine g_lload_n C 0 rfl rfl dX11_byteOf_0 ?_
  refine g_bipush (v := (8 : Int32)) C dX11_byteOf_1 (by decide) ?_
  refine g_iload_n C 1 rfl rfl dX11_byteOf_3 ?_
  refine g_imul C dX11_byteOf_4 ?_
  refine g_lushr C dX11_byteOf_5 ?_
  refine g_l2i C dX11_byteOf_6 ?_
  refine g_sipush (v := (255 : Int32)) C dX11_byteOf_7 (by decide) ?_
  refine g_iand C dX11_byteOf_10 ?_
  exact gq_I C F (by decide) (by decide) hw dX11_byteOf_11
set_option maxHeartbeats 4000000 in
set_option maxRecDepth 100000 in
theorem c_X11_lettersIn (l : Launch) (D : va_G) (cy : Nat → ClassId) (A : Nat → Nat) {σ : St} {v0 : Int64} {Φ : Int32 → St → Prop} (hw : wX11_lettersIn σ v0 Φ) : CtI l yX11_lettersIn (.code yX11_lettersIn cX11_lettersIn 6 (some .int) :: gL) rm_X11_lettersIn 0 0 [.long v0] D cy A σ Φ := by
  refine ct_any (fun sz => va_Qi Φ (HE D cy A (gZ cy A σ sz)) (gZ cy A σ sz)) (by decide +kernel) rfl rfl [(0, .long v0)] rfl (Nat.le_of_ble_eq_true rfl) ?_
  intro κ hκl hnm C hK sz F
  subst hκl
  have J53 : ∀ (K7 : St → Int64 → Int32 → Int32 → Int32 → Prop) (_ : ∀ (σ : St) (v0 : Int64) (v2 : Int32) (v3 : Int32) (v4 : Int32), K7 σ v0 v2 v3 v4 → GW κ 0 0 (gW cy A σ) 7 [(0, .long v0), (2, .int v2), (3, .int v3), (4, .int v4)] []), ∀ (σ : St) (v0 : Int64) (v2 : Int32) (v3 : Int32) (v4 : Int32), wX11_lettersIn_53 K7 Φ σ v0 v2 v3 v4 → GW κ 0 0 (gW cy A σ) 53 [(0, .long v0), (2, .int v2), (3, .int v3), (4, .int v4)] [] := by
    intro K7 hK7 σ v0 v2 v3 v4 hw
    unfold wX11_lettersIn_53 at hw
    refine g_iinc (j := 3) C [(4, .int (v4 + 1)), (0, .long v0), (2, .int v2), (3, .int v3)] F.2.2.2.1 rfl rfl (by decide) rfl dX11_lettersIn_53 ?_
    refine g_goto C 7 (by decide) dX11_lettersIn_56 ?_
    refine g_eql (lv' := [(0, .long v0), (2, .int v2), (3, .int v3), (4, .int (v4 + 1))]) [1, 2, 3, 0] rfl ?_
    exact hK7 σ v0 v2 v3 (v4 + 1) hw
  have J40 : ∀ (K7 : St → Int64 → Int32 → Int32 → Int32 → Prop) (_ : ∀ (σ : St) (v0 : Int64) (v2 : Int32) (v3 : Int32) (v4 : Int32), K7 σ v0 v2 v3 v4 → GW κ 0 0 (gW cy A σ) 7 [(0, .long v0), (2, .int v2), (3, .int v3), (4, .int v4)] []), ∀ (σ : St) (v0 : Int64) (v2 : Int32) (v3 : Int32) (v4 : Int32) (v5 : Int32), wX11_lettersIn_40 K7 Φ σ v0 v2 v3 v4 v5 → GW κ 0 0 (gW cy A σ) 40 [(0, .long v0), (2, .int v2), (3, .int v3), (4, .int v4), (5, .int v5)] [] := by
    intro K7 hK7 σ v0 v2 v3 v4 v5 hw
    unfold wX11_lettersIn_40 at hw
    refine g_iload C 4 rfl dX11_lettersIn_40 ?_
    refine g_if_ne C 50 (by decide) hw dX11_lettersIn_42 (fun hw => ?_) (fun hw => ?_)
    · refine g_iinc (j := 1) C [(2, .int (v2 + 1)), (0, .long v0), (3, .int v3), (4, .int v4), (5, .int v5)] F.2.2.2.1 rfl rfl (by decide) rfl dX11_lettersIn_50 ?_
      refine g_eql (lv' := [(0, .long v0), (2, .int (v2 + 1)), (3, .int v3), (4, .int v4)]) [1, 0, 2, 3] rfl ?_
      exact J53 _ hK7 σ v0 (v2 + 1) v3 v4 hw
    · refine g_iconst (v := (1 : Int32)) C dX11_lettersIn_45 (by decide) ?_
      refine g_istore_n C [(3, .int (1 : Int32)), (0, .long v0), (2, .int v2), (4, .int v4), (5, .int v5)] F.2.2.2.1 rfl (by decide) rfl dX11_lettersIn_46 ?_
      refine g_goto C 53 (by decide) dX11_lettersIn_47 ?_
      refine g_eql (lv' := [(0, .long v0), (2, .int v2), (3, .int (1 : Int32)), (4, .int v4)]) [1, 2, 0, 3] rfl ?_
      exact J53 _ hK7 σ v0 v2 (1 : Int32) v4 hw
  have J7 : ∀ (n : Nat) (σ : St) (v0 : Int64) (v2 : Int32) (v3 : Int32) (v4 : Int32), wX11_lettersIn_7 Φ n σ v0 v2 v3 v4 → GW κ 0 0 (gW cy A σ) 7 [(0, .long v0), (2, .int v2), (3, .int v3), (4, .int v4)] [] := by
    intro n
    induction n with
    | zero => intro σ v0 v2 v3 v4 hw; exact hw.elim
    | succ n ih =>
      intro σ v0 v2 v3 v4 hw
      rw [wX11_lettersIn_7] at hw
      refine g_iload C 3 rfl dX11_lettersIn_7 ?_
      refine g_bipush (v := (8 : Int32)) C dX11_lettersIn_9 (by decide) ?_
      refine g_icmp_ge C 59 (by decide) hw dX11_lettersIn_11 (fun hw => ?_) (fun hw => ?_)
      · refine g_iload_n C 1 rfl rfl dX11_lettersIn_59 ?_
        exact gq_I C F (by decide) (by decide) hw dX11_lettersIn_60
      · refine g_lload_n C 0 rfl rfl dX11_lettersIn_14 ?_
        refine g_iload C 3 rfl dX11_lettersIn_15 ?_
        refine gc_I C (gr_S (As := [.long v0, .int v4]) (rest := []) C hK 2 (gd_S wt_120 wt_121 wt_1 wt_122) rfl rfl rfl hs_X11_byteOf ⟨⟨Nat.le_of_ble_eq_true rfl, Nat.le_of_ble_eq_true rfl⟩, Nat.le_of_ble_eq_true rfl, Nat.le_of_ble_eq_true rfl⟩ rfl rfl (Nat.le_of_ble_eq_true rfl) dX11_lettersIn_17 (c_X11_byteOf (q_l κ) (q_D κ) cy A hw)) (fun r2 σ1 hw => ?_)
        refine g_istore C [(5, .int r2), (0, .long v0), (2, .int v2), (3, .int v3), (4, .int v4)] F.2.2.2.1 (by decide) rfl dX11_lettersIn_20 ?_
        refine g_iload C 0 rfl dX11_lettersIn_22 ?_
        refine g_bipush (v := (126 : Int32)) C dX11_lettersIn_24 (by decide) ?_
        refine g_icmp_gt C 38 (by decide) hw dX11_lettersIn_26 (fun hw => ?_) (fun hw => ?_)
        · refine g_iconst (v := (-1 : Int32)) C dX11_lettersIn_38 (by decide) ?_
          exact gq_I C F (by decide) (by decide) hw dX11_lettersIn_39
        · refine g_iload_n C 3 rfl rfl dX11_lettersIn_29 ?_
          refine g_if_eq C 40 (by decide) hw dX11_lettersIn_30 (fun hw => ?_) (fun hw => ?_)
          · refine g_eql (lv' := [(0, .long v0), (2, .int v2), (3, .int v3), (4, .int v4), (5, .int r2)]) [1, 2, 3, 4, 0] rfl ?_
            exact J40 _ ih σ1 v0 v2 v3 v4 r2 hw
          · refine g_iload C 0 rfl dX11_lettersIn_33 ?_
            refine g_if_eq C 40 (by decide) hw dX11_lettersIn_35 (fun hw => ?_) (fun hw => ?_)
            · refine g_eql (lv' := [(0, .long v0), (2, .int v2), (3, .int v3), (4, .int v4), (5, .int r2)]) [1, 2, 3, 4, 0] rfl ?_
              exact J40 _ ih σ1 v0 v2 v3 v4 r2 hw
            · refine g_iconst (v := (-1 : Int32)) C dX11_lettersIn_38 (by decide) ?_
              exact gq_I C F (by decide) (by decide) hw dX11_lettersIn_39
  unfold wX11_lettersIn at hw
  refine g_iconst (v := (0 : Int32)) C dX11_lettersIn_0 (by decide) ?_
  refine g_istore_n C [(2, .int (0 : Int32)), (0, .long v0)] F.2.2.2.1 rfl (by decide) rfl dX11_lettersIn_1 ?_
  refine g_iconst (v := (0 : Int32)) C dX11_lettersIn_2 (by decide) ?_
  refine g_istore_n C [(3, .int (0 : Int32)), (2, .int (0 : Int32)), (0, .long v0)] F.2.2.2.1 rfl (by decide) rfl dX11_lettersIn_3 ?_
  refine g_iconst (v := (0 : Int32)) C dX11_lettersIn_4 (by decide) ?_
  refine g_istore C [(4, .int (0 : Int32)), (3, .int (0 : Int32)), (2, .int (0 : Int32)), (0, .long v0)] F.2.2.2.1 (by decide) rfl dX11_lettersIn_5 ?_
  refine g_eql (lv' := [(0, .long v0), (2, .int (0 : Int32)), (3, .int (0 : Int32)), (4, .int (0 : Int32))]) [3, 2, 1, 0] rfl ?_
  obtain ⟨n0, hw⟩ := hw
  exact J7 n0 σ v0 (0 : Int32) (0 : Int32) (0 : Int32) hw
set_option maxHeartbeats 4000000 in
set_option maxRecDepth 100000 in
theorem c_X11_letters (l : Launch) (D : va_G) (cy : Nat → ClassId) (A : Nat → Nat) {σ : St} {v1 : Int64} {Φ : Int32 → St → Prop} (hw : wX11_letters σ v1 Φ) : CtI l yX11_letters (.code yX11_letters cX11_letters 5 (some .int) :: gL) rm_X11_letters 0 0 [.ref (A 0), .long v1] D cy A σ Φ := by
  refine ct_any (fun sz => va_Qi Φ (HE D cy A (gZ cy A σ sz)) (gZ cy A σ sz)) (by decide +kernel) rfl rfl [(0, .ref (A 0)), (1, .long v1)] rfl (Nat.le_of_ble_eq_true rfl) ?_
  intro κ hκl hnm C hK sz F
  subst hκl
  have J29 : ∀ (n : Nat) (σ : St) (v1 : Int64) (v3 : Int32) (v4 : Int32), wX11_letters_29 Φ n σ v1 v3 v4 → GW κ 0 0 (gW cy A σ) 29 [(0, .ref (A 0)), (1, .long v1), (3, .int v3), (4, .int v4)] [] := by
    intro n
    induction n with
    | zero => intro σ v1 v3 v4 hw; exact hw.elim
    | succ n ih =>
      intro σ v1 v3 v4 hw
      rw [wX11_letters_29] at hw
      refine g_iload C 3 rfl dX11_letters_29 ?_
      refine g_iload_n C 2 rfl rfl dX11_letters_31 ?_
      refine g_icmp_ge C 55 (by decide) hw dX11_letters_32 (fun hw => ?_) (fun hw => ?_)
      · refine g_aload_n C 0 rfl rfl dX11_letters_55 ?_
        refine g_get C hK inX11 rfl 0 (ga_0 cy A _) 0 (by decide) (fun _ h => h) wt_103 rfl dX11_letters_56 ?_
        refine g_get C hK inX7 rfl 1 (ga_1 cy A _) 1 (by decide) (fun _ h => h) wt_30 rfl dX11_letters_59 ?_
        exact gq_I C F (by decide) (by decide) hw dX11_letters_62
      · refine g_aload_n C 0 rfl rfl dX11_letters_35 ?_
        refine g_get C hK inX11 rfl 0 (ga_0 cy A _) 0 (by decide) (fun _ h => h) wt_103 rfl dX11_letters_36 ?_
        refine g_lload_n C 1 rfl rfl dX11_letters_39 ?_
        refine g_iload C 3 rfl dX11_letters_40 ?_
        refine gc_I C (gr_S (As := [.long v1, .int v4]) (rest := [.ref (A 1)]) C hK 2 (gd_S wt_120 wt_121 wt_1 wt_122) rfl rfl rfl hs_X11_byteOf ⟨⟨Nat.le_of_ble_eq_true rfl, Nat.le_of_ble_eq_true rfl⟩, Nat.le_of_ble_eq_true rfl, Nat.le_of_ble_eq_true rfl⟩ rfl rfl (Nat.le_of_ble_eq_true rfl) dX11_letters_42 (c_X11_byteOf (q_l κ) (q_D κ) cy A hw)) (fun r6 σ5 hw => ?_)
        refine g_i2c C dX11_letters_45 ?_
        refine gc_V C (gr_V (As := [.int (r6.toUInt32 % 65536).toInt32]) (rest := []) C hK 1 (gd_V wt_127 wt_128 wt_129 wt_2 wt_130) rfl rfl rfl ⟨rfl, hs_X7_put⟩ ⟨⟨Nat.le_of_ble_eq_true rfl, Nat.le_of_ble_eq_true rfl⟩, Nat.le_of_ble_eq_true rfl, Nat.le_of_ble_eq_true rfl⟩ rfl 1 (ga_1 cy A _) rfl rfl (Nat.le_of_ble_eq_true rfl) dX11_letters_46 (c_X7_put (q_l κ) (q_D κ) cy A hw)) (fun σ7 hw => ?_)
        refine g_iinc (j := 3) C [(4, .int (v4 + 1)), (0, .ref (A 0)), (1, .long v1), (3, .int v3)] F.2.2.2.1 rfl rfl (by decide) rfl dX11_letters_49 ?_
        refine g_goto C 29 (by decide) dX11_letters_52 ?_
        refine g_eql (lv' := [(0, .ref (A 0)), (1, .long v1), (3, .int v3), (4, .int (v4 + 1))]) [1, 2, 3, 0] rfl ?_
        exact ih σ7 v1 v3 (v4 + 1) hw
  unfold wX11_letters at hw
  refine g_lload_n C 1 rfl rfl dX11_letters_0 ?_
  refine gc_I C (gr_S (As := [.long v1]) (rest := []) C hK 1 (gd_S wt_117 wt_118 wt_1 wt_119) rfl rfl rfl hs_X11_lettersIn ⟨⟨Nat.le_of_ble_eq_true rfl, Nat.le_of_ble_eq_true rfl⟩, Nat.le_of_ble_eq_true rfl, Nat.le_of_ble_eq_true rfl⟩ rfl rfl (Nat.le_of_ble_eq_true rfl) dX11_letters_1 (c_X11_lettersIn (q_l κ) (q_D κ) cy A hw)) (fun r2 σ1 hw => ?_)
  refine g_istore_n C [(3, .int r2), (0, .ref (A 0)), (1, .long v1)] F.2.2.2.1 rfl (by decide) rfl dX11_letters_4 ?_
  refine g_iload_n C 0 rfl rfl dX11_letters_5 ?_
  refine g_if_ge C 12 (by decide) hw dX11_letters_6 (fun hw => ?_) (fun hw => ?_)
  · refine g_aload_n C 1 rfl rfl dX11_letters_12 ?_
    refine g_get C hK inX11 rfl 0 (ga_0 cy A _) 0 (by decide) (fun _ h => h) wt_103 rfl dX11_letters_13 ?_
    refine g_iload_n C 0 rfl rfl dX11_letters_16 ?_
    refine gc_I C (gr_V (As := [.int r2]) (rest := []) C hK 1 (gd_V wt_123 wt_124 wt_125 wt_2 wt_126) rfl rfl rfl ⟨rfl, hs_X7_hasRoomFor⟩ ⟨⟨Nat.le_of_ble_eq_true rfl, Nat.le_of_ble_eq_true rfl⟩, Nat.le_of_ble_eq_true rfl, Nat.le_of_ble_eq_true rfl⟩ rfl 1 (ga_1 cy A _) rfl rfl (Nat.le_of_ble_eq_true rfl) dX11_letters_17 (c_X7_hasRoomFor (q_l κ) (q_D κ) cy A hw)) (fun r4 σ3 hw => ?_)
    refine g_if_ne C 26 (by decide) hw dX11_letters_20 (fun hw => ?_) (fun hw => ?_)
    · refine g_iconst (v := (0 : Int32)) C dX11_letters_26 (by decide) ?_
      refine g_istore C [(4, .int (0 : Int32)), (3, .int r2), (0, .ref (A 0)), (1, .long v1)] F.2.2.2.1 (by decide) rfl dX11_letters_27 ?_
      refine g_eql (lv' := [(0, .ref (A 0)), (1, .long v1), (3, .int r2), (4, .int (0 : Int32))]) [2, 3, 1, 0] rfl ?_
      obtain ⟨n0, hw⟩ := hw
      exact J29 n0 σ3 v1 r2 (0 : Int32) hw
    · refine g_bipush (v := (-104 : Int32)) C dX11_letters_23 (by decide) ?_
      exact gq_I C F (by decide) (by decide) hw dX11_letters_25
  · refine g_bipush (v := (-102 : Int32)) C dX11_letters_9 (by decide) ?_
    exact gq_I C F (by decide) (by decide) hw dX11_letters_11
set_option maxHeartbeats 4000000 in
set_option maxRecDepth 100000 in
theorem c_X11_blank (l : Launch) (D : va_G) (cy : Nat → ClassId) (A : Nat → Nat) {σ : St} {Φ : Int32 → St → Prop} (hw : wX11_blank σ Φ) : CtI l yX11_blank (.code yX11_blank cX11_blank 1 (some .int) :: gL) rm_X11_blank 0 0 [.ref (A 0)] D cy A σ Φ := by
  refine ct_any (fun sz => va_Qi Φ (HE D cy A (gZ cy A σ sz)) (gZ cy A σ sz)) (by decide +kernel) rfl rfl [(0, .ref (A 0))] rfl (Nat.le_of_ble_eq_true rfl) ?_
  intro κ hκl hnm C hK sz F
  subst hκl
  unfold wX11_blank at hw
  refine g_aload_n C 0 rfl rfl dX11_blank_0 ?_
  refine g_get C hK inX11 rfl 0 (ga_0 cy A _) 0 (by decide) (fun _ h => h) wt_103 rfl dX11_blank_1 ?_
  refine gc_I C (gr_V (As := []) (rest := []) C hK 0 (gd_V wt_135 wt_136 wt_137 wt_2 wt_138) rfl rfl rfl ⟨rfl, hs_X7_emptied⟩ ⟨⟨Nat.le_of_ble_eq_true rfl, Nat.le_of_ble_eq_true rfl⟩, Nat.le_of_ble_eq_true rfl, Nat.le_of_ble_eq_true rfl⟩ rfl 1 (ga_1 cy A _) rfl rfl (Nat.le_of_ble_eq_true rfl) dX11_blank_4 (c_X7_emptied (q_l κ) (q_D κ) cy A hw)) (fun r2 σ1 hw => ?_)
  exact gq_I C F (by decide) (by decide) hw dX11_blank_7
set_option maxHeartbeats 4000000 in
set_option maxRecDepth 100000 in
theorem c_X11_fault (l : Launch) (D : va_G) (cy : Nat → ClassId) (A : Nat → Nat) {σ : St} {Φ : Int32 → St → Prop} (hw : wX11_fault σ Φ) : CtI l yX11_fault (.code yX11_fault cX11_fault 1 (some .int) :: gL) rm_X11_fault 0 0 [.ref (A 0)] D cy A σ Φ := by
  refine ct_any (fun sz => va_Qi Φ (HE D cy A (gZ cy A σ sz)) (gZ cy A σ sz)) (by decide +kernel) rfl rfl [(0, .ref (A 0))] rfl (Nat.le_of_ble_eq_true rfl) ?_
  intro κ hκl hnm C hK sz F
  subst hκl
  unfold wX11_fault at hw
  refine g_aload_n C 0 rfl rfl dX11_fault_0 ?_
  refine g_get C hK inX11 rfl 0 (ga_0 cy A _) 0 (by decide) (fun _ h => h) wt_103 rfl dX11_fault_1 ?_
  refine gc_I C (gr_V (As := []) (rest := []) C hK 0 (gd_V wt_143 wt_144 wt_145 wt_2 wt_146) rfl rfl rfl ⟨rfl, hs_X7_firstWrong⟩ ⟨⟨Nat.le_of_ble_eq_true rfl, Nat.le_of_ble_eq_true rfl⟩, Nat.le_of_ble_eq_true rfl, Nat.le_of_ble_eq_true rfl⟩ rfl 1 (ga_1 cy A _) rfl rfl (Nat.le_of_ble_eq_true rfl) dX11_fault_4 (c_X7_firstWrong (q_l κ) (q_D κ) cy A hw)) (fun r2 σ1 hw => ?_)
  exact gq_I C F (by decide) (by decide) hw dX11_fault_7
set_option maxHeartbeats 4000000 in
set_option maxRecDepth 100000 in
theorem c_X11_wire (l : Launch) (D : va_G) (cy : Nat → ClassId) (A : Nat → Nat) {σ : St} {Φ : Int32 → St → Prop} (hw : wX11_wire σ Φ) : CtI l yX11_wire (.code yX11_wire cX11_wire 1 (some .int) :: gL) rm_X11_wire 0 0 [.ref (A 0)] D cy A σ Φ := by
  refine ct_any (fun sz => va_Qi Φ (HE D cy A (gZ cy A σ sz)) (gZ cy A σ sz)) (by decide +kernel) rfl rfl [(0, .ref (A 0))] rfl (Nat.le_of_ble_eq_true rfl) ?_
  intro κ hκl hnm C hK sz F
  subst hκl
  unfold wX11_wire at hw
  refine g_aload_n C 0 rfl rfl dX11_wire_0 ?_
  refine g_get C hK inX11 rfl 0 (ga_0 cy A _) 0 (by decide) (fun _ h => h) wt_103 rfl dX11_wire_1 ?_
  refine gc_I C (gr_V (As := []) (rest := []) C hK 0 (gd_V wt_161 wt_162 wt_163 wt_2 wt_164) rfl rfl rfl ⟨rfl, hs_X7_isWire⟩ ⟨⟨Nat.le_of_ble_eq_true rfl, Nat.le_of_ble_eq_true rfl⟩, Nat.le_of_ble_eq_true rfl, Nat.le_of_ble_eq_true rfl⟩ rfl 1 (ga_1 cy A _) rfl rfl (Nat.le_of_ble_eq_true rfl) dX11_wire_4 (c_X7_isWire (q_l κ) (q_D κ) cy A hw)) (fun r2 σ1 hw => ?_)
  refine g_if_ne C 13 (by decide) hw dX11_wire_7 (fun hw => ?_) (fun hw => ?_)
  · refine g_aload_n C 0 rfl rfl dX11_wire_13 ?_
    refine g_get C hK inX11 rfl 0 (ga_0 cy A _) 1 (by decide) (fun _ h => h) wt_104 rfl dX11_wire_14 ?_
    refine g_aload_n C 0 rfl rfl dX11_wire_17 ?_
    refine g_get C hK inX11 rfl 0 (ga_0 cy A _) 0 (by decide) (fun _ h => h) wt_103 rfl dX11_wire_18 ?_
    refine gc_V C (gr_V (As := [.ref (A 1)]) (rest := []) C hK 1 (gd_V wt_166 wt_167 wt_168 wt_3 wt_169) rfl rfl rfl ⟨rfl, hs_X0_hang⟩ ⟨⟨Nat.le_of_ble_eq_true rfl, Nat.le_of_ble_eq_true rfl⟩, Nat.le_of_ble_eq_true rfl, Nat.le_of_ble_eq_true rfl⟩ rfl 3 (ga_3 cy A _) rfl rfl (Nat.le_of_ble_eq_true rfl) dX11_wire_21 (c_X0_hang (q_l κ) (q_D κ) cy A hC3 hw)) (fun σ3 hw => ?_)
    refine g_aload_n C 0 rfl rfl dX11_wire_24 ?_
    refine g_get C hK inX11 rfl 0 (ga_0 cy A _) 0 (by decide) (fun _ h => h) wt_103 rfl dX11_wire_25 ?_
    refine gc_I C (gr_V (As := []) (rest := []) C hK 0 (gd_V wt_135 wt_136 wt_137 wt_2 wt_138) rfl rfl rfl ⟨rfl, hs_X7_emptied⟩ ⟨⟨Nat.le_of_ble_eq_true rfl, Nat.le_of_ble_eq_true rfl⟩, Nat.le_of_ble_eq_true rfl, Nat.le_of_ble_eq_true rfl⟩ rfl 1 (ga_1 cy A _) rfl rfl (Nat.le_of_ble_eq_true rfl) dX11_wire_28 (c_X7_emptied (q_l κ) (q_D κ) cy A hw)) (fun r5 σ4 hw => ?_)
    refine g_pop C rfl dX11_wire_31 ?_
    refine g_aload_n C 0 rfl rfl dX11_wire_32 ?_
    refine g_get C hK inX11 rfl 0 (ga_0 cy A _) 2 (by decide) (fun _ h => h) wt_105 rfl dX11_wire_33 ?_
    refine g_iconst (v := (0 : Int32)) C dX11_wire_36 (by decide) ?_
    refine gc_V C (gr_V (As := [.int (0 : Int32)]) (rest := []) C hK 1 (gd_V wt_174 wt_175 wt_176 wt_4 wt_177) rfl rfl rfl ⟨rfl, hs_X6_cutTo⟩ ⟨⟨Nat.le_of_ble_eq_true rfl, Nat.le_of_ble_eq_true rfl⟩, Nat.le_of_ble_eq_true rfl, Nat.le_of_ble_eq_true rfl⟩ rfl 4 (ga_4 cy A _) rfl rfl (Nat.le_of_ble_eq_true rfl) dX11_wire_37 (c_X6_cutTo (q_l κ) (q_D κ) cy A hw)) (fun σ6 hw => ?_)
    refine g_aload_n C 0 rfl rfl dX11_wire_40 ?_
    refine g_get C hK inX11 rfl 0 (ga_0 cy A _) 3 (by decide) (fun _ h => h) wt_106 rfl dX11_wire_41 ?_
    refine gc_I C (gr_V (As := []) (rest := []) C hK 0 (gd_V wt_181 wt_182 wt_183 wt_5 wt_184) rfl rfl rfl ⟨rfl, hs_X10_emptied⟩ ⟨⟨Nat.le_of_ble_eq_true rfl, Nat.le_of_ble_eq_true rfl⟩, Nat.le_of_ble_eq_true rfl, Nat.le_of_ble_eq_true rfl⟩ rfl 7 (ga_7 cy A _) rfl rfl (Nat.le_of_ble_eq_true rfl) dX11_wire_44 (c_X10_emptied (q_l κ) (q_D κ) cy A hw)) (fun r8 σ7 hw => ?_)
    refine g_pop C rfl dX11_wire_47 ?_
    refine g_aload_n C 0 rfl rfl dX11_wire_48 ?_
    refine g_iconst (v := (0 : Int32)) C dX11_wire_49 (by decide) ?_
    refine g_put (v := .int (0 : Int32)) C hK inX11 rfl tyX11 tyX11_ok nmX11 0 (ga_0 cy A _) 8 (by decide) (fun _ h => h) wt_111 rfl (by rcases hw.1 with e | e <;> rw [e] <;> rfl) (by rcases hw.1 with e | e <;> rw [e] <;> rfl) (Nat.le_of_ble_eq_true rfl) (gp_0_8 cy A _ _) dX11_wire_50 ?_
    replace hw := hw.2
    refine g_aload_n C 0 rfl rfl dX11_wire_53 ?_
    refine g_dup C rfl dX11_wire_54 ?_
    refine g_get C hK inX11 rfl 0 (ga_0 cy A _) 9 (by decide) (fun _ h => h) wt_112 rfl dX11_wire_55 ?_
    refine g_iconst (v := (1 : Int32)) C dX11_wire_58 (by decide) ?_
    refine g_iadd C dX11_wire_59 ?_
    refine g_put (v := .int (((sV σ7 0 8 (0 : Int32)).1 0 9) + (1 : Int32))) C hK inX11 rfl tyX11 tyX11_ok nmX11 0 (ga_0 cy A _) 9 (by decide) (fun _ h => h) wt_112 rfl rfl rfl (Nat.le_of_ble_eq_true rfl) (gp_0_9 cy A _ _) dX11_wire_60 ?_
    refine g_aload_n C 0 rfl rfl dX11_wire_63 ?_
    refine g_get C hK inX11 rfl 0 (ga_0 cy A _) 1 (by decide) (fun _ h => h) wt_104 rfl dX11_wire_64 ?_
    refine g_get C hK inX0 rfl 3 (ga_3 cy A _) 1 (by decide) (fun _ h => h) wt_43 rfl dX11_wire_67 ?_
    exact gq_I C F (by decide) (by decide) hw dX11_wire_70
  · refine g_bipush (v := (-103 : Int32)) C dX11_wire_10 (by decide) ?_
    exact gq_I C F (by decide) (by decide) hw dX11_wire_12
set_option maxHeartbeats 4000000 in
set_option maxRecDepth 100000 in
theorem c_X11_isCabin (l : Launch) (D : va_G) (cy : Nat → ClassId) (A : Nat → Nat) {σ : St} {v0 : Int32} {Φ : Int32 → St → Prop} (hw : wX11_isCabin σ v0 Φ) : CtI l yX11_isCabin (.code yX11_isCabin cX11_isCabin 1 (some .boolean) :: gL) rm_X11_isCabin 0 0 [.int v0] D cy A σ Φ := by
  refine ct_any (fun sz => va_Qi Φ (HE D cy A (gZ cy A σ sz)) (gZ cy A σ sz)) (by decide +kernel) rfl rfl [(0, .int v0)] rfl (Nat.le_of_ble_eq_true rfl) ?_
  intro κ hκl hnm C hK sz F
  subst hκl
  unfold wX11_isCabin at hw
  refine g_iload_n C 0 rfl rfl dX11_isCabin_0 ?_
  refine g_if_lt C 13 (by decide) hw dX11_isCabin_1 (fun hw => ?_) (fun hw => ?_)
  · refine g_iconst (v := (0 : Int32)) C dX11_isCabin_13 (by decide) ?_
    exact gq_Z C F (by decide) (by decide) hw dX11_isCabin_14
  · refine g_iload_n C 0 rfl rfl dX11_isCabin_4 ?_
    refine g_iconst (v := (2 : Int32)) C dX11_isCabin_5 (by decide) ?_
    refine g_icmp_ge C 13 (by decide) hw dX11_isCabin_6 (fun hw => ?_) (fun hw => ?_)
    · refine g_iconst (v := (0 : Int32)) C dX11_isCabin_13 (by decide) ?_
      exact gq_Z C F (by decide) (by decide) hw dX11_isCabin_14
    · refine g_iconst (v := (1 : Int32)) C dX11_isCabin_9 (by decide) ?_
      refine g_goto C 14 (by decide) dX11_isCabin_10 ?_
      exact gq_Z C F (by decide) (by decide) hw dX11_isCabin_14
set_option maxHeartbeats 4000000 in
set_option maxRecDepth 100000 in
theorem c_X11_cabin (l : Launch) (D : va_G) (cy : Nat → ClassId) (A : Nat → Nat) {σ : St} {v1 : Int32} {v2 : Int32} {Φ : Int32 → St → Prop} (hw : wX11_cabin σ v1 v2 Φ) : CtI l yX11_cabin (.code yX11_cabin cX11_cabin 3 (some .int) :: gL) rm_X11_cabin 0 0 [.ref (A 0), .int v1, .int v2] D cy A σ Φ := by
  refine ct_any (fun sz => va_Qi Φ (HE D cy A (gZ cy A σ sz)) (gZ cy A σ sz)) (by decide +kernel) rfl rfl [(0, .ref (A 0)), (1, .int v1), (2, .int v2)] rfl (Nat.le_of_ble_eq_true rfl) ?_
  intro κ hκl hnm C hK sz F
  subst hκl
  unfold wX11_cabin at hw
  refine g_iload_n C 1 rfl rfl dX11_cabin_0 ?_
  refine gc_I C (gr_S (As := [.int v1]) (rest := []) C hK 1 (gd_S wt_189 wt_190 wt_1 wt_191) rfl rfl rfl hs_X11_isCabin ⟨⟨Nat.le_of_ble_eq_true rfl, Nat.le_of_ble_eq_true rfl⟩, Nat.le_of_ble_eq_true rfl, Nat.le_of_ble_eq_true rfl⟩ rfl rfl (Nat.le_of_ble_eq_true rfl) dX11_cabin_1 (c_X11_isCabin (q_l κ) (q_D κ) cy A hw)) (fun r2 σ1 hw => ?_)
  refine g_if_ne C 10 (by decide) hw dX11_cabin_4 (fun hw => ?_) (fun hw => ?_)
  · refine g_iload_n C 2 rfl rfl dX11_cabin_10 ?_
    refine g_if_lt C 19 (by decide) hw dX11_cabin_11 (fun hw => ?_) (fun hw => ?_)
    · refine g_bipush (v := (-102 : Int32)) C dX11_cabin_19 (by decide) ?_
      exact gq_I C F (by decide) (by decide) hw dX11_cabin_21
    · refine g_iload_n C 2 rfl rfl dX11_cabin_14 ?_
      refine g_iconst (v := (3 : Int32)) C dX11_cabin_15 (by decide) ?_
      refine g_icmp_le C 22 (by decide) hw dX11_cabin_16 (fun hw => ?_) (fun hw => ?_)
      · refine g_aload_n C 0 rfl rfl dX11_cabin_22 ?_
        refine g_get C hK inX11 rfl 0 (ga_0 cy A _) 1 (by decide) (fun _ h => h) wt_104 rfl dX11_cabin_23 ?_
        refine gc_I C (gr_V (As := []) (rest := []) C hK 0 (gd_V wt_192 wt_193 wt_194 wt_3 wt_195) rfl rfl rfl ⟨rfl, hs_X0_isThere⟩ ⟨⟨Nat.le_of_ble_eq_true rfl, Nat.le_of_ble_eq_true rfl⟩, Nat.le_of_ble_eq_true rfl, Nat.le_of_ble_eq_true rfl⟩ rfl 3 (ga_3 cy A _) rfl rfl (Nat.le_of_ble_eq_true rfl) dX11_cabin_26 (c_X0_isThere (q_l κ) (q_D κ) cy A hC3 hw)) (fun r4 σ3 hw => ?_)
        refine g_if_ne C 35 (by decide) hw dX11_cabin_29 (fun hw => ?_) (fun hw => ?_)
        · refine g_iload_n C 2 rfl rfl dX11_cabin_35 ?_
          by_cases h9 : v2.toInt < 0 ∨ 2 < v2.toInt
          · refine g_swOut C 106 h9 (by decide) dX11_cabin_36 ?_
            replace hw := hw.2.2.2 h9
            refine g_aload_n C 0 rfl rfl dX11_cabin_106 ?_
            refine g_get C hK inX11 rfl 0 (ga_0 cy A _) 2 (by decide) (fun _ h => h) wt_105 rfl dX11_cabin_107 ?_
            refine g_iload_n C 1 rfl rfl dX11_cabin_110 ?_
            refine gc_I C (gr_V (As := [.int v1]) (rest := []) C hK 1 (gd_V wt_240 wt_241 wt_242 wt_4 wt_243) rfl rfl rfl ⟨rfl, hs_X6_sizeIn⟩ ⟨⟨Nat.le_of_ble_eq_true rfl, Nat.le_of_ble_eq_true rfl⟩, Nat.le_of_ble_eq_true rfl, Nat.le_of_ble_eq_true rfl⟩ rfl 4 (ga_4 cy A _) rfl rfl (Nat.le_of_ble_eq_true rfl) dX11_cabin_111 (c_X6_sizeIn (q_l κ) (q_D κ) cy A hw)) (fun r12 σ11 hw => ?_)
            exact gq_I C F (by decide) (by decide) hw dX11_cabin_114
          · rcases (show v2.toInt = 0 ∨ v2.toInt = 1 ∨ v2.toInt = 2 by omega) with e9 | e9 | e9
            · refine g_swIn (off := 28) C 0 64 e9 (by decide) (by decide) (by decide) (by decide) dX11_cabin_36 ?_
              replace hw := hw.1 (Int32.toInt_inj.mp (e9.trans (by decide)))
              refine g_aload_n C 0 rfl rfl dX11_cabin_64 ?_
              refine g_get C hK inX11 rfl 0 (ga_0 cy A _) 2 (by decide) (fun _ h => h) wt_105 rfl dX11_cabin_65 ?_
              refine g_iload_n C 1 rfl rfl dX11_cabin_68 ?_
              refine g_aload_n C 0 rfl rfl dX11_cabin_69 ?_
              refine g_get C hK inX11 rfl 0 (ga_0 cy A _) 1 (by decide) (fun _ h => h) wt_104 rfl dX11_cabin_70 ?_
              refine g_get C hK inX0 rfl 3 (ga_3 cy A _) 4 (by decide) (fun _ h => h) wt_52 rfl dX11_cabin_73 ?_
              refine gc_I C (gr_V (As := [.int v1, .int (σ3.1 3 4)]) (rest := []) C hK 2 (gd_V wt_196 wt_197 wt_198 wt_4 wt_199) rfl rfl rfl ⟨rfl, hs_X6_weighsIn⟩ ⟨⟨Nat.le_of_ble_eq_true rfl, Nat.le_of_ble_eq_true rfl⟩, Nat.le_of_ble_eq_true rfl, Nat.le_of_ble_eq_true rfl⟩ rfl 4 (ga_4 cy A _) rfl rfl (Nat.le_of_ble_eq_true rfl) dX11_cabin_76 (c_X6_weighsIn (q_l κ) (q_D κ) cy A hw)) (fun r6 σ5 hw => ?_)
              exact gq_I C F (by decide) (by decide) hw dX11_cabin_79
            · refine g_swIn (off := 44) C 1 80 e9 (by decide) (by decide) (by decide) (by decide) dX11_cabin_36 ?_
              replace hw := hw.2.1 (Int32.toInt_inj.mp (e9.trans (by decide)))
              refine g_aload_n C 0 rfl rfl dX11_cabin_80 ?_
              refine g_get C hK inX11 rfl 0 (ga_0 cy A _) 1 (by decide) (fun _ h => h) wt_104 rfl dX11_cabin_81 ?_
              refine g_iload_n C 1 rfl rfl dX11_cabin_84 ?_
              refine g_aload_n C 0 rfl rfl dX11_cabin_85 ?_
              refine g_get C hK inX11 rfl 0 (ga_0 cy A _) 2 (by decide) (fun _ h => h) wt_105 rfl dX11_cabin_86 ?_
              refine gc_I C (gr_V (As := [.int v1, .ref (A 4)]) (rest := []) C hK 2 (gd_V wt_219 wt_220 wt_221 wt_3 wt_222) rfl rfl rfl ⟨rfl, hs_X0_armNow⟩ ⟨⟨Nat.le_of_ble_eq_true rfl, Nat.le_of_ble_eq_true rfl⟩, Nat.le_of_ble_eq_true rfl, Nat.le_of_ble_eq_true rfl⟩ rfl 3 (ga_3 cy A _) rfl rfl (Nat.le_of_ble_eq_true rfl) dX11_cabin_89 (c_X0_armNow (q_l κ) (q_D κ) cy A hC3 hw)) (fun r8 σ7 hw => ?_)
              exact gq_I C F (by decide) (by decide) hw dX11_cabin_92
            · refine g_swIn (off := 57) C 2 93 e9 (by decide) (by decide) (by decide) (by decide) dX11_cabin_36 ?_
              replace hw := hw.2.2.1 (Int32.toInt_inj.mp (e9.trans (by decide)))
              refine g_aload_n C 0 rfl rfl dX11_cabin_93 ?_
              refine g_get C hK inX11 rfl 0 (ga_0 cy A _) 1 (by decide) (fun _ h => h) wt_104 rfl dX11_cabin_94 ?_
              refine g_iload_n C 1 rfl rfl dX11_cabin_97 ?_
              refine g_aload_n C 0 rfl rfl dX11_cabin_98 ?_
              refine g_get C hK inX11 rfl 0 (ga_0 cy A _) 2 (by decide) (fun _ h => h) wt_105 rfl dX11_cabin_99 ?_
              refine gc_I C (gr_V (As := [.int v1, .ref (A 4)]) (rest := []) C hK 2 (gd_V wt_228 wt_229 wt_230 wt_3 wt_231) rfl rfl rfl ⟨rfl, hs_X0_floorNow⟩ ⟨⟨Nat.le_of_ble_eq_true rfl, Nat.le_of_ble_eq_true rfl⟩, Nat.le_of_ble_eq_true rfl, Nat.le_of_ble_eq_true rfl⟩ rfl 3 (ga_3 cy A _) rfl rfl (Nat.le_of_ble_eq_true rfl) dX11_cabin_102 (c_X0_floorNow (q_l κ) (q_D κ) cy A hC3 hw)) (fun r10 σ9 hw => ?_)
              exact gq_I C F (by decide) (by decide) hw dX11_cabin_105
        · refine g_bipush (v := (-103 : Int32)) C dX11_cabin_32 (by decide) ?_
          exact gq_I C F (by decide) (by decide) hw dX11_cabin_34
      · refine g_bipush (v := (-102 : Int32)) C dX11_cabin_19 (by decide) ?_
        exact gq_I C F (by decide) (by decide) hw dX11_cabin_21
  · refine g_bipush (v := (-101 : Int32)) C dX11_cabin_7 (by decide) ?_
    exact gq_I C F (by decide) (by decide) hw dX11_cabin_9
set_option maxHeartbeats 4000000 in
set_option maxRecDepth 100000 in
theorem c_X11_isKind (l : Launch) (D : va_G) (cy : Nat → ClassId) (A : Nat → Nat) {σ : St} {v0 : Int32} {Φ : Int32 → St → Prop} (hw : wX11_isKind σ v0 Φ) : CtI l yX11_isKind (.code yX11_isKind cX11_isKind 1 (some .boolean) :: gL) rm_X11_isKind 0 0 [.int v0] D cy A σ Φ := by
  refine ct_any (fun sz => va_Qi Φ (HE D cy A (gZ cy A σ sz)) (gZ cy A σ sz)) (by decide +kernel) rfl rfl [(0, .int v0)] rfl (Nat.le_of_ble_eq_true rfl) ?_
  intro κ hκl hnm C hK sz F
  subst hκl
  unfold wX11_isKind at hw
  refine g_iload_n C 0 rfl rfl dX11_isKind_0 ?_
  refine g_if_lt C 13 (by decide) hw dX11_isKind_1 (fun hw => ?_) (fun hw => ?_)
  · refine g_iconst (v := (0 : Int32)) C dX11_isKind_13 (by decide) ?_
    exact gq_Z C F (by decide) (by decide) hw dX11_isKind_14
  · refine g_iload_n C 0 rfl rfl dX11_isKind_4 ?_
    refine g_iconst (v := (4 : Int32)) C dX11_isKind_5 (by decide) ?_
    refine g_icmp_gt C 13 (by decide) hw dX11_isKind_6 (fun hw => ?_) (fun hw => ?_)
    · refine g_iconst (v := (0 : Int32)) C dX11_isKind_13 (by decide) ?_
      exact gq_Z C F (by decide) (by decide) hw dX11_isKind_14
    · refine g_iconst (v := (1 : Int32)) C dX11_isKind_9 (by decide) ?_
      refine g_goto C 14 (by decide) dX11_isKind_10 ?_
      exact gq_Z C F (by decide) (by decide) hw dX11_isKind_14
set_option maxHeartbeats 4000000 in
set_option maxRecDepth 100000 in
theorem c_X11_newThing (l : Launch) (D : va_G) (cy : Nat → ClassId) (A : Nat → Nat) {σ : St} {v0 : Int32} {v1 : Int32} {v2 : Int32} {v3 : Int32} {Φ : Option Nat → St → Prop} (hw : wX11_newThing σ v0 v1 v2 v3 Φ) : CtQ l yX11_newThing (.code yX11_newThing cX11_newThing 4 (some (.object "TwoOnACable$Thing")) :: gL) rm_X11_newThing 1 3 [.int v0, .int v1, .int v2, .int v3] D cy A σ Φ := by
  refine ct_any (fun sz => va_Qq Φ (HE D cy A (gZ cy A σ sz)) (gZ cy A σ sz)) (by decide +kernel) rfl rfl [(0, .int v0), (1, .int v1), (2, .int v2), (3, .int v3)] rfl (Nat.le_of_ble_eq_true rfl) ?_
  intro κ hκl hnm C hK sz F
  subst hκl
  unfold wX11_newThing at hw
  refine g_iload_n C 0 rfl rfl dX11_newThing_0 ?_
  by_cases h9 : v0.toInt < 1 ∨ 4 < v0.toInt
  · refine g_swOut C 76 h9 (by decide) dX11_newThing_1 ?_
    replace hw := hw.2.2.2.2 h9
    refine g_newT C hK 9 inX9 tyX9 tyX9_ok rfl ⟨rfl, rfl, rfl⟩ wt_302 wt_303 wt_10 ⟨Nat.le_of_ble_eq_true rfl, Nat.le_of_ble_eq_true rfl⟩ dX11_newThing_76 (fun b9 hb => ?_)
    replace hw := hw b9 hb
    refine g_dup C rfl dX11_newThing_79 ?_
    refine g_iload_n C 1 rfl rfl dX11_newThing_80 ?_
    refine g_iload_n C 2 rfl rfl dX11_newThing_81 ?_
    refine g_iload_n C 3 rfl rfl dX11_newThing_82 ?_
    refine gc_V C (gr_N (As := [.int v1, .int v2, .int v3]) (rest := [.ref b9]) C hK 3 (gd_N wt_265) rfl rfl rfl wt_10 wt_304 wt_264 rfl hs_X9_init ⟨⟨Nat.le_of_ble_eq_true rfl, Nat.le_of_ble_eq_true rfl⟩, Nat.le_of_ble_eq_true rfl, Nat.le_of_ble_eq_true rfl⟩ rfl rfl (Nat.le_of_ble_eq_true rfl) dX11_newThing_83 (c_X9_init (q_l κ) (q_D κ) cy A hw)) (fun σ10 hw => ?_)
    exact gq_Q (r := (some b9)) C F (by decide) (by decide) hw dX11_newThing_86
  · rcases (show v0.toInt = 1 ∨ v0.toInt = 2 ∨ v0.toInt = 3 ∨ v0.toInt = 4 by omega) with e9 | e9 | e9 | e9
    · refine g_swIn (off := 31) C 1 32 e9 (by decide) (by decide) (by decide) (by decide) dX11_newThing_1 ?_
      replace hw := hw.1 (Int32.toInt_inj.mp (e9.trans (by decide)))
      refine g_newT C hK 1 inX1 tyX1 tyX1_ok rfl ⟨rfl, rfl, rfl⟩ wt_258 wt_259 wt_11 ⟨Nat.le_of_ble_eq_true rfl, Nat.le_of_ble_eq_true rfl⟩ dX11_newThing_32 (fun b1 hb => ?_)
      replace hw := hw b1 hb
      refine g_dup C rfl dX11_newThing_35 ?_
      refine g_iload_n C 1 rfl rfl dX11_newThing_36 ?_
      refine g_iload_n C 2 rfl rfl dX11_newThing_37 ?_
      refine g_iload_n C 3 rfl rfl dX11_newThing_38 ?_
      refine gc_V C (gr_N (As := [.int v1, .int v2, .int v3]) (rest := [.ref b1]) C hK 3 (gd_N wt_262) rfl rfl rfl wt_11 wt_260 wt_261 rfl hs_X1_init ⟨⟨Nat.le_of_ble_eq_true rfl, Nat.le_of_ble_eq_true rfl⟩, Nat.le_of_ble_eq_true rfl, Nat.le_of_ble_eq_true rfl⟩ rfl rfl (Nat.le_of_ble_eq_true rfl) dX11_newThing_39 (c_X1_init (q_l κ) (q_D κ) cy A hw)) (fun σ2 hw => ?_)
      exact gq_Q (r := (some b1)) C F (by decide) (by decide) hw dX11_newThing_42
    · refine g_swIn (off := 42) C 2 43 e9 (by decide) (by decide) (by decide) (by decide) dX11_newThing_1 ?_
      replace hw := hw.2.1 (Int32.toInt_inj.mp (e9.trans (by decide)))
      refine g_newT C hK 3 inX3 tyX3 tyX3_ok rfl ⟨rfl, rfl, rfl⟩ wt_284 wt_285 wt_12 ⟨Nat.le_of_ble_eq_true rfl, Nat.le_of_ble_eq_true rfl⟩ dX11_newThing_43 (fun b3 hb => ?_)
      replace hw := hw b3 hb
      refine g_dup C rfl dX11_newThing_46 ?_
      refine g_iload_n C 1 rfl rfl dX11_newThing_47 ?_
      refine g_iload_n C 2 rfl rfl dX11_newThing_48 ?_
      refine g_iload_n C 3 rfl rfl dX11_newThing_49 ?_
      refine gc_V C (gr_N (As := [.int v1, .int v2, .int v3]) (rest := [.ref b3]) C hK 3 (gd_N wt_288) rfl rfl rfl wt_12 wt_286 wt_287 rfl hs_X3_init ⟨⟨Nat.le_of_ble_eq_true rfl, Nat.le_of_ble_eq_true rfl⟩, Nat.le_of_ble_eq_true rfl, Nat.le_of_ble_eq_true rfl⟩ rfl rfl (Nat.le_of_ble_eq_true rfl) dX11_newThing_50 (c_X3_init (q_l κ) (q_D κ) cy A hw)) (fun σ4 hw => ?_)
      exact gq_Q (r := (some b3)) C F (by decide) (by decide) hw dX11_newThing_53
    · refine g_swIn (off := 53) C 3 54 e9 (by decide) (by decide) (by decide) (by decide) dX11_newThing_1 ?_
      replace hw := hw.2.2.1 (Int32.toInt_inj.mp (e9.trans (by decide)))
      refine g_newT C hK 5 inX5 tyX5 tyX5_ok rfl ⟨rfl, rfl, rfl⟩ wt_290 wt_291 wt_13 ⟨Nat.le_of_ble_eq_true rfl, Nat.le_of_ble_eq_true rfl⟩ dX11_newThing_54 (fun b5 hb => ?_)
      replace hw := hw b5 hb
      refine g_dup C rfl dX11_newThing_57 ?_
      refine g_iload_n C 1 rfl rfl dX11_newThing_58 ?_
      refine g_iload_n C 2 rfl rfl dX11_newThing_59 ?_
      refine g_iload_n C 3 rfl rfl dX11_newThing_60 ?_
      refine gc_V C (gr_N (As := [.int v1, .int v2, .int v3]) (rest := [.ref b5]) C hK 3 (gd_N wt_294) rfl rfl rfl wt_13 wt_292 wt_293 rfl hs_X5_init ⟨⟨Nat.le_of_ble_eq_true rfl, Nat.le_of_ble_eq_true rfl⟩, Nat.le_of_ble_eq_true rfl, Nat.le_of_ble_eq_true rfl⟩ rfl rfl (Nat.le_of_ble_eq_true rfl) dX11_newThing_61 (c_X5_init (q_l κ) (q_D κ) cy A hw)) (fun σ6 hw => ?_)
      exact gq_Q (r := (some b5)) C F (by decide) (by decide) hw dX11_newThing_64
    · refine g_swIn (off := 64) C 4 65 e9 (by decide) (by decide) (by decide) (by decide) dX11_newThing_1 ?_
      replace hw := hw.2.2.2.1 (Int32.toInt_inj.mp (e9.trans (by decide)))
      refine g_newT C hK 4 inX4 tyX4 tyX4_ok rfl ⟨rfl, rfl, rfl⟩ wt_296 wt_297 wt_14 ⟨Nat.le_of_ble_eq_true rfl, Nat.le_of_ble_eq_true rfl⟩ dX11_newThing_65 (fun b7 hb => ?_)
      replace hw := hw b7 hb
      refine g_dup C rfl dX11_newThing_68 ?_
      refine g_iload_n C 1 rfl rfl dX11_newThing_69 ?_
      refine g_iload_n C 2 rfl rfl dX11_newThing_70 ?_
      refine g_iload_n C 3 rfl rfl dX11_newThing_71 ?_
      refine gc_V C (gr_N (As := [.int v1, .int v2, .int v3]) (rest := [.ref b7]) C hK 3 (gd_N wt_300) rfl rfl rfl wt_14 wt_298 wt_299 rfl hs_X4_init ⟨⟨Nat.le_of_ble_eq_true rfl, Nat.le_of_ble_eq_true rfl⟩, Nat.le_of_ble_eq_true rfl, Nat.le_of_ble_eq_true rfl⟩ rfl rfl (Nat.le_of_ble_eq_true rfl) dX11_newThing_72 (c_X4_init (q_l κ) (q_D κ) cy A hw)) (fun σ8 hw => ?_)
      exact gq_Q (r := (some b7)) C F (by decide) (by decide) hw dX11_newThing_75
set_option maxHeartbeats 4000000 in
set_option maxRecDepth 100000 in
theorem c_X11_thing (l : Launch) (D : va_G) (cy : Nat → ClassId) (A : Nat → Nat) {σ : St} {v1 : Int32} {v2 : Int32} {v3 : Int32} {Φ : Int32 → St → Prop} (hw : wX11_thing σ v1 v2 v3 Φ) : CtI l yX11_thing (.code yX11_thing cX11_thing 4 (some .int) :: gL) rm_X11_thing 1 3 [.ref (A 0), .int v1, .int v2, .int v3] D cy A σ Φ := by
  refine ct_any (fun sz => va_Qi Φ (HE D cy A (gZ cy A σ sz)) (gZ cy A σ sz)) (by decide +kernel) rfl rfl [(0, .ref (A 0)), (1, .int v1), (2, .int v2), (3, .int v3)] rfl (Nat.le_of_ble_eq_true rfl) ?_
  intro κ hκl hnm C hK sz F
  subst hκl
  unfold wX11_thing at hw
  refine g_iload_n C 3 rfl rfl dX11_thing_0 ?_
  refine gc_I C (gr_S (As := [.int v3]) (rest := []) C hK 1 (gd_S wt_189 wt_190 wt_1 wt_191) rfl rfl rfl hs_X11_isCabin ⟨⟨Nat.le_of_ble_eq_true rfl, Nat.le_of_ble_eq_true rfl⟩, Nat.le_of_ble_eq_true rfl, Nat.le_of_ble_eq_true rfl⟩ rfl rfl (Nat.le_of_ble_eq_true rfl) dX11_thing_1 (c_X11_isCabin (q_l κ) (q_D κ) cy A hw)) (fun r2 σ1 hw => ?_)
  refine g_if_ne C 10 (by decide) hw dX11_thing_4 (fun hw => ?_) (fun hw => ?_)
  · refine g_iload_n C 1 rfl rfl dX11_thing_10 ?_
    refine gc_I C (gr_S (As := [.int v1]) (rest := []) C hK 1 (gd_S wt_248 wt_249 wt_1 wt_250) rfl rfl rfl hs_X11_isKind ⟨⟨Nat.le_of_ble_eq_true rfl, Nat.le_of_ble_eq_true rfl⟩, Nat.le_of_ble_eq_true rfl, Nat.le_of_ble_eq_true rfl⟩ rfl rfl (Nat.le_of_ble_eq_true rfl) dX11_thing_11 (c_X11_isKind (q_l κ) (q_D κ) cy A hw)) (fun r4 σ3 hw => ?_)
    refine g_if_eq C 28 (by decide) hw dX11_thing_14 (fun hw => ?_) (fun hw => ?_)
    · refine g_bipush (v := (-102 : Int32)) C dX11_thing_28 (by decide) ?_
      exact gq_I C F (by decide) (by decide) hw dX11_thing_30
    · refine g_iload_n C 2 rfl rfl dX11_thing_17 ?_
      refine g_iconst (v := (1 : Int32)) C dX11_thing_18 (by decide) ?_
      refine g_icmp_lt C 28 (by decide) hw dX11_thing_19 (fun hw => ?_) (fun hw => ?_)
      · refine g_bipush (v := (-102 : Int32)) C dX11_thing_28 (by decide) ?_
        exact gq_I C F (by decide) (by decide) hw dX11_thing_30
      · refine g_iload_n C 2 rfl rfl dX11_thing_22 ?_
        refine g_bipush (v := (20 : Int32)) C dX11_thing_23 (by decide) ?_
        refine g_icmp_le C 31 (by decide) hw dX11_thing_25 (fun hw => ?_) (fun hw => ?_)
        · refine g_aload_n C 0 rfl rfl dX11_thing_31 ?_
          refine g_get C hK inX11 rfl 0 (ga_0 cy A _) 1 (by decide) (fun _ h => h) wt_104 rfl dX11_thing_32 ?_
          refine gc_I C (gr_V (As := []) (rest := []) C hK 0 (gd_V wt_192 wt_193 wt_194 wt_3 wt_195) rfl rfl rfl ⟨rfl, hs_X0_isThere⟩ ⟨⟨Nat.le_of_ble_eq_true rfl, Nat.le_of_ble_eq_true rfl⟩, Nat.le_of_ble_eq_true rfl, Nat.le_of_ble_eq_true rfl⟩ rfl 3 (ga_3 cy A _) rfl rfl (Nat.le_of_ble_eq_true rfl) dX11_thing_35 (c_X0_isThere (q_l κ) (q_D κ) cy A hC3 hw)) (fun r6 σ5 hw => ?_)
          refine g_if_ne C 44 (by decide) hw dX11_thing_38 (fun hw => ?_) (fun hw => ?_)
          · refine g_aload_n C 0 rfl rfl dX11_thing_44 ?_
            refine g_get C hK inX11 rfl 0 (ga_0 cy A _) 2 (by decide) (fun _ h => h) wt_105 rfl dX11_thing_45 ?_
            refine gc_I C (gr_V (As := []) (rest := []) C hK 0 (gd_V wt_251 wt_252 wt_253 wt_4 wt_254) rfl rfl rfl ⟨rfl, hs_X6_isFull⟩ ⟨⟨Nat.le_of_ble_eq_true rfl, Nat.le_of_ble_eq_true rfl⟩, Nat.le_of_ble_eq_true rfl, Nat.le_of_ble_eq_true rfl⟩ rfl 4 (ga_4 cy A _) rfl rfl (Nat.le_of_ble_eq_true rfl) dX11_thing_48 (c_X6_isFull (q_l κ) (q_D κ) cy A hw)) (fun r8 σ7 hw => ?_)
            refine g_if_eq C 57 (by decide) hw dX11_thing_51 (fun hw => ?_) (fun hw => ?_)
            · refine g_aload_n C 0 rfl rfl dX11_thing_57 ?_
              refine g_get C hK inX11 rfl 0 (ga_0 cy A _) 2 (by decide) (fun _ h => h) wt_105 rfl dX11_thing_58 ?_
              refine g_iload_n C 1 rfl rfl dX11_thing_61 ?_
              refine g_iload_n C 2 rfl rfl dX11_thing_62 ?_
              refine g_iload_n C 3 rfl rfl dX11_thing_63 ?_
              refine g_aload_n C 0 rfl rfl dX11_thing_64 ?_
              refine g_get C hK inX11 rfl 0 (ga_0 cy A _) 1 (by decide) (fun _ h => h) wt_104 rfl dX11_thing_65 ?_
              refine g_get C hK inX0 rfl 3 (ga_3 cy A _) 4 (by decide) (fun _ h => h) wt_52 rfl dX11_thing_68 ?_
              refine gc_Q C (gr_S (As := [.int v1, .int v2, .int v3, .int (σ7.1 3 4)]) (rest := [.ref (A 4)]) C hK 4 (gd_S wt_255 wt_256 wt_1 wt_257) rfl rfl rfl hs_X11_newThing ⟨⟨Nat.le_of_ble_eq_true rfl, Nat.le_of_ble_eq_true rfl⟩, Nat.le_of_ble_eq_true rfl, Nat.le_of_ble_eq_true rfl⟩ rfl rfl (Nat.le_of_ble_eq_true rfl) dX11_thing_71 (c_X11_newThing (q_l κ) (q_D κ) cy A hw)) (fun r10 σ9 hw => ?_)
              obtain ⟨b11, e9, hw⟩ := hw
              subst e9
              refine gc_I C (gr_V (As := [.ref b11]) (rest := []) C hK 1 (gd_V wt_305 wt_306 wt_307 wt_4 wt_308) rfl rfl rfl ⟨rfl, hs_X6_put⟩ ⟨⟨Nat.le_of_ble_eq_true rfl, Nat.le_of_ble_eq_true rfl⟩, Nat.le_of_ble_eq_true rfl, Nat.le_of_ble_eq_true rfl⟩ rfl 4 (ga_4 cy A _) rfl rfl (Nat.le_of_ble_eq_true rfl) dX11_thing_74 (c_X6_put (q_l κ) (q_D κ) cy A hw)) (fun r13 σ12 hw => ?_)
              exact gq_I C F (by decide) (by decide) hw dX11_thing_77
            · refine g_bipush (v := (-104 : Int32)) C dX11_thing_54 (by decide) ?_
              exact gq_I C F (by decide) (by decide) hw dX11_thing_56
          · refine g_bipush (v := (-103 : Int32)) C dX11_thing_41 (by decide) ?_
            exact gq_I C F (by decide) (by decide) hw dX11_thing_43
        · refine g_bipush (v := (-102 : Int32)) C dX11_thing_28 (by decide) ?_
          exact gq_I C F (by decide) (by decide) hw dX11_thing_30
  · refine g_bipush (v := (-101 : Int32)) C dX11_thing_7 (by decide) ?_
    exact gq_I C F (by decide) (by decide) hw dX11_thing_9
set_option maxHeartbeats 4000000 in
set_option maxRecDepth 100000 in
theorem c_X11_about (l : Launch) (D : va_G) (cy : Nat → ClassId) (A : Nat → Nat) {σ : St} {v1 : Int32} {v2 : Int32} {Φ : Int32 → St → Prop} (hw : wX11_about σ v1 v2 Φ) : CtI l yX11_about (.code yX11_about cX11_about 4 (some .int) :: gL) rm_X11_about 0 0 [.ref (A 0), .int v1, .int v2] D cy A σ Φ := by
  refine ct_any (fun sz => va_Qi Φ (HE D cy A (gZ cy A σ sz)) (gZ cy A σ sz)) (by decide +kernel) rfl rfl [(0, .ref (A 0)), (1, .int v1), (2, .int v2)] rfl (Nat.le_of_ble_eq_true rfl) ?_
  intro κ hκl hnm C hK sz F
  subst hκl
  unfold wX11_about at hw
  refine g_aload_n C 0 rfl rfl dX11_about_0 ?_
  refine g_get C hK inX11 rfl 0 (ga_0 cy A _) 2 (by decide) (fun _ h => h) wt_105 rfl dX11_about_1 ?_
  refine g_iload_n C 1 rfl rfl dX11_about_4 ?_
  refine gc_Q C (gr_V (As := [.int v1]) (rest := []) C hK 1 (gd_V wt_313 wt_201 wt_202 wt_4 wt_203) rfl rfl rfl ⟨rfl, hs_X6_at⟩ ⟨⟨Nat.le_of_ble_eq_true rfl, Nat.le_of_ble_eq_true rfl⟩, Nat.le_of_ble_eq_true rfl, Nat.le_of_ble_eq_true rfl⟩ rfl 4 (ga_4 cy A _) rfl rfl (Nat.le_of_ble_eq_true rfl) dX11_about_5 (c_X6_at (q_l κ) (q_D κ) cy A hw)) (fun r2 σ1 hw => ?_)
  refine g_rstore_n C [(3, va_rf r2), (0, .ref (A 0)), (1, .int v1), (2, .int v2)] F.2.2.2.1 rfl (by decide) rfl dX11_about_8 ?_
  refine g_rload_n C 0 rfl rfl dX11_about_9 ?_
  refine g_ifnonnull C 16 (by decide) hw dX11_about_10 (fun b3 e9 hw1 => ?_) (fun hw1 e9 => ?_)
  · subst e9
    replace hw := hw1
    refine g_iload_n C 3 rfl rfl dX11_about_16 ?_
    by_cases h9 : v2.toInt < 0 ∨ 4 < v2.toInt
    · refine g_swOut C 91 h9 (by decide) dX11_about_17 ?_
      replace hw := hw.2.2.2.2.2 h9
      refine g_bipush (v := (-102 : Int32)) C dX11_about_91 (by decide) ?_
      exact gq_I C F (by decide) (by decide) hw dX11_about_93
    · rcases (show v2.toInt = 0 ∨ v2.toInt = 1 ∨ v2.toInt = 2 ∨ v2.toInt = 3 ∨ v2.toInt = 4 by omega) with e9 | e9 | e9 | e9 | e9
      · refine g_swIn (off := 35) C 0 52 e9 (by decide) (by decide) (by decide) (by decide) dX11_about_17 ?_
        replace hw := hw.1 (Int32.toInt_inj.mp (e9.trans (by decide)))
        refine g_aload_n C 0 rfl rfl dX11_about_52 ?_
        have hn : ∀ (r4 : Int32) (σ5 : St), (Φ r4 σ5) → GW κ 0 0 (gW cy A σ5) 56 [(3, .ref b3), (0, .ref (A 0)), (1, .int v1), (2, .int v2)] [.int r4] := by
          intro r4 σ5 hw
          exact gq_I C F (by decide) (by decide) hw dX11_about_56
        obtain ⟨h8, hw⟩ := hw
        rcases hw with ⟨h9, hw⟩ | ⟨h9, hw⟩ | ⟨h9, hw⟩ | ⟨h9, hw⟩ | ⟨h9, hw⟩
        · obtain ⟨q9, -, h9⟩ := ga_T cy A _ h8 h9
          exact gc_I C (gr_O (As := []) (rest := []) C hK 0 (gd_O wt_314 wt_317 wt_315 wt_318 wt_319 wt_11 wt_320) rfl rfl rfl wt_330 hs_X9_kind ⟨⟨Nat.le_of_ble_eq_true rfl, Nat.le_of_ble_eq_true rfl⟩, Nat.le_of_ble_eq_true rfl, Nat.le_of_ble_eq_true rfl⟩ rfl q9 h9 rfl rfl (Nat.le_of_ble_eq_true rfl) dX11_about_53 (c_X1_kind (q_l κ) (q_D κ) cy A hw)) hn
        · obtain ⟨q9, -, h9⟩ := ga_T cy A _ h8 h9
          exact gc_I C (gr_O (As := []) (rest := []) C hK 0 (gd_O wt_314 wt_317 wt_315 wt_321 wt_322 wt_12 wt_323) rfl rfl rfl wt_330 hs_X9_kind ⟨⟨Nat.le_of_ble_eq_true rfl, Nat.le_of_ble_eq_true rfl⟩, Nat.le_of_ble_eq_true rfl, Nat.le_of_ble_eq_true rfl⟩ rfl q9 h9 rfl rfl (Nat.le_of_ble_eq_true rfl) dX11_about_53 (c_X3_kind (q_l κ) (q_D κ) cy A hw)) hn
        · obtain ⟨q9, -, h9⟩ := ga_T cy A _ h8 h9
          exact gc_I C (gr_O (As := []) (rest := []) C hK 0 (gd_O wt_314 wt_317 wt_315 wt_324 wt_325 wt_14 wt_326) rfl rfl rfl wt_330 hs_X9_kind ⟨⟨Nat.le_of_ble_eq_true rfl, Nat.le_of_ble_eq_true rfl⟩, Nat.le_of_ble_eq_true rfl, Nat.le_of_ble_eq_true rfl⟩ rfl q9 h9 rfl rfl (Nat.le_of_ble_eq_true rfl) dX11_about_53 (c_X4_kind (q_l κ) (q_D κ) cy A hw)) hn
        · obtain ⟨q9, -, h9⟩ := ga_T cy A _ h8 h9
          exact gc_I C (gr_O (As := []) (rest := []) C hK 0 (gd_O wt_314 wt_317 wt_315 wt_327 wt_328 wt_13 wt_329) rfl rfl rfl wt_330 hs_X9_kind ⟨⟨Nat.le_of_ble_eq_true rfl, Nat.le_of_ble_eq_true rfl⟩, Nat.le_of_ble_eq_true rfl, Nat.le_of_ble_eq_true rfl⟩ rfl q9 h9 rfl rfl (Nat.le_of_ble_eq_true rfl) dX11_about_53 (c_X5_kind (q_l κ) (q_D κ) cy A hw)) hn
        · obtain ⟨q9, -, h9⟩ := ga_T cy A _ h8 h9
          exact gc_I C (gr_V (As := []) (rest := []) C hK 0 (gd_V wt_314 wt_315 wt_316 wt_10 wt_330) rfl rfl rfl ⟨rfl, hs_X9_kind⟩ ⟨⟨Nat.le_of_ble_eq_true rfl, Nat.le_of_ble_eq_true rfl⟩, Nat.le_of_ble_eq_true rfl, Nat.le_of_ble_eq_true rfl⟩ rfl q9 h9 rfl rfl (Nat.le_of_ble_eq_true rfl) dX11_about_53 (c_X9_kind (q_l κ) (q_D κ) cy A hw)) hn
      · refine g_swIn (off := 40) C 1 57 e9 (by decide) (by decide) (by decide) (by decide) dX11_about_17 ?_
        replace hw := hw.2.1 (Int32.toInt_inj.mp (e9.trans (by decide)))
        refine g_aload_n C 0 rfl rfl dX11_about_57 ?_
        refine g_getT0 C hK hw.1 (fun _ h => h) wt_274 dX11_about_58 ?_
        replace hw := hw.2
        exact gq_I C F (by decide) (by decide) hw dX11_about_61
      · refine g_swIn (off := 45) C 2 62 e9 (by decide) (by decide) (by decide) (by decide) dX11_about_17 ?_
        replace hw := hw.2.2.1 (Int32.toInt_inj.mp (e9.trans (by decide)))
        refine g_aload_n C 0 rfl rfl dX11_about_62 ?_
        refine g_getT2 C hK hw.1 (fun _ h => h) wt_283 dX11_about_63 ?_
        replace hw := hw.2
        exact gq_I C F (by decide) (by decide) hw dX11_about_66
      · refine g_swIn (off := 50) C 3 67 e9 (by decide) (by decide) (by decide) (by decide) dX11_about_17 ?_
        replace hw := hw.2.2.2.1 (Int32.toInt_inj.mp (e9.trans (by decide)))
        refine g_aload_n C 0 rfl rfl dX11_about_67 ?_
        refine g_aload_n C 1 rfl rfl dX11_about_68 ?_
        refine g_get C hK inX11 rfl 0 (ga_0 cy A _) 1 (by decide) (fun _ h => h) wt_104 rfl dX11_about_69 ?_
        refine g_get C hK inX0 rfl 3 (ga_3 cy A _) 4 (by decide) (fun _ h => h) wt_52 rfl dX11_about_72 ?_
        have hn : ∀ (r6 : Int32) (σ7 : St), (Φ r6 σ7) → GW κ 0 0 (gW cy A σ7) 78 [(3, .ref b3), (0, .ref (A 0)), (1, .int v1), (2, .int v2)] [.int r6] := by
          intro r6 σ7 hw
          exact gq_I C F (by decide) (by decide) hw dX11_about_78
        obtain ⟨h8, hw⟩ := hw
        rcases hw with ⟨h9, hw⟩ | ⟨h9, hw⟩ | ⟨h9, hw⟩ | ⟨h9, hw⟩ | ⟨h9, hw⟩
        · obtain ⟨q9, -, h9⟩ := ga_T cy A _ h8 h9
          exact gc_I C (gr_O (As := [.int (σ1.1 3 4)]) (rest := []) C hK 1 (gd_O wt_331 wt_207 wt_205 wt_208 wt_209 wt_11 wt_210) rfl rfl rfl wt_218 hs_X9_weighs ⟨⟨Nat.le_of_ble_eq_true rfl, Nat.le_of_ble_eq_true rfl⟩, Nat.le_of_ble_eq_true rfl, Nat.le_of_ble_eq_true rfl⟩ rfl q9 h9 rfl rfl (Nat.le_of_ble_eq_true rfl) dX11_about_75 (c_X1_weighs (q_l κ) (q_D κ) cy A hw)) hn
        · obtain ⟨q9, -, h9⟩ := ga_T cy A _ h8 h9
          exact gc_I C (gr_U (As := [.int (σ1.1 3 4)]) (rest := []) C hK 1 (gd_U wt_331 wt_207 wt_211 wt_205 wt_10 wt_218) rfl rfl rfl rfl hs_X9_weighs ⟨⟨Nat.le_of_ble_eq_true rfl, Nat.le_of_ble_eq_true rfl⟩, Nat.le_of_ble_eq_true rfl, Nat.le_of_ble_eq_true rfl⟩ rfl q9 h9 rfl rfl (Nat.le_of_ble_eq_true rfl) dX11_about_75 (c_X9_weighs (q_l κ) (q_D κ) cy A hw)) hn
        · obtain ⟨q9, -, h9⟩ := ga_T cy A _ h8 h9
          exact gc_I C (gr_O (As := [.int (σ1.1 3 4)]) (rest := []) C hK 1 (gd_O wt_331 wt_207 wt_205 wt_212 wt_213 wt_14 wt_214) rfl rfl rfl wt_218 hs_X9_weighs ⟨⟨Nat.le_of_ble_eq_true rfl, Nat.le_of_ble_eq_true rfl⟩, Nat.le_of_ble_eq_true rfl, Nat.le_of_ble_eq_true rfl⟩ rfl q9 h9 rfl rfl (Nat.le_of_ble_eq_true rfl) dX11_about_75 (c_X4_weighs (q_l κ) (q_D κ) cy A hw)) hn
        · obtain ⟨q9, -, h9⟩ := ga_T cy A _ h8 h9
          exact gc_I C (gr_O (As := [.int (σ1.1 3 4)]) (rest := []) C hK 1 (gd_O wt_331 wt_207 wt_205 wt_215 wt_216 wt_13 wt_217) rfl rfl rfl wt_218 hs_X9_weighs ⟨⟨Nat.le_of_ble_eq_true rfl, Nat.le_of_ble_eq_true rfl⟩, Nat.le_of_ble_eq_true rfl, Nat.le_of_ble_eq_true rfl⟩ rfl q9 h9 rfl rfl (Nat.le_of_ble_eq_true rfl) dX11_about_75 (c_X5_weighs (q_l κ) (q_D κ) cy A hw)) hn
        · obtain ⟨q9, -, h9⟩ := ga_T cy A _ h8 h9
          exact gc_I C (gr_V (As := [.int (σ1.1 3 4)]) (rest := []) C hK 1 (gd_V wt_331 wt_205 wt_206 wt_10 wt_218) rfl rfl rfl ⟨rfl, hs_X9_weighs⟩ ⟨⟨Nat.le_of_ble_eq_true rfl, Nat.le_of_ble_eq_true rfl⟩, Nat.le_of_ble_eq_true rfl, Nat.le_of_ble_eq_true rfl⟩ rfl q9 h9 rfl rfl (Nat.le_of_ble_eq_true rfl) dX11_about_75 (c_X9_weighs (q_l κ) (q_D κ) cy A hw)) hn
      · refine g_swIn (off := 62) C 4 79 e9 (by decide) (by decide) (by decide) (by decide) dX11_about_17 ?_
        replace hw := hw.2.2.2.2.1 (Int32.toInt_inj.mp (e9.trans (by decide)))
        refine g_aload_n C 0 rfl rfl dX11_about_79 ?_
        refine g_aload_n C 1 rfl rfl dX11_about_80 ?_
        refine g_get C hK inX11 rfl 0 (ga_0 cy A _) 1 (by decide) (fun _ h => h) wt_104 rfl dX11_about_81 ?_
        refine g_get C hK inX0 rfl 3 (ga_3 cy A _) 4 (by decide) (fun _ h => h) wt_52 rfl dX11_about_84 ?_
        have hn : ∀ (r8 : Int32) (σ9 : St), (Φ r8 σ9) → GW κ 0 0 (gW cy A σ9) 90 [(3, .ref b3), (0, .ref (A 0)), (1, .int v1), (2, .int v2)] [.int r8] := by
          intro r8 σ9 hw
          exact gq_I C F (by decide) (by decide) hw dX11_about_90
        obtain ⟨h8, hw⟩ := hw
        rcases hw with ⟨h9, hw⟩ | ⟨h9, hw⟩ | ⟨h9, hw⟩ | ⟨h9, hw⟩ | ⟨h9, hw⟩
        · obtain ⟨q9, -, h9⟩ := ga_T cy A _ h8 h9
          exact gc_I C (gr_U (As := [.int (σ1.1 3 4)]) (rest := []) C hK 1 (gd_U wt_332 wt_335 wt_336 wt_333 wt_10 wt_340) rfl rfl rfl rfl hs_X9_hoursHere ⟨⟨Nat.le_of_ble_eq_true rfl, Nat.le_of_ble_eq_true rfl⟩, Nat.le_of_ble_eq_true rfl, Nat.le_of_ble_eq_true rfl⟩ rfl q9 h9 rfl rfl (Nat.le_of_ble_eq_true rfl) dX11_about_87 (c_X9_hoursHere (q_l κ) (q_D κ) cy A hw)) hn
        · obtain ⟨q9, -, h9⟩ := ga_T cy A _ h8 h9
          exact gc_I C (gr_U (As := [.int (σ1.1 3 4)]) (rest := []) C hK 1 (gd_U wt_332 wt_335 wt_337 wt_333 wt_10 wt_340) rfl rfl rfl rfl hs_X9_hoursHere ⟨⟨Nat.le_of_ble_eq_true rfl, Nat.le_of_ble_eq_true rfl⟩, Nat.le_of_ble_eq_true rfl, Nat.le_of_ble_eq_true rfl⟩ rfl q9 h9 rfl rfl (Nat.le_of_ble_eq_true rfl) dX11_about_87 (c_X9_hoursHere (q_l κ) (q_D κ) cy A hw)) hn
        · obtain ⟨q9, -, h9⟩ := ga_T cy A _ h8 h9
          exact gc_I C (gr_U (As := [.int (σ1.1 3 4)]) (rest := []) C hK 1 (gd_U wt_332 wt_335 wt_338 wt_333 wt_10 wt_340) rfl rfl rfl rfl hs_X9_hoursHere ⟨⟨Nat.le_of_ble_eq_true rfl, Nat.le_of_ble_eq_true rfl⟩, Nat.le_of_ble_eq_true rfl, Nat.le_of_ble_eq_true rfl⟩ rfl q9 h9 rfl rfl (Nat.le_of_ble_eq_true rfl) dX11_about_87 (c_X9_hoursHere (q_l κ) (q_D κ) cy A hw)) hn
        · obtain ⟨q9, -, h9⟩ := ga_T cy A _ h8 h9
          exact gc_I C (gr_U (As := [.int (σ1.1 3 4)]) (rest := []) C hK 1 (gd_U wt_332 wt_335 wt_339 wt_333 wt_10 wt_340) rfl rfl rfl rfl hs_X9_hoursHere ⟨⟨Nat.le_of_ble_eq_true rfl, Nat.le_of_ble_eq_true rfl⟩, Nat.le_of_ble_eq_true rfl, Nat.le_of_ble_eq_true rfl⟩ rfl q9 h9 rfl rfl (Nat.le_of_ble_eq_true rfl) dX11_about_87 (c_X9_hoursHere (q_l κ) (q_D κ) cy A hw)) hn
        · obtain ⟨q9, -, h9⟩ := ga_T cy A _ h8 h9
          exact gc_I C (gr_V (As := [.int (σ1.1 3 4)]) (rest := []) C hK 1 (gd_V wt_332 wt_333 wt_334 wt_10 wt_340) rfl rfl rfl ⟨rfl, hs_X9_hoursHere⟩ ⟨⟨Nat.le_of_ble_eq_true rfl, Nat.le_of_ble_eq_true rfl⟩, Nat.le_of_ble_eq_true rfl, Nat.le_of_ble_eq_true rfl⟩ rfl q9 h9 rfl rfl (Nat.le_of_ble_eq_true rfl) dX11_about_87 (c_X9_hoursHere (q_l κ) (q_D κ) cy A hw)) hn
  · subst e9
    replace hw := hw1
    refine g_bipush (v := (-101 : Int32)) C dX11_about_13 (by decide) ?_
    exact gq_I C F (by decide) (by decide) hw dX11_about_15
