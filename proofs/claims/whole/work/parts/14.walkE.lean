set_option maxHeartbeats 4000000 in
set_option maxRecDepth 100000 in
theorem c_X11_isOfKind (l : Launch) (D : va_G) (cy : Nat → ClassId) (A : Nat → Nat) {σ : St} {a0 : Nat} {v1 : Int32} {Φ : Int32 → St → Prop} (hw : wX11_isOfKind σ a0 v1 Φ) : CtI l yX11_isOfKind (.code yX11_isOfKind cX11_isOfKind 2 (some .boolean) :: gL) rm_X11_isOfKind 0 0 [.ref a0, .int v1] D cy A σ Φ := by
  refine ct_any (fun sz => va_Qi Φ (HE D cy A (gZ cy A σ sz)) (gZ cy A σ sz)) (by decide +kernel) rfl rfl [(0, .ref a0), (1, .int v1)] rfl (Nat.le_of_ble_eq_true rfl) ?_
  intro κ hκl hnm C hK sz F
  subst hκl
  unfold wX11_isOfKind at hw
  refine g_iload_n C 1 rfl rfl dX11_isOfKind_0 ?_
  by_cases h9 : v1.toInt < 1 ∨ 4 < v1.toInt
  · refine g_swOut C 52 h9 (by decide) dX11_isOfKind_1 ?_
    replace hw := hw.2.2.2.2 h9
    refine g_iload_n C 1 rfl rfl dX11_isOfKind_52 ?_
    refine g_if_ne C 60 (by decide) hw dX11_isOfKind_53 (fun hw => ?_) (fun hw => ?_)
    · refine g_iconst (v := (0 : Int32)) C dX11_isOfKind_60 (by decide) ?_
      exact gq_Z C F (by decide) (by decide) hw dX11_isOfKind_61
    · refine g_iconst (v := (1 : Int32)) C dX11_isOfKind_56 (by decide) ?_
      refine g_goto C 61 (by decide) dX11_isOfKind_57 ?_
      exact gq_Z C F (by decide) (by decide) hw dX11_isOfKind_61
  · rcases (show v1.toInt = 1 ∨ v1.toInt = 2 ∨ v1.toInt = 3 ∨ v1.toInt = 4 by omega) with e9 | e9 | e9 | e9
    · refine g_swIn (off := 31) C 1 32 e9 (by decide) (by decide) (by decide) (by decide) dX11_isOfKind_1 ?_
      replace hw := hw.1 (Int32.toInt_inj.mp (e9.trans (by decide)))
      refine g_aload_n C 0 rfl rfl dX11_isOfKind_32 ?_
      refine g_instT C hK (ct := 1) rfl wt_258 hw.1 _ (inst_1 _ _) dX11_isOfKind_33 ?_
      replace hw := hw.2
      exact gq_Z C F (by decide) (by decide) hw dX11_isOfKind_36
    · refine g_swIn (off := 36) C 2 37 e9 (by decide) (by decide) (by decide) (by decide) dX11_isOfKind_1 ?_
      replace hw := hw.2.1 (Int32.toInt_inj.mp (e9.trans (by decide)))
      refine g_aload_n C 0 rfl rfl dX11_isOfKind_37 ?_
      refine g_instT C hK (ct := 3) rfl wt_284 hw.1 _ (inst_3 _ _) dX11_isOfKind_38 ?_
      replace hw := hw.2
      exact gq_Z C F (by decide) (by decide) hw dX11_isOfKind_41
    · refine g_swIn (off := 41) C 3 42 e9 (by decide) (by decide) (by decide) (by decide) dX11_isOfKind_1 ?_
      replace hw := hw.2.2.1 (Int32.toInt_inj.mp (e9.trans (by decide)))
      refine g_aload_n C 0 rfl rfl dX11_isOfKind_42 ?_
      refine g_instT C hK (ct := 5) rfl wt_290 hw.1 _ (inst_5 _ _) dX11_isOfKind_43 ?_
      replace hw := hw.2
      exact gq_Z C F (by decide) (by decide) hw dX11_isOfKind_46
    · refine g_swIn (off := 46) C 4 47 e9 (by decide) (by decide) (by decide) (by decide) dX11_isOfKind_1 ?_
      replace hw := hw.2.2.2.1 (Int32.toInt_inj.mp (e9.trans (by decide)))
      refine g_aload_n C 0 rfl rfl dX11_isOfKind_47 ?_
      refine g_instT C hK (ct := 4) rfl wt_296 hw.1 _ (inst_4 _ _) dX11_isOfKind_48 ?_
      replace hw := hw.2
      exact gq_Z C F (by decide) (by decide) hw dX11_isOfKind_51
set_option maxHeartbeats 4000000 in
set_option maxRecDepth 100000 in
theorem c_X11_as (l : Launch) (D : va_G) (cy : Nat → ClassId) (A : Nat → Nat) {σ : St} {v1 : Int32} {v2 : Int32} {Φ : Int32 → St → Prop} (hw : wX11_as σ v1 v2 Φ) : CtI l yX11_as (.code yX11_as cX11_as 4 (some .int) :: gL) rm_X11_as 0 0 [.ref (A 0), .int v1, .int v2] D cy A σ Φ := by
  refine ct_any (fun sz => va_Qi Φ (HE D cy A (gZ cy A σ sz)) (gZ cy A σ sz)) (by decide +kernel) rfl rfl [(0, .ref (A 0)), (1, .int v1), (2, .int v2)] rfl (Nat.le_of_ble_eq_true rfl) ?_
  intro κ hκl hnm C hK sz F
  subst hκl
  unfold wX11_as at hw
  refine g_aload_n C 0 rfl rfl dX11_as_0 ?_
  refine g_get C hK inX11 rfl 0 (ga_0 cy A _) 2 (by decide) (fun _ h => h) wt_105 rfl dX11_as_1 ?_
  refine g_iload_n C 1 rfl rfl dX11_as_4 ?_
  refine gc_Q C (gr_V (As := [.int v1]) (rest := []) C hK 1 (gd_V wt_313 wt_201 wt_202 wt_4 wt_203) rfl rfl rfl ⟨rfl, hs_X6_at⟩ ⟨⟨Nat.le_of_ble_eq_true rfl, Nat.le_of_ble_eq_true rfl⟩, Nat.le_of_ble_eq_true rfl, Nat.le_of_ble_eq_true rfl⟩ rfl 4 (ga_4 cy A _) rfl rfl (Nat.le_of_ble_eq_true rfl) dX11_as_5 (c_X6_at (q_l κ) (q_D κ) cy A hw)) (fun r2 σ1 hw => ?_)
  refine g_rstore_n C [(3, va_rf r2), (0, .ref (A 0)), (1, .int v1), (2, .int v2)] F.2.2.2.1 rfl (by decide) rfl dX11_as_8 ?_
  refine g_rload_n C 0 rfl rfl dX11_as_9 ?_
  refine g_ifnonnull C 16 (by decide) hw dX11_as_10 (fun b3 e9 hw1 => ?_) (fun hw1 e9 => ?_)
  · subst e9
    replace hw := hw1
    refine g_iload_n C 3 rfl rfl dX11_as_16 ?_
    refine gc_I C (gr_S (As := [.int v2]) (rest := []) C hK 1 (gd_S wt_248 wt_249 wt_1 wt_250) rfl rfl rfl hs_X11_isKind ⟨⟨Nat.le_of_ble_eq_true rfl, Nat.le_of_ble_eq_true rfl⟩, Nat.le_of_ble_eq_true rfl, Nat.le_of_ble_eq_true rfl⟩ rfl rfl (Nat.le_of_ble_eq_true rfl) dX11_as_17 (c_X11_isKind (q_l κ) (q_D κ) cy A hw)) (fun r5 σ4 hw => ?_)
    refine g_if_ne C 26 (by decide) hw dX11_as_20 (fun hw => ?_) (fun hw => ?_)
    · refine g_aload_n C 0 rfl rfl dX11_as_26 ?_
      refine g_iload_n C 3 rfl rfl dX11_as_27 ?_
      refine gc_I C (gr_S (As := [.ref b3, .int v2]) (rest := []) C hK 2 (gd_S wt_345 wt_346 wt_1 wt_347) rfl rfl rfl hs_X11_isOfKind ⟨⟨Nat.le_of_ble_eq_true rfl, Nat.le_of_ble_eq_true rfl⟩, Nat.le_of_ble_eq_true rfl, Nat.le_of_ble_eq_true rfl⟩ rfl rfl (Nat.le_of_ble_eq_true rfl) dX11_as_28 (c_X11_isOfKind (q_l κ) (q_D κ) cy A hw)) (fun r7 σ6 hw => ?_)
      refine g_if_eq C 38 (by decide) hw dX11_as_31 (fun hw => ?_) (fun hw => ?_)
      · refine g_iconst (v := (-1 : Int32)) C dX11_as_38 (by decide) ?_
        exact gq_I C F (by decide) (by decide) hw dX11_as_39
      · refine g_iload_n C 2 rfl rfl dX11_as_34 ?_
        refine g_goto C 39 (by decide) dX11_as_35 ?_
        exact gq_I C F (by decide) (by decide) hw dX11_as_39
    · refine g_bipush (v := (-102 : Int32)) C dX11_as_23 (by decide) ?_
      exact gq_I C F (by decide) (by decide) hw dX11_as_25
  · subst e9
    replace hw := hw1
    refine g_bipush (v := (-101 : Int32)) C dX11_as_13 (by decide) ?_
    exact gq_I C F (by decide) (by decide) hw dX11_as_15
set_option maxHeartbeats 4000000 in
set_option maxRecDepth 100000 in
theorem c_X11_carry (l : Launch) (D : va_G) (cy : Nat → ClassId) (A : Nat → Nat) {σ : St} {v1 : Int32} {Φ : Int32 → St → Prop} (hw : wX11_carry σ v1 Φ) : CtI l yX11_carry (.code yX11_carry cX11_carry 3 (some .int) :: gL) rm_X11_carry 0 0 [.ref (A 0), .int v1] D cy A σ Φ := by
  refine ct_any (fun sz => va_Qi Φ (HE D cy A (gZ cy A σ sz)) (gZ cy A σ sz)) (by decide +kernel) rfl rfl [(0, .ref (A 0)), (1, .int v1)] rfl (Nat.le_of_ble_eq_true rfl) ?_
  intro κ hκl hnm C hK sz F
  subst hκl
  unfold wX11_carry at hw
  refine g_aload_n C 0 rfl rfl dX11_carry_0 ?_
  refine g_get C hK inX11 rfl 0 (ga_0 cy A _) 2 (by decide) (fun _ h => h) wt_105 rfl dX11_carry_1 ?_
  refine g_iload_n C 1 rfl rfl dX11_carry_4 ?_
  refine gc_Q C (gr_V (As := [.int v1]) (rest := []) C hK 1 (gd_V wt_313 wt_201 wt_202 wt_4 wt_203) rfl rfl rfl ⟨rfl, hs_X6_at⟩ ⟨⟨Nat.le_of_ble_eq_true rfl, Nat.le_of_ble_eq_true rfl⟩, Nat.le_of_ble_eq_true rfl, Nat.le_of_ble_eq_true rfl⟩ rfl 4 (ga_4 cy A _) rfl rfl (Nat.le_of_ble_eq_true rfl) dX11_carry_5 (c_X6_at (q_l κ) (q_D κ) cy A hw)) (fun r2 σ1 hw => ?_)
  refine g_rstore_n C [(2, va_rf r2), (0, .ref (A 0)), (1, .int v1)] F.2.2.2.1 rfl (by decide) rfl dX11_carry_8 ?_
  refine g_rload_n C 0 rfl rfl dX11_carry_9 ?_
  refine g_ifnonnull C 16 (by decide) hw dX11_carry_10 (fun b3 e9 hw1 => ?_) (fun hw1 e9 => ?_)
  · subst e9
    replace hw := hw1
    refine g_aload_n C 1 rfl rfl dX11_carry_16 ?_
    refine g_get C hK inX11 rfl 0 (ga_0 cy A _) 1 (by decide) (fun _ h => h) wt_104 rfl dX11_carry_17 ?_
    refine gc_I C (gr_V (As := []) (rest := []) C hK 0 (gd_V wt_352 wt_353 wt_354 wt_3 wt_355) rfl rfl rfl ⟨rfl, hs_X0_isWhole⟩ ⟨⟨Nat.le_of_ble_eq_true rfl, Nat.le_of_ble_eq_true rfl⟩, Nat.le_of_ble_eq_true rfl, Nat.le_of_ble_eq_true rfl⟩ rfl 3 (ga_3 cy A _) rfl rfl (Nat.le_of_ble_eq_true rfl) dX11_carry_20 (c_X0_isWhole (q_l κ) (q_D κ) cy A hC3 hw)) (fun r5 σ4 hw => ?_)
    refine g_if_eq C 40 (by decide) hw dX11_carry_23 (fun hw => ?_) (fun hw => ?_)
    · refine g_bipush (v := (-103 : Int32)) C dX11_carry_40 (by decide) ?_
      exact gq_I C F (by decide) (by decide) hw dX11_carry_42
    · refine g_aload_n C 0 rfl rfl dX11_carry_26 ?_
      refine g_aload_n C 1 rfl rfl dX11_carry_27 ?_
      refine g_get C hK inX11 rfl 0 (ga_0 cy A _) 1 (by decide) (fun _ h => h) wt_104 rfl dX11_carry_28 ?_
      refine gc_I C (gr_V (As := []) (rest := [.ref b3]) C hK 0 (gd_V wt_356 wt_357 wt_358 wt_3 wt_359) rfl rfl rfl ⟨rfl, hs_X0_turnsNow⟩ ⟨⟨Nat.le_of_ble_eq_true rfl, Nat.le_of_ble_eq_true rfl⟩, Nat.le_of_ble_eq_true rfl, Nat.le_of_ble_eq_true rfl⟩ rfl 3 (ga_3 cy A _) rfl rfl (Nat.le_of_ble_eq_true rfl) dX11_carry_31 (c_X0_turnsNow (q_l κ) (q_D κ) cy A hC3 hw)) (fun r7 σ6 hw => ?_)
      have hn : ∀ (r8 : Int32) (σ9 : St), ((if r8 = 0 then Φ (-103 : Int32) σ9 else isT σ9 b3 ∧ isT σ9 b3 ∧ isT (sT σ9 b3 2 ((1 : Int32) - (σ9.2.2.2.2.2 b3 2))) b3 ∧ Φ ((sT σ9 b3 2 ((1 : Int32) - (σ9.2.2.2.2.2 b3 2))).2.2.2.2.2 b3 2) (sT σ9 b3 2 ((1 : Int32) - (σ9.2.2.2.2.2 b3 2))))) → GW κ 0 0 (gW cy A σ9) 37 [(2, .ref b3), (0, .ref (A 0)), (1, .int v1)] [.int r8] := by
        intro r8 σ9 hw
        refine g_if_ne C 43 (by decide) hw dX11_carry_37 (fun hw => ?_) (fun hw => ?_)
        · refine g_aload_n C 0 rfl rfl dX11_carry_43 ?_
          refine g_iconst (v := (1 : Int32)) C dX11_carry_44 (by decide) ?_
          refine g_aload_n C 0 rfl rfl dX11_carry_45 ?_
          refine g_getT2 C hK hw.1 (fun _ h => h) wt_283 dX11_carry_46 ?_
          replace hw := hw.2
          refine g_isub C dX11_carry_49 ?_
          refine g_putT2 C hK hw.1 (fun _ h => h) wt_283 dX11_carry_50 ?_
          replace hw := hw.2
          refine g_aload_n C 0 rfl rfl dX11_carry_53 ?_
          refine g_getT2 C hK hw.1 (fun _ h => h) wt_283 dX11_carry_54 ?_
          replace hw := hw.2
          exact gq_I C F (by decide) (by decide) hw dX11_carry_57
        · refine g_bipush (v := (-103 : Int32)) C dX11_carry_40 (by decide) ?_
          exact gq_I C F (by decide) (by decide) hw dX11_carry_42
      obtain ⟨h8, hw⟩ := hw
      rcases hw with ⟨h9, hw⟩ | ⟨h9, hw⟩ | ⟨h9, hw⟩ | ⟨h9, hw⟩ | ⟨h9, hw⟩
      · obtain ⟨q9, -, h9⟩ := ga_T cy A _ h8 h9
        exact gc_I C (gr_U (As := [.int r7]) (rest := []) C hK 1 (gd_U wt_360 wt_363 wt_364 wt_361 wt_10 wt_370) rfl rfl rfl rfl hs_X9_goesAcross ⟨⟨Nat.le_of_ble_eq_true rfl, Nat.le_of_ble_eq_true rfl⟩, Nat.le_of_ble_eq_true rfl, Nat.le_of_ble_eq_true rfl⟩ rfl q9 h9 rfl rfl (Nat.le_of_ble_eq_true rfl) dX11_carry_34 (c_X9_goesAcross (q_l κ) (q_D κ) cy A hw)) hn
      · obtain ⟨q9, -, h9⟩ := ga_T cy A _ h8 h9
        exact gc_I C (gr_O (As := [.int r7]) (rest := []) C hK 1 (gd_O wt_360 wt_363 wt_361 wt_365 wt_366 wt_12 wt_367) rfl rfl rfl wt_370 hs_X9_goesAcross ⟨⟨Nat.le_of_ble_eq_true rfl, Nat.le_of_ble_eq_true rfl⟩, Nat.le_of_ble_eq_true rfl, Nat.le_of_ble_eq_true rfl⟩ rfl q9 h9 rfl rfl (Nat.le_of_ble_eq_true rfl) dX11_carry_34 (c_X3_goesAcross (q_l κ) (q_D κ) cy A hw)) hn
      · obtain ⟨q9, -, h9⟩ := ga_T cy A _ h8 h9
        exact gc_I C (gr_U (As := [.int r7]) (rest := []) C hK 1 (gd_U wt_360 wt_363 wt_368 wt_361 wt_10 wt_370) rfl rfl rfl rfl hs_X9_goesAcross ⟨⟨Nat.le_of_ble_eq_true rfl, Nat.le_of_ble_eq_true rfl⟩, Nat.le_of_ble_eq_true rfl, Nat.le_of_ble_eq_true rfl⟩ rfl q9 h9 rfl rfl (Nat.le_of_ble_eq_true rfl) dX11_carry_34 (c_X9_goesAcross (q_l κ) (q_D κ) cy A hw)) hn
      · obtain ⟨q9, -, h9⟩ := ga_T cy A _ h8 h9
        exact gc_I C (gr_U (As := [.int r7]) (rest := []) C hK 1 (gd_U wt_360 wt_363 wt_369 wt_361 wt_10 wt_370) rfl rfl rfl rfl hs_X9_goesAcross ⟨⟨Nat.le_of_ble_eq_true rfl, Nat.le_of_ble_eq_true rfl⟩, Nat.le_of_ble_eq_true rfl, Nat.le_of_ble_eq_true rfl⟩ rfl q9 h9 rfl rfl (Nat.le_of_ble_eq_true rfl) dX11_carry_34 (c_X9_goesAcross (q_l κ) (q_D κ) cy A hw)) hn
      · obtain ⟨q9, -, h9⟩ := ga_T cy A _ h8 h9
        exact gc_I C (gr_V (As := [.int r7]) (rest := []) C hK 1 (gd_V wt_360 wt_361 wt_362 wt_10 wt_370) rfl rfl rfl ⟨rfl, hs_X9_goesAcross⟩ ⟨⟨Nat.le_of_ble_eq_true rfl, Nat.le_of_ble_eq_true rfl⟩, Nat.le_of_ble_eq_true rfl, Nat.le_of_ble_eq_true rfl⟩ rfl q9 h9 rfl rfl (Nat.le_of_ble_eq_true rfl) dX11_carry_34 (c_X9_goesAcross (q_l κ) (q_D κ) cy A hw)) hn
  · subst e9
    replace hw := hw1
    refine g_bipush (v := (-101 : Int32)) C dX11_carry_13 (by decide) ?_
    exact gq_I C F (by decide) (by decide) hw dX11_carry_15
set_option maxHeartbeats 4000000 in
set_option maxRecDepth 100000 in
theorem c_X11_hour (l : Launch) (D : va_G) (cy : Nat → ClassId) (A : Nat → Nat) {σ : St} {v1 : Int32} {Φ : Int32 → St → Prop} (hw : wX11_hour σ v1 Φ) : CtI l yX11_hour (.code yX11_hour cX11_hour 2 (some .int) :: gL) rm_X11_hour 0 0 [.ref (A 0), .int v1] D cy A σ Φ := by
  refine ct_any (fun sz => va_Qi Φ (HE D cy A (gZ cy A σ sz)) (gZ cy A σ sz)) (by decide +kernel) rfl rfl [(0, .ref (A 0)), (1, .int v1)] rfl (Nat.le_of_ble_eq_true rfl) ?_
  intro κ hκl hnm C hK sz F
  subst hκl
  unfold wX11_hour at hw
  refine g_iload_n C 1 rfl rfl dX11_hour_0 ?_
  refine g_bipush (v := (-3 : Int32)) C dX11_hour_1 (by decide) ?_
  refine g_icmp_lt C 11 (by decide) hw dX11_hour_3 (fun hw => ?_) (fun hw => ?_)
  · refine g_bipush (v := (-102 : Int32)) C dX11_hour_11 (by decide) ?_
    exact gq_I C F (by decide) (by decide) hw dX11_hour_13
  · refine g_iload_n C 1 rfl rfl dX11_hour_6 ?_
    refine g_iconst (v := (3 : Int32)) C dX11_hour_7 (by decide) ?_
    refine g_icmp_le C 14 (by decide) hw dX11_hour_8 (fun hw => ?_) (fun hw => ?_)
    · refine g_aload_n C 0 rfl rfl dX11_hour_14 ?_
      refine g_get C hK inX11 rfl 0 (ga_0 cy A _) 1 (by decide) (fun _ h => h) wt_104 rfl dX11_hour_15 ?_
      refine gc_I C (gr_V (As := []) (rest := []) C hK 0 (gd_V wt_352 wt_353 wt_354 wt_3 wt_355) rfl rfl rfl ⟨rfl, hs_X0_isWhole⟩ ⟨⟨Nat.le_of_ble_eq_true rfl, Nat.le_of_ble_eq_true rfl⟩, Nat.le_of_ble_eq_true rfl, Nat.le_of_ble_eq_true rfl⟩ rfl 3 (ga_3 cy A _) rfl rfl (Nat.le_of_ble_eq_true rfl) dX11_hour_18 (c_X0_isWhole (q_l κ) (q_D κ) cy A hC3 hw)) (fun r2 σ1 hw => ?_)
      refine g_if_eq C 39 (by decide) hw dX11_hour_21 (fun hw => ?_) (fun hw => ?_)
      · refine g_bipush (v := (-103 : Int32)) C dX11_hour_39 (by decide) ?_
        exact gq_I C F (by decide) (by decide) hw dX11_hour_41
      · refine g_aload_n C 0 rfl rfl dX11_hour_24 ?_
        refine g_get C hK inX11 rfl 0 (ga_0 cy A _) 1 (by decide) (fun _ h => h) wt_104 rfl dX11_hour_25 ?_
        refine g_get C hK inX0 rfl 3 (ga_3 cy A _) 0 (by decide) (fun _ h => h) wt_41 rfl dX11_hour_28 ?_
        refine g_iload_n C 1 rfl rfl dX11_hour_31 ?_
        refine g_isub C dX11_hour_32 ?_
        refine gc_I C (gr_S (As := [.int ((σ1.1 3 0) - v1)]) (rest := []) C hK 1 (gd_S wt_375 wt_376 wt_1 wt_377) rfl rfl rfl hs_X11_isLength ⟨⟨Nat.le_of_ble_eq_true rfl, Nat.le_of_ble_eq_true rfl⟩, Nat.le_of_ble_eq_true rfl, Nat.le_of_ble_eq_true rfl⟩ rfl rfl (Nat.le_of_ble_eq_true rfl) dX11_hour_33 (c_X11_isLength (q_l κ) (q_D κ) cy A hw)) (fun r4 σ3 hw => ?_)
        refine g_if_ne C 42 (by decide) hw dX11_hour_36 (fun hw => ?_) (fun hw => ?_)
        · refine g_aload_n C 0 rfl rfl dX11_hour_42 ?_
          refine g_get C hK inX11 rfl 0 (ga_0 cy A _) 1 (by decide) (fun _ h => h) wt_104 rfl dX11_hour_43 ?_
          refine g_iload_n C 1 rfl rfl dX11_hour_46 ?_
          refine g_aload_n C 0 rfl rfl dX11_hour_47 ?_
          refine g_get C hK inX11 rfl 0 (ga_0 cy A _) 2 (by decide) (fun _ h => h) wt_105 rfl dX11_hour_48 ?_
          refine gc_V C (gr_V (As := [.int v1, .ref (A 4)]) (rest := []) C hK 2 (gd_V wt_378 wt_379 wt_380 wt_3 wt_381) rfl rfl rfl ⟨rfl, hs_X0_goHour⟩ ⟨⟨Nat.le_of_ble_eq_true rfl, Nat.le_of_ble_eq_true rfl⟩, Nat.le_of_ble_eq_true rfl, Nat.le_of_ble_eq_true rfl⟩ rfl 3 (ga_3 cy A _) rfl rfl (Nat.le_of_ble_eq_true rfl) dX11_hour_51 (c_X0_goHour (q_l κ) (q_D κ) cy A hC3 hw)) (fun σ5 hw => ?_)
          refine g_aload_n C 0 rfl rfl dX11_hour_54 ?_
          refine g_get C hK inX11 rfl 0 (ga_0 cy A _) 1 (by decide) (fun _ h => h) wt_104 rfl dX11_hour_55 ?_
          refine g_get C hK inX0 rfl 3 (ga_3 cy A _) 6 (by decide) (fun _ h => h) wt_56 rfl dX11_hour_58 ?_
          refine g_if_eq C 68 (by decide) hw dX11_hour_61 (fun hw => ?_) (fun hw => ?_)
          · refine g_aload_n C 0 rfl rfl dX11_hour_68 ?_
            refine g_get C hK inX11 rfl 0 (ga_0 cy A _) 1 (by decide) (fun _ h => h) wt_104 rfl dX11_hour_69 ?_
            refine g_get C hK inX0 rfl 3 (ga_3 cy A _) 0 (by decide) (fun _ h => h) wt_41 rfl dX11_hour_72 ?_
            exact gq_I C F (by decide) (by decide) hw dX11_hour_75
          · refine g_iconst (v := (-1 : Int32)) C dX11_hour_64 (by decide) ?_
            refine g_goto C 75 (by decide) dX11_hour_65 ?_
            exact gq_I C F (by decide) (by decide) hw dX11_hour_75
        · refine g_bipush (v := (-103 : Int32)) C dX11_hour_39 (by decide) ?_
          exact gq_I C F (by decide) (by decide) hw dX11_hour_41
    · refine g_bipush (v := (-102 : Int32)) C dX11_hour_11 (by decide) ?_
      exact gq_I C F (by decide) (by decide) hw dX11_hour_13
set_option maxHeartbeats 4000000 in
set_option maxRecDepth 100000 in
theorem c_X11_even (l : Launch) (D : va_G) (cy : Nat → ClassId) (A : Nat → Nat) {σ : St} {v1 : Int32} {Φ : Int32 → St → Prop} (hw : wX11_even σ v1 Φ) : CtI l yX11_even (.code yX11_even cX11_even 2 (some .int) :: gL) rm_X11_even 0 0 [.ref (A 0), .int v1] D cy A σ Φ := by
  refine ct_any (fun sz => va_Qi Φ (HE D cy A (gZ cy A σ sz)) (gZ cy A σ sz)) (by decide +kernel) rfl rfl [(0, .ref (A 0)), (1, .int v1)] rfl (Nat.le_of_ble_eq_true rfl) ?_
  intro κ hκl hnm C hK sz F
  subst hκl
  unfold wX11_even at hw
  refine g_iload_n C 1 rfl rfl dX11_even_0 ?_
  refine g_if_lt C 9 (by decide) hw dX11_even_1 (fun hw => ?_) (fun hw => ?_)
  · refine g_bipush (v := (-102 : Int32)) C dX11_even_9 (by decide) ?_
    exact gq_I C F (by decide) (by decide) hw dX11_even_11
  · refine g_iload_n C 1 rfl rfl dX11_even_4 ?_
    refine g_iconst (v := (1 : Int32)) C dX11_even_5 (by decide) ?_
    refine g_icmp_le C 12 (by decide) hw dX11_even_6 (fun hw => ?_) (fun hw => ?_)
    · refine g_aload_n C 0 rfl rfl dX11_even_12 ?_
      refine g_get C hK inX11 rfl 0 (ga_0 cy A _) 1 (by decide) (fun _ h => h) wt_104 rfl dX11_even_13 ?_
      refine gc_I C (gr_V (As := []) (rest := []) C hK 0 (gd_V wt_352 wt_353 wt_354 wt_3 wt_355) rfl rfl rfl ⟨rfl, hs_X0_isWhole⟩ ⟨⟨Nat.le_of_ble_eq_true rfl, Nat.le_of_ble_eq_true rfl⟩, Nat.le_of_ble_eq_true rfl, Nat.le_of_ble_eq_true rfl⟩ rfl 3 (ga_3 cy A _) rfl rfl (Nat.le_of_ble_eq_true rfl) dX11_even_16 (c_X0_isWhole (q_l κ) (q_D κ) cy A hC3 hw)) (fun r2 σ1 hw => ?_)
      refine g_if_ne C 25 (by decide) hw dX11_even_19 (fun hw => ?_) (fun hw => ?_)
      · refine g_aload_n C 0 rfl rfl dX11_even_25 ?_
        refine g_get C hK inX11 rfl 0 (ga_0 cy A _) 4 (by decide) (fun _ h => h) wt_107 rfl dX11_even_26 ?_
        refine g_aload_n C 0 rfl rfl dX11_even_29 ?_
        refine g_get C hK inX11 rfl 0 (ga_0 cy A _) 1 (by decide) (fun _ h => h) wt_104 rfl dX11_even_30 ?_
        refine g_aload_n C 0 rfl rfl dX11_even_33 ?_
        refine g_get C hK inX11 rfl 0 (ga_0 cy A _) 2 (by decide) (fun _ h => h) wt_105 rfl dX11_even_34 ?_
        refine gc_V C (gr_V (As := [.ref (A 3), .ref (A 4)]) (rest := []) C hK 2 (gd_V wt_402 wt_403 wt_404 wt_6 wt_405) rfl rfl rfl ⟨rfl, hs_X2_find⟩ ⟨⟨Nat.le_of_ble_eq_true rfl, Nat.le_of_ble_eq_true rfl⟩, Nat.le_of_ble_eq_true rfl, Nat.le_of_ble_eq_true rfl⟩ rfl 10 (ga_10 cy A _) rfl rfl (Nat.le_of_ble_eq_true rfl) dX11_even_37 (c_X2_find (q_l κ) (q_D κ) cy A hw)) (fun σ3 hw => ?_)
        refine g_iload_n C 1 rfl rfl dX11_even_40 ?_
        refine g_if_ne C 54 (by decide) hw dX11_even_41 (fun hw => ?_) (fun hw => ?_)
        · refine g_aload_n C 0 rfl rfl dX11_even_54 ?_
          refine g_get C hK inX11 rfl 0 (ga_0 cy A _) 4 (by decide) (fun _ h => h) wt_107 rfl dX11_even_55 ?_
          refine g_get C hK inX2 rfl 10 (ga_10 cy A _) 3 (by decide) (fun _ h => h) wt_88 rfl dX11_even_58 ?_
          exact gq_I C F (by decide) (by decide) hw dX11_even_61
        · refine g_aload_n C 0 rfl rfl dX11_even_44 ?_
          refine g_get C hK inX11 rfl 0 (ga_0 cy A _) 4 (by decide) (fun _ h => h) wt_107 rfl dX11_even_45 ?_
          refine g_get C hK inX2 rfl 10 (ga_10 cy A _) 2 (by decide) (fun _ h => h) wt_86 rfl dX11_even_48 ?_
          refine g_goto C 61 (by decide) dX11_even_51 ?_
          exact gq_I C F (by decide) (by decide) hw dX11_even_61
      · refine g_bipush (v := (-103 : Int32)) C dX11_even_22 (by decide) ?_
        exact gq_I C F (by decide) (by decide) hw dX11_even_24
    · refine g_bipush (v := (-102 : Int32)) C dX11_even_9 (by decide) ?_
      exact gq_I C F (by decide) (by decide) hw dX11_even_11
set_option maxHeartbeats 4000000 in
set_option maxRecDepth 100000 in
theorem c_X11_soonest (l : Launch) (D : va_G) (cy : Nat → ClassId) (A : Nat → Nat) {σ : St} {v1 : Int32} {v2 : Int32} {Φ : Int32 → St → Prop} (hw : wX11_soonest σ v1 v2 Φ) : CtI l yX11_soonest (.code yX11_soonest cX11_soonest 3 (some .int) :: gL) rm_X11_soonest 0 0 [.ref (A 0), .int v1, .int v2] D cy A σ Φ := by
  refine ct_any (fun sz => va_Qi Φ (HE D cy A (gZ cy A σ sz)) (gZ cy A σ sz)) (by decide +kernel) rfl rfl [(0, .ref (A 0)), (1, .int v1), (2, .int v2)] rfl (Nat.le_of_ble_eq_true rfl) ?_
  intro κ hκl hnm C hK sz F
  subst hκl
  unfold wX11_soonest at hw
  refine g_iload_n C 1 rfl rfl dX11_soonest_0 ?_
  refine g_iconst (v := (1 : Int32)) C dX11_soonest_1 (by decide) ?_
  refine g_icmp_lt C 21 (by decide) hw dX11_soonest_2 (fun hw => ?_) (fun hw => ?_)
  · refine g_bipush (v := (-102 : Int32)) C dX11_soonest_21 (by decide) ?_
    exact gq_I C F (by decide) (by decide) hw dX11_soonest_23
  · refine g_iload_n C 1 rfl rfl dX11_soonest_5 ?_
    refine g_sipush (v := (9999 : Int32)) C dX11_soonest_6 (by decide) ?_
    refine g_icmp_gt C 21 (by decide) hw dX11_soonest_9 (fun hw => ?_) (fun hw => ?_)
    · refine g_bipush (v := (-102 : Int32)) C dX11_soonest_21 (by decide) ?_
      exact gq_I C F (by decide) (by decide) hw dX11_soonest_23
    · refine g_iload_n C 2 rfl rfl dX11_soonest_12 ?_
      refine g_if_lt C 21 (by decide) hw dX11_soonest_13 (fun hw => ?_) (fun hw => ?_)
      · refine g_bipush (v := (-102 : Int32)) C dX11_soonest_21 (by decide) ?_
        exact gq_I C F (by decide) (by decide) hw dX11_soonest_23
      · refine g_iload_n C 2 rfl rfl dX11_soonest_16 ?_
        refine g_iconst (v := (1 : Int32)) C dX11_soonest_17 (by decide) ?_
        refine g_icmp_le C 24 (by decide) hw dX11_soonest_18 (fun hw => ?_) (fun hw => ?_)
        · refine g_aload_n C 0 rfl rfl dX11_soonest_24 ?_
          refine g_get C hK inX11 rfl 0 (ga_0 cy A _) 1 (by decide) (fun _ h => h) wt_104 rfl dX11_soonest_25 ?_
          refine gc_I C (gr_V (As := []) (rest := []) C hK 0 (gd_V wt_352 wt_353 wt_354 wt_3 wt_355) rfl rfl rfl ⟨rfl, hs_X0_isWhole⟩ ⟨⟨Nat.le_of_ble_eq_true rfl, Nat.le_of_ble_eq_true rfl⟩, Nat.le_of_ble_eq_true rfl, Nat.le_of_ble_eq_true rfl⟩ rfl 3 (ga_3 cy A _) rfl rfl (Nat.le_of_ble_eq_true rfl) dX11_soonest_28 (c_X0_isWhole (q_l κ) (q_D κ) cy A hC3 hw)) (fun r2 σ1 hw => ?_)
          refine g_if_ne C 37 (by decide) hw dX11_soonest_31 (fun hw => ?_) (fun hw => ?_)
          · refine g_aload_n C 0 rfl rfl dX11_soonest_37 ?_
            refine g_get C hK inX11 rfl 0 (ga_0 cy A _) 5 (by decide) (fun _ h => h) wt_108 rfl dX11_soonest_38 ?_
            refine g_aload_n C 0 rfl rfl dX11_soonest_41 ?_
            refine g_get C hK inX11 rfl 0 (ga_0 cy A _) 1 (by decide) (fun _ h => h) wt_104 rfl dX11_soonest_42 ?_
            refine g_aload_n C 0 rfl rfl dX11_soonest_45 ?_
            refine g_get C hK inX11 rfl 0 (ga_0 cy A _) 2 (by decide) (fun _ h => h) wt_105 rfl dX11_soonest_46 ?_
            refine g_iload_n C 1 rfl rfl dX11_soonest_49 ?_
            refine gc_V C (gr_V (As := [.ref (A 3), .ref (A 4), .int v1]) (rest := []) C hK 3 (gd_V wt_428 wt_429 wt_430 wt_7 wt_431) rfl rfl rfl ⟨rfl, hs_X8_find⟩ ⟨⟨Nat.le_of_ble_eq_true rfl, Nat.le_of_ble_eq_true rfl⟩, Nat.le_of_ble_eq_true rfl, Nat.le_of_ble_eq_true rfl⟩ rfl 13 (ga_13 cy A _) rfl rfl (Nat.le_of_ble_eq_true rfl) dX11_soonest_50 (c_X8_find (q_l κ) (q_D κ) cy A hw)) (fun σ3 hw => ?_)
            refine g_iload_n C 2 rfl rfl dX11_soonest_53 ?_
            refine g_if_ne C 67 (by decide) hw dX11_soonest_54 (fun hw => ?_) (fun hw => ?_)
            · refine g_aload_n C 0 rfl rfl dX11_soonest_67 ?_
              refine g_get C hK inX11 rfl 0 (ga_0 cy A _) 5 (by decide) (fun _ h => h) wt_108 rfl dX11_soonest_68 ?_
              refine g_get C hK inX8 rfl 13 (ga_13 cy A _) 3 (by decide) (fun _ h => h) wt_102 rfl dX11_soonest_71 ?_
              exact gq_I C F (by decide) (by decide) hw dX11_soonest_74
            · refine g_aload_n C 0 rfl rfl dX11_soonest_57 ?_
              refine g_get C hK inX11 rfl 0 (ga_0 cy A _) 5 (by decide) (fun _ h => h) wt_108 rfl dX11_soonest_58 ?_
              refine g_get C hK inX8 rfl 13 (ga_13 cy A _) 2 (by decide) (fun _ h => h) wt_100 rfl dX11_soonest_61 ?_
              refine g_goto C 74 (by decide) dX11_soonest_64 ?_
              exact gq_I C F (by decide) (by decide) hw dX11_soonest_74
          · refine g_bipush (v := (-103 : Int32)) C dX11_soonest_34 (by decide) ?_
            exact gq_I C F (by decide) (by decide) hw dX11_soonest_36
        · refine g_bipush (v := (-102 : Int32)) C dX11_soonest_21 (by decide) ?_
          exact gq_I C F (by decide) (by decide) hw dX11_soonest_23
set_option maxHeartbeats 4000000 in
set_option maxRecDepth 100000 in
theorem c_X11_apartOnCircle (l : Launch) (D : va_G) (cy : Nat → ClassId) (A : Nat → Nat) {σ : St} {v0 : Int32} {v1 : Int32} {Φ : Int32 → St → Prop} (hw : wX11_apartOnCircle σ v0 v1 Φ) : CtI l yX11_apartOnCircle (.code yX11_apartOnCircle cX11_apartOnCircle 3 (some .int) :: gL) rm_X11_apartOnCircle 0 0 [.int v0, .int v1] D cy A σ Φ := by
  refine ct_any (fun sz => va_Qi Φ (HE D cy A (gZ cy A σ sz)) (gZ cy A σ sz)) (by decide +kernel) rfl rfl [(0, .int v0), (1, .int v1)] rfl (Nat.le_of_ble_eq_true rfl) ?_
  intro κ hκl hnm C hK sz F
  subst hκl
  unfold wX11_apartOnCircle at hw
  refine g_iload_n C 0 rfl rfl dX11_apartOnCircle_0 ?_
  refine g_iload_n C 1 rfl rfl dX11_apartOnCircle_1 ?_
  refine g_isub C dX11_apartOnCircle_2 ?_
  refine g_sipush (v := (360 : Int32)) C dX11_apartOnCircle_3 (by decide) ?_
  refine gc_I C (gr_S (As := [.int (v0 - v1), .int (360 : Int32)]) (rest := []) C hK 2 (gd_S wt_457 wt_388 wt_9 wt_389) rfl rfl rfl hs_J9_floorMod_7cf53 ⟨⟨Nat.le_of_ble_eq_true rfl, Nat.le_of_ble_eq_true rfl⟩, Nat.le_of_ble_eq_true rfl, Nat.le_of_ble_eq_true rfl⟩ rfl rfl (Nat.le_of_ble_eq_true rfl) dX11_apartOnCircle_6 (c_J9_floorMod_7cf53 (q_l κ) (q_D κ) cy A hw)) (fun r2 σ1 hw => ?_)
  refine g_istore_n C [(2, .int r2), (0, .int v0), (1, .int v1)] F.2.2.2.1 rfl (by decide) rfl dX11_apartOnCircle_9 ?_
  refine g_iload_n C 0 rfl rfl dX11_apartOnCircle_10 ?_
  refine g_sipush (v := (360 : Int32)) C dX11_apartOnCircle_11 (by decide) ?_
  refine g_iload_n C 0 rfl rfl dX11_apartOnCircle_14 ?_
  refine g_isub C dX11_apartOnCircle_15 ?_
  refine gc_I C (gr_S (As := [.int r2, .int ((360 : Int32) - r2)]) (rest := []) C hK 2 (gd_S wt_462 wt_179 wt_9 wt_180) rfl rfl rfl hs_J9_min_7cf53 ⟨⟨Nat.le_of_ble_eq_true rfl, Nat.le_of_ble_eq_true rfl⟩, Nat.le_of_ble_eq_true rfl, Nat.le_of_ble_eq_true rfl⟩ rfl rfl (Nat.le_of_ble_eq_true rfl) dX11_apartOnCircle_16 (c_J9_min_7cf53 (q_l κ) (q_D κ) cy A hw)) (fun r4 σ3 hw => ?_)
  exact gq_I C F (by decide) (by decide) hw dX11_apartOnCircle_19
set_option maxHeartbeats 4000000 in
set_option maxRecDepth 100000 in
theorem c_X11_caught (l : Launch) (D : va_G) (cy : Nat → ClassId) (A : Nat → Nat) {σ : St} {v1 : Int32} {Φ : Int32 → St → Prop} (hw : wX11_caught σ v1 Φ) : CtI l yX11_caught (.code yX11_caught cX11_caught 5 (some .int) :: gL) rm_X11_caught 0 0 [.ref (A 0), .int v1] D cy A σ Φ := by
  refine ct_any (fun sz => va_Qi Φ (HE D cy A (gZ cy A σ sz)) (gZ cy A σ sz)) (by decide +kernel) rfl rfl [(0, .ref (A 0)), (1, .int v1)] rfl (Nat.le_of_ble_eq_true rfl) ?_
  intro κ hκl hnm C hK sz F
  subst hκl
  have J51 : ∀ (n : Nat) (σ : St) (v3 : Int32) (v4 : Int32), wX11_caught_51 Φ n σ v3 v4 → GW κ 0 0 (gW cy A σ) 51 [(0, .ref (A 0)), (3, .int v3), (4, .int v4)] [] := by
    intro n
    induction n with
    | zero => intro σ v3 v4 hw; exact hw.elim
    | succ n ih =>
      intro σ v3 v4 hw
      rw [wX11_caught_51] at hw
      refine g_iload C 2 rfl dX11_caught_51 ?_
      refine g_bipush (v := (98 : Int32)) C dX11_caught_53 (by decide) ?_
      refine g_icmp_gt C 84 (by decide) hw dX11_caught_55 (fun hw => ?_) (fun hw => ?_)
      · refine g_iconst (v := (-1 : Int32)) C dX11_caught_84 (by decide) ?_
        exact gq_I C F (by decide) (by decide) hw dX11_caught_85
      · refine g_aload_n C 0 rfl rfl dX11_caught_58 ?_
        refine g_get C hK inX11 rfl 0 (ga_0 cy A _) 1 (by decide) (fun _ h => h) wt_104 rfl dX11_caught_59 ?_
        refine g_iload C 2 rfl dX11_caught_62 ?_
        refine gc_I C (gr_V (As := [.int v4]) (rest := []) C hK 1 (gd_V wt_458 wt_383 wt_384 wt_3 wt_385) rfl rfl rfl ⟨rfl, hs_X0_placeAfter⟩ ⟨⟨Nat.le_of_ble_eq_true rfl, Nat.le_of_ble_eq_true rfl⟩, Nat.le_of_ble_eq_true rfl, Nat.le_of_ble_eq_true rfl⟩ rfl 3 (ga_3 cy A _) rfl rfl (Nat.le_of_ble_eq_true rfl) dX11_caught_64 (c_X0_placeAfter (q_l κ) (q_D κ) cy A hC3 hw)) (fun r8 σ7 hw => ?_)
        refine g_iload_n C 1 rfl rfl dX11_caught_67 ?_
        refine gc_I C (gr_S (As := [.int r8, .int v3]) (rest := []) C hK 2 (gd_S wt_459 wt_460 wt_1 wt_461) rfl rfl rfl hs_X11_apartOnCircle ⟨⟨Nat.le_of_ble_eq_true rfl, Nat.le_of_ble_eq_true rfl⟩, Nat.le_of_ble_eq_true rfl, Nat.le_of_ble_eq_true rfl⟩ rfl rfl (Nat.le_of_ble_eq_true rfl) dX11_caught_68 (c_X11_apartOnCircle (q_l κ) (q_D κ) cy A hw)) (fun r10 σ9 hw => ?_)
        refine g_iconst (v := (5 : Int32)) C dX11_caught_71 (by decide) ?_
        refine g_icmp_gt C 78 (by decide) hw dX11_caught_72 (fun hw => ?_) (fun hw => ?_)
        · refine g_iinc (j := 2) C [(4, .int (v4 + 1)), (0, .ref (A 0)), (3, .int v3)] F.2.2.2.1 rfl rfl (by decide) rfl dX11_caught_78 ?_
          refine g_goto C 51 (by decide) dX11_caught_81 ?_
          refine g_eql (lv' := [(0, .ref (A 0)), (3, .int v3), (4, .int (v4 + 1))]) [1, 2, 0] rfl ?_
          exact ih σ9 v3 (v4 + 1) hw
        · refine g_iload C 2 rfl dX11_caught_75 ?_
          exact gq_I C F (by decide) (by decide) hw dX11_caught_77
  unfold wX11_caught at hw
  refine g_iload_n C 1 rfl rfl dX11_caught_0 ?_
  refine g_iconst (v := (1 : Int32)) C dX11_caught_1 (by decide) ?_
  refine g_icmp_lt C 11 (by decide) hw dX11_caught_2 (fun hw => ?_) (fun hw => ?_)
  · refine g_bipush (v := (-102 : Int32)) C dX11_caught_11 (by decide) ?_
    exact gq_I C F (by decide) (by decide) hw dX11_caught_13
  · refine g_iload_n C 1 rfl rfl dX11_caught_5 ?_
    refine g_bipush (v := (99 : Int32)) C dX11_caught_6 (by decide) ?_
    refine g_icmp_le C 14 (by decide) hw dX11_caught_8 (fun hw => ?_) (fun hw => ?_)
    · refine g_aload_n C 0 rfl rfl dX11_caught_14 ?_
      refine g_get C hK inX11 rfl 0 (ga_0 cy A _) 1 (by decide) (fun _ h => h) wt_104 rfl dX11_caught_15 ?_
      refine gc_I C (gr_V (As := []) (rest := []) C hK 0 (gd_V wt_352 wt_353 wt_354 wt_3 wt_355) rfl rfl rfl ⟨rfl, hs_X0_isWhole⟩ ⟨⟨Nat.le_of_ble_eq_true rfl, Nat.le_of_ble_eq_true rfl⟩, Nat.le_of_ble_eq_true rfl, Nat.le_of_ble_eq_true rfl⟩ rfl 3 (ga_3 cy A _) rfl rfl (Nat.le_of_ble_eq_true rfl) dX11_caught_18 (c_X0_isWhole (q_l κ) (q_D κ) cy A hC3 hw)) (fun r2 σ1 hw => ?_)
      refine g_if_ne C 27 (by decide) hw dX11_caught_21 (fun hw => ?_) (fun hw => ?_)
      · refine g_aload_n C 0 rfl rfl dX11_caught_27 ?_
        refine g_get C hK inX11 rfl 0 (ga_0 cy A _) 1 (by decide) (fun _ h => h) wt_104 rfl dX11_caught_28 ?_
        refine gc_I C (gr_V (As := []) (rest := []) C hK 0 (gd_V wt_356 wt_357 wt_358 wt_3 wt_359) rfl rfl rfl ⟨rfl, hs_X0_turnsNow⟩ ⟨⟨Nat.le_of_ble_eq_true rfl, Nat.le_of_ble_eq_true rfl⟩, Nat.le_of_ble_eq_true rfl, Nat.le_of_ble_eq_true rfl⟩ rfl 3 (ga_3 cy A _) rfl rfl (Nat.le_of_ble_eq_true rfl) dX11_caught_31 (c_X0_turnsNow (q_l κ) (q_D κ) cy A hC3 hw)) (fun r4 σ3 hw => ?_)
        refine g_istore_n C [(2, .int r4), (0, .ref (A 0)), (1, .int v1)] F.2.2.2.1 rfl (by decide) rfl dX11_caught_34 ?_
        refine g_bipush (v := (90 : Int32)) C dX11_caught_35 (by decide) ?_
        refine g_iload_n C 2 rfl rfl dX11_caught_37 ?_
        refine g_iload_n C 0 rfl rfl dX11_caught_38 ?_
        refine g_imul C dX11_caught_39 ?_
        refine g_isub C dX11_caught_40 ?_
        refine g_sipush (v := (360 : Int32)) C dX11_caught_41 (by decide) ?_
        refine gc_I C (gr_S (As := [.int ((90 : Int32) - (v1 * r4)), .int (360 : Int32)]) (rest := []) C hK 2 (gd_S wt_457 wt_388 wt_9 wt_389) rfl rfl rfl hs_J9_floorMod_7cf53 ⟨⟨Nat.le_of_ble_eq_true rfl, Nat.le_of_ble_eq_true rfl⟩, Nat.le_of_ble_eq_true rfl, Nat.le_of_ble_eq_true rfl⟩ rfl rfl (Nat.le_of_ble_eq_true rfl) dX11_caught_44 (c_J9_floorMod_7cf53 (q_l κ) (q_D κ) cy A hw)) (fun r6 σ5 hw => ?_)
        refine g_istore_n C [(3, .int r6), (2, .int r4), (0, .ref (A 0)), (1, .int v1)] F.2.2.2.1 rfl (by decide) rfl dX11_caught_47 ?_
        refine g_iconst (v := (0 : Int32)) C dX11_caught_48 (by decide) ?_
        refine g_istore C [(4, .int (0 : Int32)), (3, .int r6), (2, .int r4), (0, .ref (A 0)), (1, .int v1)] F.2.2.2.1 (by decide) rfl dX11_caught_49 ?_
        refine g_eql (lv' := [(0, .ref (A 0)), (3, .int r6), (4, .int (0 : Int32))]) [3, 1, 0] rfl ?_
        obtain ⟨n0, hw⟩ := hw
        exact J51 n0 σ5 r6 (0 : Int32) hw
      · refine g_bipush (v := (-103 : Int32)) C dX11_caught_24 (by decide) ?_
        exact gq_I C F (by decide) (by decide) hw dX11_caught_26
    · refine g_bipush (v := (-102 : Int32)) C dX11_caught_11 (by decide) ?_
      exact gq_I C F (by decide) (by decide) hw dX11_caught_13
set_option maxHeartbeats 4000000 in
set_option maxRecDepth 100000 in
theorem c_X11_weighed (l : Launch) (D : va_G) (cy : Nat → ClassId) (A : Nat → Nat) {σ : St} {v1 : Int32} {v2 : Int32} {Φ : Int32 → St → Prop} (hw : wX11_weighed σ v1 v2 Φ) : CtI l yX11_weighed (.code yX11_weighed cX11_weighed 3 (some .int) :: gL) rm_X11_weighed 0 0 [.ref (A 0), .int v1, .int v2] D cy A σ Φ := by
  refine ct_any (fun sz => va_Qi Φ (HE D cy A (gZ cy A σ sz)) (gZ cy A σ sz)) (by decide +kernel) rfl rfl [(0, .ref (A 0)), (1, .int v1), (2, .int v2)] rfl (Nat.le_of_ble_eq_true rfl) ?_
  intro κ hκl hnm C hK sz F
  subst hκl
  unfold wX11_weighed at hw
  refine g_iload_n C 1 rfl rfl dX11_weighed_0 ?_
  refine gc_I C (gr_S (As := [.int v1]) (rest := []) C hK 1 (gd_S wt_375 wt_376 wt_1 wt_377) rfl rfl rfl hs_X11_isLength ⟨⟨Nat.le_of_ble_eq_true rfl, Nat.le_of_ble_eq_true rfl⟩, Nat.le_of_ble_eq_true rfl, Nat.le_of_ble_eq_true rfl⟩ rfl rfl (Nat.le_of_ble_eq_true rfl) dX11_weighed_1 (c_X11_isLength (q_l κ) (q_D κ) cy A hw)) (fun r2 σ1 hw => ?_)
  refine g_if_eq C 17 (by decide) hw dX11_weighed_4 (fun hw => ?_) (fun hw => ?_)
  · refine g_bipush (v := (-102 : Int32)) C dX11_weighed_17 (by decide) ?_
    exact gq_I C F (by decide) (by decide) hw dX11_weighed_19
  · refine g_iload_n C 2 rfl rfl dX11_weighed_7 ?_
    refine g_if_lt C 17 (by decide) hw dX11_weighed_8 (fun hw => ?_) (fun hw => ?_)
    · refine g_bipush (v := (-102 : Int32)) C dX11_weighed_17 (by decide) ?_
      exact gq_I C F (by decide) (by decide) hw dX11_weighed_19
    · refine g_iload_n C 2 rfl rfl dX11_weighed_11 ?_
      refine g_bipush (v := (99 : Int32)) C dX11_weighed_12 (by decide) ?_
      refine g_icmp_le C 20 (by decide) hw dX11_weighed_14 (fun hw => ?_) (fun hw => ?_)
      · refine g_aload_n C 0 rfl rfl dX11_weighed_20 ?_
        refine g_get C hK inX11 rfl 0 (ga_0 cy A _) 1 (by decide) (fun _ h => h) wt_104 rfl dX11_weighed_21 ?_
        refine gc_I C (gr_V (As := []) (rest := []) C hK 0 (gd_V wt_192 wt_193 wt_194 wt_3 wt_195) rfl rfl rfl ⟨rfl, hs_X0_isThere⟩ ⟨⟨Nat.le_of_ble_eq_true rfl, Nat.le_of_ble_eq_true rfl⟩, Nat.le_of_ble_eq_true rfl, Nat.le_of_ble_eq_true rfl⟩ rfl 3 (ga_3 cy A _) rfl rfl (Nat.le_of_ble_eq_true rfl) dX11_weighed_24 (c_X0_isThere (q_l κ) (q_D κ) cy A hC3 hw)) (fun r4 σ3 hw => ?_)
        refine g_if_ne C 33 (by decide) hw dX11_weighed_27 (fun hw => ?_) (fun hw => ?_)
        · refine g_aload_n C 0 rfl rfl dX11_weighed_33 ?_
          refine g_get C hK inX11 rfl 0 (ga_0 cy A _) 3 (by decide) (fun _ h => h) wt_106 rfl dX11_weighed_34 ?_
          refine gc_I C (gr_V (As := []) (rest := []) C hK 0 (gd_V wt_467 wt_468 wt_469 wt_5 wt_470) rfl rfl rfl ⟨rfl, hs_X10_isFull⟩ ⟨⟨Nat.le_of_ble_eq_true rfl, Nat.le_of_ble_eq_true rfl⟩, Nat.le_of_ble_eq_true rfl, Nat.le_of_ble_eq_true rfl⟩ rfl 7 (ga_7 cy A _) rfl rfl (Nat.le_of_ble_eq_true rfl) dX11_weighed_37 (c_X10_isFull (q_l κ) (q_D κ) cy A hw)) (fun r6 σ5 hw => ?_)
          refine g_if_eq C 46 (by decide) hw dX11_weighed_40 (fun hw => ?_) (fun hw => ?_)
          · refine g_aload_n C 0 rfl rfl dX11_weighed_46 ?_
            refine g_get C hK inX11 rfl 0 (ga_0 cy A _) 3 (by decide) (fun _ h => h) wt_106 rfl dX11_weighed_47 ?_
            refine g_iload_n C 1 rfl rfl dX11_weighed_50 ?_
            refine g_iload_n C 2 rfl rfl dX11_weighed_51 ?_
            refine gc_I C (gr_V (As := [.int v1, .int v2]) (rest := []) C hK 2 (gd_V wt_471 wt_472 wt_473 wt_5 wt_474) rfl rfl rfl ⟨rfl, hs_X10_put⟩ ⟨⟨Nat.le_of_ble_eq_true rfl, Nat.le_of_ble_eq_true rfl⟩, Nat.le_of_ble_eq_true rfl, Nat.le_of_ble_eq_true rfl⟩ rfl 7 (ga_7 cy A _) rfl rfl (Nat.le_of_ble_eq_true rfl) dX11_weighed_52 (c_X10_put (q_l κ) (q_D κ) cy A hw)) (fun r8 σ7 hw => ?_)
            exact gq_I C F (by decide) (by decide) hw dX11_weighed_55
          · refine g_bipush (v := (-104 : Int32)) C dX11_weighed_43 (by decide) ?_
            exact gq_I C F (by decide) (by decide) hw dX11_weighed_45
        · refine g_bipush (v := (-103 : Int32)) C dX11_weighed_30 (by decide) ?_
          exact gq_I C F (by decide) (by decide) hw dX11_weighed_32
      · refine g_bipush (v := (-102 : Int32)) C dX11_weighed_17 (by decide) ?_
        exact gq_I C F (by decide) (by decide) hw dX11_weighed_19
set_option maxHeartbeats 4000000 in
set_option maxRecDepth 100000 in
theorem c_X11_forget (l : Launch) (D : va_G) (cy : Nat → ClassId) (A : Nat → Nat) {σ : St} {Φ : Int32 → St → Prop} (hw : wX11_forget σ Φ) : CtI l yX11_forget (.code yX11_forget cX11_forget 1 (some .int) :: gL) rm_X11_forget 0 0 [.ref (A 0)] D cy A σ Φ := by
  refine ct_any (fun sz => va_Qi Φ (HE D cy A (gZ cy A σ sz)) (gZ cy A σ sz)) (by decide +kernel) rfl rfl [(0, .ref (A 0))] rfl (Nat.le_of_ble_eq_true rfl) ?_
  intro κ hκl hnm C hK sz F
  subst hκl
  unfold wX11_forget at hw
  refine g_aload_n C 0 rfl rfl dX11_forget_0 ?_
  refine g_get C hK inX11 rfl 0 (ga_0 cy A _) 3 (by decide) (fun _ h => h) wt_106 rfl dX11_forget_1 ?_
  refine gc_I C (gr_V (As := []) (rest := []) C hK 0 (gd_V wt_181 wt_182 wt_183 wt_5 wt_184) rfl rfl rfl ⟨rfl, hs_X10_emptied⟩ ⟨⟨Nat.le_of_ble_eq_true rfl, Nat.le_of_ble_eq_true rfl⟩, Nat.le_of_ble_eq_true rfl, Nat.le_of_ble_eq_true rfl⟩ rfl 7 (ga_7 cy A _) rfl rfl (Nat.le_of_ble_eq_true rfl) dX11_forget_4 (c_X10_emptied (q_l κ) (q_D κ) cy A hw)) (fun r2 σ1 hw => ?_)
  exact gq_I C F (by decide) (by decide) hw dX11_forget_7
set_option maxHeartbeats 4000000 in
set_option maxRecDepth 100000 in
theorem c_X11_fits (l : Launch) (D : va_G) (cy : Nat → ClassId) (A : Nat → Nat) {σ : St} {v1 : Int32} {Φ : Int32 → St → Prop} (hw : wX11_fits σ v1 Φ) : CtI l yX11_fits (.code yX11_fits cX11_fits 4 (some .int) :: gL) rm_X11_fits 0 0 [.ref (A 0), .int v1] D cy A σ Φ := by
  refine ct_any (fun sz => va_Qi Φ (HE D cy A (gZ cy A σ sz)) (gZ cy A σ sz)) (by decide +kernel) rfl rfl [(0, .ref (A 0)), (1, .int v1)] rfl (Nat.le_of_ble_eq_true rfl) ?_
  intro κ hκl hnm C hK sz F
  subst hκl
  unfold wX11_fits at hw
  refine g_iload_n C 1 rfl rfl dX11_fits_0 ?_
  refine g_if_lt C 9 (by decide) hw dX11_fits_1 (fun hw => ?_) (fun hw => ?_)
  · refine g_bipush (v := (-102 : Int32)) C dX11_fits_9 (by decide) ?_
    exact gq_I C F (by decide) (by decide) hw dX11_fits_11
  · refine g_iload_n C 1 rfl rfl dX11_fits_4 ?_
    refine g_iconst (v := (2 : Int32)) C dX11_fits_5 (by decide) ?_
    refine g_icmp_le C 12 (by decide) hw dX11_fits_6 (fun hw => ?_) (fun hw => ?_)
    · refine g_aload_n C 0 rfl rfl dX11_fits_12 ?_
      refine g_get C hK inX11 rfl 0 (ga_0 cy A _) 3 (by decide) (fun _ h => h) wt_106 rfl dX11_fits_13 ?_
      refine gc_I C (gr_V (As := []) (rest := []) C hK 0 (gd_V wt_483 wt_484 wt_485 wt_5 wt_486) rfl rfl rfl ⟨rfl, hs_X10_leastSpin⟩ ⟨⟨Nat.le_of_ble_eq_true rfl, Nat.le_of_ble_eq_true rfl⟩, Nat.le_of_ble_eq_true rfl, Nat.le_of_ble_eq_true rfl⟩ rfl 7 (ga_7 cy A _) rfl rfl (Nat.le_of_ble_eq_true rfl) dX11_fits_16 (c_X10_leastSpin (q_l κ) (q_D κ) cy A hw)) (fun r2 σ1 hw => ?_)
      refine g_istore_n C [(2, .int r2), (0, .ref (A 0)), (1, .int v1)] F.2.2.2.1 rfl (by decide) rfl dX11_fits_19 ?_
      refine g_aload_n C 1 rfl rfl dX11_fits_20 ?_
      refine g_get C hK inX11 rfl 0 (ga_0 cy A _) 3 (by decide) (fun _ h => h) wt_106 rfl dX11_fits_21 ?_
      refine gc_I C (gr_V (As := []) (rest := []) C hK 0 (gd_V wt_490 wt_491 wt_492 wt_5 wt_493) rfl rfl rfl ⟨rfl, hs_X10_greatestSpin⟩ ⟨⟨Nat.le_of_ble_eq_true rfl, Nat.le_of_ble_eq_true rfl⟩, Nat.le_of_ble_eq_true rfl, Nat.le_of_ble_eq_true rfl⟩ rfl 7 (ga_7 cy A _) rfl rfl (Nat.le_of_ble_eq_true rfl) dX11_fits_24 (c_X10_greatestSpin (q_l κ) (q_D κ) cy A hw)) (fun r4 σ3 hw => ?_)
      refine g_istore_n C [(3, .int r4), (2, .int r2), (0, .ref (A 0)), (1, .int v1)] F.2.2.2.1 rfl (by decide) rfl dX11_fits_27 ?_
      refine g_iload_n C 3 rfl rfl dX11_fits_28 ?_
      refine g_if_ne C 47 (by decide) hw dX11_fits_29 (fun hw => ?_) (fun hw => ?_)
      · refine g_iload_n C 1 rfl rfl dX11_fits_47 ?_
        refine g_iload_n C 0 rfl rfl dX11_fits_48 ?_
        refine g_icmp_le C 54 (by decide) hw dX11_fits_49 (fun hw => ?_) (fun hw => ?_)
        · refine g_iload_n C 3 rfl rfl dX11_fits_54 ?_
          refine g_iconst (v := (1 : Int32)) C dX11_fits_55 (by decide) ?_
          refine g_icmp_ne C 63 (by decide) hw dX11_fits_56 (fun hw => ?_) (fun hw => ?_)
          · refine g_iload_n C 0 rfl rfl dX11_fits_63 ?_
            exact gq_I C F (by decide) (by decide) hw dX11_fits_64
          · refine g_iload_n C 1 rfl rfl dX11_fits_59 ?_
            refine g_goto C 64 (by decide) dX11_fits_60 ?_
            exact gq_I C F (by decide) (by decide) hw dX11_fits_64
        · refine g_iconst (v := (-1 : Int32)) C dX11_fits_52 (by decide) ?_
          exact gq_I C F (by decide) (by decide) hw dX11_fits_53
      · refine g_iload_n C 1 rfl rfl dX11_fits_32 ?_
        refine g_iload_n C 0 rfl rfl dX11_fits_33 ?_
        refine g_icmp_le C 41 (by decide) hw dX11_fits_34 (fun hw => ?_) (fun hw => ?_)
        · refine g_iload_n C 0 rfl rfl dX11_fits_41 ?_
          refine g_iload_n C 1 rfl rfl dX11_fits_42 ?_
          refine g_isub C dX11_fits_43 ?_
          refine g_iconst (v := (1 : Int32)) C dX11_fits_44 (by decide) ?_
          refine g_iadd C dX11_fits_45 ?_
          exact gq_I C F (by decide) (by decide) hw dX11_fits_46
        · refine g_iconst (v := (0 : Int32)) C dX11_fits_37 (by decide) ?_
          refine g_goto C 46 (by decide) dX11_fits_38 ?_
          exact gq_I C F (by decide) (by decide) hw dX11_fits_46
    · refine g_bipush (v := (-102 : Int32)) C dX11_fits_9 (by decide) ?_
      exact gq_I C F (by decide) (by decide) hw dX11_fits_11
set_option maxHeartbeats 4000000 in
set_option maxRecDepth 100000 in
theorem c_X11_power (l : Launch) (D : va_G) (cy : Nat → ClassId) (A : Nat → Nat) {σ : St} {v0 : Int32} {v1 : Int32} {Φ : Int64 → St → Prop} (hw : wX11_power σ v0 v1 Φ) : CtL l yX11_power (.code yX11_power cX11_power 5 (some .long) :: gL) rm_X11_power 0 0 [.int v0, .int v1] D cy A σ Φ := by
  refine ct_any (fun sz => va_Ql Φ (HE D cy A (gZ cy A σ sz)) (gZ cy A σ sz)) (by decide +kernel) rfl rfl [(0, .int v0), (1, .int v1)] rfl (Nat.le_of_ble_eq_true rfl) ?_
  intro κ hκl hnm C hK sz F
  subst hκl
  have J5 : ∀ (n : Nat) (σ : St) (v0 : Int32) (v1 : Int32) (v2 : Int64) (v4 : Int32), wX11_power_5 Φ n σ v0 v1 v2 v4 → GW κ 0 0 (gW cy A σ) 5 [(0, .int v0), (1, .int v1), (2, .long v2), (4, .int v4)] [] := by
    intro n
    induction n with
    | zero => intro σ v0 v1 v2 v4 hw; exact hw.elim
    | succ n ih =>
      intro σ v0 v1 v2 v4 hw
      rw [wX11_power_5] at hw
      refine g_iload C 3 rfl dX11_power_5 ?_
      refine g_iload_n C 1 rfl rfl dX11_power_7 ?_
      refine g_icmp_ge C 22 (by decide) hw dX11_power_8 (fun hw => ?_) (fun hw => ?_)
      · refine g_lload_n C 2 rfl rfl dX11_power_22 ?_
        exact gq_L C F (by decide) (by decide) hw dX11_power_23
      · refine g_lload_n C 2 rfl rfl dX11_power_11 ?_
        refine g_iload_n C 0 rfl rfl dX11_power_12 ?_
        refine g_i2l C dX11_power_13 ?_
        refine g_lmul C dX11_power_14 ?_
        refine g_lstore_n C [(2, .long (v2 * v0.toInt64)), (0, .int v0), (1, .int v1), (4, .int v4)] F.2.2.2.1 rfl (by decide) rfl dX11_power_15 ?_
        refine g_iinc (j := 3) C [(4, .int (v4 + 1)), (2, .long (v2 * v0.toInt64)), (0, .int v0), (1, .int v1)] F.2.2.2.1 rfl rfl (by decide) rfl dX11_power_16 ?_
        refine g_goto C 5 (by decide) dX11_power_19 ?_
        refine g_eql (lv' := [(0, .int v0), (1, .int v1), (2, .long (v2 * v0.toInt64)), (4, .int (v4 + 1))]) [2, 3, 1, 0] rfl ?_
        exact ih σ v0 v1 (v2 * v0.toInt64) (v4 + 1) hw
  unfold wX11_power at hw
  refine g_lconst (v := (1 : Int64)) C dX11_power_0 (by decide) ?_
  refine g_lstore_n C [(2, .long (1 : Int64)), (0, .int v0), (1, .int v1)] F.2.2.2.1 rfl (by decide) rfl dX11_power_1 ?_
  refine g_iconst (v := (0 : Int32)) C dX11_power_2 (by decide) ?_
  refine g_istore C [(4, .int (0 : Int32)), (2, .long (1 : Int64)), (0, .int v0), (1, .int v1)] F.2.2.2.1 (by decide) rfl dX11_power_3 ?_
  refine g_eql (lv' := [(0, .int v0), (1, .int v1), (2, .long (1 : Int64)), (4, .int (0 : Int32))]) [2, 3, 1, 0] rfl ?_
  obtain ⟨n0, hw⟩ := hw
  exact J5 n0 σ v0 v1 (1 : Int64) (0 : Int32) hw
set_option maxHeartbeats 4000000 in
set_option maxRecDepth 100000 in
theorem c_X11_reduced (l : Launch) (D : va_G) (cy : Nat → ClassId) (A : Nat → Nat) {σ : St} {v0 : Int32} {v1 : Int32} {Φ : Int32 → St → Prop} (hw : wX11_reduced σ v0 v1 Φ) : CtI l yX11_reduced (.code yX11_reduced cX11_reduced 3 (some .int) :: gL) rm_X11_reduced 0 0 [.int v0, .int v1] D cy A σ Φ := by
  refine ct_any (fun sz => va_Qi Φ (HE D cy A (gZ cy A σ sz)) (gZ cy A σ sz)) (by decide +kernel) rfl rfl [(0, .int v0), (1, .int v1)] rfl (Nat.le_of_ble_eq_true rfl) ?_
  intro κ hκl hnm C hK sz F
  subst hκl
  have J24 : ∀ (K3 : St → Int32 → Int32 → Int32 → Prop) (_ : ∀ (σ : St) (v0 : Int32) (v1 : Int32) (v2 : Int32), K3 σ v0 v1 v2 → GW κ 0 0 (gW cy A σ) 3 [(0, .int v0), (1, .int v1), (2, .int v2)] []), ∀ (σ : St) (v0 : Int32) (v1 : Int32) (v2 : Int32), wX11_reduced_24 K3 Φ σ v0 v1 v2 → GW κ 0 0 (gW cy A σ) 24 [(0, .int v0), (1, .int v1), (2, .int v2)] [] := by
    intro K3 hK3 σ v0 v1 v2 hw
    unfold wX11_reduced_24 at hw
    refine g_iinc (j := 2) C [(2, .int (v2 + (-1))), (0, .int v0), (1, .int v1)] F.2.2.2.1 rfl (congrArg (fun z => v2 + z) (by decide : Int32.ofInt (-1) = (-1 : Int32))) (by decide) rfl dX11_reduced_24 ?_
    refine g_goto C 3 (by decide) dX11_reduced_27 ?_
    refine g_eql (lv' := [(0, .int v0), (1, .int v1), (2, .int (v2 + (-1)))]) [1, 2, 0] rfl ?_
    exact hK3 σ v0 v1 (v2 + (-1)) hw
  have J3 : ∀ (n : Nat) (σ : St) (v0 : Int32) (v1 : Int32) (v2 : Int32), wX11_reduced_3 Φ n σ v0 v1 v2 → GW κ 0 0 (gW cy A σ) 3 [(0, .int v0), (1, .int v1), (2, .int v2)] [] := by
    intro n
    induction n with
    | zero => intro σ v0 v1 v2 hw; exact hw.elim
    | succ n ih =>
      intro σ v0 v1 v2 hw
      rw [wX11_reduced_3] at hw
      refine g_iload_n C 2 rfl rfl dX11_reduced_3 ?_
      refine g_iconst (v := (1 : Int32)) C dX11_reduced_4 (by decide) ?_
      refine g_icmp_le C 30 (by decide) hw dX11_reduced_5 (fun hw => ?_) (fun hw => ?_)
      · refine g_iload_n C 0 rfl rfl dX11_reduced_30 ?_
        exact gq_I C F (by decide) (by decide) hw dX11_reduced_31
      · refine g_iload_n C 0 rfl rfl dX11_reduced_8 ?_
        refine g_iload_n C 2 rfl rfl dX11_reduced_9 ?_
        refine g_irem C hw.1 dX11_reduced_10 ?_
        replace hw := hw.2
        refine g_if_ne C 24 (by decide) hw dX11_reduced_11 (fun hw => ?_) (fun hw => ?_)
        · exact J24 _ ih σ v0 v1 v2 hw
        · refine g_iload_n C 1 rfl rfl dX11_reduced_14 ?_
          refine g_iload_n C 2 rfl rfl dX11_reduced_15 ?_
          refine g_irem C hw.1 dX11_reduced_16 ?_
          replace hw := hw.2
          refine g_if_ne C 24 (by decide) hw dX11_reduced_17 (fun hw => ?_) (fun hw => ?_)
          · exact J24 _ ih σ v0 v1 v2 hw
          · refine g_iload_n C 0 rfl rfl dX11_reduced_20 ?_
            refine g_iload_n C 2 rfl rfl dX11_reduced_21 ?_
            refine g_idiv C hw.1 dX11_reduced_22 ?_
            replace hw := hw.2
            exact gq_I C F (by decide) (by decide) hw dX11_reduced_23
  unfold wX11_reduced at hw
  refine g_bipush (v := (100 : Int32)) C dX11_reduced_0 (by decide) ?_
  refine g_istore_n C [(2, .int (100 : Int32)), (0, .int v0), (1, .int v1)] F.2.2.2.1 rfl (by decide) rfl dX11_reduced_2 ?_
  refine g_eql (lv' := [(0, .int v0), (1, .int v1), (2, .int (100 : Int32))]) [1, 2, 0] rfl ?_
  obtain ⟨n0, hw⟩ := hw
  exact J3 n0 σ v0 v1 (100 : Int32) hw
set_option maxHeartbeats 4000000 in
set_option maxRecDepth 100000 in
theorem c_X11_lasts (l : Launch) (D : va_G) (cy : Nat → ClassId) (A : Nat → Nat) {σ : St} {v1 : Int32} {v2 : Int32} {Φ : Int64 → St → Prop} (hw : wX11_lasts σ v1 v2 Φ) : CtL l yX11_lasts (.code yX11_lasts cX11_lasts 5 (some .long) :: gL) rm_X11_lasts 0 0 [.ref (A 0), .int v1, .int v2] D cy A σ Φ := by
  refine ct_any (fun sz => va_Ql Φ (HE D cy A (gZ cy A σ sz)) (gZ cy A σ sz)) (by decide +kernel) rfl rfl [(0, .ref (A 0)), (1, .int v1), (2, .int v2)] rfl (Nat.le_of_ble_eq_true rfl) ?_
  intro κ hκl hnm C hK sz F
  subst hκl
  have J78 : ∀ (σ : St) (v1 : Int32) (s0 : Int32), wX11_lasts_78 Φ σ v1 s0 → GW κ 0 0 (gW cy A σ) 78 [(1, .int v1)] [.int s0] := by
    intro σ v1 s0 hw
    unfold wX11_lasts_78 at hw
    refine g_istore C [(4, .int s0), (1, .int v1)] F.2.2.2.1 (by decide) rfl dX11_lasts_78 ?_
    refine g_iload C 0 rfl dX11_lasts_80 ?_
    refine g_iload_n C 1 rfl rfl dX11_lasts_82 ?_
    refine gc_L C (gr_S (As := [.int s0, .int v1]) (rest := []) C hK 2 (gd_S wt_510 wt_511 wt_1 wt_512) rfl rfl rfl hs_X11_power ⟨⟨Nat.le_of_ble_eq_true rfl, Nat.le_of_ble_eq_true rfl⟩, Nat.le_of_ble_eq_true rfl, Nat.le_of_ble_eq_true rfl⟩ rfl rfl (Nat.le_of_ble_eq_true rfl) dX11_lasts_83 (c_X11_power (q_l κ) (q_D κ) cy A hw)) (fun r12 σ11 hw => ?_)
    exact gq_L C F (by decide) (by decide) hw dX11_lasts_86
  unfold wX11_lasts at hw
  refine g_iload_n C 1 rfl rfl dX11_lasts_0 ?_
  refine g_iconst (v := (1 : Int32)) C dX11_lasts_1 (by decide) ?_
  refine g_icmp_lt C 19 (by decide) hw dX11_lasts_2 (fun hw => ?_) (fun hw => ?_)
  · refine g_ldc2 (v := (-102 : Int64)) C dX11_lasts_19 wt_499 ?_
    exact gq_L C F (by decide) (by decide) hw dX11_lasts_22
  · refine g_iload_n C 1 rfl rfl dX11_lasts_5 ?_
    refine g_iconst (v := (4 : Int32)) C dX11_lasts_6 (by decide) ?_
    refine g_icmp_gt C 19 (by decide) hw dX11_lasts_7 (fun hw => ?_) (fun hw => ?_)
    · refine g_ldc2 (v := (-102 : Int64)) C dX11_lasts_19 wt_499 ?_
      exact gq_L C F (by decide) (by decide) hw dX11_lasts_22
    · refine g_iload_n C 2 rfl rfl dX11_lasts_10 ?_
      refine g_if_lt C 19 (by decide) hw dX11_lasts_11 (fun hw => ?_) (fun hw => ?_)
      · refine g_ldc2 (v := (-102 : Int64)) C dX11_lasts_19 wt_499 ?_
        exact gq_L C F (by decide) (by decide) hw dX11_lasts_22
      · refine g_iload_n C 2 rfl rfl dX11_lasts_14 ?_
        refine g_iconst (v := (1 : Int32)) C dX11_lasts_15 (by decide) ?_
        refine g_icmp_le C 23 (by decide) hw dX11_lasts_16 (fun hw => ?_) (fun hw => ?_)
        · refine g_aload_n C 0 rfl rfl dX11_lasts_23 ?_
          refine g_get C hK inX11 rfl 0 (ga_0 cy A _) 1 (by decide) (fun _ h => h) wt_104 rfl dX11_lasts_24 ?_
          refine gc_I C (gr_V (As := []) (rest := []) C hK 0 (gd_V wt_352 wt_353 wt_354 wt_3 wt_355) rfl rfl rfl ⟨rfl, hs_X0_isWhole⟩ ⟨⟨Nat.le_of_ble_eq_true rfl, Nat.le_of_ble_eq_true rfl⟩, Nat.le_of_ble_eq_true rfl, Nat.le_of_ble_eq_true rfl⟩ rfl 3 (ga_3 cy A _) rfl rfl (Nat.le_of_ble_eq_true rfl) dX11_lasts_27 (c_X0_isWhole (q_l κ) (q_D κ) cy A hC3 hw)) (fun r2 σ1 hw => ?_)
          refine g_if_ne C 37 (by decide) hw dX11_lasts_30 (fun hw => ?_) (fun hw => ?_)
          · refine g_bipush (v := (100 : Int32)) C dX11_lasts_37 (by decide) ?_
            refine g_aload_n C 0 rfl rfl dX11_lasts_39 ?_
            refine g_get C hK inX11 rfl 0 (ga_0 cy A _) 1 (by decide) (fun _ h => h) wt_104 rfl dX11_lasts_40 ?_
            refine g_aload_n C 0 rfl rfl dX11_lasts_43 ?_
            refine g_get C hK inX11 rfl 0 (ga_0 cy A _) 1 (by decide) (fun _ h => h) wt_104 rfl dX11_lasts_44 ?_
            refine g_aload_n C 0 rfl rfl dX11_lasts_47 ?_
            refine g_get C hK inX11 rfl 0 (ga_0 cy A _) 2 (by decide) (fun _ h => h) wt_105 rfl dX11_lasts_48 ?_
            refine gc_I C (gr_V (As := [.ref (A 4)]) (rest := [.ref (A 3), .int (100 : Int32)]) C hK 1 (gd_V wt_501 wt_391 wt_392 wt_3 wt_393) rfl rfl rfl ⟨rfl, hs_X0_strainNow⟩ ⟨⟨Nat.le_of_ble_eq_true rfl, Nat.le_of_ble_eq_true rfl⟩, Nat.le_of_ble_eq_true rfl, Nat.le_of_ble_eq_true rfl⟩ rfl 3 (ga_3 cy A _) rfl rfl (Nat.le_of_ble_eq_true rfl) dX11_lasts_51 (c_X0_strainNow (q_l κ) (q_D κ) cy A hC3 hw)) (fun r4 σ3 hw => ?_)
            refine gc_I C (gr_V (As := [.int r4]) (rest := [.int (100 : Int32)]) C hK 1 (gd_V wt_502 wt_503 wt_504 wt_3 wt_505) rfl rfl rfl ⟨rfl, hs_X0_breakingHundredths⟩ ⟨⟨Nat.le_of_ble_eq_true rfl, Nat.le_of_ble_eq_true rfl⟩, Nat.le_of_ble_eq_true rfl, Nat.le_of_ble_eq_true rfl⟩ rfl 3 (ga_3 cy A _) rfl rfl (Nat.le_of_ble_eq_true rfl) dX11_lasts_54 (c_X0_breakingHundredths (q_l κ) (q_D κ) cy A hC3 hw)) (fun r6 σ5 hw => ?_)
            refine g_isub C dX11_lasts_57 ?_
            refine g_istore_n C [(3, .int ((100 : Int32) - r6)), (0, .ref (A 0)), (1, .int v1), (2, .int v2)] F.2.2.2.1 rfl (by decide) rfl dX11_lasts_58 ?_
            refine g_iload_n C 3 rfl rfl dX11_lasts_59 ?_
            refine g_if_ne C 72 (by decide) hw dX11_lasts_60 (fun hw => ?_) (fun hw => ?_)
            · refine g_bipush (v := (100 : Int32)) C dX11_lasts_72 (by decide) ?_
              refine g_iload_n C 0 rfl rfl dX11_lasts_74 ?_
              refine gc_I C (gr_S (As := [.int (100 : Int32), .int ((100 : Int32) - r6)]) (rest := []) C hK 2 (gd_S wt_507 wt_508 wt_1 wt_509) rfl rfl rfl hs_X11_reduced ⟨⟨Nat.le_of_ble_eq_true rfl, Nat.le_of_ble_eq_true rfl⟩, Nat.le_of_ble_eq_true rfl, Nat.le_of_ble_eq_true rfl⟩ rfl rfl (Nat.le_of_ble_eq_true rfl) dX11_lasts_75 (c_X11_reduced (q_l κ) (q_D κ) cy A hw)) (fun r8 σ7 hw => ?_)
              refine g_eql (lv' := [(1, .int v1)]) [2] rfl ?_
              exact J78 σ7 v1 r8 hw
            · refine g_iload_n C 0 rfl rfl dX11_lasts_63 ?_
              refine g_bipush (v := (100 : Int32)) C dX11_lasts_64 (by decide) ?_
              refine gc_I C (gr_S (As := [.int ((100 : Int32) - r6), .int (100 : Int32)]) (rest := []) C hK 2 (gd_S wt_507 wt_508 wt_1 wt_509) rfl rfl rfl hs_X11_reduced ⟨⟨Nat.le_of_ble_eq_true rfl, Nat.le_of_ble_eq_true rfl⟩, Nat.le_of_ble_eq_true rfl, Nat.le_of_ble_eq_true rfl⟩ rfl rfl (Nat.le_of_ble_eq_true rfl) dX11_lasts_66 (c_X11_reduced (q_l κ) (q_D κ) cy A hw)) (fun r10 σ9 hw => ?_)
              refine g_goto C 78 (by decide) dX11_lasts_69 ?_
              refine g_eql (lv' := [(1, .int v1)]) [2] rfl ?_
              exact J78 σ9 v1 r10 hw
          · refine g_ldc2 (v := (-103 : Int64)) C dX11_lasts_33 wt_500 ?_
            exact gq_L C F (by decide) (by decide) hw dX11_lasts_36
        · refine g_ldc2 (v := (-102 : Int64)) C dX11_lasts_19 wt_499 ?_
          exact gq_L C F (by decide) (by decide) hw dX11_lasts_22
set_option maxHeartbeats 4000000 in
set_option maxRecDepth 100000 in
theorem c_X11_nextSeed (l : Launch) (D : va_G) (cy : Nat → ClassId) (A : Nat → Nat) {σ : St} {v0 : Int32} {Φ : Int32 → St → Prop} (hw : wX11_nextSeed σ v0 Φ) : CtI l yX11_nextSeed (.code yX11_nextSeed cX11_nextSeed 1 (some .int) :: gL) rm_X11_nextSeed 0 0 [.int v0] D cy A σ Φ := by
  refine ct_any (fun sz => va_Qi Φ (HE D cy A (gZ cy A σ sz)) (gZ cy A σ sz)) (by decide +kernel) rfl rfl [(0, .int v0)] rfl (Nat.le_of_ble_eq_true rfl) ?_
  intro κ hκl hnm C hK sz F
  subst hκl
  unfold wX11_nextSeed at hw
  refine g_ldc2 (v := (1103515245 : Int64)) C dX11_nextSeed_0 wt_527 ?_
  refine g_iload_n C 0 rfl rfl dX11_nextSeed_3 ?_
  refine g_i2l C dX11_nextSeed_4 ?_
  refine g_lmul C dX11_nextSeed_5 ?_
  refine g_ldc2 (v := (12345 : Int64)) C dX11_nextSeed_6 wt_528 ?_
  refine g_ladd C dX11_nextSeed_9 ?_
  refine g_ldc2 (v := (2147483648 : Int64)) C dX11_nextSeed_10 wt_529 ?_
  refine g_lrem C hw.1 dX11_nextSeed_13 ?_
  replace hw := hw.2
  refine g_l2i C dX11_nextSeed_14 ?_
  exact gq_I C F (by decide) (by decide) hw dX11_nextSeed_15
set_option maxHeartbeats 4000000 in
set_option maxRecDepth 100000 in
theorem c_X11_tryHours (l : Launch) (D : va_G) (cy : Nat → ClassId) (A : Nat → Nat) {σ : St} {v1 : Int32} {v2 : Int32} {Φ : Int32 → St → Prop} (hw : wX11_tryHours σ v1 v2 Φ) : CtI l yX11_tryHours (.code yX11_tryHours cX11_tryHours 6 (some .int) :: gL) rm_X11_tryHours 0 0 [.ref (A 0), .int v1, .int v2] D cy A σ Φ := by
  refine ct_any (fun sz => va_Qi Φ (HE D cy A (gZ cy A σ sz)) (gZ cy A σ sz)) (by decide +kernel) rfl rfl [(0, .ref (A 0)), (1, .int v1), (2, .int v2)] rfl (Nat.le_of_ble_eq_true rfl) ?_
  intro κ hκl hnm C hK sz F
  subst hκl
  have J76 : ∀ (K16 : St → Int32 → Int32 → Int32 → Prop) (_ : ∀ (σ : St) (v1 : Int32) (v3 : Int32) (v4 : Int32), K16 σ v1 v3 v4 → GW κ 0 0 (gW cy A σ) 16 [(0, .ref (A 0)), (1, .int v1), (3, .int v3), (4, .int v4)] []), ∀ (σ : St) (v1 : Int32) (v3 : Int32) (v4 : Int32) (s0 : Int32), wX11_tryHours_76 K16 Φ σ v1 v3 v4 s0 → GW κ 0 0 (gW cy A σ) 76 [(0, .ref (A 0)), (1, .int v1), (3, .int v3), (4, .int v4)] [.int s0, .ref (A 16)] := by
    intro K16 hK16 σ v1 v3 v4 s0 hw
    unfold wX11_tryHours_76 at hw
    refine g_aload_n C 0 rfl rfl dX11_tryHours_76 ?_
    refine g_get C hK inX11 rfl 0 (ga_0 cy A _) 2 (by decide) (fun _ h => h) wt_105 rfl dX11_tryHours_77 ?_
    refine gc_V C (gr_V (As := [.int s0, .ref (A 4)]) (rest := []) C hK 2 (gd_V wt_378 wt_379 wt_380 wt_3 wt_381) rfl rfl rfl ⟨rfl, hs_X0_goHour⟩ ⟨⟨Nat.le_of_ble_eq_true rfl, Nat.le_of_ble_eq_true rfl⟩, Nat.le_of_ble_eq_true rfl, Nat.le_of_ble_eq_true rfl⟩ rfl 16 (ga_16 cy A _) rfl rfl (Nat.le_of_ble_eq_true rfl) dX11_tryHours_80 (c_X0_goHour (q_l κ) (q_D κ) cy A hC16 hw)) (fun σ8 hw => ?_)
    refine g_iinc (j := 3) C [(4, .int (v4 + 1)), (0, .ref (A 0)), (1, .int v1), (3, .int v3)] F.2.2.2.1 rfl rfl (by decide) rfl dX11_tryHours_83 ?_
    refine g_goto C 16 (by decide) dX11_tryHours_86 ?_
    refine g_eql (lv' := [(0, .ref (A 0)), (1, .int v1), (3, .int v3), (4, .int (v4 + 1))]) [1, 2, 3, 0] rfl ?_
    exact hK16 σ8 v1 v3 (v4 + 1) hw
  have J16 : ∀ (n : Nat) (σ : St) (v1 : Int32) (v3 : Int32) (v4 : Int32), wX11_tryHours_16 Φ n σ v1 v3 v4 → GW κ 0 0 (gW cy A σ) 16 [(0, .ref (A 0)), (1, .int v1), (3, .int v3), (4, .int v4)] [] := by
    intro n
    induction n with
    | zero => intro σ v1 v3 v4 hw; exact hw.elim
    | succ n ih =>
      intro σ v1 v3 v4 hw
      rw [wX11_tryHours_16] at hw
      refine g_iload C 3 rfl dX11_tryHours_16 ?_
      refine g_iload_n C 1 rfl rfl dX11_tryHours_18 ?_
      refine g_icmp_ge C 89 (by decide) hw dX11_tryHours_19 (fun hw => ?_) (fun hw => ?_)
      · refine g_iload_n C 2 rfl rfl dX11_tryHours_89 ?_
        exact gq_I C F (by decide) (by decide) hw dX11_tryHours_90
      · refine g_aload_n C 0 rfl rfl dX11_tryHours_22 ?_
        refine g_get C hK inX11 rfl 0 (ga_0 cy A _) 6 (by decide) (fun _ h => h) wt_109 rfl dX11_tryHours_23 ?_
        refine g_get C hK inX0 rfl 16 (ga_16 cy A _) 6 (by decide) (fun _ h => h) wt_56 rfl dX11_tryHours_26 ?_
        refine g_if_ne C 89 (by decide) hw dX11_tryHours_29 (fun hw => ?_) (fun hw => ?_)
        · refine g_iload_n C 2 rfl rfl dX11_tryHours_89 ?_
          exact gq_I C F (by decide) (by decide) hw dX11_tryHours_90
        · refine g_iload_n C 2 rfl rfl dX11_tryHours_32 ?_
          refine gc_I C (gr_S (As := [.int v3]) (rest := []) C hK 1 (gd_S wt_524 wt_525 wt_1 wt_526) rfl rfl rfl hs_X11_nextSeed ⟨⟨Nat.le_of_ble_eq_true rfl, Nat.le_of_ble_eq_true rfl⟩, Nat.le_of_ble_eq_true rfl, Nat.le_of_ble_eq_true rfl⟩ rfl rfl (Nat.le_of_ble_eq_true rfl) dX11_tryHours_33 (c_X11_nextSeed (q_l κ) (q_D κ) cy A hw)) (fun r3 σ2 hw => ?_)
          refine g_istore_n C [(3, .int r3), (0, .ref (A 0)), (1, .int v1), (4, .int v4)] F.2.2.2.1 rfl (by decide) rfl dX11_tryHours_36 ?_
          refine g_iload_n C 0 rfl rfl dX11_tryHours_37 ?_
          refine g_ldcw (v := (65536 : Int32)) C dX11_tryHours_38 wt_530 ?_
          refine g_idiv C hw.1 dX11_tryHours_41 ?_
          replace hw := hw.2
          refine g_bipush (v := (7 : Int32)) C dX11_tryHours_42 (by decide) ?_
          refine g_irem C hw.1 dX11_tryHours_44 ?_
          replace hw := hw.2
          refine gc_I C (gr_S (As := [.int ((r3 / (65536 : Int32)) - (r3 / (65536 : Int32)) / (7 : Int32) * (7 : Int32))]) (rest := []) C hK 1 (gd_S wt_531 wt_442 wt_1 wt_443) rfl rfl rfl hs_X11_windingOf ⟨⟨Nat.le_of_ble_eq_true rfl, Nat.le_of_ble_eq_true rfl⟩, Nat.le_of_ble_eq_true rfl, Nat.le_of_ble_eq_true rfl⟩ rfl rfl (Nat.le_of_ble_eq_true rfl) dX11_tryHours_45 (c_X11_windingOf (q_l κ) (q_D κ) cy A hw)) (fun r5 σ4 hw => ?_)
          refine g_istore C [(5, .int r5), (3, .int r3), (0, .ref (A 0)), (1, .int v1), (4, .int v4)] F.2.2.2.1 (by decide) rfl dX11_tryHours_48 ?_
          refine g_aload_n C 2 rfl rfl dX11_tryHours_50 ?_
          refine g_get C hK inX11 rfl 0 (ga_0 cy A _) 6 (by decide) (fun _ h => h) wt_109 rfl dX11_tryHours_51 ?_
          refine g_aload_n C 2 rfl rfl dX11_tryHours_54 ?_
          refine g_get C hK inX11 rfl 0 (ga_0 cy A _) 6 (by decide) (fun _ h => h) wt_109 rfl dX11_tryHours_55 ?_
          refine g_get C hK inX0 rfl 16 (ga_16 cy A _) 0 (by decide) (fun _ h => h) wt_41 rfl dX11_tryHours_58 ?_
          refine g_iload C 0 rfl dX11_tryHours_61 ?_
          refine g_isub C dX11_tryHours_63 ?_
          refine gc_I C (gr_S (As := [.int ((σ4.1 16 0) - r5)]) (rest := [.ref (A 16)]) C hK 1 (gd_S wt_375 wt_376 wt_1 wt_377) rfl rfl rfl hs_X11_isLength ⟨⟨Nat.le_of_ble_eq_true rfl, Nat.le_of_ble_eq_true rfl⟩, Nat.le_of_ble_eq_true rfl, Nat.le_of_ble_eq_true rfl⟩ rfl rfl (Nat.le_of_ble_eq_true rfl) dX11_tryHours_64 (c_X11_isLength (q_l κ) (q_D κ) cy A hw)) (fun r7 σ6 hw => ?_)
          refine g_if_eq C 75 (by decide) hw dX11_tryHours_67 (fun hw => ?_) (fun hw => ?_)
          · refine g_iconst (v := (0 : Int32)) C dX11_tryHours_75 (by decide) ?_
            refine g_eql (lv' := [(0, .ref (A 0)), (1, .int v1), (3, .int r3), (4, .int v4)]) [2, 3, 1, 4] rfl ?_
            exact J76 _ ih σ6 v1 r3 v4 (0 : Int32) hw
          · refine g_iload C 0 rfl dX11_tryHours_70 ?_
            refine g_goto C 76 (by decide) dX11_tryHours_72 ?_
            refine g_eql (lv' := [(0, .ref (A 0)), (1, .int v1), (3, .int r3), (4, .int v4)]) [2, 3, 1, 4] rfl ?_
            exact J76 _ ih σ6 v1 r3 v4 r5 hw
  unfold wX11_tryHours at hw
  refine g_aload_n C 0 rfl rfl dX11_tryHours_0 ?_
  refine g_get C hK inX11 rfl 0 (ga_0 cy A _) 6 (by decide) (fun _ h => h) wt_109 rfl dX11_tryHours_1 ?_
  refine g_aload_n C 0 rfl rfl dX11_tryHours_4 ?_
  refine g_get C hK inX11 rfl 0 (ga_0 cy A _) 1 (by decide) (fun _ h => h) wt_104 rfl dX11_tryHours_5 ?_
  refine gc_V C (gr_V (As := [.ref (A 3)]) (rest := []) C hK 1 (gd_V wt_520 wt_521 wt_522 wt_3 wt_523) rfl rfl rfl ⟨rfl, hs_X0_becomeLike⟩ ⟨⟨Nat.le_of_ble_eq_true rfl, Nat.le_of_ble_eq_true rfl⟩, Nat.le_of_ble_eq_true rfl, Nat.le_of_ble_eq_true rfl⟩ rfl 16 (ga_16 cy A _) rfl rfl (Nat.le_of_ble_eq_true rfl) dX11_tryHours_8 (c_X0_becomeLike (q_l κ) (q_D κ) cy A hC16 hC3 hw)) (fun σ1 hw => ?_)
  refine g_iload_n C 2 rfl rfl dX11_tryHours_11 ?_
  refine g_istore_n C [(3, .int v2), (0, .ref (A 0)), (1, .int v1), (2, .int v2)] F.2.2.2.1 rfl (by decide) rfl dX11_tryHours_12 ?_
  refine g_iconst (v := (0 : Int32)) C dX11_tryHours_13 (by decide) ?_
  refine g_istore C [(4, .int (0 : Int32)), (3, .int v2), (0, .ref (A 0)), (1, .int v1), (2, .int v2)] F.2.2.2.1 (by decide) rfl dX11_tryHours_14 ?_
  refine g_eql (lv' := [(0, .ref (A 0)), (1, .int v1), (3, .int v2), (4, .int (0 : Int32))]) [2, 3, 1, 0] rfl ?_
  obtain ⟨n0, hw⟩ := hw
  exact J16 n0 σ1 v1 v2 (0 : Int32) hw
