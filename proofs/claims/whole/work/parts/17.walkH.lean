set_option maxHeartbeats 4000000 in
set_option maxRecDepth 100000 in
theorem c_X12_thingNow (l : Launch) (D : va_G) (cy : Nat → ClassId) (A : Nat → Nat) {σ : St} {v1 : Int32} {v2 : Int32} {Φ : Int32 → St → Prop} (hw : wX12_thingNow σ v1 v2 Φ) : CtI l yX12_thingNow (.code yX12_thingNow cX12_thingNow 3 (some .int) :: gL) rm_X12_thingNow 0 0 [.ref (A 18), .int v1, .int v2] D cy A σ Φ := by
  refine ct_any (fun sz => va_Qi Φ (HE D cy A (gZ cy A σ sz)) (gZ cy A σ sz)) (by decide +kernel) rfl rfl [(0, .ref (A 18)), (1, .int v1), (2, .int v2)] rfl (Nat.le_of_ble_eq_true rfl) ?_
  intro κ hκl hnm C hK sz F
  subst hκl
  unfold wX12_thingNow at hw
  refine g_iload_n C 2 rfl rfl dX12_thingNow_0 ?_
  by_cases h9 : v2.toInt < 0 ∨ 3 < v2.toInt
  · refine g_swOut C 63 h9 (by decide) dX12_thingNow_1 ?_
    replace hw := hw.2.2.2.2 h9
    refine g_aload_n C 0 rfl rfl dX12_thingNow_63 ?_
    refine g_get C hK inX12 rfl 18 (ga_18 cy A _) 8 (by decide) (fun _ h => h) wt_593 rfl dX12_thingNow_64 ?_
    refine g_aload_n C 0 rfl rfl dX12_thingNow_67 ?_
    refine g_get C hK inX12 rfl 18 (ga_18 cy A _) 13 (by decide) (fun _ h => h) wt_598 rfl dX12_thingNow_68 ?_
    refine g_iload_n C 1 rfl rfl dX12_thingNow_71 ?_
    refine g_iald C hK 22 2 (ga_22 cy A _) rfl hw.1 dX12_thingNow_72 ?_
    replace hw := hw.2
    refine g_isub C dX12_thingNow_73 ?_
    exact gq_I C F (by decide) (by decide) hw dX12_thingNow_74
  · rcases (show v2.toInt = 0 ∨ v2.toInt = 1 ∨ v2.toInt = 2 ∨ v2.toInt = 3 by omega) with e9 | e9 | e9 | e9
    · refine g_swIn (off := 31) C 0 32 e9 (by decide) (by decide) (by decide) (by decide) dX12_thingNow_1 ?_
      replace hw := hw.1 (Int32.toInt_inj.mp (e9.trans (by decide)))
      refine g_aload_n C 0 rfl rfl dX12_thingNow_32 ?_
      refine g_get C hK inX12 rfl 18 (ga_18 cy A _) 10 (by decide) (fun _ h => h) wt_595 rfl dX12_thingNow_33 ?_
      refine g_iload_n C 1 rfl rfl dX12_thingNow_36 ?_
      refine g_iald C hK 19 2 (ga_19 cy A _) rfl hw.1 dX12_thingNow_37 ?_
      replace hw := hw.2
      exact gq_I C F (by decide) (by decide) hw dX12_thingNow_38
    · refine g_swIn (off := 38) C 1 39 e9 (by decide) (by decide) (by decide) (by decide) dX12_thingNow_1 ?_
      replace hw := hw.2.1 (Int32.toInt_inj.mp (e9.trans (by decide)))
      refine g_aload_n C 0 rfl rfl dX12_thingNow_39 ?_
      refine g_get C hK inX12 rfl 18 (ga_18 cy A _) 11 (by decide) (fun _ h => h) wt_596 rfl dX12_thingNow_40 ?_
      refine g_iload_n C 1 rfl rfl dX12_thingNow_43 ?_
      refine g_iald C hK 20 2 (ga_20 cy A _) rfl hw.1 dX12_thingNow_44 ?_
      replace hw := hw.2
      exact gq_I C F (by decide) (by decide) hw dX12_thingNow_45
    · refine g_swIn (off := 45) C 2 46 e9 (by decide) (by decide) (by decide) (by decide) dX12_thingNow_1 ?_
      replace hw := hw.2.2.1 (Int32.toInt_inj.mp (e9.trans (by decide)))
      refine g_aload_n C 0 rfl rfl dX12_thingNow_46 ?_
      refine g_get C hK inX12 rfl 18 (ga_18 cy A _) 12 (by decide) (fun _ h => h) wt_597 rfl dX12_thingNow_47 ?_
      refine g_iload_n C 1 rfl rfl dX12_thingNow_50 ?_
      refine g_iald C hK 21 2 (ga_21 cy A _) rfl hw.1 dX12_thingNow_51 ?_
      replace hw := hw.2
      exact gq_I C F (by decide) (by decide) hw dX12_thingNow_52
    · refine g_swIn (off := 52) C 3 53 e9 (by decide) (by decide) (by decide) (by decide) dX12_thingNow_1 ?_
      replace hw := hw.2.2.2.1 (Int32.toInt_inj.mp (e9.trans (by decide)))
      refine g_aload_n C 0 rfl rfl dX12_thingNow_53 ?_
      refine g_iload_n C 1 rfl rfl dX12_thingNow_54 ?_
      refine g_aload_n C 0 rfl rfl dX12_thingNow_55 ?_
      refine g_get C hK inX12 rfl 18 (ga_18 cy A _) 8 (by decide) (fun _ h => h) wt_593 rfl dX12_thingNow_56 ?_
      refine gc_I C (gr_V (As := [.int v1, .int (σ.1 18 8)]) (rest := []) C hK 2 (gd_V wt_665 wt_666 wt_848 wt_8 wt_667) rfl rfl rfl ⟨rfl, hs_X12_weighs⟩ ⟨⟨Nat.le_of_ble_eq_true rfl, Nat.le_of_ble_eq_true rfl⟩, Nat.le_of_ble_eq_true rfl, Nat.le_of_ble_eq_true rfl⟩ rfl 18 (ga_18 cy A _) rfl rfl (Nat.le_of_ble_eq_true rfl) dX12_thingNow_59 (c_X12_weighs (q_l κ) (q_D κ) cy A hw)) (fun r2 σ1 hw => ?_)
      exact gq_I C F (by decide) (by decide) hw dX12_thingNow_62
set_option maxHeartbeats 4000000 in
set_option maxRecDepth 100000 in
theorem c_X12_about (l : Launch) (D : va_G) (cy : Nat → ClassId) (A : Nat → Nat) {σ : St} {v1 : Int32} {v2 : Int32} {Φ : Int32 → St → Prop} (hw : wX12_about σ v1 v2 Φ) : CtI l yX12_about (.code yX12_about cX12_about 3 (some .int) :: gL) rm_X12_about 0 0 [.ref (A 18), .int v1, .int v2] D cy A σ Φ := by
  refine ct_any (fun sz => va_Qi Φ (HE D cy A (gZ cy A σ sz)) (gZ cy A σ sz)) (by decide +kernel) rfl rfl [(0, .ref (A 18)), (1, .int v1), (2, .int v2)] rfl (Nat.le_of_ble_eq_true rfl) ?_
  intro κ hκl hnm C hK sz F
  subst hκl
  unfold wX12_about at hw
  refine g_aload_n C 0 rfl rfl dX12_about_0 ?_
  refine g_iload_n C 1 rfl rfl dX12_about_1 ?_
  refine gc_I C (gr_V (As := [.int v1]) (rest := []) C hK 1 (gd_V wt_688 wt_689 wt_853 wt_8 wt_690) rfl rfl rfl ⟨rfl, hs_X12_isThing⟩ ⟨⟨Nat.le_of_ble_eq_true rfl, Nat.le_of_ble_eq_true rfl⟩, Nat.le_of_ble_eq_true rfl, Nat.le_of_ble_eq_true rfl⟩ rfl 18 (ga_18 cy A _) rfl rfl (Nat.le_of_ble_eq_true rfl) dX12_about_2 (c_X12_isThing (q_l κ) (q_D κ) cy A hw)) (fun r2 σ1 hw => ?_)
  refine g_if_ne C 13 (by decide) hw dX12_about_5 (fun hw => ?_) (fun hw => ?_)
  · refine g_iload_n C 2 rfl rfl dX12_about_13 ?_
    refine g_iconst (v := (0 : Int32)) C dX12_about_14 (by decide) ?_
    refine g_iconst (v := (4 : Int32)) C dX12_about_15 (by decide) ?_
    refine gc_I C (gr_S (As := [.int v2, .int (0 : Int32), .int (4 : Int32)]) (rest := []) C hK 3 (gd_S wt_645 wt_646 wt_8 wt_647) rfl rfl rfl hs_X12_within ⟨⟨Nat.le_of_ble_eq_true rfl, Nat.le_of_ble_eq_true rfl⟩, Nat.le_of_ble_eq_true rfl, Nat.le_of_ble_eq_true rfl⟩ rfl rfl (Nat.le_of_ble_eq_true rfl) dX12_about_16 (c_X12_within (q_l κ) (q_D κ) cy A hw)) (fun r4 σ3 hw => ?_)
    refine g_if_eq C 31 (by decide) hw dX12_about_19 (fun hw => ?_) (fun hw => ?_)
    · refine g_bipush (v := (-102 : Int32)) C dX12_about_31 (by decide) ?_
      exact gq_I C F (by decide) (by decide) hw dX12_about_33
    · refine g_aload_n C 0 rfl rfl dX12_about_22 ?_
      refine g_iload_n C 1 rfl rfl dX12_about_23 ?_
      refine g_iload_n C 2 rfl rfl dX12_about_24 ?_
      refine gc_I C (gr_V (As := [.int v1, .int v2]) (rest := []) C hK 2 (gd_V wt_691 wt_692 wt_854 wt_8 wt_693) rfl rfl rfl ⟨rfl, hs_X12_thingNow⟩ ⟨⟨Nat.le_of_ble_eq_true rfl, Nat.le_of_ble_eq_true rfl⟩, Nat.le_of_ble_eq_true rfl, Nat.le_of_ble_eq_true rfl⟩ rfl 18 (ga_18 cy A _) rfl rfl (Nat.le_of_ble_eq_true rfl) dX12_about_25 (c_X12_thingNow (q_l κ) (q_D κ) cy A hw)) (fun r6 σ5 hw => ?_)
      refine g_goto C 33 (by decide) dX12_about_28 ?_
      exact gq_I C F (by decide) (by decide) hw dX12_about_33
  · refine g_bipush (v := (-101 : Int32)) C dX12_about_8 (by decide) ?_
    refine g_goto C 33 (by decide) dX12_about_10 ?_
    exact gq_I C F (by decide) (by decide) hw dX12_about_33
set_option maxHeartbeats 4000000 in
set_option maxRecDepth 100000 in
theorem c_X12_as (l : Launch) (D : va_G) (cy : Nat → ClassId) (A : Nat → Nat) {σ : St} {v1 : Int32} {v2 : Int32} {Φ : Int32 → St → Prop} (hw : wX12_as σ v1 v2 Φ) : CtI l yX12_as (.code yX12_as cX12_as 4 (some .int) :: gL) rm_X12_as 0 0 [.ref (A 18), .int v1, .int v2] D cy A σ Φ := by
  refine ct_any (fun sz => va_Qi Φ (HE D cy A (gZ cy A σ sz)) (gZ cy A σ sz)) (by decide +kernel) rfl rfl [(0, .ref (A 18)), (1, .int v1), (2, .int v2)] rfl (Nat.le_of_ble_eq_true rfl) ?_
  intro κ hκl hnm C hK sz F
  subst hκl
  unfold wX12_as at hw
  refine g_aload_n C 0 rfl rfl dX12_as_0 ?_
  refine g_iload_n C 1 rfl rfl dX12_as_1 ?_
  refine gc_I C (gr_V (As := [.int v1]) (rest := []) C hK 1 (gd_V wt_688 wt_689 wt_853 wt_8 wt_690) rfl rfl rfl ⟨rfl, hs_X12_isThing⟩ ⟨⟨Nat.le_of_ble_eq_true rfl, Nat.le_of_ble_eq_true rfl⟩, Nat.le_of_ble_eq_true rfl, Nat.le_of_ble_eq_true rfl⟩ rfl 18 (ga_18 cy A _) rfl rfl (Nat.le_of_ble_eq_true rfl) dX12_as_2 (c_X12_isThing (q_l κ) (q_D κ) cy A hw)) (fun r2 σ1 hw => ?_)
  refine g_if_ne C 11 (by decide) hw dX12_as_5 (fun hw => ?_) (fun hw => ?_)
  · refine g_iload_n C 2 rfl rfl dX12_as_11 ?_
    refine g_iconst (v := (0 : Int32)) C dX12_as_12 (by decide) ?_
    refine g_iconst (v := (4 : Int32)) C dX12_as_13 (by decide) ?_
    refine gc_I C (gr_S (As := [.int v2, .int (0 : Int32), .int (4 : Int32)]) (rest := []) C hK 3 (gd_S wt_645 wt_646 wt_8 wt_647) rfl rfl rfl hs_X12_within ⟨⟨Nat.le_of_ble_eq_true rfl, Nat.le_of_ble_eq_true rfl⟩, Nat.le_of_ble_eq_true rfl, Nat.le_of_ble_eq_true rfl⟩ rfl rfl (Nat.le_of_ble_eq_true rfl) dX12_as_14 (c_X12_within (q_l κ) (q_D κ) cy A hw)) (fun r4 σ3 hw => ?_)
    refine g_if_ne C 23 (by decide) hw dX12_as_17 (fun hw => ?_) (fun hw => ?_)
    · refine g_aload_n C 0 rfl rfl dX12_as_23 ?_
      refine g_get C hK inX12 rfl 18 (ga_18 cy A _) 10 (by decide) (fun _ h => h) wt_595 rfl dX12_as_24 ?_
      refine g_iload_n C 1 rfl rfl dX12_as_27 ?_
      refine g_iald C hK 19 2 (ga_19 cy A _) rfl hw.1 dX12_as_28 ?_
      replace hw := hw.2
      refine g_istore_n C [(3, .int (σ3.1 19 v1.toNatClampNeg)), (0, .ref (A 18)), (1, .int v1), (2, .int v2)] F.2.2.2.1 rfl (by decide) rfl dX12_as_29 ?_
      refine g_iload_n C 3 rfl rfl dX12_as_30 ?_
      refine g_if_eq C 49 (by decide) hw dX12_as_31 (fun hw => ?_) (fun hw => ?_)
      · refine g_iload_n C 2 rfl rfl dX12_as_49 ?_
        refine g_goto C 54 (by decide) dX12_as_50 ?_
        exact gq_I C F (by decide) (by decide) hw dX12_as_54
      · refine g_iload_n C 0 rfl rfl dX12_as_34 ?_
        refine g_iload_n C 3 rfl rfl dX12_as_35 ?_
        refine g_icmp_eq C 49 (by decide) hw dX12_as_36 (fun hw => ?_) (fun hw => ?_)
        · refine g_iload_n C 2 rfl rfl dX12_as_49 ?_
          refine g_goto C 54 (by decide) dX12_as_50 ?_
          exact gq_I C F (by decide) (by decide) hw dX12_as_54
        · refine g_iload_n C 3 rfl rfl dX12_as_39 ?_
          refine g_iconst (v := (3 : Int32)) C dX12_as_40 (by decide) ?_
          refine g_icmp_ne C 53 (by decide) hw dX12_as_41 (fun hw => ?_) (fun hw => ?_)
          · refine g_iconst (v := (-1 : Int32)) C dX12_as_53 (by decide) ?_
            exact gq_I C F (by decide) (by decide) hw dX12_as_54
          · refine g_iload_n C 0 rfl rfl dX12_as_44 ?_
            refine g_iconst (v := (4 : Int32)) C dX12_as_45 (by decide) ?_
            refine g_icmp_ne C 53 (by decide) hw dX12_as_46 (fun hw => ?_) (fun hw => ?_)
            · refine g_iconst (v := (-1 : Int32)) C dX12_as_53 (by decide) ?_
              exact gq_I C F (by decide) (by decide) hw dX12_as_54
            · refine g_iload_n C 2 rfl rfl dX12_as_49 ?_
              refine g_goto C 54 (by decide) dX12_as_50 ?_
              exact gq_I C F (by decide) (by decide) hw dX12_as_54
    · refine g_bipush (v := (-102 : Int32)) C dX12_as_20 (by decide) ?_
      exact gq_I C F (by decide) (by decide) hw dX12_as_22
  · refine g_bipush (v := (-101 : Int32)) C dX12_as_8 (by decide) ?_
    exact gq_I C F (by decide) (by decide) hw dX12_as_10
set_option maxHeartbeats 4000000 in
set_option maxRecDepth 100000 in
theorem c_X12_mayCarry (l : Launch) (D : va_G) (cy : Nat → ClassId) (A : Nat → Nat) {σ : St} {v1 : Int32} {Φ : Int32 → St → Prop} (hw : wX12_mayCarry σ v1 Φ) : CtI l yX12_mayCarry (.code yX12_mayCarry cX12_mayCarry 2 (some .boolean) :: gL) rm_X12_mayCarry 0 0 [.ref (A 18), .int v1] D cy A σ Φ := by
  refine ct_any (fun sz => va_Qi Φ (HE D cy A (gZ cy A σ sz)) (gZ cy A σ sz)) (by decide +kernel) rfl rfl [(0, .ref (A 18)), (1, .int v1)] rfl (Nat.le_of_ble_eq_true rfl) ?_
  intro κ hκl hnm C hK sz F
  subst hκl
  unfold wX12_mayCarry at hw
  refine g_aload_n C 0 rfl rfl dX12_mayCarry_0 ?_
  refine g_get C hK inX12 rfl 18 (ga_18 cy A _) 10 (by decide) (fun _ h => h) wt_595 rfl dX12_mayCarry_1 ?_
  refine g_iload_n C 1 rfl rfl dX12_mayCarry_4 ?_
  refine g_iald C hK 19 2 (ga_19 cy A _) rfl hw.1 dX12_mayCarry_5 ?_
  replace hw := hw.2
  refine g_iconst (v := (2 : Int32)) C dX12_mayCarry_6 (by decide) ?_
  refine g_icmp_ne C 22 (by decide) hw dX12_mayCarry_7 (fun hw => ?_) (fun hw => ?_)
  · refine g_iconst (v := (1 : Int32)) C dX12_mayCarry_22 (by decide) ?_
    refine g_goto C 27 (by decide) dX12_mayCarry_23 ?_
    exact gq_Z C F (by decide) (by decide) hw dX12_mayCarry_27
  · refine g_aload_n C 0 rfl rfl dX12_mayCarry_10 ?_
    refine g_aload_n C 0 rfl rfl dX12_mayCarry_11 ?_
    refine g_get C hK inX12 rfl 18 (ga_18 cy A _) 2 (by decide) (fun _ h => h) wt_587 rfl dX12_mayCarry_12 ?_
    refine gc_I C (gr_V (As := [.int (σ.1 18 2)]) (rest := []) C hK 1 (gd_V wt_674 wt_675 wt_851 wt_8 wt_676) rfl rfl rfl ⟨rfl, hs_X12_turnsAt⟩ ⟨⟨Nat.le_of_ble_eq_true rfl, Nat.le_of_ble_eq_true rfl⟩, Nat.le_of_ble_eq_true rfl, Nat.le_of_ble_eq_true rfl⟩ rfl 18 (ga_18 cy A _) rfl rfl (Nat.le_of_ble_eq_true rfl) dX12_mayCarry_15 (c_X12_turnsAt (q_l κ) (q_D κ) cy A hw)) (fun r2 σ1 hw => ?_)
    refine g_iconst (v := (2 : Int32)) C dX12_mayCarry_18 (by decide) ?_
    refine g_icmp_gt C 26 (by decide) hw dX12_mayCarry_19 (fun hw => ?_) (fun hw => ?_)
    · refine g_iconst (v := (0 : Int32)) C dX12_mayCarry_26 (by decide) ?_
      exact gq_Z C F (by decide) (by decide) hw dX12_mayCarry_27
    · refine g_iconst (v := (1 : Int32)) C dX12_mayCarry_22 (by decide) ?_
      refine g_goto C 27 (by decide) dX12_mayCarry_23 ?_
      exact gq_Z C F (by decide) (by decide) hw dX12_mayCarry_27
set_option maxHeartbeats 4000000 in
set_option maxRecDepth 100000 in
theorem c_X12_carry (l : Launch) (D : va_G) (cy : Nat → ClassId) (A : Nat → Nat) {σ : St} {v1 : Int32} {Φ : Int32 → St → Prop} (hw : wX12_carry σ v1 Φ) : CtI l yX12_carry (.code yX12_carry cX12_carry 2 (some .int) :: gL) rm_X12_carry 0 0 [.ref (A 18), .int v1] D cy A σ Φ := by
  refine ct_any (fun sz => va_Qi Φ (HE D cy A (gZ cy A σ sz)) (gZ cy A σ sz)) (by decide +kernel) rfl rfl [(0, .ref (A 18)), (1, .int v1)] rfl (Nat.le_of_ble_eq_true rfl) ?_
  intro κ hκl hnm C hK sz F
  subst hκl
  unfold wX12_carry at hw
  refine g_aload_n C 0 rfl rfl dX12_carry_0 ?_
  refine g_iload_n C 1 rfl rfl dX12_carry_1 ?_
  refine gc_I C (gr_V (As := [.int v1]) (rest := []) C hK 1 (gd_V wt_688 wt_689 wt_853 wt_8 wt_690) rfl rfl rfl ⟨rfl, hs_X12_isThing⟩ ⟨⟨Nat.le_of_ble_eq_true rfl, Nat.le_of_ble_eq_true rfl⟩, Nat.le_of_ble_eq_true rfl, Nat.le_of_ble_eq_true rfl⟩ rfl 18 (ga_18 cy A _) rfl rfl (Nat.le_of_ble_eq_true rfl) dX12_carry_2 (c_X12_isThing (q_l κ) (q_D κ) cy A hw)) (fun r2 σ1 hw => ?_)
  refine g_if_ne C 11 (by decide) hw dX12_carry_5 (fun hw => ?_) (fun hw => ?_)
  · refine g_aload_n C 0 rfl rfl dX12_carry_11 ?_
    refine g_get C hK inX12 rfl 18 (ga_18 cy A _) 6 (by decide) (fun _ h => h) wt_591 rfl dX12_carry_12 ?_
    refine g_if_ne C 26 (by decide) hw dX12_carry_15 (fun hw => ?_) (fun hw => ?_)
    · refine g_bipush (v := (-103 : Int32)) C dX12_carry_26 (by decide) ?_
      exact gq_I C F (by decide) (by decide) hw dX12_carry_28
    · refine g_aload_n C 0 rfl rfl dX12_carry_18 ?_
      refine g_iload_n C 1 rfl rfl dX12_carry_19 ?_
      refine gc_I C (gr_V (As := [.int v1]) (rest := []) C hK 1 (gd_V wt_702 wt_703 wt_855 wt_8 wt_704) rfl rfl rfl ⟨rfl, hs_X12_mayCarry⟩ ⟨⟨Nat.le_of_ble_eq_true rfl, Nat.le_of_ble_eq_true rfl⟩, Nat.le_of_ble_eq_true rfl, Nat.le_of_ble_eq_true rfl⟩ rfl 18 (ga_18 cy A _) rfl rfl (Nat.le_of_ble_eq_true rfl) dX12_carry_20 (c_X12_mayCarry (q_l κ) (q_D κ) cy A hw)) (fun r4 σ3 hw => ?_)
      refine g_if_ne C 29 (by decide) hw dX12_carry_23 (fun hw => ?_) (fun hw => ?_)
      · refine g_aload_n C 0 rfl rfl dX12_carry_29 ?_
        refine g_get C hK inX12 rfl 18 (ga_18 cy A _) 12 (by decide) (fun _ h => h) wt_597 rfl dX12_carry_30 ?_
        refine g_iload_n C 1 rfl rfl dX12_carry_33 ?_
        refine g_iconst (v := (1 : Int32)) C dX12_carry_34 (by decide) ?_
        refine g_aload_n C 0 rfl rfl dX12_carry_35 ?_
        refine g_get C hK inX12 rfl 18 (ga_18 cy A _) 12 (by decide) (fun _ h => h) wt_597 rfl dX12_carry_36 ?_
        refine g_iload_n C 1 rfl rfl dX12_carry_39 ?_
        refine g_iald C hK 21 2 (ga_21 cy A _) rfl hw.1 dX12_carry_40 ?_
        replace hw := hw.2
        refine g_isub C dX12_carry_41 ?_
        refine g_iast C hK 21 2 (ga_21 cy A _) rfl hw.1 (gs_21 cy A _ _ _) dX12_carry_42 ?_
        replace hw := hw.2
        refine g_aload_n C 0 rfl rfl dX12_carry_43 ?_
        refine g_get C hK inX12 rfl 18 (ga_18 cy A _) 12 (by decide) (fun _ h => h) wt_597 rfl dX12_carry_44 ?_
        refine g_iload_n C 1 rfl rfl dX12_carry_47 ?_
        refine g_iald C hK 21 2 (ga_21 cy A _) rfl hw.1 dX12_carry_48 ?_
        replace hw := hw.2
        exact gq_I C F (by decide) (by decide) hw dX12_carry_49
      · refine g_bipush (v := (-103 : Int32)) C dX12_carry_26 (by decide) ?_
        exact gq_I C F (by decide) (by decide) hw dX12_carry_28
  · refine g_bipush (v := (-101 : Int32)) C dX12_carry_8 (by decide) ?_
    exact gq_I C F (by decide) (by decide) hw dX12_carry_10
set_option maxHeartbeats 4000000 in
set_option maxRecDepth 100000 in
theorem c_X12_isLength (l : Launch) (D : va_G) (cy : Nat → ClassId) (A : Nat → Nat) {σ : St} {v0 : Int32} {Φ : Int32 → St → Prop} (hw : wX12_isLength σ v0 Φ) : CtI l yX12_isLength (.code yX12_isLength cX12_isLength 1 (some .boolean) :: gL) rm_X12_isLength 0 0 [.int v0] D cy A σ Φ := by
  refine ct_any (fun sz => va_Qi Φ (HE D cy A (gZ cy A σ sz)) (gZ cy A σ sz)) (by decide +kernel) rfl rfl [(0, .int v0)] rfl (Nat.le_of_ble_eq_true rfl) ?_
  intro κ hκl hnm C hK sz F
  subst hκl
  unfold wX12_isLength at hw
  refine g_iload_n C 0 rfl rfl dX12_isLength_0 ?_
  refine g_bipush (v := (10 : Int32)) C dX12_isLength_1 (by decide) ?_
  refine g_bipush (v := (40 : Int32)) C dX12_isLength_3 (by decide) ?_
  refine gc_I C (gr_S (As := [.int v0, .int (10 : Int32), .int (40 : Int32)]) (rest := []) C hK 3 (gd_S wt_645 wt_646 wt_8 wt_647) rfl rfl rfl hs_X12_within ⟨⟨Nat.le_of_ble_eq_true rfl, Nat.le_of_ble_eq_true rfl⟩, Nat.le_of_ble_eq_true rfl, Nat.le_of_ble_eq_true rfl⟩ rfl rfl (Nat.le_of_ble_eq_true rfl) dX12_isLength_5 (c_X12_within (q_l κ) (q_D κ) cy A hw)) (fun r2 σ1 hw => ?_)
  exact gq_Z C F (by decide) (by decide) hw dX12_isLength_8
set_option maxHeartbeats 4000000 in
set_option maxRecDepth 100000 in
theorem c_X12_mayBe (l : Launch) (D : va_G) (cy : Nat → ClassId) (A : Nat → Nat) {σ : St} {v0 : Int32} {Φ : Int32 → St → Prop} (hw : wX12_mayBe σ v0 Φ) : CtI l yX12_mayBe (.code yX12_mayBe cX12_mayBe 1 (some .boolean) :: gL) rm_X12_mayBe 0 0 [.int v0] D cy A σ Φ := by
  refine ct_any (fun sz => va_Qi Φ (HE D cy A (gZ cy A σ sz)) (gZ cy A σ sz)) (by decide +kernel) rfl rfl [(0, .int v0)] rfl (Nat.le_of_ble_eq_true rfl) ?_
  intro κ hκl hnm C hK sz F
  subst hκl
  unfold wX12_mayBe at hw
  refine g_iload_n C 0 rfl rfl dX12_mayBe_0 ?_
  refine g_bipush (v := (10 : Int32)) C dX12_mayBe_1 (by decide) ?_
  refine g_bipush (v := (40 : Int32)) C dX12_mayBe_3 (by decide) ?_
  refine gc_I C (gr_S (As := [.int v0, .int (10 : Int32), .int (40 : Int32)]) (rest := []) C hK 3 (gd_S wt_645 wt_646 wt_8 wt_647) rfl rfl rfl hs_X12_within ⟨⟨Nat.le_of_ble_eq_true rfl, Nat.le_of_ble_eq_true rfl⟩, Nat.le_of_ble_eq_true rfl, Nat.le_of_ble_eq_true rfl⟩ rfl rfl (Nat.le_of_ble_eq_true rfl) dX12_mayBe_5 (c_X12_within (q_l κ) (q_D κ) cy A hw)) (fun r2 σ1 hw => ?_)
  exact gq_Z C F (by decide) (by decide) hw dX12_mayBe_8
set_option maxHeartbeats 4000000 in
set_option maxRecDepth 100000 in
theorem c_X12_goHour (l : Launch) (D : va_G) (cy : Nat → ClassId) (A : Nat → Nat) {σ : St} {v1 : Int32} {Φ : Int32 → St → Prop} (hw : wX12_goHour σ v1 Φ) : CtI l yX12_goHour (.code yX12_goHour cX12_goHour 2 (some .boolean) :: gL) rm_X12_goHour 0 0 [.ref (A 18), .int v1] D cy A σ Φ := by
  refine ct_any (fun sz => va_Qi Φ (HE D cy A (gZ cy A σ sz)) (gZ cy A σ sz)) (by decide +kernel) rfl rfl [(0, .ref (A 18)), (1, .int v1)] rfl (Nat.le_of_ble_eq_true rfl) ?_
  intro κ hκl hnm C hK sz F
  subst hκl
  have J58 : ∀ (σ : St) (s0 : Int32), wX12_goHour_58 Φ σ s0 → GW κ 0 0 (gW cy A σ) 58 [(0, .ref (A 18))] [.int s0, .ref (A 18)] := by
    intro σ s0 hw
    unfold wX12_goHour_58 at hw
    refine g_put (v := .int s0) C hK inX12 rfl tyX12 tyX12_ok nmX12 18 (ga_18 cy A _) 6 (by decide) (fun _ h => h) wt_591 rfl (by rcases hw.1 with e | e <;> rw [e] <;> rfl) (by rcases hw.1 with e | e <;> rw [e] <;> rfl) (Nat.le_of_ble_eq_true rfl) (gp_18_6 cy A _ _) dX12_goHour_58 ?_
    replace hw := hw.2
    refine g_aload_n C 0 rfl rfl dX12_goHour_61 ?_
    refine g_get C hK inX12 rfl 18 (ga_18 cy A _) 6 (by decide) (fun _ h => h) wt_591 rfl dX12_goHour_62 ?_
    refine g_if_ne C 72 (by decide) hw dX12_goHour_65 (fun hw => ?_) (fun hw => ?_)
    · refine g_iconst (v := (0 : Int32)) C dX12_goHour_72 (by decide) ?_
      exact gq_Z C F (by decide) (by decide) hw dX12_goHour_73
    · refine g_iconst (v := (1 : Int32)) C dX12_goHour_68 (by decide) ?_
      refine g_goto C 73 (by decide) dX12_goHour_69 ?_
      exact gq_Z C F (by decide) (by decide) hw dX12_goHour_73
  unfold wX12_goHour at hw
  refine g_aload_n C 0 rfl rfl dX12_goHour_0 ?_
  refine g_iload_n C 1 rfl rfl dX12_goHour_1 ?_
  refine g_put (v := .int v1) C hK inX12 rfl tyX12 tyX12_ok nmX12 18 (ga_18 cy A _) 2 (by decide) (fun _ h => h) wt_587 rfl rfl rfl (Nat.le_of_ble_eq_true rfl) (gp_18_2 cy A _ _) dX12_goHour_2 ?_
  refine g_aload_n C 0 rfl rfl dX12_goHour_5 ?_
  refine g_dup C rfl dX12_goHour_6 ?_
  refine g_get C hK inX12 rfl 18 (ga_18 cy A _) 8 (by decide) (fun _ h => h) wt_593 rfl dX12_goHour_7 ?_
  refine g_iconst (v := (1 : Int32)) C dX12_goHour_10 (by decide) ?_
  refine g_iadd C dX12_goHour_11 ?_
  refine g_put (v := .int (((sV σ 18 2 v1).1 18 8) + (1 : Int32))) C hK inX12 rfl tyX12 tyX12_ok nmX12 18 (ga_18 cy A _) 8 (by decide) (fun _ h => h) wt_593 rfl rfl rfl (Nat.le_of_ble_eq_true rfl) (gp_18_8 cy A _ _) dX12_goHour_12 ?_
  refine g_aload_n C 0 rfl rfl dX12_goHour_15 ?_
  refine g_aload_n C 0 rfl rfl dX12_goHour_16 ?_
  refine g_get C hK inX12 rfl 18 (ga_18 cy A _) 7 (by decide) (fun _ h => h) wt_592 rfl dX12_goHour_17 ?_
  refine g_bipush (v := (10 : Int32)) C dX12_goHour_20 (by decide) ?_
  refine g_aload_n C 0 rfl rfl dX12_goHour_22 ?_
  refine g_iload_n C 1 rfl rfl dX12_goHour_23 ?_
  refine gc_I C (gr_V (As := [.int v1]) (rest := [.int (10 : Int32), .int ((sV (sV σ 18 2 v1) 18 8 (((sV σ 18 2 v1).1 18 8) + (1 : Int32))).1 18 7), .ref (A 18)]) C hK 1 (gd_V wt_674 wt_675 wt_851 wt_8 wt_676) rfl rfl rfl ⟨rfl, hs_X12_turnsAt⟩ ⟨⟨Nat.le_of_ble_eq_true rfl, Nat.le_of_ble_eq_true rfl⟩, Nat.le_of_ble_eq_true rfl, Nat.le_of_ble_eq_true rfl⟩ rfl 18 (ga_18 cy A _) rfl rfl (Nat.le_of_ble_eq_true rfl) dX12_goHour_24 (c_X12_turnsAt (q_l κ) (q_D κ) cy A hw)) (fun r2 σ1 hw => ?_)
  refine g_imul C dX12_goHour_27 ?_
  refine g_iadd C dX12_goHour_28 ?_
  refine g_sipush (v := (360 : Int32)) C dX12_goHour_29 (by decide) ?_
  refine g_irem C hw.1 dX12_goHour_32 ?_
  replace hw := hw.2
  refine g_put (v := .int ((((sV (sV σ 18 2 v1) 18 8 (((sV σ 18 2 v1).1 18 8) + (1 : Int32))).1 18 7) + ((10 : Int32) * r2)) - (((sV (sV σ 18 2 v1) 18 8 (((sV σ 18 2 v1).1 18 8) + (1 : Int32))).1 18 7) + ((10 : Int32) * r2)) / (360 : Int32) * (360 : Int32))) C hK inX12 rfl tyX12 tyX12_ok nmX12 18 (ga_18 cy A _) 7 (by decide) (fun _ h => h) wt_592 rfl rfl rfl (Nat.le_of_ble_eq_true rfl) (gp_18_7 cy A _ _) dX12_goHour_33 ?_
  refine g_aload_n C 0 rfl rfl dX12_goHour_36 ?_
  refine g_aload_n C 0 rfl rfl dX12_goHour_37 ?_
  refine g_iload_n C 1 rfl rfl dX12_goHour_38 ?_
  refine g_aload_n C 0 rfl rfl dX12_goHour_39 ?_
  refine g_get C hK inX12 rfl 18 (ga_18 cy A _) 8 (by decide) (fun _ h => h) wt_593 rfl dX12_goHour_40 ?_
  refine gc_I C (gr_V (As := [.int v1, .int ((sV σ1 18 7 ((((sV (sV σ 18 2 v1) 18 8 (((sV σ 18 2 v1).1 18 8) + (1 : Int32))).1 18 7) + ((10 : Int32) * r2)) - (((sV (sV σ 18 2 v1) 18 8 (((sV σ 18 2 v1).1 18 8) + (1 : Int32))).1 18 7) + ((10 : Int32) * r2)) / (360 : Int32) * (360 : Int32))).1 18 8)]) (rest := [.ref (A 18)]) C hK 2 (gd_V wt_715 wt_716 wt_857 wt_8 wt_717) rfl rfl rfl ⟨rfl, hs_X12_strainAt⟩ ⟨⟨Nat.le_of_ble_eq_true rfl, Nat.le_of_ble_eq_true rfl⟩, Nat.le_of_ble_eq_true rfl, Nat.le_of_ble_eq_true rfl⟩ rfl 18 (ga_18 cy A _) rfl rfl (Nat.le_of_ble_eq_true rfl) dX12_goHour_43 (c_X12_strainAt (q_l κ) (q_D κ) cy A hw)) (fun r4 σ3 hw => ?_)
  refine g_aload_n C 0 rfl rfl dX12_goHour_46 ?_
  refine g_get C hK inX12 rfl 18 (ga_18 cy A _) 4 (by decide) (fun _ h => h) wt_589 rfl dX12_goHour_47 ?_
  refine g_icmp_le C 57 (by decide) hw dX12_goHour_50 (fun hw => ?_) (fun hw => ?_)
  · refine g_iconst (v := (0 : Int32)) C dX12_goHour_57 (by decide) ?_
    refine g_eql (lv' := [(0, .ref (A 18))]) [0] rfl ?_
    exact J58 σ3 (0 : Int32) hw
  · refine g_iconst (v := (1 : Int32)) C dX12_goHour_53 (by decide) ?_
    refine g_goto C 58 (by decide) dX12_goHour_54 ?_
    refine g_eql (lv' := [(0, .ref (A 18))]) [0] rfl ?_
    exact J58 σ3 (1 : Int32) hw
set_option maxHeartbeats 4000000 in
set_option maxRecDepth 100000 in
theorem c_X12_hour (l : Launch) (D : va_G) (cy : Nat → ClassId) (A : Nat → Nat) {σ : St} {v1 : Int32} {Φ : Int32 → St → Prop} (hw : wX12_hour σ v1 Φ) : CtI l yX12_hour (.code yX12_hour cX12_hour 2 (some .int) :: gL) rm_X12_hour 0 0 [.ref (A 18), .int v1] D cy A σ Φ := by
  refine ct_any (fun sz => va_Qi Φ (HE D cy A (gZ cy A σ sz)) (gZ cy A σ sz)) (by decide +kernel) rfl rfl [(0, .ref (A 18)), (1, .int v1)] rfl (Nat.le_of_ble_eq_true rfl) ?_
  intro κ hκl hnm C hK sz F
  subst hκl
  unfold wX12_hour at hw
  refine g_iload_n C 1 rfl rfl dX12_hour_0 ?_
  refine g_bipush (v := (-3 : Int32)) C dX12_hour_1 (by decide) ?_
  refine g_iconst (v := (3 : Int32)) C dX12_hour_3 (by decide) ?_
  refine gc_I C (gr_S (As := [.int v1, .int (-3 : Int32), .int (3 : Int32)]) (rest := []) C hK 3 (gd_S wt_645 wt_646 wt_8 wt_647) rfl rfl rfl hs_X12_within ⟨⟨Nat.le_of_ble_eq_true rfl, Nat.le_of_ble_eq_true rfl⟩, Nat.le_of_ble_eq_true rfl, Nat.le_of_ble_eq_true rfl⟩ rfl rfl (Nat.le_of_ble_eq_true rfl) dX12_hour_4 (c_X12_within (q_l κ) (q_D κ) cy A hw)) (fun r2 σ1 hw => ?_)
  refine g_if_ne C 13 (by decide) hw dX12_hour_7 (fun hw => ?_) (fun hw => ?_)
  · refine g_aload_n C 0 rfl rfl dX12_hour_13 ?_
    refine g_get C hK inX12 rfl 18 (ga_18 cy A _) 0 (by decide) (fun _ h => h) wt_585 rfl dX12_hour_14 ?_
    refine g_if_eq C 39 (by decide) hw dX12_hour_17 (fun hw => ?_) (fun hw => ?_)
    · refine g_bipush (v := (-103 : Int32)) C dX12_hour_39 (by decide) ?_
      exact gq_I C F (by decide) (by decide) hw dX12_hour_41
    · refine g_aload_n C 0 rfl rfl dX12_hour_20 ?_
      refine g_get C hK inX12 rfl 18 (ga_18 cy A _) 6 (by decide) (fun _ h => h) wt_591 rfl dX12_hour_21 ?_
      refine g_if_ne C 39 (by decide) hw dX12_hour_24 (fun hw => ?_) (fun hw => ?_)
      · refine g_bipush (v := (-103 : Int32)) C dX12_hour_39 (by decide) ?_
        exact gq_I C F (by decide) (by decide) hw dX12_hour_41
      · refine g_aload_n C 0 rfl rfl dX12_hour_27 ?_
        refine g_get C hK inX12 rfl 18 (ga_18 cy A _) 2 (by decide) (fun _ h => h) wt_587 rfl dX12_hour_28 ?_
        refine g_iload_n C 1 rfl rfl dX12_hour_31 ?_
        refine g_isub C dX12_hour_32 ?_
        refine gc_I C (gr_S (As := [.int ((σ1.1 18 2) - v1)]) (rest := []) C hK 1 (gd_S wt_709 wt_710 wt_8 wt_711) rfl rfl rfl hs_X12_mayBe ⟨⟨Nat.le_of_ble_eq_true rfl, Nat.le_of_ble_eq_true rfl⟩, Nat.le_of_ble_eq_true rfl, Nat.le_of_ble_eq_true rfl⟩ rfl rfl (Nat.le_of_ble_eq_true rfl) dX12_hour_33 (c_X12_mayBe (q_l κ) (q_D κ) cy A hw)) (fun r4 σ3 hw => ?_)
        refine g_if_ne C 42 (by decide) hw dX12_hour_36 (fun hw => ?_) (fun hw => ?_)
        · refine g_aload_n C 0 rfl rfl dX12_hour_42 ?_
          refine g_aload_n C 0 rfl rfl dX12_hour_43 ?_
          refine g_get C hK inX12 rfl 18 (ga_18 cy A _) 2 (by decide) (fun _ h => h) wt_587 rfl dX12_hour_44 ?_
          refine g_iload_n C 1 rfl rfl dX12_hour_47 ?_
          refine g_isub C dX12_hour_48 ?_
          refine gc_I C (gr_V (As := [.int ((σ3.1 18 2) - v1)]) (rest := []) C hK 1 (gd_V wt_712 wt_713 wt_856 wt_8 wt_714) rfl rfl rfl ⟨rfl, hs_X12_goHour⟩ ⟨⟨Nat.le_of_ble_eq_true rfl, Nat.le_of_ble_eq_true rfl⟩, Nat.le_of_ble_eq_true rfl, Nat.le_of_ble_eq_true rfl⟩ rfl 18 (ga_18 cy A _) rfl rfl (Nat.le_of_ble_eq_true rfl) dX12_hour_49 (c_X12_goHour (q_l κ) (q_D κ) cy A hw)) (fun r6 σ5 hw => ?_)
          refine g_if_eq C 62 (by decide) hw dX12_hour_52 (fun hw => ?_) (fun hw => ?_)
          · refine g_iconst (v := (-1 : Int32)) C dX12_hour_62 (by decide) ?_
            exact gq_I C F (by decide) (by decide) hw dX12_hour_63
          · refine g_aload_n C 0 rfl rfl dX12_hour_55 ?_
            refine g_get C hK inX12 rfl 18 (ga_18 cy A _) 2 (by decide) (fun _ h => h) wt_587 rfl dX12_hour_56 ?_
            refine g_goto C 63 (by decide) dX12_hour_59 ?_
            exact gq_I C F (by decide) (by decide) hw dX12_hour_63
        · refine g_bipush (v := (-103 : Int32)) C dX12_hour_39 (by decide) ?_
          exact gq_I C F (by decide) (by decide) hw dX12_hour_41
  · refine g_bipush (v := (-102 : Int32)) C dX12_hour_10 (by decide) ?_
    exact gq_I C F (by decide) (by decide) hw dX12_hour_12
set_option maxHeartbeats 4000000 in
set_option maxRecDepth 100000 in
theorem c_X12_sized (l : Launch) (D : va_G) (cy : Nat → ClassId) (A : Nat → Nat) {σ : St} {v0 : Int32} {Φ : Int32 → St → Prop} (hw : wX12_sized σ v0 Φ) : CtI l yX12_sized (.code yX12_sized cX12_sized 1 (some .int) :: gL) rm_X12_sized 0 0 [.int v0] D cy A σ Φ := by
  refine ct_any (fun sz => va_Qi Φ (HE D cy A (gZ cy A σ sz)) (gZ cy A σ sz)) (by decide +kernel) rfl rfl [(0, .int v0)] rfl (Nat.le_of_ble_eq_true rfl) ?_
  intro κ hκl hnm C hK sz F
  subst hκl
  unfold wX12_sized at hw
  refine g_iload_n C 0 rfl rfl dX12_sized_0 ?_
  refine g_if_ge C 9 (by decide) hw dX12_sized_1 (fun hw => ?_) (fun hw => ?_)
  · refine g_iload_n C 0 rfl rfl dX12_sized_9 ?_
    exact gq_I C F (by decide) (by decide) hw dX12_sized_10
  · refine g_iload_n C 0 rfl rfl dX12_sized_4 ?_
    refine g_ineg C dX12_sized_5 ?_
    refine g_goto C 10 (by decide) dX12_sized_6 ?_
    exact gq_I C F (by decide) (by decide) hw dX12_sized_10
set_option maxHeartbeats 4000000 in
set_option maxRecDepth 100000 in
theorem c_X12_layEven (l : Launch) (D : va_G) (cy : Nat → ClassId) (A : Nat → Nat) {σ : St} {Φ : St → Prop} (hw : wX12_layEven σ Φ) : CtV l yX12_layEven (.code yX12_layEven cX12_layEven 7 none :: gL) rm_X12_layEven 0 0 [.ref (A 18)] D cy A σ Φ := by
  refine ct_any (fun sz => va_Qv Φ (HE D cy A (gZ cy A σ sz)) (gZ cy A σ sz)) (by decide +kernel) rfl rfl [(0, .ref (A 18))] rfl (Nat.le_of_ble_eq_true rfl) ?_
  intro κ hκl hnm C hK sz F
  subst hκl
  have J190 : ∀ (K51 : St → Int32 → Int32 → Int32 → Prop) (_ : ∀ (σ : St) (v1 : Int32) (v2 : Int32) (v3 : Int32), K51 σ v1 v2 v3 → GW κ 0 0 (gW cy A σ) 51 [(0, .ref (A 18)), (1, .int v1), (2, .int v2), (3, .int v3)] []), ∀ (σ : St) (v1 : Int32) (v2 : Int32) (v3 : Int32), wX12_layEven_190 K51 Φ σ v1 v2 v3 → GW κ 0 0 (gW cy A σ) 190 [(0, .ref (A 18)), (1, .int v1), (2, .int v2), (3, .int v3)] [] := by
    intro K51 hK51 σ v1 v2 v3 hw
    unfold wX12_layEven_190 at hw
    refine g_iinc (j := 3) C [(3, .int (v3 + 1)), (0, .ref (A 18)), (1, .int v1), (2, .int v2)] F.2.2.2.1 rfl rfl (by decide) rfl dX12_layEven_190 ?_
    refine g_goto C 51 (by decide) dX12_layEven_193 ?_
    refine g_eql (lv' := [(0, .ref (A 18)), (1, .int v1), (2, .int v2), (3, .int (v3 + 1))]) [1, 2, 3, 0] rfl ?_
    exact hK51 σ v1 v2 (v3 + 1) hw
  have J176 : ∀ (K51 : St → Int32 → Int32 → Int32 → Prop) (_ : ∀ (σ : St) (v1 : Int32) (v2 : Int32) (v3 : Int32), K51 σ v1 v2 v3 → GW κ 0 0 (gW cy A σ) 51 [(0, .ref (A 18)), (1, .int v1), (2, .int v2), (3, .int v3)] []), ∀ (σ : St) (v1 : Int32) (v3 : Int32) (v4 : Int32) (v5 : Int32), wX12_layEven_176 K51 Φ σ v1 v3 v4 v5 → GW κ 0 0 (gW cy A σ) 176 [(0, .ref (A 18)), (1, .int v1), (3, .int v3), (4, .int v4), (5, .int v5)] [] := by
    intro K51 hK51 σ v1 v3 v4 v5 hw
    unfold wX12_layEven_176 at hw
    refine g_aload_n C 0 rfl rfl dX12_layEven_176 ?_
    refine g_iload C 3 rfl dX12_layEven_177 ?_
    refine g_put (v := .int v4) C hK inX12 rfl tyX12 tyX12_ok nmX12 18 (ga_18 cy A _) 25 (by decide) (fun _ h => h) wt_610 rfl rfl rfl (Nat.le_of_ble_eq_true rfl) (gp_18_25 cy A _ _) dX12_layEven_179 ?_
    refine g_aload_n C 0 rfl rfl dX12_layEven_182 ?_
    refine g_iload_n C 2 rfl rfl dX12_layEven_183 ?_
    refine g_put (v := .int v3) C hK inX12 rfl tyX12 tyX12_ok nmX12 18 (ga_18 cy A _) 26 (by decide) (fun _ h => h) wt_611 rfl rfl rfl (Nat.le_of_ble_eq_true rfl) (gp_18_26 cy A _ _) dX12_layEven_184 ?_
    refine g_iload C 4 rfl dX12_layEven_187 ?_
    refine g_istore_n C [(2, .int v5), (0, .ref (A 18)), (1, .int v1), (3, .int v3), (4, .int v4), (5, .int v5)] F.2.2.2.1 rfl (by decide) rfl dX12_layEven_189 ?_
    refine g_eql (lv' := [(0, .ref (A 18)), (1, .int v1), (2, .int v5), (3, .int v3)]) [1, 2, 0, 3] rfl ?_
    exact J190 _ hK51 (sV (sV σ 18 25 v4) 18 26 v3) v1 v5 v3 hw
  have J135 : ∀ (K51 : St → Int32 → Int32 → Int32 → Prop) (_ : ∀ (σ : St) (v1 : Int32) (v2 : Int32) (v3 : Int32), K51 σ v1 v2 v3 → GW κ 0 0 (gW cy A σ) 51 [(0, .ref (A 18)), (1, .int v1), (2, .int v2), (3, .int v3)] [])  (K101 : St → Int32 → Int32 → Int32 → Int32 → Int32 → Int32 → Prop) (_ : ∀ (σ : St) (v1 : Int32) (v2 : Int32) (v3 : Int32) (v4 : Int32) (v5 : Int32) (v6 : Int32), K101 σ v1 v2 v3 v4 v5 v6 → GW κ 0 0 (gW cy A σ) 101 [(0, .ref (A 18)), (1, .int v1), (2, .int v2), (3, .int v3), (4, .int v4), (5, .int v5), (6, .int v6)] []), ∀ (σ : St) (v1 : Int32) (v2 : Int32) (v3 : Int32) (v4 : Int32) (v6 : Int32) (s0 : Int32) (s1 : Int32), wX12_layEven_135 K51 K101 Φ σ v1 v2 v3 v4 v6 s0 s1 → GW κ 0 0 (gW cy A σ) 135 [(0, .ref (A 18)), (1, .int v1), (2, .int v2), (3, .int v3), (4, .int v4), (6, .int v6)] [.int s0, .int s1] := by
    intro K51 hK51 K101 hK101 σ v1 v2 v3 v4 v6 s0 s1 hw
    unfold wX12_layEven_135 at hw
    refine g_iadd C dX12_layEven_135 ?_
    refine g_istore C [(5, .int (s1 + s0)), (0, .ref (A 18)), (1, .int v1), (2, .int v2), (3, .int v3), (4, .int v4), (6, .int v6)] F.2.2.2.1 (by decide) rfl dX12_layEven_136 ?_
    refine g_iinc (j := 6) C [(6, .int (v6 + 1)), (5, .int (s1 + s0)), (0, .ref (A 18)), (1, .int v1), (2, .int v2), (3, .int v3), (4, .int v4)] F.2.2.2.1 rfl rfl (by decide) rfl dX12_layEven_138 ?_
    refine g_goto C 101 (by decide) dX12_layEven_141 ?_
    refine g_eql (lv' := [(0, .ref (A 18)), (1, .int v1), (2, .int v2), (3, .int v3), (4, .int v4), (5, .int (s1 + s0)), (6, .int (v6 + 1))]) [2, 3, 4, 5, 6, 1, 0] rfl ?_
    exact hK101 σ v1 v2 v3 v4 (s1 + s0) (v6 + 1) hw
  have J101 : ∀ (K51 : St → Int32 → Int32 → Int32 → Prop) (_ : ∀ (σ : St) (v1 : Int32) (v2 : Int32) (v3 : Int32), K51 σ v1 v2 v3 → GW κ 0 0 (gW cy A σ) 51 [(0, .ref (A 18)), (1, .int v1), (2, .int v2), (3, .int v3)] []), ∀ (n : Nat) (σ : St) (v1 : Int32) (v2 : Int32) (v3 : Int32) (v4 : Int32) (v5 : Int32) (v6 : Int32), wX12_layEven_101 K51 Φ n σ v1 v2 v3 v4 v5 v6 → GW κ 0 0 (gW cy A σ) 101 [(0, .ref (A 18)), (1, .int v1), (2, .int v2), (3, .int v3), (4, .int v4), (5, .int v5), (6, .int v6)] [] := by
    intro K51 hK51 n
    induction n with
    | zero => intro σ v1 v2 v3 v4 v5 v6 hw; exact hw.elim
    | succ n ih =>
      intro σ v1 v2 v3 v4 v5 v6 hw
      rw [wX12_layEven_101] at hw
      refine g_iload C 6 rfl dX12_layEven_101 ?_
      refine g_aload_n C 0 rfl rfl dX12_layEven_103 ?_
      refine g_get C hK inX12 rfl 18 (ga_18 cy A _) 9 (by decide) (fun _ h => h) wt_594 rfl dX12_layEven_104 ?_
      refine g_icmp_ge C 144 (by decide) hw dX12_layEven_107 (fun hw => ?_) (fun hw => ?_)
      · refine g_iload_n C 3 rfl rfl dX12_layEven_144 ?_
        refine g_iload_n C 1 rfl rfl dX12_layEven_145 ?_
        refine g_iconst (v := (-1 : Int32)) C dX12_layEven_146 (by decide) ?_
        refine g_ixor C dX12_layEven_147 ?_
        refine g_iand C dX12_layEven_148 ?_
        refine g_if_ne C 190 (by decide) hw dX12_layEven_149 (fun hw => ?_) (fun hw => ?_)
        · refine g_eql (lv' := [(0, .ref (A 18)), (1, .int v1), (2, .int v2), (3, .int v3)]) [0, 1, 2, 3] rfl ?_
          exact J190 _ hK51 σ v1 v2 v3 hw
        · refine g_iload C 4 rfl dX12_layEven_152 ?_
          refine g_aload_n C 0 rfl rfl dX12_layEven_154 ?_
          refine g_get C hK inX12 rfl 18 (ga_18 cy A _) 25 (by decide) (fun _ h => h) wt_610 rfl dX12_layEven_155 ?_
          refine g_icmp_lt C 176 (by decide) hw dX12_layEven_158 (fun hw => ?_) (fun hw => ?_)
          · refine g_eql (lv' := [(0, .ref (A 18)), (1, .int v1), (3, .int v3), (4, .int v4), (5, .int v5)]) [0, 1, 3, 4, 5] rfl ?_
            exact J176 _ hK51 σ v1 v3 v4 v5 hw
          · refine g_iload C 4 rfl dX12_layEven_161 ?_
            refine g_aload_n C 0 rfl rfl dX12_layEven_163 ?_
            refine g_get C hK inX12 rfl 18 (ga_18 cy A _) 25 (by decide) (fun _ h => h) wt_610 rfl dX12_layEven_164 ?_
            refine g_icmp_ne C 190 (by decide) hw dX12_layEven_167 (fun hw => ?_) (fun hw => ?_)
            · refine g_eql (lv' := [(0, .ref (A 18)), (1, .int v1), (2, .int v2), (3, .int v3)]) [0, 1, 2, 3] rfl ?_
              exact J190 _ hK51 σ v1 v2 v3 hw
            · refine g_iload C 5 rfl dX12_layEven_170 ?_
              refine g_iload_n C 2 rfl rfl dX12_layEven_172 ?_
              refine g_icmp_ge C 190 (by decide) hw dX12_layEven_173 (fun hw => ?_) (fun hw => ?_)
              · refine g_eql (lv' := [(0, .ref (A 18)), (1, .int v1), (2, .int v2), (3, .int v3)]) [0, 1, 2, 3] rfl ?_
                exact J190 _ hK51 σ v1 v2 v3 hw
              · refine g_eql (lv' := [(0, .ref (A 18)), (1, .int v1), (3, .int v3), (4, .int v4), (5, .int v5)]) [0, 1, 3, 4, 5] rfl ?_
                exact J176 _ hK51 σ v1 v3 v4 v5 hw
      · refine g_iload C 5 rfl dX12_layEven_110 ?_
        refine g_iload_n C 3 rfl rfl dX12_layEven_112 ?_
        refine g_iload C 6 rfl dX12_layEven_113 ?_
        refine gc_I C (gr_S (As := [.int v3, .int v6]) (rest := [.int v5]) C hK 2 (gd_S wt_662 wt_663 wt_8 wt_664) rfl rfl rfl hs_X12_has ⟨⟨Nat.le_of_ble_eq_true rfl, Nat.le_of_ble_eq_true rfl⟩, Nat.le_of_ble_eq_true rfl, Nat.le_of_ble_eq_true rfl⟩ rfl rfl (Nat.le_of_ble_eq_true rfl) dX12_layEven_115 (c_X12_has (q_l κ) (q_D κ) cy A hw)) (fun r10 σ9 hw => ?_)
        refine g_if_eq C 134 (by decide) hw dX12_layEven_118 (fun hw => ?_) (fun hw => ?_)
        · refine g_iconst (v := (0 : Int32)) C dX12_layEven_134 (by decide) ?_
          refine g_eql (lv' := [(0, .ref (A 18)), (1, .int v1), (2, .int v2), (3, .int v3), (4, .int v4), (6, .int v6)]) [0, 1, 2, 3, 4, 6] rfl ?_
          exact J135 _ hK51 _ ih σ9 v1 v2 v3 v4 v6 (0 : Int32) v5 hw
        · refine g_aload_n C 0 rfl rfl dX12_layEven_121 ?_
          refine g_iload C 6 rfl dX12_layEven_122 ?_
          refine g_aload_n C 0 rfl rfl dX12_layEven_124 ?_
          refine g_get C hK inX12 rfl 18 (ga_18 cy A _) 8 (by decide) (fun _ h => h) wt_593 rfl dX12_layEven_125 ?_
          refine gc_I C (gr_V (As := [.int v6, .int (σ9.1 18 8)]) (rest := [.int v5]) C hK 2 (gd_V wt_665 wt_666 wt_848 wt_8 wt_667) rfl rfl rfl ⟨rfl, hs_X12_weighs⟩ ⟨⟨Nat.le_of_ble_eq_true rfl, Nat.le_of_ble_eq_true rfl⟩, Nat.le_of_ble_eq_true rfl, Nat.le_of_ble_eq_true rfl⟩ rfl 18 (ga_18 cy A _) rfl rfl (Nat.le_of_ble_eq_true rfl) dX12_layEven_128 (c_X12_weighs (q_l κ) (q_D κ) cy A hw)) (fun r12 σ11 hw => ?_)
          refine g_goto C 135 (by decide) dX12_layEven_131 ?_
          refine g_eql (lv' := [(0, .ref (A 18)), (1, .int v1), (2, .int v2), (3, .int v3), (4, .int v4), (6, .int v6)]) [0, 1, 2, 3, 4, 6] rfl ?_
          exact J135 _ hK51 _ ih σ11 v1 v2 v3 v4 v6 r12 v5 hw
  have J51 : ∀ (n : Nat) (σ : St) (v1 : Int32) (v2 : Int32) (v3 : Int32), wX12_layEven_51 Φ n σ v1 v2 v3 → GW κ 0 0 (gW cy A σ) 51 [(0, .ref (A 18)), (1, .int v1), (2, .int v2), (3, .int v3)] [] := by
    intro n
    induction n with
    | zero => intro σ v1 v2 v3 hw; exact hw.elim
    | succ n ih =>
      intro σ v1 v2 v3 hw
      rw [wX12_layEven_51] at hw
      refine g_iload_n C 3 rfl rfl dX12_layEven_51 ?_
      refine g_iconst (v := (1 : Int32)) C dX12_layEven_52 (by decide) ?_
      refine g_aload_n C 0 rfl rfl dX12_layEven_53 ?_
      refine g_get C hK inX12 rfl 18 (ga_18 cy A _) 9 (by decide) (fun _ h => h) wt_594 rfl dX12_layEven_54 ?_
      refine g_ishl C dX12_layEven_57 ?_
      refine g_icmp_ge C 196 (by decide) hw dX12_layEven_58 (fun hw => ?_) (fun hw => ?_)
      · exact gq_V C F (by decide) (by decide) hw dX12_layEven_196
      · refine g_aload_n C 0 rfl rfl dX12_layEven_61 ?_
        refine g_iconst (v := (0 : Int32)) C dX12_layEven_62 (by decide) ?_
        refine g_aload_n C 0 rfl rfl dX12_layEven_63 ?_
        refine g_get C hK inX12 rfl 18 (ga_18 cy A _) 2 (by decide) (fun _ h => h) wt_587 rfl dX12_layEven_64 ?_
        refine g_aload_n C 0 rfl rfl dX12_layEven_67 ?_
        refine g_get C hK inX12 rfl 18 (ga_18 cy A _) 8 (by decide) (fun _ h => h) wt_593 rfl dX12_layEven_68 ?_
        refine g_iload_n C 3 rfl rfl dX12_layEven_71 ?_
        refine gc_I C (gr_V (As := [.int (0 : Int32), .int (σ.1 18 2), .int (σ.1 18 8), .int v3]) (rest := []) C hK 4 (gd_V wt_671 wt_672 wt_850 wt_8 wt_673) rfl rfl rfl ⟨rfl, hs_X12_floorBy⟩ ⟨⟨Nat.le_of_ble_eq_true rfl, Nat.le_of_ble_eq_true rfl⟩, Nat.le_of_ble_eq_true rfl, Nat.le_of_ble_eq_true rfl⟩ rfl 18 (ga_18 cy A _) rfl rfl (Nat.le_of_ble_eq_true rfl) dX12_layEven_72 (c_X12_floorBy (q_l κ) (q_D κ) cy A hw)) (fun r4 σ3 hw => ?_)
        refine g_aload_n C 0 rfl rfl dX12_layEven_75 ?_
        refine g_iconst (v := (1 : Int32)) C dX12_layEven_76 (by decide) ?_
        refine g_aload_n C 0 rfl rfl dX12_layEven_77 ?_
        refine g_get C hK inX12 rfl 18 (ga_18 cy A _) 2 (by decide) (fun _ h => h) wt_587 rfl dX12_layEven_78 ?_
        refine g_aload_n C 0 rfl rfl dX12_layEven_81 ?_
        refine g_get C hK inX12 rfl 18 (ga_18 cy A _) 8 (by decide) (fun _ h => h) wt_593 rfl dX12_layEven_82 ?_
        refine g_iload_n C 3 rfl rfl dX12_layEven_85 ?_
        refine gc_I C (gr_V (As := [.int (1 : Int32), .int (σ3.1 18 2), .int (σ3.1 18 8), .int v3]) (rest := [.int r4]) C hK 4 (gd_V wt_671 wt_672 wt_850 wt_8 wt_673) rfl rfl rfl ⟨rfl, hs_X12_floorBy⟩ ⟨⟨Nat.le_of_ble_eq_true rfl, Nat.le_of_ble_eq_true rfl⟩, Nat.le_of_ble_eq_true rfl, Nat.le_of_ble_eq_true rfl⟩ rfl 18 (ga_18 cy A _) rfl rfl (Nat.le_of_ble_eq_true rfl) dX12_layEven_86 (c_X12_floorBy (q_l κ) (q_D κ) cy A hw)) (fun r6 σ5 hw => ?_)
        refine g_isub C dX12_layEven_89 ?_
        refine gc_I C (gr_S (As := [.int (r4 - r6)]) (rest := []) C hK 1 (gd_S wt_729 wt_730 wt_8 wt_731) rfl rfl rfl hs_X12_sized ⟨⟨Nat.le_of_ble_eq_true rfl, Nat.le_of_ble_eq_true rfl⟩, Nat.le_of_ble_eq_true rfl, Nat.le_of_ble_eq_true rfl⟩ rfl rfl (Nat.le_of_ble_eq_true rfl) dX12_layEven_90 (c_X12_sized (q_l κ) (q_D κ) cy A hw)) (fun r8 σ7 hw => ?_)
        refine g_istore C [(4, .int r8), (0, .ref (A 18)), (1, .int v1), (2, .int v2), (3, .int v3)] F.2.2.2.1 (by decide) rfl dX12_layEven_93 ?_
        refine g_iconst (v := (0 : Int32)) C dX12_layEven_95 (by decide) ?_
        refine g_istore C [(5, .int (0 : Int32)), (4, .int r8), (0, .ref (A 18)), (1, .int v1), (2, .int v2), (3, .int v3)] F.2.2.2.1 (by decide) rfl dX12_layEven_96 ?_
        refine g_iconst (v := (0 : Int32)) C dX12_layEven_98 (by decide) ?_
        refine g_istore C [(6, .int (0 : Int32)), (5, .int (0 : Int32)), (4, .int r8), (0, .ref (A 18)), (1, .int v1), (2, .int v2), (3, .int v3)] F.2.2.2.1 (by decide) rfl dX12_layEven_99 ?_
        refine g_eql (lv' := [(0, .ref (A 18)), (1, .int v1), (2, .int v2), (3, .int v3), (4, .int r8), (5, .int (0 : Int32)), (6, .int (0 : Int32))]) [3, 4, 5, 6, 2, 1, 0] rfl ?_
        obtain ⟨n0, hw⟩ := hw
        exact J101 _ ih n0 σ7 v1 v2 v3 r8 (0 : Int32) (0 : Int32) hw
  have J28 : ∀ (K4 : St → Int32 → Int32 → Prop) (_ : ∀ (σ : St) (v1 : Int32) (v2 : Int32), K4 σ v1 v2 → GW κ 0 0 (gW cy A σ) 4 [(0, .ref (A 18)), (1, .int v1), (2, .int v2)] []), ∀ (σ : St) (v2 : Int32) (s0 : Int32) (s1 : Int32), wX12_layEven_28 K4 Φ σ v2 s0 s1 → GW κ 0 0 (gW cy A σ) 28 [(0, .ref (A 18)), (2, .int v2)] [.int s0, .int s1] := by
    intro K4 hK4 σ v2 s0 s1 hw
    unfold wX12_layEven_28 at hw
    refine g_ior C dX12_layEven_28 ?_
    refine g_istore_n C [(1, .int (s1 ||| s0)), (0, .ref (A 18)), (2, .int v2)] F.2.2.2.1 rfl (by decide) rfl dX12_layEven_29 ?_
    refine g_iinc (j := 2) C [(2, .int (v2 + 1)), (1, .int (s1 ||| s0)), (0, .ref (A 18))] F.2.2.2.1 rfl rfl (by decide) rfl dX12_layEven_30 ?_
    refine g_goto C 4 (by decide) dX12_layEven_33 ?_
    refine g_eql (lv' := [(0, .ref (A 18)), (1, .int (s1 ||| s0)), (2, .int (v2 + 1))]) [2, 1, 0] rfl ?_
    exact hK4 σ (s1 ||| s0) (v2 + 1) hw
  have J4 : ∀ (n : Nat) (σ : St) (v1 : Int32) (v2 : Int32), wX12_layEven_4 Φ n σ v1 v2 → GW κ 0 0 (gW cy A σ) 4 [(0, .ref (A 18)), (1, .int v1), (2, .int v2)] [] := by
    intro n
    induction n with
    | zero => intro σ v1 v2 hw; exact hw.elim
    | succ n ih =>
      intro σ v1 v2 hw
      rw [wX12_layEven_4] at hw
      refine g_iload_n C 2 rfl rfl dX12_layEven_4 ?_
      refine g_aload_n C 0 rfl rfl dX12_layEven_5 ?_
      refine g_get C hK inX12 rfl 18 (ga_18 cy A _) 9 (by decide) (fun _ h => h) wt_594 rfl dX12_layEven_6 ?_
      refine g_icmp_ge C 36 (by decide) hw dX12_layEven_9 (fun hw => ?_) (fun hw => ?_)
      · refine g_aload_n C 0 rfl rfl dX12_layEven_36 ?_
        refine g_ldc (v := (1073741824 : Int32)) C dX12_layEven_37 wt_728 ?_
        refine g_put (v := .int (1073741824 : Int32)) C hK inX12 rfl tyX12 tyX12_ok nmX12 18 (ga_18 cy A _) 25 (by decide) (fun _ h => h) wt_610 rfl rfl rfl (Nat.le_of_ble_eq_true rfl) (gp_18_25 cy A _ _) dX12_layEven_39 ?_
        refine g_aload_n C 0 rfl rfl dX12_layEven_42 ?_
        refine g_iconst (v := (0 : Int32)) C dX12_layEven_43 (by decide) ?_
        refine g_put (v := .int (0 : Int32)) C hK inX12 rfl tyX12 tyX12_ok nmX12 18 (ga_18 cy A _) 26 (by decide) (fun _ h => h) wt_611 rfl rfl rfl (Nat.le_of_ble_eq_true rfl) (gp_18_26 cy A _ _) dX12_layEven_44 ?_
        refine g_iconst (v := (0 : Int32)) C dX12_layEven_47 (by decide) ?_
        refine g_istore_n C [(2, .int (0 : Int32)), (0, .ref (A 18)), (1, .int v1)] F.2.2.2.1 rfl (by decide) rfl dX12_layEven_48 ?_
        refine g_iconst (v := (0 : Int32)) C dX12_layEven_49 (by decide) ?_
        refine g_istore_n C [(3, .int (0 : Int32)), (2, .int (0 : Int32)), (0, .ref (A 18)), (1, .int v1)] F.2.2.2.1 rfl (by decide) rfl dX12_layEven_50 ?_
        refine g_eql (lv' := [(0, .ref (A 18)), (1, .int v1), (2, .int (0 : Int32)), (3, .int (0 : Int32))]) [2, 3, 1, 0] rfl ?_
        obtain ⟨n0, hw⟩ := hw
        exact J51 n0 (sV (sV σ 18 25 (1073741824 : Int32)) 18 26 (0 : Int32)) v1 (0 : Int32) (0 : Int32) hw
      · refine g_iload_n C 1 rfl rfl dX12_layEven_12 ?_
        refine g_aload_n C 0 rfl rfl dX12_layEven_13 ?_
        refine g_iload_n C 2 rfl rfl dX12_layEven_14 ?_
        refine gc_I C (gr_V (As := [.int v2]) (rest := [.int v1]) C hK 1 (gd_V wt_702 wt_703 wt_855 wt_8 wt_704) rfl rfl rfl ⟨rfl, hs_X12_mayCarry⟩ ⟨⟨Nat.le_of_ble_eq_true rfl, Nat.le_of_ble_eq_true rfl⟩, Nat.le_of_ble_eq_true rfl, Nat.le_of_ble_eq_true rfl⟩ rfl 18 (ga_18 cy A _) rfl rfl (Nat.le_of_ble_eq_true rfl) dX12_layEven_15 (c_X12_mayCarry (q_l κ) (q_D κ) cy A hw)) (fun r2 σ1 hw => ?_)
        refine g_if_eq C 27 (by decide) hw dX12_layEven_18 (fun hw => ?_) (fun hw => ?_)
        · refine g_iconst (v := (0 : Int32)) C dX12_layEven_27 (by decide) ?_
          refine g_eql (lv' := [(0, .ref (A 18)), (2, .int v2)]) [0, 2] rfl ?_
          exact J28 _ ih σ1 v2 (0 : Int32) v1 hw
        · refine g_iconst (v := (1 : Int32)) C dX12_layEven_21 (by decide) ?_
          refine g_iload_n C 2 rfl rfl dX12_layEven_22 ?_
          refine g_ishl C dX12_layEven_23 ?_
          refine g_goto C 28 (by decide) dX12_layEven_24 ?_
          refine g_eql (lv' := [(0, .ref (A 18)), (2, .int v2)]) [0, 2] rfl ?_
          exact J28 _ ih σ1 v2 ((1 : Int32) <<< (v2 &&& 31)) v1 hw
  unfold wX12_layEven at hw
  refine g_iconst (v := (0 : Int32)) C dX12_layEven_0 (by decide) ?_
  refine g_istore_n C [(1, .int (0 : Int32)), (0, .ref (A 18))] F.2.2.2.1 rfl (by decide) rfl dX12_layEven_1 ?_
  refine g_iconst (v := (0 : Int32)) C dX12_layEven_2 (by decide) ?_
  refine g_istore_n C [(2, .int (0 : Int32)), (1, .int (0 : Int32)), (0, .ref (A 18))] F.2.2.2.1 rfl (by decide) rfl dX12_layEven_3 ?_
  refine g_eql (lv' := [(0, .ref (A 18)), (1, .int (0 : Int32)), (2, .int (0 : Int32))]) [2, 1, 0] rfl ?_
  obtain ⟨n0, hw⟩ := hw
  exact J4 n0 σ (0 : Int32) (0 : Int32) hw
set_option maxHeartbeats 4000000 in
set_option maxRecDepth 100000 in
theorem c_X12_evenNow (l : Launch) (D : va_G) (cy : Nat → ClassId) (A : Nat → Nat) {σ : St} {v1 : Int32} {Φ : Int32 → St → Prop} (hw : wX12_evenNow σ v1 Φ) : CtI l yX12_evenNow (.code yX12_evenNow cX12_evenNow 2 (some .int) :: gL) rm_X12_evenNow 0 0 [.ref (A 18), .int v1] D cy A σ Φ := by
  refine ct_any (fun sz => va_Qi Φ (HE D cy A (gZ cy A σ sz)) (gZ cy A σ sz)) (by decide +kernel) rfl rfl [(0, .ref (A 18)), (1, .int v1)] rfl (Nat.le_of_ble_eq_true rfl) ?_
  intro κ hκl hnm C hK sz F
  subst hκl
  unfold wX12_evenNow at hw
  refine g_aload_n C 0 rfl rfl dX12_evenNow_0 ?_
  refine gc_V C (gr_V (As := []) (rest := []) C hK 0 (gd_V wt_725 wt_726 wt_859 wt_8 wt_727) rfl rfl rfl ⟨rfl, hs_X12_layEven⟩ ⟨⟨Nat.le_of_ble_eq_true rfl, Nat.le_of_ble_eq_true rfl⟩, Nat.le_of_ble_eq_true rfl, Nat.le_of_ble_eq_true rfl⟩ rfl 18 (ga_18 cy A _) rfl rfl (Nat.le_of_ble_eq_true rfl) dX12_evenNow_1 (c_X12_layEven (q_l κ) (q_D κ) cy A hw)) (fun σ1 hw => ?_)
  refine g_iload_n C 1 rfl rfl dX12_evenNow_4 ?_
  refine g_if_ne C 15 (by decide) hw dX12_evenNow_5 (fun hw => ?_) (fun hw => ?_)
  · refine g_aload_n C 0 rfl rfl dX12_evenNow_15 ?_
    refine g_get C hK inX12 rfl 18 (ga_18 cy A _) 26 (by decide) (fun _ h => h) wt_611 rfl dX12_evenNow_16 ?_
    exact gq_I C F (by decide) (by decide) hw dX12_evenNow_19
  · refine g_aload_n C 0 rfl rfl dX12_evenNow_8 ?_
    refine g_get C hK inX12 rfl 18 (ga_18 cy A _) 25 (by decide) (fun _ h => h) wt_610 rfl dX12_evenNow_9 ?_
    refine g_goto C 19 (by decide) dX12_evenNow_12 ?_
    exact gq_I C F (by decide) (by decide) hw dX12_evenNow_19
set_option maxHeartbeats 4000000 in
set_option maxRecDepth 100000 in
theorem c_X12_even (l : Launch) (D : va_G) (cy : Nat → ClassId) (A : Nat → Nat) {σ : St} {v1 : Int32} {Φ : Int32 → St → Prop} (hw : wX12_even σ v1 Φ) : CtI l yX12_even (.code yX12_even cX12_even 2 (some .int) :: gL) rm_X12_even 0 0 [.ref (A 18), .int v1] D cy A σ Φ := by
  refine ct_any (fun sz => va_Qi Φ (HE D cy A (gZ cy A σ sz)) (gZ cy A σ sz)) (by decide +kernel) rfl rfl [(0, .ref (A 18)), (1, .int v1)] rfl (Nat.le_of_ble_eq_true rfl) ?_
  intro κ hκl hnm C hK sz F
  subst hκl
  unfold wX12_even at hw
  refine g_iload_n C 1 rfl rfl dX12_even_0 ?_
  refine g_iconst (v := (0 : Int32)) C dX12_even_1 (by decide) ?_
  refine g_iconst (v := (1 : Int32)) C dX12_even_2 (by decide) ?_
  refine gc_I C (gr_S (As := [.int v1, .int (0 : Int32), .int (1 : Int32)]) (rest := []) C hK 3 (gd_S wt_645 wt_646 wt_8 wt_647) rfl rfl rfl hs_X12_within ⟨⟨Nat.le_of_ble_eq_true rfl, Nat.le_of_ble_eq_true rfl⟩, Nat.le_of_ble_eq_true rfl, Nat.le_of_ble_eq_true rfl⟩ rfl rfl (Nat.le_of_ble_eq_true rfl) dX12_even_3 (c_X12_within (q_l κ) (q_D κ) cy A hw)) (fun r2 σ1 hw => ?_)
  refine g_if_ne C 12 (by decide) hw dX12_even_6 (fun hw => ?_) (fun hw => ?_)
  · refine g_aload_n C 0 rfl rfl dX12_even_12 ?_
    refine g_get C hK inX12 rfl 18 (ga_18 cy A _) 0 (by decide) (fun _ h => h) wt_585 rfl dX12_even_13 ?_
    refine g_if_eq C 34 (by decide) hw dX12_even_16 (fun hw => ?_) (fun hw => ?_)
    · refine g_bipush (v := (-103 : Int32)) C dX12_even_34 (by decide) ?_
      exact gq_I C F (by decide) (by decide) hw dX12_even_36
    · refine g_aload_n C 0 rfl rfl dX12_even_19 ?_
      refine g_get C hK inX12 rfl 18 (ga_18 cy A _) 6 (by decide) (fun _ h => h) wt_591 rfl dX12_even_20 ?_
      refine g_if_ne C 34 (by decide) hw dX12_even_23 (fun hw => ?_) (fun hw => ?_)
      · refine g_bipush (v := (-103 : Int32)) C dX12_even_34 (by decide) ?_
        exact gq_I C F (by decide) (by decide) hw dX12_even_36
      · refine g_aload_n C 0 rfl rfl dX12_even_26 ?_
        refine g_iload_n C 1 rfl rfl dX12_even_27 ?_
        refine gc_I C (gr_V (As := [.int v1]) (rest := []) C hK 1 (gd_V wt_722 wt_723 wt_858 wt_8 wt_724) rfl rfl rfl ⟨rfl, hs_X12_evenNow⟩ ⟨⟨Nat.le_of_ble_eq_true rfl, Nat.le_of_ble_eq_true rfl⟩, Nat.le_of_ble_eq_true rfl, Nat.le_of_ble_eq_true rfl⟩ rfl 18 (ga_18 cy A _) rfl rfl (Nat.le_of_ble_eq_true rfl) dX12_even_28 (c_X12_evenNow (q_l κ) (q_D κ) cy A hw)) (fun r4 σ3 hw => ?_)
        refine g_goto C 36 (by decide) dX12_even_31 ?_
        exact gq_I C F (by decide) (by decide) hw dX12_even_36
  · refine g_bipush (v := (-102 : Int32)) C dX12_even_9 (by decide) ?_
    exact gq_I C F (by decide) (by decide) hw dX12_even_11
set_option maxHeartbeats 4000000 in
set_option maxRecDepth 100000 in
theorem c_X12_by (l : Launch) (D : va_G) (cy : Nat → ClassId) (A : Nat → Nat) {σ : St} {v0 : Int32} {Φ : Int32 → St → Prop} (hw : wX12_by σ v0 Φ) : CtI l yX12_by (.code yX12_by cX12_by 1 (some .int) :: gL) rm_X12_by 0 0 [.int v0] D cy A σ Φ := by
  refine ct_any (fun sz => va_Qi Φ (HE D cy A (gZ cy A σ sz)) (gZ cy A σ sz)) (by decide +kernel) rfl rfl [(0, .int v0)] rfl (Nat.le_of_ble_eq_true rfl) ?_
  intro κ hκl hnm C hK sz F
  subst hκl
  unfold wX12_by at hw
  refine g_iload_n C 0 rfl rfl dX12_by_0 ?_
  refine g_iconst (v := (4 : Int32)) C dX12_by_1 (by decide) ?_
  refine g_icmp_ge C 9 (by decide) hw dX12_by_2 (fun hw => ?_) (fun hw => ?_)
  · refine g_iconst (v := (3 : Int32)) C dX12_by_9 (by decide) ?_
    refine g_iload_n C 0 rfl rfl dX12_by_10 ?_
    refine g_isub C dX12_by_11 ?_
    exact gq_I C F (by decide) (by decide) hw dX12_by_12
  · refine g_iload_n C 0 rfl rfl dX12_by_5 ?_
    refine g_goto C 12 (by decide) dX12_by_6 ?_
    exact gq_I C F (by decide) (by decide) hw dX12_by_12
set_option maxHeartbeats 4000000 in
set_option maxRecDepth 100000 in
theorem c_X12_goLengths (l : Launch) (D : va_G) (cy : Nat → ClassId) (A : Nat → Nat) {σ : St} {v1 : Int32} {Φ : St → Prop} (hw : wX12_goLengths σ v1 Φ) : CtV l yX12_goLengths (.code yX12_goLengths cX12_goLengths 6 none :: gL) rm_X12_goLengths 0 0 [.ref (A 18), .int v1] D cy A σ Φ := by
  refine ct_any (fun sz => va_Qv Φ (HE D cy A (gZ cy A σ sz)) (gZ cy A σ sz)) (by decide +kernel) rfl rfl [(0, .ref (A 18)), (1, .int v1)] rfl (Nat.le_of_ble_eq_true rfl) ?_
  intro κ hκl hnm C hK sz F
  subst hκl
  have J157 : ∀ (n : Nat) (σ : St) (v2 : Int32), wX12_goLengths_157 Φ n σ v2 → GW κ 0 0 (gW cy A σ) 157 [(0, .ref (A 18)), (2, .int v2)] [] := by
    intro n
    induction n with
    | zero => intro σ v2 hw; exact hw.elim
    | succ n ih =>
      intro σ v2 hw
      rw [wX12_goLengths_157] at hw
      refine g_iload_n C 1 rfl rfl dX12_goLengths_157 ?_
      refine g_bipush (v := (40 : Int32)) C dX12_goLengths_158 (by decide) ?_
      refine g_icmp_gt C 181 (by decide) hw dX12_goLengths_160 (fun hw => ?_) (fun hw => ?_)
      · exact gq_V C F (by decide) (by decide) hw dX12_goLengths_181
      · refine g_aload_n C 0 rfl rfl dX12_goLengths_163 ?_
        refine g_get C hK inX12 rfl 18 (ga_18 cy A _) 27 (by decide) (fun _ h => h) wt_612 rfl dX12_goLengths_164 ?_
        refine g_iload_n C 1 rfl rfl dX12_goLengths_167 ?_
        refine g_aload_n C 0 rfl rfl dX12_goLengths_168 ?_
        refine g_get C hK inX12 rfl 18 (ga_18 cy A _) 28 (by decide) (fun _ h => h) wt_613 rfl dX12_goLengths_169 ?_
        refine g_iload_n C 1 rfl rfl dX12_goLengths_172 ?_
        refine g_iald C hK 27 2 (ga_27 cy A _) rfl hw.1 dX12_goLengths_173 ?_
        replace hw := hw.2
        refine g_iast C hK 26 2 (ga_26 cy A _) rfl hw.1 (gs_26 cy A _ _ _) dX12_goLengths_174 ?_
        replace hw := hw.2
        refine g_iinc (j := 1) C [(2, .int (v2 + 1)), (0, .ref (A 18))] F.2.2.2.1 rfl rfl (by decide) rfl dX12_goLengths_175 ?_
        refine g_goto C 157 (by decide) dX12_goLengths_178 ?_
        refine g_eql (lv' := [(0, .ref (A 18)), (2, .int (v2 + 1))]) [1, 0] rfl ?_
        exact ih (sV σ 26 v2.toNatClampNeg (σ.1 27 v2.toNatClampNeg)) (v2 + 1) hw
  have J149 : ∀ (K24 : St → Int32 → Int32 → Prop) (_ : ∀ (σ : St) (v1 : Int32) (v2 : Int32), K24 σ v1 v2 → GW κ 0 0 (gW cy A σ) 24 [(0, .ref (A 18)), (1, .int v1), (2, .int v2)] []), ∀ (σ : St) (v1 : Int32) (v2 : Int32), wX12_goLengths_149 K24 Φ σ v1 v2 → GW κ 0 0 (gW cy A σ) 149 [(0, .ref (A 18)), (1, .int v1), (2, .int v2)] [] := by
    intro K24 hK24 σ v1 v2 hw
    unfold wX12_goLengths_149 at hw
    refine g_iinc (j := 2) C [(2, .int (v2 + 1)), (0, .ref (A 18)), (1, .int v1)] F.2.2.2.1 rfl rfl (by decide) rfl dX12_goLengths_149 ?_
    refine g_goto C 24 (by decide) dX12_goLengths_152 ?_
    refine g_eql (lv' := [(0, .ref (A 18)), (1, .int v1), (2, .int (v2 + 1))]) [1, 2, 0] rfl ?_
    exact hK24 σ v1 (v2 + 1) hw
  have J143 : ∀ (K24 : St → Int32 → Int32 → Prop) (_ : ∀ (σ : St) (v1 : Int32) (v2 : Int32), K24 σ v1 v2 → GW κ 0 0 (gW cy A σ) 24 [(0, .ref (A 18)), (1, .int v1), (2, .int v2)] [])  (K32 : St → Int32 → Int32 → Int32 → Prop) (_ : ∀ (σ : St) (v1 : Int32) (v2 : Int32) (v3 : Int32), K32 σ v1 v2 v3 → GW κ 0 0 (gW cy A σ) 32 [(0, .ref (A 18)), (1, .int v1), (2, .int v2), (3, .int v3)] []), ∀ (σ : St) (v1 : Int32) (v2 : Int32) (v3 : Int32), wX12_goLengths_143 K24 K32 Φ σ v1 v2 v3 → GW κ 0 0 (gW cy A σ) 143 [(0, .ref (A 18)), (1, .int v1), (2, .int v2), (3, .int v3)] [] := by
    intro K24 hK24 K32 hK32 σ v1 v2 v3 hw
    unfold wX12_goLengths_143 at hw
    refine g_iinc (j := 3) C [(3, .int (v3 + 1)), (0, .ref (A 18)), (1, .int v1), (2, .int v2)] F.2.2.2.1 rfl rfl (by decide) rfl dX12_goLengths_143 ?_
    refine g_goto C 32 (by decide) dX12_goLengths_146 ?_
    refine g_eql (lv' := [(0, .ref (A 18)), (1, .int v1), (2, .int v2), (3, .int (v3 + 1))]) [1, 2, 3, 0] rfl ?_
    exact hK32 σ v1 v2 (v3 + 1) hw
  have J142 : ∀ (K24 : St → Int32 → Int32 → Prop) (_ : ∀ (σ : St) (v1 : Int32) (v2 : Int32), K24 σ v1 v2 → GW κ 0 0 (gW cy A σ) 24 [(0, .ref (A 18)), (1, .int v1), (2, .int v2)] [])  (K32 : St → Int32 → Int32 → Int32 → Prop) (_ : ∀ (σ : St) (v1 : Int32) (v2 : Int32) (v3 : Int32), K32 σ v1 v2 v3 → GW κ 0 0 (gW cy A σ) 32 [(0, .ref (A 18)), (1, .int v1), (2, .int v2), (3, .int v3)] []), ∀ (σ : St) (v1 : Int32) (v2 : Int32) (v3 : Int32) (s0 : Int32) (s1 : Int32), wX12_goLengths_142 K24 K32 Φ σ v1 v2 v3 s0 s1 → GW κ 0 0 (gW cy A σ) 142 [(0, .ref (A 18)), (1, .int v1), (2, .int v2), (3, .int v3)] [.int s0, .int s1, .ref (A 27)] := by
    intro K24 hK24 K32 hK32 σ v1 v2 v3 s0 s1 hw
    unfold wX12_goLengths_142 at hw
    refine g_iast C hK 27 2 (ga_27 cy A _) rfl hw.1 (gs_27 cy A _ _ _) dX12_goLengths_142 ?_
    replace hw := hw.2
    exact J143 _ hK24 _ hK32 (sV σ 27 s1.toNatClampNeg s0) v1 v2 v3 hw
  have J130 : ∀ (K24 : St → Int32 → Int32 → Prop) (_ : ∀ (σ : St) (v1 : Int32) (v2 : Int32), K24 σ v1 v2 → GW κ 0 0 (gW cy A σ) 24 [(0, .ref (A 18)), (1, .int v1), (2, .int v2)] [])  (K32 : St → Int32 → Int32 → Int32 → Prop) (_ : ∀ (σ : St) (v1 : Int32) (v2 : Int32) (v3 : Int32), K32 σ v1 v2 v3 → GW κ 0 0 (gW cy A σ) 32 [(0, .ref (A 18)), (1, .int v1), (2, .int v2), (3, .int v3)] []), ∀ (σ : St) (v1 : Int32) (v2 : Int32) (v3 : Int32) (v5 : Int32) (s0 : Int32), wX12_goLengths_130 K24 K32 Φ σ v1 v2 v3 v5 s0 → GW κ 0 0 (gW cy A σ) 130 [(0, .ref (A 18)), (1, .int v1), (2, .int v2), (3, .int v3), (5, .int v5)] [.int s0, .ref (A 27)] := by
    intro K24 hK24 K32 hK32 σ v1 v2 v3 v5 s0 hw
    unfold wX12_goLengths_130 at hw
    refine g_iload C 4 rfl dX12_goLengths_130 ?_
    refine g_goto C 142 (by decide) dX12_goLengths_132 ?_
    refine g_eql (lv' := [(0, .ref (A 18)), (1, .int v1), (2, .int v2), (3, .int v3)]) [0, 1, 2, 3] rfl ?_
    exact J142 _ hK24 _ hK32 σ v1 v2 v3 v5 s0 hw
  have J99 : ∀ (K24 : St → Int32 → Int32 → Prop) (_ : ∀ (σ : St) (v1 : Int32) (v2 : Int32), K24 σ v1 v2 → GW κ 0 0 (gW cy A σ) 24 [(0, .ref (A 18)), (1, .int v1), (2, .int v2)] [])  (K32 : St → Int32 → Int32 → Int32 → Prop) (_ : ∀ (σ : St) (v1 : Int32) (v2 : Int32) (v3 : Int32), K32 σ v1 v2 v3 → GW κ 0 0 (gW cy A σ) 32 [(0, .ref (A 18)), (1, .int v1), (2, .int v2), (3, .int v3)] []), ∀ (σ : St) (v1 : Int32) (v2 : Int32) (v3 : Int32) (v4 : Int32) (s0 : Int32), wX12_goLengths_99 K24 K32 Φ σ v1 v2 v3 v4 s0 → GW κ 0 0 (gW cy A σ) 99 [(0, .ref (A 18)), (1, .int v1), (2, .int v2), (3, .int v3), (4, .int v4)] [.int s0] := by
    intro K24 hK24 K32 hK32 σ v1 v2 v3 v4 s0 hw
    unfold wX12_goLengths_99 at hw
    refine g_istore C [(5, .int s0), (0, .ref (A 18)), (1, .int v1), (2, .int v2), (3, .int v3), (4, .int v4)] F.2.2.2.1 (by decide) rfl dX12_goLengths_99 ?_
    refine g_aload_n C 1 rfl rfl dX12_goLengths_101 ?_
    refine g_get C hK inX12 rfl 18 (ga_18 cy A _) 28 (by decide) (fun _ h => h) wt_613 rfl dX12_goLengths_102 ?_
    refine g_iload C 5 rfl dX12_goLengths_105 ?_
    refine g_aload_n C 1 rfl rfl dX12_goLengths_107 ?_
    refine g_get C hK inX12 rfl 18 (ga_18 cy A _) 28 (by decide) (fun _ h => h) wt_613 rfl dX12_goLengths_108 ?_
    refine g_iload C 5 rfl dX12_goLengths_111 ?_
    refine g_iald C hK 27 2 (ga_27 cy A _) rfl hw.1 dX12_goLengths_113 ?_
    replace hw := hw.2
    refine g_iconst (v := (-1 : Int32)) C dX12_goLengths_114 (by decide) ?_
    refine g_icmp_eq C 130 (by decide) hw dX12_goLengths_115 (fun hw => ?_) (fun hw => ?_)
    · refine g_eql (lv' := [(0, .ref (A 18)), (1, .int v1), (2, .int v2), (3, .int v3), (5, .int s0)]) [1, 2, 3, 4, 0] rfl ?_
      exact J130 _ hK24 _ hK32 σ v1 v2 v3 s0 v4 hw
    · refine g_iload C 0 rfl dX12_goLengths_118 ?_
      refine g_aload_n C 1 rfl rfl dX12_goLengths_120 ?_
      refine g_get C hK inX12 rfl 18 (ga_18 cy A _) 28 (by decide) (fun _ h => h) wt_613 rfl dX12_goLengths_121 ?_
      refine g_iload C 5 rfl dX12_goLengths_124 ?_
      refine g_iald C hK 27 2 (ga_27 cy A _) rfl hw.1 dX12_goLengths_126 ?_
      replace hw := hw.2
      refine g_icmp_ge C 135 (by decide) hw dX12_goLengths_127 (fun hw => ?_) (fun hw => ?_)
      · refine g_aload_n C 1 rfl rfl dX12_goLengths_135 ?_
        refine g_get C hK inX12 rfl 18 (ga_18 cy A _) 28 (by decide) (fun _ h => h) wt_613 rfl dX12_goLengths_136 ?_
        refine g_iload C 5 rfl dX12_goLengths_139 ?_
        refine g_iald C hK 27 2 (ga_27 cy A _) rfl hw.1 dX12_goLengths_141 ?_
        replace hw := hw.2
        refine g_eql (lv' := [(0, .ref (A 18)), (1, .int v1), (2, .int v2), (3, .int v3)]) [1, 2, 3, 4] rfl ?_
        exact J142 _ hK24 _ hK32 σ v1 v2 v3 (σ.1 27 v4.toNatClampNeg) v4 hw
      · refine g_eql (lv' := [(0, .ref (A 18)), (1, .int v1), (2, .int v2), (3, .int v3), (5, .int s0)]) [1, 2, 3, 4, 0] rfl ?_
        exact J130 _ hK24 _ hK32 σ v1 v2 v3 s0 v4 hw
  have J32 : ∀ (K24 : St → Int32 → Int32 → Prop) (_ : ∀ (σ : St) (v1 : Int32) (v2 : Int32), K24 σ v1 v2 → GW κ 0 0 (gW cy A σ) 24 [(0, .ref (A 18)), (1, .int v1), (2, .int v2)] []), ∀ (n : Nat) (σ : St) (v1 : Int32) (v2 : Int32) (v3 : Int32), wX12_goLengths_32 K24 Φ n σ v1 v2 v3 → GW κ 0 0 (gW cy A σ) 32 [(0, .ref (A 18)), (1, .int v1), (2, .int v2), (3, .int v3)] [] := by
    intro K24 hK24 n
    induction n with
    | zero => intro σ v1 v2 v3 hw; exact hw.elim
    | succ n ih =>
      intro σ v1 v2 v3 hw
      rw [wX12_goLengths_32] at hw
      refine g_iload_n C 3 rfl rfl dX12_goLengths_32 ?_
      refine g_bipush (v := (7 : Int32)) C dX12_goLengths_33 (by decide) ?_
      refine g_icmp_ge C 149 (by decide) hw dX12_goLengths_35 (fun hw => ?_) (fun hw => ?_)
      · refine g_eql (lv' := [(0, .ref (A 18)), (1, .int v1), (2, .int v2)]) [0, 1, 2] rfl ?_
        exact J149 _ hK24 σ v1 v2 hw
      · refine g_aload_n C 0 rfl rfl dX12_goLengths_38 ?_
        refine g_get C hK inX12 rfl 18 (ga_18 cy A _) 27 (by decide) (fun _ h => h) wt_612 rfl dX12_goLengths_39 ?_
        refine g_iload_n C 2 rfl rfl dX12_goLengths_42 ?_
        refine g_iald C hK 26 2 (ga_26 cy A _) rfl hw.1 dX12_goLengths_43 ?_
        replace hw := hw.2
        refine g_iconst (v := (-1 : Int32)) C dX12_goLengths_44 (by decide) ?_
        refine g_icmp_eq C 149 (by decide) hw dX12_goLengths_45 (fun hw => ?_) (fun hw => ?_)
        · refine g_eql (lv' := [(0, .ref (A 18)), (1, .int v1), (2, .int v2)]) [0, 1, 2] rfl ?_
          exact J149 _ hK24 σ v1 v2 hw
        · refine g_iload_n C 2 rfl rfl dX12_goLengths_48 ?_
          refine g_iload_n C 3 rfl rfl dX12_goLengths_49 ?_
          refine gc_I C (gr_S (As := [.int v3]) (rest := [.int v2]) C hK 1 (gd_S wt_745 wt_746 wt_8 wt_747) rfl rfl rfl hs_X12_by ⟨⟨Nat.le_of_ble_eq_true rfl, Nat.le_of_ble_eq_true rfl⟩, Nat.le_of_ble_eq_true rfl, Nat.le_of_ble_eq_true rfl⟩ rfl rfl (Nat.le_of_ble_eq_true rfl) dX12_goLengths_50 (c_X12_by (q_l κ) (q_D κ) cy A hw)) (fun r2 σ1 hw => ?_)
          refine g_isub C dX12_goLengths_53 ?_
          refine g_istore C [(4, .int (v2 - r2)), (0, .ref (A 18)), (1, .int v1), (2, .int v2), (3, .int v3)] F.2.2.2.1 (by decide) rfl dX12_goLengths_54 ?_
          refine g_iload C 0 rfl dX12_goLengths_56 ?_
          refine gc_I C (gr_S (As := [.int (v2 - r2)]) (rest := []) C hK 1 (gd_S wt_709 wt_710 wt_8 wt_711) rfl rfl rfl hs_X12_mayBe ⟨⟨Nat.le_of_ble_eq_true rfl, Nat.le_of_ble_eq_true rfl⟩, Nat.le_of_ble_eq_true rfl, Nat.le_of_ble_eq_true rfl⟩ rfl rfl (Nat.le_of_ble_eq_true rfl) dX12_goLengths_58 (c_X12_mayBe (q_l κ) (q_D κ) cy A hw)) (fun r4 σ3 hw => ?_)
          refine g_if_eq C 143 (by decide) hw dX12_goLengths_61 (fun hw => ?_) (fun hw => ?_)
          · refine g_eql (lv' := [(0, .ref (A 18)), (1, .int v1), (2, .int v2), (3, .int v3)]) [1, 2, 3, 4] rfl ?_
            exact J143 _ hK24 _ ih σ3 v1 v2 v3 hw
          · refine g_aload_n C 1 rfl rfl dX12_goLengths_64 ?_
            refine g_iload C 0 rfl dX12_goLengths_65 ?_
            refine g_iload_n C 2 rfl rfl dX12_goLengths_67 ?_
            refine gc_I C (gr_V (As := [.int (v2 - r2), .int v1]) (rest := []) C hK 2 (gd_V wt_715 wt_716 wt_857 wt_8 wt_717) rfl rfl rfl ⟨rfl, hs_X12_strainAt⟩ ⟨⟨Nat.le_of_ble_eq_true rfl, Nat.le_of_ble_eq_true rfl⟩, Nat.le_of_ble_eq_true rfl, Nat.le_of_ble_eq_true rfl⟩ rfl 18 (ga_18 cy A _) rfl rfl (Nat.le_of_ble_eq_true rfl) dX12_goLengths_68 (c_X12_strainAt (q_l κ) (q_D κ) cy A hw)) (fun r6 σ5 hw => ?_)
            refine g_aload_n C 1 rfl rfl dX12_goLengths_71 ?_
            refine g_get C hK inX12 rfl 18 (ga_18 cy A _) 4 (by decide) (fun _ h => h) wt_589 rfl dX12_goLengths_72 ?_
            refine g_icmp_gt C 143 (by decide) hw dX12_goLengths_75 (fun hw => ?_) (fun hw => ?_)
            · refine g_eql (lv' := [(0, .ref (A 18)), (1, .int v1), (2, .int v2), (3, .int v3)]) [1, 2, 3, 4] rfl ?_
              exact J143 _ hK24 _ ih σ5 v1 v2 v3 hw
            · refine g_aload_n C 1 rfl rfl dX12_goLengths_78 ?_
              refine g_get C hK inX12 rfl 18 (ga_18 cy A _) 27 (by decide) (fun _ h => h) wt_612 rfl dX12_goLengths_79 ?_
              refine g_iload_n C 3 rfl rfl dX12_goLengths_82 ?_
              refine g_iald C hK 26 2 (ga_26 cy A _) rfl hw.1 dX12_goLengths_83 ?_
              replace hw := hw.2
              refine g_bipush (v := (9 : Int32)) C dX12_goLengths_84 (by decide) ?_
              refine g_icmp_ne C 93 (by decide) hw dX12_goLengths_86 (fun hw => ?_) (fun hw => ?_)
              · refine g_aload_n C 1 rfl rfl dX12_goLengths_93 ?_
                refine g_get C hK inX12 rfl 18 (ga_18 cy A _) 27 (by decide) (fun _ h => h) wt_612 rfl dX12_goLengths_94 ?_
                refine g_iload_n C 3 rfl rfl dX12_goLengths_97 ?_
                refine g_iald C hK 26 2 (ga_26 cy A _) rfl hw.1 dX12_goLengths_98 ?_
                replace hw := hw.2
                refine g_eql (lv' := [(0, .ref (A 18)), (1, .int v1), (2, .int v2), (3, .int v3), (4, .int (v2 - r2))]) [1, 2, 3, 4, 0] rfl ?_
                exact J99 _ hK24 _ ih σ5 v1 v2 v3 (v2 - r2) (σ5.1 26 v2.toNatClampNeg) hw
              · refine g_iload_n C 4 rfl rfl dX12_goLengths_89 ?_
                refine g_goto C 99 (by decide) dX12_goLengths_90 ?_
                refine g_eql (lv' := [(0, .ref (A 18)), (1, .int v1), (2, .int v2), (3, .int v3), (4, .int (v2 - r2))]) [1, 2, 3, 4, 0] rfl ?_
                exact J99 _ hK24 _ ih σ5 v1 v2 v3 (v2 - r2) v3 hw
  have J24 : ∀ (n : Nat) (σ : St) (v1 : Int32) (v2 : Int32), wX12_goLengths_24 Φ n σ v1 v2 → GW κ 0 0 (gW cy A σ) 24 [(0, .ref (A 18)), (1, .int v1), (2, .int v2)] [] := by
    intro n
    induction n with
    | zero => intro σ v1 v2 hw; exact hw.elim
    | succ n ih =>
      intro σ v1 v2 hw
      rw [wX12_goLengths_24] at hw
      refine g_iload_n C 2 rfl rfl dX12_goLengths_24 ?_
      refine g_bipush (v := (40 : Int32)) C dX12_goLengths_25 (by decide) ?_
      refine g_icmp_gt C 155 (by decide) hw dX12_goLengths_27 (fun hw => ?_) (fun hw => ?_)
      · refine g_iconst (v := (0 : Int32)) C dX12_goLengths_155 (by decide) ?_
        refine g_istore_n C [(2, .int (0 : Int32)), (0, .ref (A 18)), (1, .int v1)] F.2.2.2.1 rfl (by decide) rfl dX12_goLengths_156 ?_
        refine g_eql (lv' := [(0, .ref (A 18)), (2, .int (0 : Int32))]) [1, 0] rfl ?_
        obtain ⟨n0, hw⟩ := hw
        exact J157 n0 σ (0 : Int32) hw
      · refine g_iconst (v := (0 : Int32)) C dX12_goLengths_30 (by decide) ?_
        refine g_istore_n C [(3, .int (0 : Int32)), (0, .ref (A 18)), (1, .int v1), (2, .int v2)] F.2.2.2.1 rfl (by decide) rfl dX12_goLengths_31 ?_
        refine g_eql (lv' := [(0, .ref (A 18)), (1, .int v1), (2, .int v2), (3, .int (0 : Int32))]) [1, 2, 3, 0] rfl ?_
        obtain ⟨n0, hw⟩ := hw
        exact J32 _ ih n0 σ v1 v2 (0 : Int32) hw
  have J2 : ∀ (n : Nat) (σ : St) (v1 : Int32) (v2 : Int32), wX12_goLengths_2 Φ n σ v1 v2 → GW κ 0 0 (gW cy A σ) 2 [(0, .ref (A 18)), (1, .int v1), (2, .int v2)] [] := by
    intro n
    induction n with
    | zero => intro σ v1 v2 hw; exact hw.elim
    | succ n ih =>
      intro σ v1 v2 hw
      rw [wX12_goLengths_2] at hw
      refine g_iload_n C 2 rfl rfl dX12_goLengths_2 ?_
      refine g_bipush (v := (40 : Int32)) C dX12_goLengths_3 (by decide) ?_
      refine g_icmp_gt C 21 (by decide) hw dX12_goLengths_5 (fun hw => ?_) (fun hw => ?_)
      · refine g_bipush (v := (10 : Int32)) C dX12_goLengths_21 (by decide) ?_
        refine g_istore_n C [(2, .int (10 : Int32)), (0, .ref (A 18)), (1, .int v1)] F.2.2.2.1 rfl (by decide) rfl dX12_goLengths_23 ?_
        refine g_eql (lv' := [(0, .ref (A 18)), (1, .int v1), (2, .int (10 : Int32))]) [1, 2, 0] rfl ?_
        obtain ⟨n0, hw⟩ := hw
        exact J24 n0 σ v1 (10 : Int32) hw
      · refine g_aload_n C 0 rfl rfl dX12_goLengths_8 ?_
        refine g_get C hK inX12 rfl 18 (ga_18 cy A _) 28 (by decide) (fun _ h => h) wt_613 rfl dX12_goLengths_9 ?_
        refine g_iload_n C 2 rfl rfl dX12_goLengths_12 ?_
        refine g_iconst (v := (-1 : Int32)) C dX12_goLengths_13 (by decide) ?_
        refine g_iast C hK 27 2 (ga_27 cy A _) rfl hw.1 (gs_27 cy A _ _ _) dX12_goLengths_14 ?_
        replace hw := hw.2
        refine g_iinc (j := 2) C [(2, .int (v2 + 1)), (0, .ref (A 18)), (1, .int v1)] F.2.2.2.1 rfl rfl (by decide) rfl dX12_goLengths_15 ?_
        refine g_goto C 2 (by decide) dX12_goLengths_18 ?_
        refine g_eql (lv' := [(0, .ref (A 18)), (1, .int v1), (2, .int (v2 + 1))]) [1, 2, 0] rfl ?_
        exact ih (sV σ 27 v2.toNatClampNeg (-1 : Int32)) v1 (v2 + 1) hw
  unfold wX12_goLengths at hw
  refine g_iconst (v := (0 : Int32)) C dX12_goLengths_0 (by decide) ?_
  refine g_istore_n C [(2, .int (0 : Int32)), (0, .ref (A 18)), (1, .int v1)] F.2.2.2.1 rfl (by decide) rfl dX12_goLengths_1 ?_
  refine g_eql (lv' := [(0, .ref (A 18)), (1, .int v1), (2, .int (0 : Int32))]) [1, 2, 0] rfl ?_
  obtain ⟨n0, hw⟩ := hw
  exact J2 n0 σ v1 (0 : Int32) hw
