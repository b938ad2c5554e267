set_option maxHeartbeats 4000000 in
set_option maxRecDepth 100000 in
theorem c_X11_isCabin (l : Launch) (D : va_G) (cy : Nat → ClassId) (A : Nat → Nat) {σ : St} {v0 : Int32} {Φ : Int32 → St → Prop} (hw : wX11_isCabin σ v0 Φ) : CtI l yX11_isCabin (.code yX11_isCabin cX11_isCabin 1 (some .boolean) :: gL) rm_X11_isCabin 0 0 [.int v0] D cy A σ Φ := by
  refine ct_any (fun sz => va_Qi Φ (HE D cy A (gZ cy A σ sz)) (gZ cy A σ sz)) (by decide +kernel) rfl rfl [(0, .int v0)] rfl (Nat.le_of_ble_eq_true rfl) ?_
  intro κ hκl hnm C hK sz F
  subst hκl
  unfold wX11_isCabin at hw
  refine g_iload_n C 0 rfl rfl dX11_isCabin_0 ?_
  refine g_if_lt C 13 (by decide) hw dX11_isCabin_1 (fun hw => ?_) (fun hw => ?_)
  · refine g_iconst (v := (0 : Int32)) C dX11_isCabin_13 (by decide) ?_
    exact gq_Z C F (by decide) (by decide) hw dX11_isCabin_14
  · refine g_iload_n C 0 rfl rfl dX11_isCabin_4 ?_
    refine g_iconst (v := (2 : Int32)) C dX11_isCabin_5 (by decide) ?_
    refine g_icmp_ge C 13 (by decide) hw dX11_isCabin_6 (fun hw => ?_) (fun hw => ?_)
    · refine g_iconst (v := (0 : Int32)) C dX11_isCabin_13 (by decide) ?_
      exact gq_Z C F (by decide) (by decide) hw dX11_isCabin_14
    · refine g_iconst (v := (1 : Int32)) C dX11_isCabin_9 (by decide) ?_
      refine g_goto C 14 (by decide) dX11_isCabin_10 ?_
      exact gq_Z C F (by decide) (by decide) hw dX11_isCabin_14
set_option maxHeartbeats 4000000 in
set_option maxRecDepth 100000 in
theorem c_X11_cabin (l : Launch) (D : va_G) (cy : Nat → ClassId) (A : Nat → Nat) {σ : St} {v1 : Int32} {v2 : Int32} {Φ : Int32 → St → Prop} (hw : wX11_cabin σ v1 v2 Φ) : CtI l yX11_cabin (.code yX11_cabin cX11_cabin 3 (some .int) :: gL) rm_X11_cabin 0 0 [.ref (A 0), .int v1, .int v2] D cy A σ Φ := by
  refine ct_any (fun sz => va_Qi Φ (HE D cy A (gZ cy A σ sz)) (gZ cy A σ sz)) (by decide +kernel) rfl rfl [(0, .ref (A 0)), (1, .int v1), (2, .int v2)] rfl (Nat.le_of_ble_eq_true rfl) ?_
  intro κ hκl hnm C hK sz F
  subst hκl
  unfold wX11_cabin at hw
  refine g_iload_n C 1 rfl rfl dX11_cabin_0 ?_
  refine gc_I C (gr_S (As := [.int v1]) (rest := []) C hK 1 (gd_S wt_99 wt_100 wt_1 wt_101) rfl rfl rfl hs_X11_isCabin ⟨⟨Nat.le_of_ble_eq_true rfl, Nat.le_of_ble_eq_true rfl⟩, Nat.le_of_ble_eq_true rfl, Nat.le_of_ble_eq_true rfl⟩ rfl rfl (Nat.le_of_ble_eq_true rfl) dX11_cabin_1 (c_X11_isCabin (q_l κ) (q_D κ) cy A hw)) (fun r2 σ1 hw => ?_)
  refine g_if_ne C 10 (by decide) hw dX11_cabin_4 (fun hw => ?_) (fun hw => ?_)
  · refine g_iload_n C 2 rfl rfl dX11_cabin_10 ?_
    refine g_if_lt C 19 (by decide) hw dX11_cabin_11 (fun hw => ?_) (fun hw => ?_)
    · refine g_bipush (v := (-102 : Int32)) C dX11_cabin_19 (by decide) ?_
      exact gq_I C F (by decide) (by decide) hw dX11_cabin_21
    · refine g_iload_n C 2 rfl rfl dX11_cabin_14 ?_
      refine g_iconst (v := (3 : Int32)) C dX11_cabin_15 (by decide) ?_
      refine g_icmp_le C 22 (by decide) hw dX11_cabin_16 (fun hw => ?_) (fun hw => ?_)
      · refine g_aload_n C 0 rfl rfl dX11_cabin_22 ?_
        refine g_get C hK inX11 rfl 0 (ga_0 cy A _) 1 (by decide) (fun _ h => h) wt_86 rfl dX11_cabin_23 ?_
        refine gc_I C (gr_V (As := []) (rest := []) C hK 0 (gd_V wt_102 wt_103 wt_104 wt_3 wt_105) rfl rfl rfl ⟨rfl, hs_X0_isThere⟩ ⟨⟨Nat.le_of_ble_eq_true rfl, Nat.le_of_ble_eq_true rfl⟩, Nat.le_of_ble_eq_true rfl, Nat.le_of_ble_eq_true rfl⟩ rfl 3 (ga_3 cy A _) rfl rfl (Nat.le_of_ble_eq_true rfl) dX11_cabin_26 (c_X0_isThere (q_l κ) (q_D κ) cy A hC3 hw)) (fun r4 σ3 hw => ?_)
        refine g_if_ne C 35 (by decide) hw dX11_cabin_29 (fun hw => ?_) (fun hw => ?_)
        · refine g_iload_n C 2 rfl rfl dX11_cabin_35 ?_
          by_cases h9 : v2.toInt < 0 ∨ 2 < v2.toInt
          · refine g_swOut C 106 h9 (by decide) dX11_cabin_36 ?_
            replace hw := hw.2.2.2 h9
            refine g_aload_n C 0 rfl rfl dX11_cabin_106 ?_
            refine g_get C hK inX11 rfl 0 (ga_0 cy A _) 2 (by decide) (fun _ h => h) wt_87 rfl dX11_cabin_107 ?_
            refine g_iload_n C 1 rfl rfl dX11_cabin_110 ?_
            refine gc_I C (gr_V (As := [.int v1]) (rest := []) C hK 1 (gd_V wt_150 wt_151 wt_152 wt_4 wt_153) rfl rfl rfl ⟨rfl, hs_X6_sizeIn⟩ ⟨⟨Nat.le_of_ble_eq_true rfl, Nat.le_of_ble_eq_true rfl⟩, Nat.le_of_ble_eq_true rfl, Nat.le_of_ble_eq_true rfl⟩ rfl 4 (ga_4 cy A _) rfl rfl (Nat.le_of_ble_eq_true rfl) dX11_cabin_111 (c_X6_sizeIn (q_l κ) (q_D κ) cy A hw)) (fun r12 σ11 hw => ?_)
            exact gq_I C F (by decide) (by decide) hw dX11_cabin_114
          · rcases (show v2.toInt = 0 ∨ v2.toInt = 1 ∨ v2.toInt = 2 by omega) with e9 | e9 | e9
            · refine g_swIn (off := 28) C 0 64 e9 (by decide) (by decide) (by decide) (by decide) dX11_cabin_36 ?_
              replace hw := hw.1 (Int32.toInt_inj.mp (e9.trans (by decide)))
              refine g_aload_n C 0 rfl rfl dX11_cabin_64 ?_
              refine g_get C hK inX11 rfl 0 (ga_0 cy A _) 2 (by decide) (fun _ h => h) wt_87 rfl dX11_cabin_65 ?_
              refine g_iload_n C 1 rfl rfl dX11_cabin_68 ?_
              refine g_aload_n C 0 rfl rfl dX11_cabin_69 ?_
              refine g_get C hK inX11 rfl 0 (ga_0 cy A _) 1 (by decide) (fun _ h => h) wt_86 rfl dX11_cabin_70 ?_
              refine g_get C hK inX0 rfl 3 (ga_3 cy A _) 4 (by decide) (fun _ h => h) wt_46 rfl dX11_cabin_73 ?_
              refine gc_I C (gr_V (As := [.int v1, .int (σ3.1 3 4)]) (rest := []) C hK 2 (gd_V wt_106 wt_107 wt_108 wt_4 wt_109) rfl rfl rfl ⟨rfl, hs_X6_weighsIn⟩ ⟨⟨Nat.le_of_ble_eq_true rfl, Nat.le_of_ble_eq_true rfl⟩, Nat.le_of_ble_eq_true rfl, Nat.le_of_ble_eq_true rfl⟩ rfl 4 (ga_4 cy A _) rfl rfl (Nat.le_of_ble_eq_true rfl) dX11_cabin_76 (c_X6_weighsIn (q_l κ) (q_D κ) cy A hw)) (fun r6 σ5 hw => ?_)
              exact gq_I C F (by decide) (by decide) hw dX11_cabin_79
            · refine g_swIn (off := 44) C 1 80 e9 (by decide) (by decide) (by decide) (by decide) dX11_cabin_36 ?_
              replace hw := hw.2.1 (Int32.toInt_inj.mp (e9.trans (by decide)))
              refine g_aload_n C 0 rfl rfl dX11_cabin_80 ?_
              refine g_get C hK inX11 rfl 0 (ga_0 cy A _) 1 (by decide) (fun _ h => h) wt_86 rfl dX11_cabin_81 ?_
              refine g_iload_n C 1 rfl rfl dX11_cabin_84 ?_
              refine g_aload_n C 0 rfl rfl dX11_cabin_85 ?_
              refine g_get C hK inX11 rfl 0 (ga_0 cy A _) 2 (by decide) (fun _ h => h) wt_87 rfl dX11_cabin_86 ?_
              refine gc_I C (gr_V (As := [.int v1, .ref (A 4)]) (rest := []) C hK 2 (gd_V wt_129 wt_130 wt_131 wt_3 wt_132) rfl rfl rfl ⟨rfl, hs_X0_armNow⟩ ⟨⟨Nat.le_of_ble_eq_true rfl, Nat.le_of_ble_eq_true rfl⟩, Nat.le_of_ble_eq_true rfl, Nat.le_of_ble_eq_true rfl⟩ rfl 3 (ga_3 cy A _) rfl rfl (Nat.le_of_ble_eq_true rfl) dX11_cabin_89 (c_X0_armNow (q_l κ) (q_D κ) cy A hC3 hw)) (fun r8 σ7 hw => ?_)
              exact gq_I C F (by decide) (by decide) hw dX11_cabin_92
            · refine g_swIn (off := 57) C 2 93 e9 (by decide) (by decide) (by decide) (by decide) dX11_cabin_36 ?_
              replace hw := hw.2.2.1 (Int32.toInt_inj.mp (e9.trans (by decide)))
              refine g_aload_n C 0 rfl rfl dX11_cabin_93 ?_
              refine g_get C hK inX11 rfl 0 (ga_0 cy A _) 1 (by decide) (fun _ h => h) wt_86 rfl dX11_cabin_94 ?_
              refine g_iload_n C 1 rfl rfl dX11_cabin_97 ?_
              refine g_aload_n C 0 rfl rfl dX11_cabin_98 ?_
              refine g_get C hK inX11 rfl 0 (ga_0 cy A _) 2 (by decide) (fun _ h => h) wt_87 rfl dX11_cabin_99 ?_
              refine gc_I C (gr_V (As := [.int v1, .ref (A 4)]) (rest := []) C hK 2 (gd_V wt_138 wt_139 wt_140 wt_3 wt_141) rfl rfl rfl ⟨rfl, hs_X0_floorNow⟩ ⟨⟨Nat.le_of_ble_eq_true rfl, Nat.le_of_ble_eq_true rfl⟩, Nat.le_of_ble_eq_true rfl, Nat.le_of_ble_eq_true rfl⟩ rfl 3 (ga_3 cy A _) rfl rfl (Nat.le_of_ble_eq_true rfl) dX11_cabin_102 (c_X0_floorNow (q_l κ) (q_D κ) cy A hC3 hw)) (fun r10 σ9 hw => ?_)
              exact gq_I C F (by decide) (by decide) hw dX11_cabin_105
        · refine g_bipush (v := (-103 : Int32)) C dX11_cabin_32 (by decide) ?_
          exact gq_I C F (by decide) (by decide) hw dX11_cabin_34
      · refine g_bipush (v := (-102 : Int32)) C dX11_cabin_19 (by decide) ?_
        exact gq_I C F (by decide) (by decide) hw dX11_cabin_21
  · refine g_bipush (v := (-101 : Int32)) C dX11_cabin_7 (by decide) ?_
    exact gq_I C F (by decide) (by decide) hw dX11_cabin_9
set_option maxHeartbeats 4000000 in
set_option maxRecDepth 100000 in
theorem c_X11_isKind (l : Launch) (D : va_G) (cy : Nat → ClassId) (A : Nat → Nat) {σ : St} {v0 : Int32} {Φ : Int32 → St → Prop} (hw : wX11_isKind σ v0 Φ) : CtI l yX11_isKind (.code yX11_isKind cX11_isKind 1 (some .boolean) :: gL) rm_X11_isKind 0 0 [.int v0] D cy A σ Φ := by
  refine ct_any (fun sz => va_Qi Φ (HE D cy A (gZ cy A σ sz)) (gZ cy A σ sz)) (by decide +kernel) rfl rfl [(0, .int v0)] rfl (Nat.le_of_ble_eq_true rfl) ?_
  intro κ hκl hnm C hK sz F
  subst hκl
  unfold wX11_isKind at hw
  refine g_iload_n C 0 rfl rfl dX11_isKind_0 ?_
  refine g_if_lt C 13 (by decide) hw dX11_isKind_1 (fun hw => ?_) (fun hw => ?_)
  · refine g_iconst (v := (0 : Int32)) C dX11_isKind_13 (by decide) ?_
    exact gq_Z C F (by decide) (by decide) hw dX11_isKind_14
  · refine g_iload_n C 0 rfl rfl dX11_isKind_4 ?_
    refine g_iconst (v := (4 : Int32)) C dX11_isKind_5 (by decide) ?_
    refine g_icmp_gt C 13 (by decide) hw dX11_isKind_6 (fun hw => ?_) (fun hw => ?_)
    · refine g_iconst (v := (0 : Int32)) C dX11_isKind_13 (by decide) ?_
      exact gq_Z C F (by decide) (by decide) hw dX11_isKind_14
    · refine g_iconst (v := (1 : Int32)) C dX11_isKind_9 (by decide) ?_
      refine g_goto C 14 (by decide) dX11_isKind_10 ?_
      exact gq_Z C F (by decide) (by decide) hw dX11_isKind_14
set_option maxHeartbeats 4000000 in
set_option maxRecDepth 100000 in
theorem c_X11_newThing (l : Launch) (D : va_G) (cy : Nat → ClassId) (A : Nat → Nat) {σ : St} {v0 : Int32} {v1 : Int32} {v2 : Int32} {v3 : Int32} {Φ : Option Nat → St → Prop} (hw : wX11_newThing σ v0 v1 v2 v3 Φ) : CtQ l yX11_newThing (.code yX11_newThing cX11_newThing 4 (some (.object "TwoOnACable$Thing")) :: gL) rm_X11_newThing 1 3 [.int v0, .int v1, .int v2, .int v3] D cy A σ Φ := by
  refine ct_any (fun sz => va_Qq Φ (HE D cy A (gZ cy A σ sz)) (gZ cy A σ sz)) (by decide +kernel) rfl rfl [(0, .int v0), (1, .int v1), (2, .int v2), (3, .int v3)] rfl (Nat.le_of_ble_eq_true rfl) ?_
  intro κ hκl hnm C hK sz F
  subst hκl
  unfold wX11_newThing at hw
  refine g_iload_n C 0 rfl rfl dX11_newThing_0 ?_
  by_cases h9 : v0.toInt < 1 ∨ 4 < v0.toInt
  · refine g_swOut C 76 h9 (by decide) dX11_newThing_1 ?_
    replace hw := hw.2.2.2.2 h9
    refine g_newT C hK 9 inX9 tyX9 tyX9_ok rfl ⟨rfl, rfl, rfl⟩ wt_413 wt_414 wt_9 ⟨Nat.le_of_ble_eq_true rfl, Nat.le_of_ble_eq_true rfl⟩ dX11_newThing_76 (fun b9 hb => ?_)
    replace hw := hw b9 hb
    refine g_dup C rfl dX11_newThing_79 ?_
    refine g_iload_n C 1 rfl rfl dX11_newThing_80 ?_
    refine g_iload_n C 2 rfl rfl dX11_newThing_81 ?_
    refine g_iload_n C 3 rfl rfl dX11_newThing_82 ?_
    refine gc_V C (gr_N (As := [.int v1, .int v2, .int v3]) (rest := [.ref b9]) C hK 3 (gd_N wt_380) rfl rfl rfl wt_9 wt_415 wt_379 rfl hs_X9_init ⟨⟨Nat.le_of_ble_eq_true rfl, Nat.le_of_ble_eq_true rfl⟩, Nat.le_of_ble_eq_true rfl, Nat.le_of_ble_eq_true rfl⟩ rfl rfl (Nat.le_of_ble_eq_true rfl) dX11_newThing_83 (c_X9_init (q_l κ) (q_D κ) cy A hw)) (fun σ10 hw => ?_)
    exact gq_Q (r := (some b9)) C F (by decide) (by decide) hw dX11_newThing_86
  · rcases (show v0.toInt = 1 ∨ v0.toInt = 2 ∨ v0.toInt = 3 ∨ v0.toInt = 4 by omega) with e9 | e9 | e9 | e9
    · refine g_swIn (off := 31) C 1 32 e9 (by decide) (by decide) (by decide) (by decide) dX11_newThing_1 ?_
      replace hw := hw.1 (Int32.toInt_inj.mp (e9.trans (by decide)))
      refine g_newT C hK 1 inX1 tyX1 tyX1_ok rfl ⟨rfl, rfl, rfl⟩ wt_196 wt_374 wt_10 ⟨Nat.le_of_ble_eq_true rfl, Nat.le_of_ble_eq_true rfl⟩ dX11_newThing_32 (fun b1 hb => ?_)
      replace hw := hw b1 hb
      refine g_dup C rfl dX11_newThing_35 ?_
      refine g_iload_n C 1 rfl rfl dX11_newThing_36 ?_
      refine g_iload_n C 2 rfl rfl dX11_newThing_37 ?_
      refine g_iload_n C 3 rfl rfl dX11_newThing_38 ?_
      refine gc_V C (gr_N (As := [.int v1, .int v2, .int v3]) (rest := [.ref b1]) C hK 3 (gd_N wt_377) rfl rfl rfl wt_10 wt_375 wt_376 rfl hs_X1_init ⟨⟨Nat.le_of_ble_eq_true rfl, Nat.le_of_ble_eq_true rfl⟩, Nat.le_of_ble_eq_true rfl, Nat.le_of_ble_eq_true rfl⟩ rfl rfl (Nat.le_of_ble_eq_true rfl) dX11_newThing_39 (c_X1_init (q_l κ) (q_D κ) cy A hw)) (fun σ2 hw => ?_)
      exact gq_Q (r := (some b1)) C F (by decide) (by decide) hw dX11_newThing_42
    · refine g_swIn (off := 42) C 2 43 e9 (by decide) (by decide) (by decide) (by decide) dX11_newThing_1 ?_
      replace hw := hw.2.1 (Int32.toInt_inj.mp (e9.trans (by decide)))
      refine g_newT C hK 3 inX3 tyX3 tyX3_ok rfl ⟨rfl, rfl, rfl⟩ wt_197 wt_398 wt_11 ⟨Nat.le_of_ble_eq_true rfl, Nat.le_of_ble_eq_true rfl⟩ dX11_newThing_43 (fun b3 hb => ?_)
      replace hw := hw b3 hb
      refine g_dup C rfl dX11_newThing_46 ?_
      refine g_iload_n C 1 rfl rfl dX11_newThing_47 ?_
      refine g_iload_n C 2 rfl rfl dX11_newThing_48 ?_
      refine g_iload_n C 3 rfl rfl dX11_newThing_49 ?_
      refine gc_V C (gr_N (As := [.int v1, .int v2, .int v3]) (rest := [.ref b3]) C hK 3 (gd_N wt_401) rfl rfl rfl wt_11 wt_399 wt_400 rfl hs_X3_init ⟨⟨Nat.le_of_ble_eq_true rfl, Nat.le_of_ble_eq_true rfl⟩, Nat.le_of_ble_eq_true rfl, Nat.le_of_ble_eq_true rfl⟩ rfl rfl (Nat.le_of_ble_eq_true rfl) dX11_newThing_50 (c_X3_init (q_l κ) (q_D κ) cy A hw)) (fun σ4 hw => ?_)
      exact gq_Q (r := (some b3)) C F (by decide) (by decide) hw dX11_newThing_53
    · refine g_swIn (off := 53) C 3 54 e9 (by decide) (by decide) (by decide) (by decide) dX11_newThing_1 ?_
      replace hw := hw.2.2.1 (Int32.toInt_inj.mp (e9.trans (by decide)))
      refine g_newT C hK 5 inX5 tyX5 tyX5_ok rfl ⟨rfl, rfl, rfl⟩ wt_198 wt_403 wt_12 ⟨Nat.le_of_ble_eq_true rfl, Nat.le_of_ble_eq_true rfl⟩ dX11_newThing_54 (fun b5 hb => ?_)
      replace hw := hw b5 hb
      refine g_dup C rfl dX11_newThing_57 ?_
      refine g_iload_n C 1 rfl rfl dX11_newThing_58 ?_
      refine g_iload_n C 2 rfl rfl dX11_newThing_59 ?_
      refine g_iload_n C 3 rfl rfl dX11_newThing_60 ?_
      refine gc_V C (gr_N (As := [.int v1, .int v2, .int v3]) (rest := [.ref b5]) C hK 3 (gd_N wt_406) rfl rfl rfl wt_12 wt_404 wt_405 rfl hs_X5_init ⟨⟨Nat.le_of_ble_eq_true rfl, Nat.le_of_ble_eq_true rfl⟩, Nat.le_of_ble_eq_true rfl, Nat.le_of_ble_eq_true rfl⟩ rfl rfl (Nat.le_of_ble_eq_true rfl) dX11_newThing_61 (c_X5_init (q_l κ) (q_D κ) cy A hw)) (fun σ6 hw => ?_)
      exact gq_Q (r := (some b5)) C F (by decide) (by decide) hw dX11_newThing_64
    · refine g_swIn (off := 64) C 4 65 e9 (by decide) (by decide) (by decide) (by decide) dX11_newThing_1 ?_
      replace hw := hw.2.2.2.1 (Int32.toInt_inj.mp (e9.trans (by decide)))
      refine g_newT C hK 4 inX4 tyX4 tyX4_ok rfl ⟨rfl, rfl, rfl⟩ wt_199 wt_408 wt_13 ⟨Nat.le_of_ble_eq_true rfl, Nat.le_of_ble_eq_true rfl⟩ dX11_newThing_65 (fun b7 hb => ?_)
      replace hw := hw b7 hb
      refine g_dup C rfl dX11_newThing_68 ?_
      refine g_iload_n C 1 rfl rfl dX11_newThing_69 ?_
      refine g_iload_n C 2 rfl rfl dX11_newThing_70 ?_
      refine g_iload_n C 3 rfl rfl dX11_newThing_71 ?_
      refine gc_V C (gr_N (As := [.int v1, .int v2, .int v3]) (rest := [.ref b7]) C hK 3 (gd_N wt_411) rfl rfl rfl wt_13 wt_409 wt_410 rfl hs_X4_init ⟨⟨Nat.le_of_ble_eq_true rfl, Nat.le_of_ble_eq_true rfl⟩, Nat.le_of_ble_eq_true rfl, Nat.le_of_ble_eq_true rfl⟩ rfl rfl (Nat.le_of_ble_eq_true rfl) dX11_newThing_72 (c_X4_init (q_l κ) (q_D κ) cy A hw)) (fun σ8 hw => ?_)
      exact gq_Q (r := (some b7)) C F (by decide) (by decide) hw dX11_newThing_75
set_option maxHeartbeats 4000000 in
set_option maxRecDepth 100000 in
theorem c_X11_thing (l : Launch) (D : va_G) (cy : Nat → ClassId) (A : Nat → Nat) {σ : St} {v1 : Int32} {v2 : Int32} {v3 : Int32} {Φ : Int32 → St → Prop} (hw : wX11_thing σ v1 v2 v3 Φ) : CtI l yX11_thing (.code yX11_thing cX11_thing 4 (some .int) :: gL) rm_X11_thing 1 3 [.ref (A 0), .int v1, .int v2, .int v3] D cy A σ Φ := by
  refine ct_any (fun sz => va_Qi Φ (HE D cy A (gZ cy A σ sz)) (gZ cy A σ sz)) (by decide +kernel) rfl rfl [(0, .ref (A 0)), (1, .int v1), (2, .int v2), (3, .int v3)] rfl (Nat.le_of_ble_eq_true rfl) ?_
  intro κ hκl hnm C hK sz F
  subst hκl
  unfold wX11_thing at hw
  refine g_iload_n C 3 rfl rfl dX11_thing_0 ?_
  refine gc_I C (gr_S (As := [.int v3]) (rest := []) C hK 1 (gd_S wt_99 wt_100 wt_1 wt_101) rfl rfl rfl hs_X11_isCabin ⟨⟨Nat.le_of_ble_eq_true rfl, Nat.le_of_ble_eq_true rfl⟩, Nat.le_of_ble_eq_true rfl, Nat.le_of_ble_eq_true rfl⟩ rfl rfl (Nat.le_of_ble_eq_true rfl) dX11_thing_1 (c_X11_isCabin (q_l κ) (q_D κ) cy A hw)) (fun r2 σ1 hw => ?_)
  refine g_if_ne C 10 (by decide) hw dX11_thing_4 (fun hw => ?_) (fun hw => ?_)
  · refine g_iload_n C 1 rfl rfl dX11_thing_10 ?_
    refine gc_I C (gr_S (As := [.int v1]) (rest := []) C hK 1 (gd_S wt_190 wt_191 wt_1 wt_192) rfl rfl rfl hs_X11_isKind ⟨⟨Nat.le_of_ble_eq_true rfl, Nat.le_of_ble_eq_true rfl⟩, Nat.le_of_ble_eq_true rfl, Nat.le_of_ble_eq_true rfl⟩ rfl rfl (Nat.le_of_ble_eq_true rfl) dX11_thing_11 (c_X11_isKind (q_l κ) (q_D κ) cy A hw)) (fun r4 σ3 hw => ?_)
    refine g_if_eq C 28 (by decide) hw dX11_thing_14 (fun hw => ?_) (fun hw => ?_)
    · refine g_bipush (v := (-102 : Int32)) C dX11_thing_28 (by decide) ?_
      exact gq_I C F (by decide) (by decide) hw dX11_thing_30
    · refine g_iload_n C 2 rfl rfl dX11_thing_17 ?_
      refine g_iconst (v := (1 : Int32)) C dX11_thing_18 (by decide) ?_
      refine g_icmp_lt C 28 (by decide) hw dX11_thing_19 (fun hw => ?_) (fun hw => ?_)
      · refine g_bipush (v := (-102 : Int32)) C dX11_thing_28 (by decide) ?_
        exact gq_I C F (by decide) (by decide) hw dX11_thing_30
      · refine g_iload_n C 2 rfl rfl dX11_thing_22 ?_
        refine g_bipush (v := (20 : Int32)) C dX11_thing_23 (by decide) ?_
        refine g_icmp_le C 31 (by decide) hw dX11_thing_25 (fun hw => ?_) (fun hw => ?_)
        · refine g_aload_n C 0 rfl rfl dX11_thing_31 ?_
          refine g_get C hK inX11 rfl 0 (ga_0 cy A _) 1 (by decide) (fun _ h => h) wt_86 rfl dX11_thing_32 ?_
          refine gc_I C (gr_V (As := []) (rest := []) C hK 0 (gd_V wt_102 wt_103 wt_104 wt_3 wt_105) rfl rfl rfl ⟨rfl, hs_X0_isThere⟩ ⟨⟨Nat.le_of_ble_eq_true rfl, Nat.le_of_ble_eq_true rfl⟩, Nat.le_of_ble_eq_true rfl, Nat.le_of_ble_eq_true rfl⟩ rfl 3 (ga_3 cy A _) rfl rfl (Nat.le_of_ble_eq_true rfl) dX11_thing_35 (c_X0_isThere (q_l κ) (q_D κ) cy A hC3 hw)) (fun r6 σ5 hw => ?_)
          refine g_if_ne C 44 (by decide) hw dX11_thing_38 (fun hw => ?_) (fun hw => ?_)
          · refine g_aload_n C 0 rfl rfl dX11_thing_44 ?_
            refine g_get C hK inX11 rfl 0 (ga_0 cy A _) 2 (by decide) (fun _ h => h) wt_87 rfl dX11_thing_45 ?_
            refine gc_I C (gr_V (As := []) (rest := []) C hK 0 (gd_V wt_367 wt_368 wt_369 wt_4 wt_370) rfl rfl rfl ⟨rfl, hs_X6_isFull⟩ ⟨⟨Nat.le_of_ble_eq_true rfl, Nat.le_of_ble_eq_true rfl⟩, Nat.le_of_ble_eq_true rfl, Nat.le_of_ble_eq_true rfl⟩ rfl 4 (ga_4 cy A _) rfl rfl (Nat.le_of_ble_eq_true rfl) dX11_thing_48 (c_X6_isFull (q_l κ) (q_D κ) cy A hw)) (fun r8 σ7 hw => ?_)
            refine g_if_eq C 57 (by decide) hw dX11_thing_51 (fun hw => ?_) (fun hw => ?_)
            · refine g_aload_n C 0 rfl rfl dX11_thing_57 ?_
              refine g_get C hK inX11 rfl 0 (ga_0 cy A _) 2 (by decide) (fun _ h => h) wt_87 rfl dX11_thing_58 ?_
              refine g_iload_n C 1 rfl rfl dX11_thing_61 ?_
              refine g_iload_n C 2 rfl rfl dX11_thing_62 ?_
              refine g_iload_n C 3 rfl rfl dX11_thing_63 ?_
              refine g_aload_n C 0 rfl rfl dX11_thing_64 ?_
              refine g_get C hK inX11 rfl 0 (ga_0 cy A _) 1 (by decide) (fun _ h => h) wt_86 rfl dX11_thing_65 ?_
              refine g_get C hK inX0 rfl 3 (ga_3 cy A _) 4 (by decide) (fun _ h => h) wt_46 rfl dX11_thing_68 ?_
              refine gc_Q C (gr_S (As := [.int v1, .int v2, .int v3, .int (σ7.1 3 4)]) (rest := [.ref (A 4)]) C hK 4 (gd_S wt_371 wt_372 wt_1 wt_373) rfl rfl rfl hs_X11_newThing ⟨⟨Nat.le_of_ble_eq_true rfl, Nat.le_of_ble_eq_true rfl⟩, Nat.le_of_ble_eq_true rfl, Nat.le_of_ble_eq_true rfl⟩ rfl rfl (Nat.le_of_ble_eq_true rfl) dX11_thing_71 (c_X11_newThing (q_l κ) (q_D κ) cy A hw)) (fun r10 σ9 hw => ?_)
              obtain ⟨b11, e9, hw⟩ := hw
              subst e9
              refine gc_I C (gr_V (As := [.ref b11]) (rest := []) C hK 1 (gd_V wt_416 wt_417 wt_418 wt_4 wt_419) rfl rfl rfl ⟨rfl, hs_X6_put⟩ ⟨⟨Nat.le_of_ble_eq_true rfl, Nat.le_of_ble_eq_true rfl⟩, Nat.le_of_ble_eq_true rfl, Nat.le_of_ble_eq_true rfl⟩ rfl 4 (ga_4 cy A _) rfl rfl (Nat.le_of_ble_eq_true rfl) dX11_thing_74 (c_X6_put (q_l κ) (q_D κ) cy A hw)) (fun r13 σ12 hw => ?_)
              exact gq_I C F (by decide) (by decide) hw dX11_thing_77
            · refine g_bipush (v := (-104 : Int32)) C dX11_thing_54 (by decide) ?_
              exact gq_I C F (by decide) (by decide) hw dX11_thing_56
          · refine g_bipush (v := (-103 : Int32)) C dX11_thing_41 (by decide) ?_
            exact gq_I C F (by decide) (by decide) hw dX11_thing_43
        · refine g_bipush (v := (-102 : Int32)) C dX11_thing_28 (by decide) ?_
          exact gq_I C F (by decide) (by decide) hw dX11_thing_30
  · refine g_bipush (v := (-101 : Int32)) C dX11_thing_7 (by decide) ?_
    exact gq_I C F (by decide) (by decide) hw dX11_thing_9
set_option maxHeartbeats 4000000 in
set_option maxRecDepth 100000 in
theorem c_X11_about (l : Launch) (D : va_G) (cy : Nat → ClassId) (A : Nat → Nat) {σ : St} {v1 : Int32} {v2 : Int32} {Φ : Int32 → St → Prop} (hw : wX11_about σ v1 v2 Φ) : CtI l yX11_about (.code yX11_about cX11_about 4 (some .int) :: gL) rm_X11_about 0 0 [.ref (A 0), .int v1, .int v2] D cy A σ Φ := by
  refine ct_any (fun sz => va_Qi Φ (HE D cy A (gZ cy A σ sz)) (gZ cy A σ sz)) (by decide +kernel) rfl rfl [(0, .ref (A 0)), (1, .int v1), (2, .int v2)] rfl (Nat.le_of_ble_eq_true rfl) ?_
  intro κ hκl hnm C hK sz F
  subst hκl
  unfold wX11_about at hw
  refine g_aload_n C 0 rfl rfl dX11_about_0 ?_
  refine g_get C hK inX11 rfl 0 (ga_0 cy A _) 2 (by decide) (fun _ h => h) wt_87 rfl dX11_about_1 ?_
  refine g_iload_n C 1 rfl rfl dX11_about_4 ?_
  refine gc_Q C (gr_V (As := [.int v1]) (rest := []) C hK 1 (gd_V wt_158 wt_111 wt_112 wt_4 wt_113) rfl rfl rfl ⟨rfl, hs_X6_at⟩ ⟨⟨Nat.le_of_ble_eq_true rfl, Nat.le_of_ble_eq_true rfl⟩, Nat.le_of_ble_eq_true rfl, Nat.le_of_ble_eq_true rfl⟩ rfl 4 (ga_4 cy A _) rfl rfl (Nat.le_of_ble_eq_true rfl) dX11_about_5 (c_X6_at (q_l κ) (q_D κ) cy A hw)) (fun r2 σ1 hw => ?_)
  refine g_rstore_n C [(3, va_rf r2), (0, .ref (A 0)), (1, .int v1), (2, .int v2)] F.2.2.2.1 rfl (by decide) rfl dX11_about_8 ?_
  refine g_rload_n C 0 rfl rfl dX11_about_9 ?_
  refine g_ifnonnull C 16 (by decide) hw dX11_about_10 (fun b3 e9 hw1 => ?_) (fun hw1 e9 => ?_)
  · subst e9
    replace hw := hw1
    refine g_iload_n C 3 rfl rfl dX11_about_16 ?_
    by_cases h9 : v2.toInt < 0 ∨ 4 < v2.toInt
    · refine g_swOut C 91 h9 (by decide) dX11_about_17 ?_
      replace hw := hw.2.2.2.2.2 h9
      refine g_bipush (v := (-102 : Int32)) C dX11_about_91 (by decide) ?_
      exact gq_I C F (by decide) (by decide) hw dX11_about_93
    · rcases (show v2.toInt = 0 ∨ v2.toInt = 1 ∨ v2.toInt = 2 ∨ v2.toInt = 3 ∨ v2.toInt = 4 by omega) with e9 | e9 | e9 | e9 | e9
      · refine g_swIn (off := 35) C 0 52 e9 (by decide) (by decide) (by decide) (by decide) dX11_about_17 ?_
        replace hw := hw.1 (Int32.toInt_inj.mp (e9.trans (by decide)))
        refine g_aload_n C 0 rfl rfl dX11_about_52 ?_
        have hn : ∀ (r4 : Int32) (σ5 : St), (Φ r4 σ5) → GW κ 0 0 (gW cy A σ5) 56 [(3, .ref b3), (0, .ref (A 0)), (1, .int v1), (2, .int v2)] [.int r4] := by
          intro r4 σ5 hw
          exact gq_I C F (by decide) (by decide) hw dX11_about_56
        obtain ⟨h8, hw⟩ := hw
        rcases hw with ⟨h9, hw⟩ | ⟨h9, hw⟩ | ⟨h9, hw⟩ | ⟨h9, hw⟩ | ⟨h9, hw⟩
        · obtain ⟨q9, -, h9⟩ := ga_T cy A _ h8 h9
          exact gc_I C (gr_O (As := []) (rest := []) C hK 0 (gd_O wt_159 wt_162 wt_160 wt_163 wt_164 wt_10 wt_165) rfl rfl rfl wt_175 hs_X9_kind ⟨⟨Nat.le_of_ble_eq_true rfl, Nat.le_of_ble_eq_true rfl⟩, Nat.le_of_ble_eq_true rfl, Nat.le_of_ble_eq_true rfl⟩ rfl q9 h9 rfl rfl (Nat.le_of_ble_eq_true rfl) dX11_about_53 (c_X1_kind (q_l κ) (q_D κ) cy A hw)) hn
        · obtain ⟨q9, -, h9⟩ := ga_T cy A _ h8 h9
          exact gc_I C (gr_O (As := []) (rest := []) C hK 0 (gd_O wt_159 wt_162 wt_160 wt_166 wt_167 wt_11 wt_168) rfl rfl rfl wt_175 hs_X9_kind ⟨⟨Nat.le_of_ble_eq_true rfl, Nat.le_of_ble_eq_true rfl⟩, Nat.le_of_ble_eq_true rfl, Nat.le_of_ble_eq_true rfl⟩ rfl q9 h9 rfl rfl (Nat.le_of_ble_eq_true rfl) dX11_about_53 (c_X3_kind (q_l κ) (q_D κ) cy A hw)) hn
        · obtain ⟨q9, -, h9⟩ := ga_T cy A _ h8 h9
          exact gc_I C (gr_O (As := []) (rest := []) C hK 0 (gd_O wt_159 wt_162 wt_160 wt_169 wt_170 wt_13 wt_171) rfl rfl rfl wt_175 hs_X9_kind ⟨⟨Nat.le_of_ble_eq_true rfl, Nat.le_of_ble_eq_true rfl⟩, Nat.le_of_ble_eq_true rfl, Nat.le_of_ble_eq_true rfl⟩ rfl q9 h9 rfl rfl (Nat.le_of_ble_eq_true rfl) dX11_about_53 (c_X4_kind (q_l κ) (q_D κ) cy A hw)) hn
        · obtain ⟨q9, -, h9⟩ := ga_T cy A _ h8 h9
          exact gc_I C (gr_O (As := []) (rest := []) C hK 0 (gd_O wt_159 wt_162 wt_160 wt_172 wt_173 wt_12 wt_174) rfl rfl rfl wt_175 hs_X9_kind ⟨⟨Nat.le_of_ble_eq_true rfl, Nat.le_of_ble_eq_true rfl⟩, Nat.le_of_ble_eq_true rfl, Nat.le_of_ble_eq_true rfl⟩ rfl q9 h9 rfl rfl (Nat.le_of_ble_eq_true rfl) dX11_about_53 (c_X5_kind (q_l κ) (q_D κ) cy A hw)) hn
        · obtain ⟨q9, -, h9⟩ := ga_T cy A _ h8 h9
          exact gc_I C (gr_V (As := []) (rest := []) C hK 0 (gd_V wt_159 wt_160 wt_161 wt_9 wt_175) rfl rfl rfl ⟨rfl, hs_X9_kind⟩ ⟨⟨Nat.le_of_ble_eq_true rfl, Nat.le_of_ble_eq_true rfl⟩, Nat.le_of_ble_eq_true rfl, Nat.le_of_ble_eq_true rfl⟩ rfl q9 h9 rfl rfl (Nat.le_of_ble_eq_true rfl) dX11_about_53 (c_X9_kind (q_l κ) (q_D κ) cy A hw)) hn
      · refine g_swIn (off := 40) C 1 57 e9 (by decide) (by decide) (by decide) (by decide) dX11_about_17 ?_
        replace hw := hw.2.1 (Int32.toInt_inj.mp (e9.trans (by decide)))
        refine g_aload_n C 0 rfl rfl dX11_about_57 ?_
        refine g_getT0 C hK hw.1 (fun _ h => h) wt_389 dX11_about_58 ?_
        replace hw := hw.2
        exact gq_I C F (by decide) (by decide) hw dX11_about_61
      · refine g_swIn (off := 45) C 2 62 e9 (by decide) (by decide) (by decide) (by decide) dX11_about_17 ?_
        replace hw := hw.2.2.1 (Int32.toInt_inj.mp (e9.trans (by decide)))
        refine g_aload_n C 0 rfl rfl dX11_about_62 ?_
        refine g_getT2 C hK hw.1 (fun _ h => h) wt_397 dX11_about_63 ?_
        replace hw := hw.2
        exact gq_I C F (by decide) (by decide) hw dX11_about_66
      · refine g_swIn (off := 50) C 3 67 e9 (by decide) (by decide) (by decide) (by decide) dX11_about_17 ?_
        replace hw := hw.2.2.2.1 (Int32.toInt_inj.mp (e9.trans (by decide)))
        refine g_aload_n C 0 rfl rfl dX11_about_67 ?_
        refine g_aload_n C 1 rfl rfl dX11_about_68 ?_
        refine g_get C hK inX11 rfl 0 (ga_0 cy A _) 1 (by decide) (fun _ h => h) wt_86 rfl dX11_about_69 ?_
        refine g_get C hK inX0 rfl 3 (ga_3 cy A _) 4 (by decide) (fun _ h => h) wt_46 rfl dX11_about_72 ?_
        have hn : ∀ (r6 : Int32) (σ7 : St), (Φ r6 σ7) → GW κ 0 0 (gW cy A σ7) 78 [(3, .ref b3), (0, .ref (A 0)), (1, .int v1), (2, .int v2)] [.int r6] := by
          intro r6 σ7 hw
          exact gq_I C F (by decide) (by decide) hw dX11_about_78
        obtain ⟨h8, hw⟩ := hw
        rcases hw with ⟨h9, hw⟩ | ⟨h9, hw⟩ | ⟨h9, hw⟩ | ⟨h9, hw⟩ | ⟨h9, hw⟩
        · obtain ⟨q9, -, h9⟩ := ga_T cy A _ h8 h9
          exact gc_I C (gr_O (As := [.int (σ1.1 3 4)]) (rest := []) C hK 1 (gd_O wt_176 wt_117 wt_115 wt_118 wt_119 wt_10 wt_120) rfl rfl rfl wt_128 hs_X9_weighs ⟨⟨Nat.le_of_ble_eq_true rfl, Nat.le_of_ble_eq_true rfl⟩, Nat.le_of_ble_eq_true rfl, Nat.le_of_ble_eq_true rfl⟩ rfl q9 h9 rfl rfl (Nat.le_of_ble_eq_true rfl) dX11_about_75 (c_X1_weighs (q_l κ) (q_D κ) cy A hw)) hn
        · obtain ⟨q9, -, h9⟩ := ga_T cy A _ h8 h9
          exact gc_I C (gr_U (As := [.int (σ1.1 3 4)]) (rest := []) C hK 1 (gd_U wt_176 wt_117 wt_121 wt_115 wt_9 wt_128) rfl rfl rfl rfl hs_X9_weighs ⟨⟨Nat.le_of_ble_eq_true rfl, Nat.le_of_ble_eq_true rfl⟩, Nat.le_of_ble_eq_true rfl, Nat.le_of_ble_eq_true rfl⟩ rfl q9 h9 rfl rfl (Nat.le_of_ble_eq_true rfl) dX11_about_75 (c_X9_weighs (q_l κ) (q_D κ) cy A hw)) hn
        · obtain ⟨q9, -, h9⟩ := ga_T cy A _ h8 h9
          exact gc_I C (gr_O (As := [.int (σ1.1 3 4)]) (rest := []) C hK 1 (gd_O wt_176 wt_117 wt_115 wt_122 wt_123 wt_13 wt_124) rfl rfl rfl wt_128 hs_X9_weighs ⟨⟨Nat.le_of_ble_eq_true rfl, Nat.le_of_ble_eq_true rfl⟩, Nat.le_of_ble_eq_true rfl, Nat.le_of_ble_eq_true rfl⟩ rfl q9 h9 rfl rfl (Nat.le_of_ble_eq_true rfl) dX11_about_75 (c_X4_weighs (q_l κ) (q_D κ) cy A hw)) hn
        · obtain ⟨q9, -, h9⟩ := ga_T cy A _ h8 h9
          exact gc_I C (gr_O (As := [.int (σ1.1 3 4)]) (rest := []) C hK 1 (gd_O wt_176 wt_117 wt_115 wt_125 wt_126 wt_12 wt_127) rfl rfl rfl wt_128 hs_X9_weighs ⟨⟨Nat.le_of_ble_eq_true rfl, Nat.le_of_ble_eq_true rfl⟩, Nat.le_of_ble_eq_true rfl, Nat.le_of_ble_eq_true rfl⟩ rfl q9 h9 rfl rfl (Nat.le_of_ble_eq_true rfl) dX11_about_75 (c_X5_weighs (q_l κ) (q_D κ) cy A hw)) hn
        · obtain ⟨q9, -, h9⟩ := ga_T cy A _ h8 h9
          exact gc_I C (gr_V (As := [.int (σ1.1 3 4)]) (rest := []) C hK 1 (gd_V wt_176 wt_115 wt_116 wt_9 wt_128) rfl rfl rfl ⟨rfl, hs_X9_weighs⟩ ⟨⟨Nat.le_of_ble_eq_true rfl, Nat.le_of_ble_eq_true rfl⟩, Nat.le_of_ble_eq_true rfl, Nat.le_of_ble_eq_true rfl⟩ rfl q9 h9 rfl rfl (Nat.le_of_ble_eq_true rfl) dX11_about_75 (c_X9_weighs (q_l κ) (q_D κ) cy A hw)) hn
      · refine g_swIn (off := 62) C 4 79 e9 (by decide) (by decide) (by decide) (by decide) dX11_about_17 ?_
        replace hw := hw.2.2.2.2.1 (Int32.toInt_inj.mp (e9.trans (by decide)))
        refine g_aload_n C 0 rfl rfl dX11_about_79 ?_
        refine g_aload_n C 1 rfl rfl dX11_about_80 ?_
        refine g_get C hK inX11 rfl 0 (ga_0 cy A _) 1 (by decide) (fun _ h => h) wt_86 rfl dX11_about_81 ?_
        refine g_get C hK inX0 rfl 3 (ga_3 cy A _) 4 (by decide) (fun _ h => h) wt_46 rfl dX11_about_84 ?_
        have hn : ∀ (r8 : Int32) (σ9 : St), (Φ r8 σ9) → GW κ 0 0 (gW cy A σ9) 90 [(3, .ref b3), (0, .ref (A 0)), (1, .int v1), (2, .int v2)] [.int r8] := by
          intro r8 σ9 hw
          exact gq_I C F (by decide) (by decide) hw dX11_about_90
        obtain ⟨h8, hw⟩ := hw
        rcases hw with ⟨h9, hw⟩ | ⟨h9, hw⟩ | ⟨h9, hw⟩ | ⟨h9, hw⟩ | ⟨h9, hw⟩
        · obtain ⟨q9, -, h9⟩ := ga_T cy A _ h8 h9
          exact gc_I C (gr_U (As := [.int (σ1.1 3 4)]) (rest := []) C hK 1 (gd_U wt_177 wt_180 wt_181 wt_178 wt_9 wt_185) rfl rfl rfl rfl hs_X9_hoursHere ⟨⟨Nat.le_of_ble_eq_true rfl, Nat.le_of_ble_eq_true rfl⟩, Nat.le_of_ble_eq_true rfl, Nat.le_of_ble_eq_true rfl⟩ rfl q9 h9 rfl rfl (Nat.le_of_ble_eq_true rfl) dX11_about_87 (c_X9_hoursHere (q_l κ) (q_D κ) cy A hw)) hn
        · obtain ⟨q9, -, h9⟩ := ga_T cy A _ h8 h9
          exact gc_I C (gr_U (As := [.int (σ1.1 3 4)]) (rest := []) C hK 1 (gd_U wt_177 wt_180 wt_182 wt_178 wt_9 wt_185) rfl rfl rfl rfl hs_X9_hoursHere ⟨⟨Nat.le_of_ble_eq_true rfl, Nat.le_of_ble_eq_true rfl⟩, Nat.le_of_ble_eq_true rfl, Nat.le_of_ble_eq_true rfl⟩ rfl q9 h9 rfl rfl (Nat.le_of_ble_eq_true rfl) dX11_about_87 (c_X9_hoursHere (q_l κ) (q_D κ) cy A hw)) hn
        · obtain ⟨q9, -, h9⟩ := ga_T cy A _ h8 h9
          exact gc_I C (gr_U (As := [.int (σ1.1 3 4)]) (rest := []) C hK 1 (gd_U wt_177 wt_180 wt_183 wt_178 wt_9 wt_185) rfl rfl rfl rfl hs_X9_hoursHere ⟨⟨Nat.le_of_ble_eq_true rfl, Nat.le_of_ble_eq_true rfl⟩, Nat.le_of_ble_eq_true rfl, Nat.le_of_ble_eq_true rfl⟩ rfl q9 h9 rfl rfl (Nat.le_of_ble_eq_true rfl) dX11_about_87 (c_X9_hoursHere (q_l κ) (q_D κ) cy A hw)) hn
        · obtain ⟨q9, -, h9⟩ := ga_T cy A _ h8 h9
          exact gc_I C (gr_U (As := [.int (σ1.1 3 4)]) (rest := []) C hK 1 (gd_U wt_177 wt_180 wt_184 wt_178 wt_9 wt_185) rfl rfl rfl rfl hs_X9_hoursHere ⟨⟨Nat.le_of_ble_eq_true rfl, Nat.le_of_ble_eq_true rfl⟩, Nat.le_of_ble_eq_true rfl, Nat.le_of_ble_eq_true rfl⟩ rfl q9 h9 rfl rfl (Nat.le_of_ble_eq_true rfl) dX11_about_87 (c_X9_hoursHere (q_l κ) (q_D κ) cy A hw)) hn
        · obtain ⟨q9, -, h9⟩ := ga_T cy A _ h8 h9
          exact gc_I C (gr_V (As := [.int (σ1.1 3 4)]) (rest := []) C hK 1 (gd_V wt_177 wt_178 wt_179 wt_9 wt_185) rfl rfl rfl ⟨rfl, hs_X9_hoursHere⟩ ⟨⟨Nat.le_of_ble_eq_true rfl, Nat.le_of_ble_eq_true rfl⟩, Nat.le_of_ble_eq_true rfl, Nat.le_of_ble_eq_true rfl⟩ rfl q9 h9 rfl rfl (Nat.le_of_ble_eq_true rfl) dX11_about_87 (c_X9_hoursHere (q_l κ) (q_D κ) cy A hw)) hn
  · subst e9
    replace hw := hw1
    refine g_bipush (v := (-101 : Int32)) C dX11_about_13 (by decide) ?_
    exact gq_I C F (by decide) (by decide) hw dX11_about_15
set_option maxHeartbeats 4000000 in
set_option maxRecDepth 100000 in
theorem c_X11_isOfKind (l : Launch) (D : va_G) (cy : Nat → ClassId) (A : Nat → Nat) {σ : St} {a0 : Nat} {v1 : Int32} {Φ : Int32 → St → Prop} (hw : wX11_isOfKind σ a0 v1 Φ) : CtI l yX11_isOfKind (.code yX11_isOfKind cX11_isOfKind 2 (some .boolean) :: gL) rm_X11_isOfKind 0 0 [.ref a0, .int v1] D cy A σ Φ := by
  refine ct_any (fun sz => va_Qi Φ (HE D cy A (gZ cy A σ sz)) (gZ cy A σ sz)) (by decide +kernel) rfl rfl [(0, .ref a0), (1, .int v1)] rfl (Nat.le_of_ble_eq_true rfl) ?_
  intro κ hκl hnm C hK sz F
  subst hκl
  unfold wX11_isOfKind at hw
  refine g_iload_n C 1 rfl rfl dX11_isOfKind_0 ?_
  by_cases h9 : v1.toInt < 1 ∨ 4 < v1.toInt
  · refine g_swOut C 52 h9 (by decide) dX11_isOfKind_1 ?_
    replace hw := hw.2.2.2.2 h9
    refine g_iload_n C 1 rfl rfl dX11_isOfKind_52 ?_
    refine g_if_ne C 60 (by decide) hw dX11_isOfKind_53 (fun hw => ?_) (fun hw => ?_)
    · refine g_iconst (v := (0 : Int32)) C dX11_isOfKind_60 (by decide) ?_
      exact gq_Z C F (by decide) (by decide) hw dX11_isOfKind_61
    · refine g_iconst (v := (1 : Int32)) C dX11_isOfKind_56 (by decide) ?_
      refine g_goto C 61 (by decide) dX11_isOfKind_57 ?_
      exact gq_Z C F (by decide) (by decide) hw dX11_isOfKind_61
  · rcases (show v1.toInt = 1 ∨ v1.toInt = 2 ∨ v1.toInt = 3 ∨ v1.toInt = 4 by omega) with e9 | e9 | e9 | e9
    · refine g_swIn (off := 31) C 1 32 e9 (by decide) (by decide) (by decide) (by decide) dX11_isOfKind_1 ?_
      replace hw := hw.1 (Int32.toInt_inj.mp (e9.trans (by decide)))
      refine g_aload_n C 0 rfl rfl dX11_isOfKind_32 ?_
      refine g_instT C hK (ct := 1) rfl wt_196 hw.1 _ (inst_1 _ _) dX11_isOfKind_33 ?_
      replace hw := hw.2
      exact gq_Z C F (by decide) (by decide) hw dX11_isOfKind_36
    · refine g_swIn (off := 36) C 2 37 e9 (by decide) (by decide) (by decide) (by decide) dX11_isOfKind_1 ?_
      replace hw := hw.2.1 (Int32.toInt_inj.mp (e9.trans (by decide)))
      refine g_aload_n C 0 rfl rfl dX11_isOfKind_37 ?_
      refine g_instT C hK (ct := 3) rfl wt_197 hw.1 _ (inst_3 _ _) dX11_isOfKind_38 ?_
      replace hw := hw.2
      exact gq_Z C F (by decide) (by decide) hw dX11_isOfKind_41
    · refine g_swIn (off := 41) C 3 42 e9 (by decide) (by decide) (by decide) (by decide) dX11_isOfKind_1 ?_
      replace hw := hw.2.2.1 (Int32.toInt_inj.mp (e9.trans (by decide)))
      refine g_aload_n C 0 rfl rfl dX11_isOfKind_42 ?_
      refine g_instT C hK (ct := 5) rfl wt_198 hw.1 _ (inst_5 _ _) dX11_isOfKind_43 ?_
      replace hw := hw.2
      exact gq_Z C F (by decide) (by decide) hw dX11_isOfKind_46
    · refine g_swIn (off := 46) C 4 47 e9 (by decide) (by decide) (by decide) (by decide) dX11_isOfKind_1 ?_
      replace hw := hw.2.2.2.1 (Int32.toInt_inj.mp (e9.trans (by decide)))
      refine g_aload_n C 0 rfl rfl dX11_isOfKind_47 ?_
      refine g_instT C hK (ct := 4) rfl wt_199 hw.1 _ (inst_4 _ _) dX11_isOfKind_48 ?_
      replace hw := hw.2
      exact gq_Z C F (by decide) (by decide) hw dX11_isOfKind_51
set_option maxHeartbeats 4000000 in
set_option maxRecDepth 100000 in
theorem c_X11_as (l : Launch) (D : va_G) (cy : Nat → ClassId) (A : Nat → Nat) {σ : St} {v1 : Int32} {v2 : Int32} {Φ : Int32 → St → Prop} (hw : wX11_as σ v1 v2 Φ) : CtI l yX11_as (.code yX11_as cX11_as 4 (some .int) :: gL) rm_X11_as 0 0 [.ref (A 0), .int v1, .int v2] D cy A σ Φ := by
  refine ct_any (fun sz => va_Qi Φ (HE D cy A (gZ cy A σ sz)) (gZ cy A σ sz)) (by decide +kernel) rfl rfl [(0, .ref (A 0)), (1, .int v1), (2, .int v2)] rfl (Nat.le_of_ble_eq_true rfl) ?_
  intro κ hκl hnm C hK sz F
  subst hκl
  unfold wX11_as at hw
  refine g_aload_n C 0 rfl rfl dX11_as_0 ?_
  refine g_get C hK inX11 rfl 0 (ga_0 cy A _) 2 (by decide) (fun _ h => h) wt_87 rfl dX11_as_1 ?_
  refine g_iload_n C 1 rfl rfl dX11_as_4 ?_
  refine gc_Q C (gr_V (As := [.int v1]) (rest := []) C hK 1 (gd_V wt_158 wt_111 wt_112 wt_4 wt_113) rfl rfl rfl ⟨rfl, hs_X6_at⟩ ⟨⟨Nat.le_of_ble_eq_true rfl, Nat.le_of_ble_eq_true rfl⟩, Nat.le_of_ble_eq_true rfl, Nat.le_of_ble_eq_true rfl⟩ rfl 4 (ga_4 cy A _) rfl rfl (Nat.le_of_ble_eq_true rfl) dX11_as_5 (c_X6_at (q_l κ) (q_D κ) cy A hw)) (fun r2 σ1 hw => ?_)
  refine g_rstore_n C [(3, va_rf r2), (0, .ref (A 0)), (1, .int v1), (2, .int v2)] F.2.2.2.1 rfl (by decide) rfl dX11_as_8 ?_
  refine g_rload_n C 0 rfl rfl dX11_as_9 ?_
  refine g_ifnonnull C 16 (by decide) hw dX11_as_10 (fun b3 e9 hw1 => ?_) (fun hw1 e9 => ?_)
  · subst e9
    replace hw := hw1
    refine g_iload_n C 3 rfl rfl dX11_as_16 ?_
    refine gc_I C (gr_S (As := [.int v2]) (rest := []) C hK 1 (gd_S wt_190 wt_191 wt_1 wt_192) rfl rfl rfl hs_X11_isKind ⟨⟨Nat.le_of_ble_eq_true rfl, Nat.le_of_ble_eq_true rfl⟩, Nat.le_of_ble_eq_true rfl, Nat.le_of_ble_eq_true rfl⟩ rfl rfl (Nat.le_of_ble_eq_true rfl) dX11_as_17 (c_X11_isKind (q_l κ) (q_D κ) cy A hw)) (fun r5 σ4 hw => ?_)
    refine g_if_ne C 26 (by decide) hw dX11_as_20 (fun hw => ?_) (fun hw => ?_)
    · refine g_aload_n C 0 rfl rfl dX11_as_26 ?_
      refine g_iload_n C 3 rfl rfl dX11_as_27 ?_
      refine gc_I C (gr_S (As := [.ref b3, .int v2]) (rest := []) C hK 2 (gd_S wt_193 wt_194 wt_1 wt_195) rfl rfl rfl hs_X11_isOfKind ⟨⟨Nat.le_of_ble_eq_true rfl, Nat.le_of_ble_eq_true rfl⟩, Nat.le_of_ble_eq_true rfl, Nat.le_of_ble_eq_true rfl⟩ rfl rfl (Nat.le_of_ble_eq_true rfl) dX11_as_28 (c_X11_isOfKind (q_l κ) (q_D κ) cy A hw)) (fun r7 σ6 hw => ?_)
      refine g_if_eq C 38 (by decide) hw dX11_as_31 (fun hw => ?_) (fun hw => ?_)
      · refine g_iconst (v := (-1 : Int32)) C dX11_as_38 (by decide) ?_
        exact gq_I C F (by decide) (by decide) hw dX11_as_39
      · refine g_iload_n C 2 rfl rfl dX11_as_34 ?_
        refine g_goto C 39 (by decide) dX11_as_35 ?_
        exact gq_I C F (by decide) (by decide) hw dX11_as_39
    · refine g_bipush (v := (-102 : Int32)) C dX11_as_23 (by decide) ?_
      exact gq_I C F (by decide) (by decide) hw dX11_as_25
  · subst e9
    replace hw := hw1
    refine g_bipush (v := (-101 : Int32)) C dX11_as_13 (by decide) ?_
    exact gq_I C F (by decide) (by decide) hw dX11_as_15
set_option maxHeartbeats 4000000 in
set_option maxRecDepth 100000 in
theorem c_X11_carry (l : Launch) (D : va_G) (cy : Nat → ClassId) (A : Nat → Nat) {σ : St} {v1 : Int32} {Φ : Int32 → St → Prop} (hw : wX11_carry σ v1 Φ) : CtI l yX11_carry (.code yX11_carry cX11_carry 3 (some .int) :: gL) rm_X11_carry 0 0 [.ref (A 0), .int v1] D cy A σ Φ := by
  refine ct_any (fun sz => va_Qi Φ (HE D cy A (gZ cy A σ sz)) (gZ cy A σ sz)) (by decide +kernel) rfl rfl [(0, .ref (A 0)), (1, .int v1)] rfl (Nat.le_of_ble_eq_true rfl) ?_
  intro κ hκl hnm C hK sz F
  subst hκl
  unfold wX11_carry at hw
  refine g_aload_n C 0 rfl rfl dX11_carry_0 ?_
  refine g_get C hK inX11 rfl 0 (ga_0 cy A _) 2 (by decide) (fun _ h => h) wt_87 rfl dX11_carry_1 ?_
  refine g_iload_n C 1 rfl rfl dX11_carry_4 ?_
  refine gc_Q C (gr_V (As := [.int v1]) (rest := []) C hK 1 (gd_V wt_158 wt_111 wt_112 wt_4 wt_113) rfl rfl rfl ⟨rfl, hs_X6_at⟩ ⟨⟨Nat.le_of_ble_eq_true rfl, Nat.le_of_ble_eq_true rfl⟩, Nat.le_of_ble_eq_true rfl, Nat.le_of_ble_eq_true rfl⟩ rfl 4 (ga_4 cy A _) rfl rfl (Nat.le_of_ble_eq_true rfl) dX11_carry_5 (c_X6_at (q_l κ) (q_D κ) cy A hw)) (fun r2 σ1 hw => ?_)
  refine g_rstore_n C [(2, va_rf r2), (0, .ref (A 0)), (1, .int v1)] F.2.2.2.1 rfl (by decide) rfl dX11_carry_8 ?_
  refine g_rload_n C 0 rfl rfl dX11_carry_9 ?_
  refine g_ifnonnull C 16 (by decide) hw dX11_carry_10 (fun b3 e9 hw1 => ?_) (fun hw1 e9 => ?_)
  · subst e9
    replace hw := hw1
    refine g_aload_n C 1 rfl rfl dX11_carry_16 ?_
    refine g_get C hK inX11 rfl 0 (ga_0 cy A _) 1 (by decide) (fun _ h => h) wt_86 rfl dX11_carry_17 ?_
    refine gc_I C (gr_V (As := []) (rest := []) C hK 0 (gd_V wt_204 wt_205 wt_206 wt_3 wt_207) rfl rfl rfl ⟨rfl, hs_X0_isWhole⟩ ⟨⟨Nat.le_of_ble_eq_true rfl, Nat.le_of_ble_eq_true rfl⟩, Nat.le_of_ble_eq_true rfl, Nat.le_of_ble_eq_true rfl⟩ rfl 3 (ga_3 cy A _) rfl rfl (Nat.le_of_ble_eq_true rfl) dX11_carry_20 (c_X0_isWhole (q_l κ) (q_D κ) cy A hC3 hw)) (fun r5 σ4 hw => ?_)
    refine g_if_eq C 40 (by decide) hw dX11_carry_23 (fun hw => ?_) (fun hw => ?_)
    · refine g_bipush (v := (-103 : Int32)) C dX11_carry_40 (by decide) ?_
      exact gq_I C F (by decide) (by decide) hw dX11_carry_42
    · refine g_aload_n C 0 rfl rfl dX11_carry_26 ?_
      refine g_aload_n C 1 rfl rfl dX11_carry_27 ?_
      refine g_get C hK inX11 rfl 0 (ga_0 cy A _) 1 (by decide) (fun _ h => h) wt_86 rfl dX11_carry_28 ?_
      refine gc_I C (gr_V (As := []) (rest := [.ref b3]) C hK 0 (gd_V wt_208 wt_209 wt_210 wt_3 wt_211) rfl rfl rfl ⟨rfl, hs_X0_turnsNow⟩ ⟨⟨Nat.le_of_ble_eq_true rfl, Nat.le_of_ble_eq_true rfl⟩, Nat.le_of_ble_eq_true rfl, Nat.le_of_ble_eq_true rfl⟩ rfl 3 (ga_3 cy A _) rfl rfl (Nat.le_of_ble_eq_true rfl) dX11_carry_31 (c_X0_turnsNow (q_l κ) (q_D κ) cy A hC3 hw)) (fun r7 σ6 hw => ?_)
      have hn : ∀ (r8 : Int32) (σ9 : St), ((if r8 = 0 then Φ (-103 : Int32) σ9 else isT σ9 b3 ∧ isT σ9 b3 ∧ isT (sT σ9 b3 2 ((1 : Int32) - (σ9.2.2.2.2.2 b3 2))) b3 ∧ Φ ((sT σ9 b3 2 ((1 : Int32) - (σ9.2.2.2.2.2 b3 2))).2.2.2.2.2 b3 2) (sT σ9 b3 2 ((1 : Int32) - (σ9.2.2.2.2.2 b3 2))))) → GW κ 0 0 (gW cy A σ9) 37 [(2, .ref b3), (0, .ref (A 0)), (1, .int v1)] [.int r8] := by
        intro r8 σ9 hw
        refine g_if_ne C 43 (by decide) hw dX11_carry_37 (fun hw => ?_) (fun hw => ?_)
        · refine g_aload_n C 0 rfl rfl dX11_carry_43 ?_
          refine g_iconst (v := (1 : Int32)) C dX11_carry_44 (by decide) ?_
          refine g_aload_n C 0 rfl rfl dX11_carry_45 ?_
          refine g_getT2 C hK hw.1 (fun _ h => h) wt_397 dX11_carry_46 ?_
          replace hw := hw.2
          refine g_isub C dX11_carry_49 ?_
          refine g_putT2 C hK hw.1 (fun _ h => h) wt_397 dX11_carry_50 ?_
          replace hw := hw.2
          refine g_aload_n C 0 rfl rfl dX11_carry_53 ?_
          refine g_getT2 C hK hw.1 (fun _ h => h) wt_397 dX11_carry_54 ?_
          replace hw := hw.2
          exact gq_I C F (by decide) (by decide) hw dX11_carry_57
        · refine g_bipush (v := (-103 : Int32)) C dX11_carry_40 (by decide) ?_
          exact gq_I C F (by decide) (by decide) hw dX11_carry_42
      obtain ⟨h8, hw⟩ := hw
      rcases hw with ⟨h9, hw⟩ | ⟨h9, hw⟩ | ⟨h9, hw⟩ | ⟨h9, hw⟩ | ⟨h9, hw⟩
      · obtain ⟨q9, -, h9⟩ := ga_T cy A _ h8 h9
        exact gc_I C (gr_U (As := [.int r7]) (rest := []) C hK 1 (gd_U wt_212 wt_215 wt_216 wt_213 wt_9 wt_222) rfl rfl rfl rfl hs_X9_goesAcross ⟨⟨Nat.le_of_ble_eq_true rfl, Nat.le_of_ble_eq_true rfl⟩, Nat.le_of_ble_eq_true rfl, Nat.le_of_ble_eq_true rfl⟩ rfl q9 h9 rfl rfl (Nat.le_of_ble_eq_true rfl) dX11_carry_34 (c_X9_goesAcross (q_l κ) (q_D κ) cy A hw)) hn
      · obtain ⟨q9, -, h9⟩ := ga_T cy A _ h8 h9
        exact gc_I C (gr_O (As := [.int r7]) (rest := []) C hK 1 (gd_O wt_212 wt_215 wt_213 wt_217 wt_218 wt_11 wt_219) rfl rfl rfl wt_222 hs_X9_goesAcross ⟨⟨Nat.le_of_ble_eq_true rfl, Nat.le_of_ble_eq_true rfl⟩, Nat.le_of_ble_eq_true rfl, Nat.le_of_ble_eq_true rfl⟩ rfl q9 h9 rfl rfl (Nat.le_of_ble_eq_true rfl) dX11_carry_34 (c_X3_goesAcross (q_l κ) (q_D κ) cy A hw)) hn
      · obtain ⟨q9, -, h9⟩ := ga_T cy A _ h8 h9
        exact gc_I C (gr_U (As := [.int r7]) (rest := []) C hK 1 (gd_U wt_212 wt_215 wt_220 wt_213 wt_9 wt_222) rfl rfl rfl rfl hs_X9_goesAcross ⟨⟨Nat.le_of_ble_eq_true rfl, Nat.le_of_ble_eq_true rfl⟩, Nat.le_of_ble_eq_true rfl, Nat.le_of_ble_eq_true rfl⟩ rfl q9 h9 rfl rfl (Nat.le_of_ble_eq_true rfl) dX11_carry_34 (c_X9_goesAcross (q_l κ) (q_D κ) cy A hw)) hn
      · obtain ⟨q9, -, h9⟩ := ga_T cy A _ h8 h9
        exact gc_I C (gr_U (As := [.int r7]) (rest := []) C hK 1 (gd_U wt_212 wt_215 wt_221 wt_213 wt_9 wt_222) rfl rfl rfl rfl hs_X9_goesAcross ⟨⟨Nat.le_of_ble_eq_true rfl, Nat.le_of_ble_eq_true rfl⟩, Nat.le_of_ble_eq_true rfl, Nat.le_of_ble_eq_true rfl⟩ rfl q9 h9 rfl rfl (Nat.le_of_ble_eq_true rfl) dX11_carry_34 (c_X9_goesAcross (q_l κ) (q_D κ) cy A hw)) hn
      · obtain ⟨q9, -, h9⟩ := ga_T cy A _ h8 h9
        exact gc_I C (gr_V (As := [.int r7]) (rest := []) C hK 1 (gd_V wt_212 wt_213 wt_214 wt_9 wt_222) rfl rfl rfl ⟨rfl, hs_X9_goesAcross⟩ ⟨⟨Nat.le_of_ble_eq_true rfl, Nat.le_of_ble_eq_true rfl⟩, Nat.le_of_ble_eq_true rfl, Nat.le_of_ble_eq_true rfl⟩ rfl q9 h9 rfl rfl (Nat.le_of_ble_eq_true rfl) dX11_carry_34 (c_X9_goesAcross (q_l κ) (q_D κ) cy A hw)) hn
  · subst e9
    replace hw := hw1
    refine g_bipush (v := (-101 : Int32)) C dX11_carry_13 (by decide) ?_
    exact gq_I C F (by decide) (by decide) hw dX11_carry_15
set_option maxHeartbeats 4000000 in
set_option maxRecDepth 100000 in
theorem c_X11_isLength (l : Launch) (D : va_G) (cy : Nat → ClassId) (A : Nat → Nat) {σ : St} {v0 : Int32} {Φ : Int32 → St → Prop} (hw : wX11_isLength σ v0 Φ) : CtI l yX11_isLength (.code yX11_isLength cX11_isLength 1 (some .boolean) :: gL) rm_X11_isLength 0 0 [.int v0] D cy A σ Φ := by
  refine ct_any (fun sz => va_Qi Φ (HE D cy A (gZ cy A σ sz)) (gZ cy A σ sz)) (by decide +kernel) rfl rfl [(0, .int v0)] rfl (Nat.le_of_ble_eq_true rfl) ?_
  intro κ hκl hnm C hK sz F
  subst hκl
  unfold wX11_isLength at hw
  refine g_iload_n C 0 rfl rfl dX11_isLength_0 ?_
  refine g_bipush (v := (10 : Int32)) C dX11_isLength_1 (by decide) ?_
  refine g_icmp_lt C 16 (by decide) hw dX11_isLength_3 (fun hw => ?_) (fun hw => ?_)
  · refine g_iconst (v := (0 : Int32)) C dX11_isLength_16 (by decide) ?_
    exact gq_Z C F (by decide) (by decide) hw dX11_isLength_17
  · refine g_iload_n C 0 rfl rfl dX11_isLength_6 ?_
    refine g_bipush (v := (40 : Int32)) C dX11_isLength_7 (by decide) ?_
    refine g_icmp_gt C 16 (by decide) hw dX11_isLength_9 (fun hw => ?_) (fun hw => ?_)
    · refine g_iconst (v := (0 : Int32)) C dX11_isLength_16 (by decide) ?_
      exact gq_Z C F (by decide) (by decide) hw dX11_isLength_17
    · refine g_iconst (v := (1 : Int32)) C dX11_isLength_12 (by decide) ?_
      refine g_goto C 17 (by decide) dX11_isLength_13 ?_
      exact gq_Z C F (by decide) (by decide) hw dX11_isLength_17
set_option maxHeartbeats 4000000 in
set_option maxRecDepth 100000 in
theorem c_X11_hour (l : Launch) (D : va_G) (cy : Nat → ClassId) (A : Nat → Nat) {σ : St} {v1 : Int32} {Φ : Int32 → St → Prop} (hw : wX11_hour σ v1 Φ) : CtI l yX11_hour (.code yX11_hour cX11_hour 2 (some .int) :: gL) rm_X11_hour 0 0 [.ref (A 0), .int v1] D cy A σ Φ := by
  refine ct_any (fun sz => va_Qi Φ (HE D cy A (gZ cy A σ sz)) (gZ cy A σ sz)) (by decide +kernel) rfl rfl [(0, .ref (A 0)), (1, .int v1)] rfl (Nat.le_of_ble_eq_true rfl) ?_
  intro κ hκl hnm C hK sz F
  subst hκl
  unfold wX11_hour at hw
  refine g_iload_n C 1 rfl rfl dX11_hour_0 ?_
  refine g_bipush (v := (-3 : Int32)) C dX11_hour_1 (by decide) ?_
  refine g_icmp_lt C 11 (by decide) hw dX11_hour_3 (fun hw => ?_) (fun hw => ?_)
  · refine g_bipush (v := (-102 : Int32)) C dX11_hour_11 (by decide) ?_
    exact gq_I C F (by decide) (by decide) hw dX11_hour_13
  · refine g_iload_n C 1 rfl rfl dX11_hour_6 ?_
    refine g_iconst (v := (3 : Int32)) C dX11_hour_7 (by decide) ?_
    refine g_icmp_le C 14 (by decide) hw dX11_hour_8 (fun hw => ?_) (fun hw => ?_)
    · refine g_aload_n C 0 rfl rfl dX11_hour_14 ?_
      refine g_get C hK inX11 rfl 0 (ga_0 cy A _) 1 (by decide) (fun _ h => h) wt_86 rfl dX11_hour_15 ?_
      refine gc_I C (gr_V (As := []) (rest := []) C hK 0 (gd_V wt_204 wt_205 wt_206 wt_3 wt_207) rfl rfl rfl ⟨rfl, hs_X0_isWhole⟩ ⟨⟨Nat.le_of_ble_eq_true rfl, Nat.le_of_ble_eq_true rfl⟩, Nat.le_of_ble_eq_true rfl, Nat.le_of_ble_eq_true rfl⟩ rfl 3 (ga_3 cy A _) rfl rfl (Nat.le_of_ble_eq_true rfl) dX11_hour_18 (c_X0_isWhole (q_l κ) (q_D κ) cy A hC3 hw)) (fun r2 σ1 hw => ?_)
      refine g_if_eq C 39 (by decide) hw dX11_hour_21 (fun hw => ?_) (fun hw => ?_)
      · refine g_bipush (v := (-103 : Int32)) C dX11_hour_39 (by decide) ?_
        exact gq_I C F (by decide) (by decide) hw dX11_hour_41
      · refine g_aload_n C 0 rfl rfl dX11_hour_24 ?_
        refine g_get C hK inX11 rfl 0 (ga_0 cy A _) 1 (by decide) (fun _ h => h) wt_86 rfl dX11_hour_25 ?_
        refine g_get C hK inX0 rfl 3 (ga_3 cy A _) 0 (by decide) (fun _ h => h) wt_38 rfl dX11_hour_28 ?_
        refine g_iload_n C 1 rfl rfl dX11_hour_31 ?_
        refine g_isub C dX11_hour_32 ?_
        refine gc_I C (gr_S (As := [.int ((σ1.1 3 0) - v1)]) (rest := []) C hK 1 (gd_S wt_227 wt_228 wt_1 wt_229) rfl rfl rfl hs_X11_isLength ⟨⟨Nat.le_of_ble_eq_true rfl, Nat.le_of_ble_eq_true rfl⟩, Nat.le_of_ble_eq_true rfl, Nat.le_of_ble_eq_true rfl⟩ rfl rfl (Nat.le_of_ble_eq_true rfl) dX11_hour_33 (c_X11_isLength (q_l κ) (q_D κ) cy A hw)) (fun r4 σ3 hw => ?_)
        refine g_if_ne C 42 (by decide) hw dX11_hour_36 (fun hw => ?_) (fun hw => ?_)
        · refine g_aload_n C 0 rfl rfl dX11_hour_42 ?_
          refine g_get C hK inX11 rfl 0 (ga_0 cy A _) 1 (by decide) (fun _ h => h) wt_86 rfl dX11_hour_43 ?_
          refine g_iload_n C 1 rfl rfl dX11_hour_46 ?_
          refine g_aload_n C 0 rfl rfl dX11_hour_47 ?_
          refine g_get C hK inX11 rfl 0 (ga_0 cy A _) 2 (by decide) (fun _ h => h) wt_87 rfl dX11_hour_48 ?_
          refine gc_V C (gr_V (As := [.int v1, .ref (A 4)]) (rest := []) C hK 2 (gd_V wt_230 wt_231 wt_232 wt_3 wt_233) rfl rfl rfl ⟨rfl, hs_X0_goHour⟩ ⟨⟨Nat.le_of_ble_eq_true rfl, Nat.le_of_ble_eq_true rfl⟩, Nat.le_of_ble_eq_true rfl, Nat.le_of_ble_eq_true rfl⟩ rfl 3 (ga_3 cy A _) rfl rfl (Nat.le_of_ble_eq_true rfl) dX11_hour_51 (c_X0_goHour (q_l κ) (q_D κ) cy A hC3 hw)) (fun σ5 hw => ?_)
          refine g_aload_n C 0 rfl rfl dX11_hour_54 ?_
          refine g_get C hK inX11 rfl 0 (ga_0 cy A _) 1 (by decide) (fun _ h => h) wt_86 rfl dX11_hour_55 ?_
          refine g_get C hK inX0 rfl 3 (ga_3 cy A _) 6 (by decide) (fun _ h => h) wt_50 rfl dX11_hour_58 ?_
          refine g_if_eq C 68 (by decide) hw dX11_hour_61 (fun hw => ?_) (fun hw => ?_)
          · refine g_aload_n C 0 rfl rfl dX11_hour_68 ?_
            refine g_get C hK inX11 rfl 0 (ga_0 cy A _) 1 (by decide) (fun _ h => h) wt_86 rfl dX11_hour_69 ?_
            refine g_get C hK inX0 rfl 3 (ga_3 cy A _) 0 (by decide) (fun _ h => h) wt_38 rfl dX11_hour_72 ?_
            exact gq_I C F (by decide) (by decide) hw dX11_hour_75
          · refine g_iconst (v := (-1 : Int32)) C dX11_hour_64 (by decide) ?_
            refine g_goto C 75 (by decide) dX11_hour_65 ?_
            exact gq_I C F (by decide) (by decide) hw dX11_hour_75
        · refine g_bipush (v := (-103 : Int32)) C dX11_hour_39 (by decide) ?_
          exact gq_I C F (by decide) (by decide) hw dX11_hour_41
    · refine g_bipush (v := (-102 : Int32)) C dX11_hour_11 (by decide) ?_
      exact gq_I C F (by decide) (by decide) hw dX11_hour_13
set_option maxHeartbeats 4000000 in
set_option maxRecDepth 100000 in
theorem c_X11_apartOnCircle (l : Launch) (D : va_G) (cy : Nat → ClassId) (A : Nat → Nat) {σ : St} {v0 : Int32} {v1 : Int32} {Φ : Int32 → St → Prop} (hw : wX11_apartOnCircle σ v0 v1 Φ) : CtI l yX11_apartOnCircle (.code yX11_apartOnCircle cX11_apartOnCircle 3 (some .int) :: gL) rm_X11_apartOnCircle 0 0 [.int v0, .int v1] D cy A σ Φ := by
  refine ct_any (fun sz => va_Qi Φ (HE D cy A (gZ cy A σ sz)) (gZ cy A σ sz)) (by decide +kernel) rfl rfl [(0, .int v0), (1, .int v1)] rfl (Nat.le_of_ble_eq_true rfl) ?_
  intro κ hκl hnm C hK sz F
  subst hκl
  unfold wX11_apartOnCircle at hw
  refine g_iload_n C 0 rfl rfl dX11_apartOnCircle_0 ?_
  refine g_iload_n C 1 rfl rfl dX11_apartOnCircle_1 ?_
  refine g_isub C dX11_apartOnCircle_2 ?_
  refine g_sipush (v := (360 : Int32)) C dX11_apartOnCircle_3 (by decide) ?_
  refine gc_I C (gr_S (As := [.int (v0 - v1), .int (360 : Int32)]) (rest := []) C hK 2 (gd_S wt_254 wt_240 wt_8 wt_241) rfl rfl rfl hs_J9_floorMod_7cf53 ⟨⟨Nat.le_of_ble_eq_true rfl, Nat.le_of_ble_eq_true rfl⟩, Nat.le_of_ble_eq_true rfl, Nat.le_of_ble_eq_true rfl⟩ rfl rfl (Nat.le_of_ble_eq_true rfl) dX11_apartOnCircle_6 (c_J9_floorMod_7cf53 (q_l κ) (q_D κ) cy A hw)) (fun r2 σ1 hw => ?_)
  refine g_istore_n C [(2, .int r2), (0, .int v0), (1, .int v1)] F.2.2.2.1 rfl (by decide) rfl dX11_apartOnCircle_9 ?_
  refine g_iload_n C 0 rfl rfl dX11_apartOnCircle_10 ?_
  refine g_sipush (v := (360 : Int32)) C dX11_apartOnCircle_11 (by decide) ?_
  refine g_iload_n C 0 rfl rfl dX11_apartOnCircle_14 ?_
  refine g_isub C dX11_apartOnCircle_15 ?_
  refine gc_I C (gr_S (As := [.int r2, .int ((360 : Int32) - r2)]) (rest := []) C hK 2 (gd_S wt_259 wt_260 wt_8 wt_261) rfl rfl rfl hs_J9_min_7cf53 ⟨⟨Nat.le_of_ble_eq_true rfl, Nat.le_of_ble_eq_true rfl⟩, Nat.le_of_ble_eq_true rfl, Nat.le_of_ble_eq_true rfl⟩ rfl rfl (Nat.le_of_ble_eq_true rfl) dX11_apartOnCircle_16 (c_J9_min_7cf53 (q_l κ) (q_D κ) cy A hw)) (fun r4 σ3 hw => ?_)
  exact gq_I C F (by decide) (by decide) hw dX11_apartOnCircle_19
set_option maxHeartbeats 4000000 in
set_option maxRecDepth 100000 in
theorem c_X11_caught (l : Launch) (D : va_G) (cy : Nat → ClassId) (A : Nat → Nat) {σ : St} {v1 : Int32} {Φ : Int32 → St → Prop} (hw : wX11_caught σ v1 Φ) : CtI l yX11_caught (.code yX11_caught cX11_caught 5 (some .int) :: gL) rm_X11_caught 0 0 [.ref (A 0), .int v1] D cy A σ Φ := by
  refine ct_any (fun sz => va_Qi Φ (HE D cy A (gZ cy A σ sz)) (gZ cy A σ sz)) (by decide +kernel) rfl rfl [(0, .ref (A 0)), (1, .int v1)] rfl (Nat.le_of_ble_eq_true rfl) ?_
  intro κ hκl hnm C hK sz F
  subst hκl
  have J51 : ∀ (n : Nat) (σ : St) (v3 : Int32) (v4 : Int32), wX11_caught_51 Φ n σ v3 v4 → GW κ 0 0 (gW cy A σ) 51 [(0, .ref (A 0)), (3, .int v3), (4, .int v4)] [] := by
    intro n
    induction n with
    | zero => intro σ v3 v4 hw; exact hw.elim
    | succ n ih =>
      intro σ v3 v4 hw
      rw [wX11_caught_51] at hw
      refine g_iload C 2 rfl dX11_caught_51 ?_
      refine g_bipush (v := (98 : Int32)) C dX11_caught_53 (by decide) ?_
      refine g_icmp_gt C 84 (by decide) hw dX11_caught_55 (fun hw => ?_) (fun hw => ?_)
      · refine g_iconst (v := (-1 : Int32)) C dX11_caught_84 (by decide) ?_
        exact gq_I C F (by decide) (by decide) hw dX11_caught_85
      · refine g_aload_n C 0 rfl rfl dX11_caught_58 ?_
        refine g_get C hK inX11 rfl 0 (ga_0 cy A _) 1 (by decide) (fun _ h => h) wt_86 rfl dX11_caught_59 ?_
        refine g_iload C 2 rfl dX11_caught_62 ?_
        refine gc_I C (gr_V (As := [.int v4]) (rest := []) C hK 1 (gd_V wt_255 wt_235 wt_236 wt_3 wt_237) rfl rfl rfl ⟨rfl, hs_X0_placeAfter⟩ ⟨⟨Nat.le_of_ble_eq_true rfl, Nat.le_of_ble_eq_true rfl⟩, Nat.le_of_ble_eq_true rfl, Nat.le_of_ble_eq_true rfl⟩ rfl 3 (ga_3 cy A _) rfl rfl (Nat.le_of_ble_eq_true rfl) dX11_caught_64 (c_X0_placeAfter (q_l κ) (q_D κ) cy A hC3 hw)) (fun r8 σ7 hw => ?_)
        refine g_iload_n C 1 rfl rfl dX11_caught_67 ?_
        refine gc_I C (gr_S (As := [.int r8, .int v3]) (rest := []) C hK 2 (gd_S wt_256 wt_257 wt_1 wt_258) rfl rfl rfl hs_X11_apartOnCircle ⟨⟨Nat.le_of_ble_eq_true rfl, Nat.le_of_ble_eq_true rfl⟩, Nat.le_of_ble_eq_true rfl, Nat.le_of_ble_eq_true rfl⟩ rfl rfl (Nat.le_of_ble_eq_true rfl) dX11_caught_68 (c_X11_apartOnCircle (q_l κ) (q_D κ) cy A hw)) (fun r10 σ9 hw => ?_)
        refine g_iconst (v := (5 : Int32)) C dX11_caught_71 (by decide) ?_
        refine g_icmp_gt C 78 (by decide) hw dX11_caught_72 (fun hw => ?_) (fun hw => ?_)
        · refine g_iinc (j := 2) C [(4, .int (v4 + 1)), (0, .ref (A 0)), (3, .int v3)] F.2.2.2.1 rfl rfl (by decide) rfl dX11_caught_78 ?_
          refine g_goto C 51 (by decide) dX11_caught_81 ?_
          refine g_eql (lv' := [(0, .ref (A 0)), (3, .int v3), (4, .int (v4 + 1))]) [1, 2, 0] rfl ?_
          exact ih σ9 v3 (v4 + 1) hw
        · refine g_iload C 2 rfl dX11_caught_75 ?_
          exact gq_I C F (by decide) (by decide) hw dX11_caught_77
  unfold wX11_caught at hw
  refine g_iload_n C 1 rfl rfl dX11_caught_0 ?_
  refine g_iconst (v := (1 : Int32)) C dX11_caught_1 (by decide) ?_
  refine g_icmp_lt C 11 (by decide) hw dX11_caught_2 (fun hw => ?_) (fun hw => ?_)
  · refine g_bipush (v := (-102 : Int32)) C dX11_caught_11 (by decide) ?_
    exact gq_I C F (by decide) (by decide) hw dX11_caught_13
  · refine g_iload_n C 1 rfl rfl dX11_caught_5 ?_
    refine g_bipush (v := (99 : Int32)) C dX11_caught_6 (by decide) ?_
    refine g_icmp_le C 14 (by decide) hw dX11_caught_8 (fun hw => ?_) (fun hw => ?_)
    · refine g_aload_n C 0 rfl rfl dX11_caught_14 ?_
      refine g_get C hK inX11 rfl 0 (ga_0 cy A _) 1 (by decide) (fun _ h => h) wt_86 rfl dX11_caught_15 ?_
      refine gc_I C (gr_V (As := []) (rest := []) C hK 0 (gd_V wt_204 wt_205 wt_206 wt_3 wt_207) rfl rfl rfl ⟨rfl, hs_X0_isWhole⟩ ⟨⟨Nat.le_of_ble_eq_true rfl, Nat.le_of_ble_eq_true rfl⟩, Nat.le_of_ble_eq_true rfl, Nat.le_of_ble_eq_true rfl⟩ rfl 3 (ga_3 cy A _) rfl rfl (Nat.le_of_ble_eq_true rfl) dX11_caught_18 (c_X0_isWhole (q_l κ) (q_D κ) cy A hC3 hw)) (fun r2 σ1 hw => ?_)
      refine g_if_ne C 27 (by decide) hw dX11_caught_21 (fun hw => ?_) (fun hw => ?_)
      · refine g_aload_n C 0 rfl rfl dX11_caught_27 ?_
        refine g_get C hK inX11 rfl 0 (ga_0 cy A _) 1 (by decide) (fun _ h => h) wt_86 rfl dX11_caught_28 ?_
        refine gc_I C (gr_V (As := []) (rest := []) C hK 0 (gd_V wt_208 wt_209 wt_210 wt_3 wt_211) rfl rfl rfl ⟨rfl, hs_X0_turnsNow⟩ ⟨⟨Nat.le_of_ble_eq_true rfl, Nat.le_of_ble_eq_true rfl⟩, Nat.le_of_ble_eq_true rfl, Nat.le_of_ble_eq_true rfl⟩ rfl 3 (ga_3 cy A _) rfl rfl (Nat.le_of_ble_eq_true rfl) dX11_caught_31 (c_X0_turnsNow (q_l κ) (q_D κ) cy A hC3 hw)) (fun r4 σ3 hw => ?_)
        refine g_istore_n C [(2, .int r4), (0, .ref (A 0)), (1, .int v1)] F.2.2.2.1 rfl (by decide) rfl dX11_caught_34 ?_
        refine g_bipush (v := (90 : Int32)) C dX11_caught_35 (by decide) ?_
        refine g_iload_n C 2 rfl rfl dX11_caught_37 ?_
        refine g_iload_n C 0 rfl rfl dX11_caught_38 ?_
        refine g_imul C dX11_caught_39 ?_
        refine g_isub C dX11_caught_40 ?_
        refine g_sipush (v := (360 : Int32)) C dX11_caught_41 (by decide) ?_
        refine gc_I C (gr_S (As := [.int ((90 : Int32) - (v1 * r4)), .int (360 : Int32)]) (rest := []) C hK 2 (gd_S wt_254 wt_240 wt_8 wt_241) rfl rfl rfl hs_J9_floorMod_7cf53 ⟨⟨Nat.le_of_ble_eq_true rfl, Nat.le_of_ble_eq_true rfl⟩, Nat.le_of_ble_eq_true rfl, Nat.le_of_ble_eq_true rfl⟩ rfl rfl (Nat.le_of_ble_eq_true rfl) dX11_caught_44 (c_J9_floorMod_7cf53 (q_l κ) (q_D κ) cy A hw)) (fun r6 σ5 hw => ?_)
        refine g_istore_n C [(3, .int r6), (2, .int r4), (0, .ref (A 0)), (1, .int v1)] F.2.2.2.1 rfl (by decide) rfl dX11_caught_47 ?_
        refine g_iconst (v := (0 : Int32)) C dX11_caught_48 (by decide) ?_
        refine g_istore C [(4, .int (0 : Int32)), (3, .int r6), (2, .int r4), (0, .ref (A 0)), (1, .int v1)] F.2.2.2.1 (by decide) rfl dX11_caught_49 ?_
        refine g_eql (lv' := [(0, .ref (A 0)), (3, .int r6), (4, .int (0 : Int32))]) [3, 1, 0] rfl ?_
        obtain ⟨n0, hw⟩ := hw
        exact J51 n0 σ5 r6 (0 : Int32) hw
      · refine g_bipush (v := (-103 : Int32)) C dX11_caught_24 (by decide) ?_
        exact gq_I C F (by decide) (by decide) hw dX11_caught_26
    · refine g_bipush (v := (-102 : Int32)) C dX11_caught_11 (by decide) ?_
      exact gq_I C F (by decide) (by decide) hw dX11_caught_13
set_option maxHeartbeats 4000000 in
set_option maxRecDepth 100000 in
theorem c_X11_nextSeed (l : Launch) (D : va_G) (cy : Nat → ClassId) (A : Nat → Nat) {σ : St} {v0 : Int32} {Φ : Int32 → St → Prop} (hw : wX11_nextSeed σ v0 Φ) : CtI l yX11_nextSeed (.code yX11_nextSeed cX11_nextSeed 1 (some .int) :: gL) rm_X11_nextSeed 0 0 [.int v0] D cy A σ Φ := by
  refine ct_any (fun sz => va_Qi Φ (HE D cy A (gZ cy A σ sz)) (gZ cy A σ sz)) (by decide +kernel) rfl rfl [(0, .int v0)] rfl (Nat.le_of_ble_eq_true rfl) ?_
  intro κ hκl hnm C hK sz F
  subst hκl
  unfold wX11_nextSeed at hw
  refine g_ldc2 (v := (1103515245 : Int64)) C dX11_nextSeed_0 wt_276 ?_
  refine g_iload_n C 0 rfl rfl dX11_nextSeed_3 ?_
  refine g_i2l C dX11_nextSeed_4 ?_
  refine g_lmul C dX11_nextSeed_5 ?_
  refine g_ldc2 (v := (12345 : Int64)) C dX11_nextSeed_6 wt_277 ?_
  refine g_ladd C dX11_nextSeed_9 ?_
  refine g_ldc2 (v := (2147483648 : Int64)) C dX11_nextSeed_10 wt_278 ?_
  refine g_lrem C hw.1 dX11_nextSeed_13 ?_
  replace hw := hw.2
  refine g_l2i C dX11_nextSeed_14 ?_
  exact gq_I C F (by decide) (by decide) hw dX11_nextSeed_15
set_option maxHeartbeats 4000000 in
set_option maxRecDepth 100000 in
theorem c_X11_windingOf (l : Launch) (D : va_G) (cy : Nat → ClassId) (A : Nat → Nat) {σ : St} {v0 : Int32} {Φ : Int32 → St → Prop} (hw : wX11_windingOf σ v0 Φ) : CtI l yX11_windingOf (.code yX11_windingOf cX11_windingOf 1 (some .int) :: gL) rm_X11_windingOf 0 0 [.int v0] D cy A σ Φ := by
  refine ct_any (fun sz => va_Qi Φ (HE D cy A (gZ cy A σ sz)) (gZ cy A σ sz)) (by decide +kernel) rfl rfl [(0, .int v0)] rfl (Nat.le_of_ble_eq_true rfl) ?_
  intro κ hκl hnm C hK sz F
  subst hκl
  unfold wX11_windingOf at hw
  refine g_iload_n C 0 rfl rfl dX11_windingOf_0 ?_
  refine g_iconst (v := (3 : Int32)) C dX11_windingOf_1 (by decide) ?_
  refine g_icmp_gt C 9 (by decide) hw dX11_windingOf_2 (fun hw => ?_) (fun hw => ?_)
  · refine g_iconst (v := (3 : Int32)) C dX11_windingOf_9 (by decide) ?_
    refine g_iload_n C 0 rfl rfl dX11_windingOf_10 ?_
    refine g_isub C dX11_windingOf_11 ?_
    exact gq_I C F (by decide) (by decide) hw dX11_windingOf_12
  · refine g_iload_n C 0 rfl rfl dX11_windingOf_5 ?_
    refine g_goto C 12 (by decide) dX11_windingOf_6 ?_
    exact gq_I C F (by decide) (by decide) hw dX11_windingOf_12
set_option maxHeartbeats 4000000 in
set_option maxRecDepth 100000 in
theorem c_X11_tryHours (l : Launch) (D : va_G) (cy : Nat → ClassId) (A : Nat → Nat) {σ : St} {v1 : Int32} {v2 : Int32} {Φ : Int32 → St → Prop} (hw : wX11_tryHours σ v1 v2 Φ) : CtI l yX11_tryHours (.code yX11_tryHours cX11_tryHours 6 (some .int) :: gL) rm_X11_tryHours 0 0 [.ref (A 0), .int v1, .int v2] D cy A σ Φ := by
  refine ct_any (fun sz => va_Qi Φ (HE D cy A (gZ cy A σ sz)) (gZ cy A σ sz)) (by decide +kernel) rfl rfl [(0, .ref (A 0)), (1, .int v1), (2, .int v2)] rfl (Nat.le_of_ble_eq_true rfl) ?_
  intro κ hκl hnm C hK sz F
  subst hκl
  have J76 : ∀ (K16 : St → Int32 → Int32 → Int32 → Prop) (_ : ∀ (σ : St) (v1 : Int32) (v3 : Int32) (v4 : Int32), K16 σ v1 v3 v4 → GW κ 0 0 (gW cy A σ) 16 [(0, .ref (A 0)), (1, .int v1), (3, .int v3), (4, .int v4)] []), ∀ (σ : St) (v1 : Int32) (v3 : Int32) (v4 : Int32) (s0 : Int32), wX11_tryHours_76 K16 Φ σ v1 v3 v4 s0 → GW κ 0 0 (gW cy A σ) 76 [(0, .ref (A 0)), (1, .int v1), (3, .int v3), (4, .int v4)] [.int s0, .ref (A 16)] := by
    intro K16 hK16 σ v1 v3 v4 s0 hw
    unfold wX11_tryHours_76 at hw
    refine g_aload_n C 0 rfl rfl dX11_tryHours_76 ?_
    refine g_get C hK inX11 rfl 0 (ga_0 cy A _) 2 (by decide) (fun _ h => h) wt_87 rfl dX11_tryHours_77 ?_
    refine gc_V C (gr_V (As := [.int s0, .ref (A 4)]) (rest := []) C hK 2 (gd_V wt_230 wt_231 wt_232 wt_3 wt_233) rfl rfl rfl ⟨rfl, hs_X0_goHour⟩ ⟨⟨Nat.le_of_ble_eq_true rfl, Nat.le_of_ble_eq_true rfl⟩, Nat.le_of_ble_eq_true rfl, Nat.le_of_ble_eq_true rfl⟩ rfl 16 (ga_16 cy A _) rfl rfl (Nat.le_of_ble_eq_true rfl) dX11_tryHours_80 (c_X0_goHour (q_l κ) (q_D κ) cy A hC16 hw)) (fun σ8 hw => ?_)
    refine g_iinc (j := 3) C [(4, .int (v4 + 1)), (0, .ref (A 0)), (1, .int v1), (3, .int v3)] F.2.2.2.1 rfl rfl (by decide) rfl dX11_tryHours_83 ?_
    refine g_goto C 16 (by decide) dX11_tryHours_86 ?_
    refine g_eql (lv' := [(0, .ref (A 0)), (1, .int v1), (3, .int v3), (4, .int (v4 + 1))]) [1, 2, 3, 0] rfl ?_
    exact hK16 σ8 v1 v3 (v4 + 1) hw
  have J16 : ∀ (n : Nat) (σ : St) (v1 : Int32) (v3 : Int32) (v4 : Int32), wX11_tryHours_16 Φ n σ v1 v3 v4 → GW κ 0 0 (gW cy A σ) 16 [(0, .ref (A 0)), (1, .int v1), (3, .int v3), (4, .int v4)] [] := by
    intro n
    induction n with
    | zero => intro σ v1 v3 v4 hw; exact hw.elim
    | succ n ih =>
      intro σ v1 v3 v4 hw
      rw [wX11_tryHours_16] at hw
      refine g_iload C 3 rfl dX11_tryHours_16 ?_
      refine g_iload_n C 1 rfl rfl dX11_tryHours_18 ?_
      refine g_icmp_ge C 89 (by decide) hw dX11_tryHours_19 (fun hw => ?_) (fun hw => ?_)
      · refine g_iload_n C 2 rfl rfl dX11_tryHours_89 ?_
        exact gq_I C F (by decide) (by decide) hw dX11_tryHours_90
      · refine g_aload_n C 0 rfl rfl dX11_tryHours_22 ?_
        refine g_get C hK inX11 rfl 0 (ga_0 cy A _) 6 (by decide) (fun _ h => h) wt_91 rfl dX11_tryHours_23 ?_
        refine g_get C hK inX0 rfl 16 (ga_16 cy A _) 6 (by decide) (fun _ h => h) wt_50 rfl dX11_tryHours_26 ?_
        refine g_if_ne C 89 (by decide) hw dX11_tryHours_29 (fun hw => ?_) (fun hw => ?_)
        · refine g_iload_n C 2 rfl rfl dX11_tryHours_89 ?_
          exact gq_I C F (by decide) (by decide) hw dX11_tryHours_90
        · refine g_iload_n C 2 rfl rfl dX11_tryHours_32 ?_
          refine gc_I C (gr_S (As := [.int v3]) (rest := []) C hK 1 (gd_S wt_273 wt_274 wt_1 wt_275) rfl rfl rfl hs_X11_nextSeed ⟨⟨Nat.le_of_ble_eq_true rfl, Nat.le_of_ble_eq_true rfl⟩, Nat.le_of_ble_eq_true rfl, Nat.le_of_ble_eq_true rfl⟩ rfl rfl (Nat.le_of_ble_eq_true rfl) dX11_tryHours_33 (c_X11_nextSeed (q_l κ) (q_D κ) cy A hw)) (fun r3 σ2 hw => ?_)
          refine g_istore_n C [(3, .int r3), (0, .ref (A 0)), (1, .int v1), (4, .int v4)] F.2.2.2.1 rfl (by decide) rfl dX11_tryHours_36 ?_
          refine g_iload_n C 0 rfl rfl dX11_tryHours_37 ?_
          refine g_ldcw (v := (65536 : Int32)) C dX11_tryHours_38 wt_279 ?_
          refine g_idiv C hw.1 dX11_tryHours_41 ?_
          replace hw := hw.2
          refine g_bipush (v := (7 : Int32)) C dX11_tryHours_42 (by decide) ?_
          refine g_irem C hw.1 dX11_tryHours_44 ?_
          replace hw := hw.2
          refine gc_I C (gr_S (As := [.int ((r3 / (65536 : Int32)) - (r3 / (65536 : Int32)) / (7 : Int32) * (7 : Int32))]) (rest := []) C hK 1 (gd_S wt_280 wt_281 wt_1 wt_282) rfl rfl rfl hs_X11_windingOf ⟨⟨Nat.le_of_ble_eq_true rfl, Nat.le_of_ble_eq_true rfl⟩, Nat.le_of_ble_eq_true rfl, Nat.le_of_ble_eq_true rfl⟩ rfl rfl (Nat.le_of_ble_eq_true rfl) dX11_tryHours_45 (c_X11_windingOf (q_l κ) (q_D κ) cy A hw)) (fun r5 σ4 hw => ?_)
          refine g_istore C [(5, .int r5), (3, .int r3), (0, .ref (A 0)), (1, .int v1), (4, .int v4)] F.2.2.2.1 (by decide) rfl dX11_tryHours_48 ?_
          refine g_aload_n C 2 rfl rfl dX11_tryHours_50 ?_
          refine g_get C hK inX11 rfl 0 (ga_0 cy A _) 6 (by decide) (fun _ h => h) wt_91 rfl dX11_tryHours_51 ?_
          refine g_aload_n C 2 rfl rfl dX11_tryHours_54 ?_
          refine g_get C hK inX11 rfl 0 (ga_0 cy A _) 6 (by decide) (fun _ h => h) wt_91 rfl dX11_tryHours_55 ?_
          refine g_get C hK inX0 rfl 16 (ga_16 cy A _) 0 (by decide) (fun _ h => h) wt_38 rfl dX11_tryHours_58 ?_
          refine g_iload C 0 rfl dX11_tryHours_61 ?_
          refine g_isub C dX11_tryHours_63 ?_
          refine gc_I C (gr_S (As := [.int ((σ4.1 16 0) - r5)]) (rest := [.ref (A 16)]) C hK 1 (gd_S wt_227 wt_228 wt_1 wt_229) rfl rfl rfl hs_X11_isLength ⟨⟨Nat.le_of_ble_eq_true rfl, Nat.le_of_ble_eq_true rfl⟩, Nat.le_of_ble_eq_true rfl, Nat.le_of_ble_eq_true rfl⟩ rfl rfl (Nat.le_of_ble_eq_true rfl) dX11_tryHours_64 (c_X11_isLength (q_l κ) (q_D κ) cy A hw)) (fun r7 σ6 hw => ?_)
          refine g_if_eq C 75 (by decide) hw dX11_tryHours_67 (fun hw => ?_) (fun hw => ?_)
          · refine g_iconst (v := (0 : Int32)) C dX11_tryHours_75 (by decide) ?_
            refine g_eql (lv' := [(0, .ref (A 0)), (1, .int v1), (3, .int r3), (4, .int v4)]) [2, 3, 1, 4] rfl ?_
            exact J76 _ ih σ6 v1 r3 v4 (0 : Int32) hw
          · refine g_iload C 0 rfl dX11_tryHours_70 ?_
            refine g_goto C 76 (by decide) dX11_tryHours_72 ?_
            refine g_eql (lv' := [(0, .ref (A 0)), (1, .int v1), (3, .int r3), (4, .int v4)]) [2, 3, 1, 4] rfl ?_
            exact J76 _ ih σ6 v1 r3 v4 r5 hw
  unfold wX11_tryHours at hw
  refine g_aload_n C 0 rfl rfl dX11_tryHours_0 ?_
  refine g_get C hK inX11 rfl 0 (ga_0 cy A _) 6 (by decide) (fun _ h => h) wt_91 rfl dX11_tryHours_1 ?_
  refine g_aload_n C 0 rfl rfl dX11_tryHours_4 ?_
  refine g_get C hK inX11 rfl 0 (ga_0 cy A _) 1 (by decide) (fun _ h => h) wt_86 rfl dX11_tryHours_5 ?_
  refine gc_V C (gr_V (As := [.ref (A 3)]) (rest := []) C hK 1 (gd_V wt_269 wt_270 wt_271 wt_3 wt_272) rfl rfl rfl ⟨rfl, hs_X0_becomeLike⟩ ⟨⟨Nat.le_of_ble_eq_true rfl, Nat.le_of_ble_eq_true rfl⟩, Nat.le_of_ble_eq_true rfl, Nat.le_of_ble_eq_true rfl⟩ rfl 16 (ga_16 cy A _) rfl rfl (Nat.le_of_ble_eq_true rfl) dX11_tryHours_8 (c_X0_becomeLike (q_l κ) (q_D κ) cy A hC16 hC3 hw)) (fun σ1 hw => ?_)
  refine g_iload_n C 2 rfl rfl dX11_tryHours_11 ?_
  refine g_istore_n C [(3, .int v2), (0, .ref (A 0)), (1, .int v1), (2, .int v2)] F.2.2.2.1 rfl (by decide) rfl dX11_tryHours_12 ?_
  refine g_iconst (v := (0 : Int32)) C dX11_tryHours_13 (by decide) ?_
  refine g_istore C [(4, .int (0 : Int32)), (3, .int v2), (0, .ref (A 0)), (1, .int v1), (2, .int v2)] F.2.2.2.1 (by decide) rfl dX11_tryHours_14 ?_
  refine g_eql (lv' := [(0, .ref (A 0)), (1, .int v1), (3, .int v2), (4, .int (0 : Int32))]) [2, 3, 1, 0] rfl ?_
  obtain ⟨n0, hw⟩ := hw
  exact J16 n0 σ1 v1 v2 (0 : Int32) hw
