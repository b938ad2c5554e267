set_option maxHeartbeats 4000000 in
set_option maxRecDepth 100000 in
theorem c_X11_whirls (l : Launch) (D : va_G) (cy : Nat → ClassId) (A : Nat → Nat) {σ : St} {v1 : Int32} {v2 : Int32} {v3 : Int32} {Φ : Int32 → St → Prop} (hw : wX11_whirls σ v1 v2 v3 Φ) : CtI l yX11_whirls (.code yX11_whirls cX11_whirls 5 (some .int) :: gL) rm_X11_whirls 0 0 [.ref (A 0), .int v1, .int v2, .int v3] D cy A σ Φ := by
  refine ct_any (fun sz => va_Qi Φ (HE D cy A (gZ cy A σ sz)) (gZ cy A σ sz)) (by decide +kernel) rfl rfl [(0, .ref (A 0)), (1, .int v1), (2, .int v2), (3, .int v3)] rfl (Nat.le_of_ble_eq_true rfl) ?_
  intro κ hκl hnm C hK sz F
  subst hκl
  unfold wX11_whirls at hw
  refine g_iload_n C 1 rfl rfl dX11_whirls_0 ?_
  refine g_iconst (v := (1 : Int32)) C dX11_whirls_1 (by decide) ?_
  refine g_icmp_lt C 24 (by decide) hw dX11_whirls_2 (fun hw => ?_) (fun hw => ?_)
  · refine g_bipush (v := (-102 : Int32)) C dX11_whirls_24 (by decide) ?_
    exact gq_I C F (by decide) (by decide) hw dX11_whirls_26
  · refine g_iload_n C 1 rfl rfl dX11_whirls_5 ?_
    refine g_bipush (v := (60 : Int32)) C dX11_whirls_6 (by decide) ?_
    refine g_icmp_gt C 24 (by decide) hw dX11_whirls_8 (fun hw => ?_) (fun hw => ?_)
    · refine g_bipush (v := (-102 : Int32)) C dX11_whirls_24 (by decide) ?_
      exact gq_I C F (by decide) (by decide) hw dX11_whirls_26
    · refine g_iload_n C 2 rfl rfl dX11_whirls_11 ?_
      refine g_if_lt C 24 (by decide) hw dX11_whirls_12 (fun hw => ?_) (fun hw => ?_)
      · refine g_bipush (v := (-102 : Int32)) C dX11_whirls_24 (by decide) ?_
        exact gq_I C F (by decide) (by decide) hw dX11_whirls_26
      · refine g_iload_n C 3 rfl rfl dX11_whirls_15 ?_
        refine g_if_lt C 24 (by decide) hw dX11_whirls_16 (fun hw => ?_) (fun hw => ?_)
        · refine g_bipush (v := (-102 : Int32)) C dX11_whirls_24 (by decide) ?_
          exact gq_I C F (by decide) (by decide) hw dX11_whirls_26
        · refine g_iload_n C 3 rfl rfl dX11_whirls_19 ?_
          refine g_iconst (v := (3 : Int32)) C dX11_whirls_20 (by decide) ?_
          refine g_icmp_le C 27 (by decide) hw dX11_whirls_21 (fun hw => ?_) (fun hw => ?_)
          · refine g_aload_n C 0 rfl rfl dX11_whirls_27 ?_
            refine g_get C hK inX11 rfl 0 (ga_0 cy A _) 1 (by decide) (fun _ h => h) wt_104 rfl dX11_whirls_28 ?_
            refine gc_I C (gr_V (As := []) (rest := []) C hK 0 (gd_V wt_352 wt_353 wt_354 wt_3 wt_355) rfl rfl rfl ⟨rfl, hs_X0_isWhole⟩ ⟨⟨Nat.le_of_ble_eq_true rfl, Nat.le_of_ble_eq_true rfl⟩, Nat.le_of_ble_eq_true rfl, Nat.le_of_ble_eq_true rfl⟩ rfl 3 (ga_3 cy A _) rfl rfl (Nat.le_of_ble_eq_true rfl) dX11_whirls_31 (c_X0_isWhole (q_l κ) (q_D κ) cy A hC3 hw)) (fun r2 σ1 hw => ?_)
            refine g_if_ne C 40 (by decide) hw dX11_whirls_34 (fun hw => ?_) (fun hw => ?_)
            · refine g_aload_n C 0 rfl rfl dX11_whirls_40 ?_
              refine g_iload_n C 1 rfl rfl dX11_whirls_41 ?_
              refine g_iload_n C 2 rfl rfl dX11_whirls_42 ?_
              refine gc_I C (gr_V (As := [.int v1, .int v2]) (rest := []) C hK 2 (gd_V wt_517 wt_518 wt_840 wt_1 wt_519) rfl rfl rfl ⟨rfl, hs_X11_tryHours⟩ ⟨⟨Nat.le_of_ble_eq_true rfl, Nat.le_of_ble_eq_true rfl⟩, Nat.le_of_ble_eq_true rfl, Nat.le_of_ble_eq_true rfl⟩ rfl 0 (ga_0 cy A _) rfl rfl (Nat.le_of_ble_eq_true rfl) dX11_whirls_43 (c_X11_tryHours (q_l κ) (q_D κ) cy A hw)) (fun r4 σ3 hw => ?_)
              refine g_istore C [(4, .int r4), (0, .ref (A 0)), (1, .int v1), (2, .int v2), (3, .int v3)] F.2.2.2.1 (by decide) rfl dX11_whirls_46 ?_
              refine g_iload_n C 4 rfl rfl dX11_whirls_48 ?_
              by_cases h9 : v3.toInt < 0 ∨ 2 < v3.toInt
              · refine g_swOut C 108 h9 (by decide) dX11_whirls_49 ?_
                replace hw := hw.2.2.2 h9
                refine g_iload C 0 rfl dX11_whirls_108 ?_
                exact gq_I C F (by decide) (by decide) hw dX11_whirls_110
              · rcases (show v3.toInt = 0 ∨ v3.toInt = 1 ∨ v3.toInt = 2 by omega) with e9 | e9 | e9
                · refine g_swIn (off := 27) C 0 76 e9 (by decide) (by decide) (by decide) (by decide) dX11_whirls_49 ?_
                  replace hw := hw.1 (Int32.toInt_inj.mp (e9.trans (by decide)))
                  refine g_aload_n C 1 rfl rfl dX11_whirls_76 ?_
                  refine g_get C hK inX11 rfl 0 (ga_0 cy A _) 6 (by decide) (fun _ h => h) wt_109 rfl dX11_whirls_77 ?_
                  refine g_get C hK inX0 rfl 16 (ga_16 cy A _) 0 (by decide) (fun _ h => h) wt_41 rfl dX11_whirls_80 ?_
                  exact gq_I C F (by decide) (by decide) hw dX11_whirls_83
                · refine g_swIn (off := 35) C 1 84 e9 (by decide) (by decide) (by decide) (by decide) dX11_whirls_49 ?_
                  replace hw := hw.2.1 (Int32.toInt_inj.mp (e9.trans (by decide)))
                  refine g_aload_n C 1 rfl rfl dX11_whirls_84 ?_
                  refine g_get C hK inX11 rfl 0 (ga_0 cy A _) 6 (by decide) (fun _ h => h) wt_109 rfl dX11_whirls_85 ?_
                  refine g_get C hK inX0 rfl 16 (ga_16 cy A _) 3 (by decide) (fun _ h => h) wt_48 rfl dX11_whirls_88 ?_
                  exact gq_I C F (by decide) (by decide) hw dX11_whirls_91
                · refine g_swIn (off := 43) C 2 92 e9 (by decide) (by decide) (by decide) (by decide) dX11_whirls_49 ?_
                  replace hw := hw.2.2.1 (Int32.toInt_inj.mp (e9.trans (by decide)))
                  refine g_aload_n C 1 rfl rfl dX11_whirls_92 ?_
                  refine g_get C hK inX11 rfl 0 (ga_0 cy A _) 6 (by decide) (fun _ h => h) wt_109 rfl dX11_whirls_93 ?_
                  refine g_get C hK inX0 rfl 16 (ga_16 cy A _) 4 (by decide) (fun _ h => h) wt_52 rfl dX11_whirls_96 ?_
                  refine g_aload_n C 1 rfl rfl dX11_whirls_99 ?_
                  refine g_get C hK inX11 rfl 0 (ga_0 cy A _) 1 (by decide) (fun _ h => h) wt_104 rfl dX11_whirls_100 ?_
                  refine g_get C hK inX0 rfl 3 (ga_3 cy A _) 4 (by decide) (fun _ h => h) wt_52 rfl dX11_whirls_103 ?_
                  refine g_isub C dX11_whirls_106 ?_
                  exact gq_I C F (by decide) (by decide) hw dX11_whirls_107
            · refine g_bipush (v := (-103 : Int32)) C dX11_whirls_37 (by decide) ?_
              exact gq_I C F (by decide) (by decide) hw dX11_whirls_39
          · refine g_bipush (v := (-102 : Int32)) C dX11_whirls_24 (by decide) ?_
            exact gq_I C F (by decide) (by decide) hw dX11_whirls_26
set_option maxHeartbeats 4000000 in
set_option maxRecDepth 100000 in
theorem c_X11_image (l : Launch) (D : va_G) (cy : Nat → ClassId) (A : Nat → Nat) {σ : St} {Φ : Int32 → St → Prop} (hw : wX11_image σ Φ) : CtI l yX11_image (.code yX11_image cX11_image 1 (some .int) :: gL) rm_X11_image 0 0 [.ref (A 0)] D cy A σ Φ := by
  refine ct_any (fun sz => va_Qi Φ (HE D cy A (gZ cy A σ sz)) (gZ cy A σ sz)) (by decide +kernel) rfl rfl [(0, .ref (A 0))] rfl (Nat.le_of_ble_eq_true rfl) ?_
  intro κ hκl hnm C hK sz F
  subst hκl
  unfold wX11_image at hw
  refine g_aload_n C 0 rfl rfl dX11_image_0 ?_
  refine g_get C hK inX11 rfl 0 (ga_0 cy A _) 1 (by decide) (fun _ h => h) wt_104 rfl dX11_image_1 ?_
  refine gc_I C (gr_V (As := []) (rest := []) C hK 0 (gd_V wt_192 wt_193 wt_194 wt_3 wt_195) rfl rfl rfl ⟨rfl, hs_X0_isThere⟩ ⟨⟨Nat.le_of_ble_eq_true rfl, Nat.le_of_ble_eq_true rfl⟩, Nat.le_of_ble_eq_true rfl, Nat.le_of_ble_eq_true rfl⟩ rfl 3 (ga_3 cy A _) rfl rfl (Nat.le_of_ble_eq_true rfl) dX11_image_4 (c_X0_isThere (q_l κ) (q_D κ) cy A hC3 hw)) (fun r2 σ1 hw => ?_)
  refine g_if_ne C 13 (by decide) hw dX11_image_7 (fun hw => ?_) (fun hw => ?_)
  · refine g_aload_n C 0 rfl rfl dX11_image_13 ?_
    refine g_get C hK inX11 rfl 0 (ga_0 cy A _) 7 (by decide) (fun _ h => h) wt_110 rfl dX11_image_14 ?_
    refine g_aload_n C 0 rfl rfl dX11_image_17 ?_
    refine g_get C hK inX11 rfl 0 (ga_0 cy A _) 1 (by decide) (fun _ h => h) wt_104 rfl dX11_image_18 ?_
    refine gc_V C (gr_V (As := [.ref (A 3)]) (rest := []) C hK 1 (gd_V wt_520 wt_521 wt_522 wt_3 wt_523) rfl rfl rfl ⟨rfl, hs_X0_becomeLike⟩ ⟨⟨Nat.le_of_ble_eq_true rfl, Nat.le_of_ble_eq_true rfl⟩, Nat.le_of_ble_eq_true rfl, Nat.le_of_ble_eq_true rfl⟩ rfl 17 (ga_17 cy A _) rfl rfl (Nat.le_of_ble_eq_true rfl) dX11_image_21 (c_X0_becomeLike (q_l κ) (q_D κ) cy A hC17 hC3 hw)) (fun σ3 hw => ?_)
    refine g_aload_n C 0 rfl rfl dX11_image_24 ?_
    refine g_get C hK inX11 rfl 0 (ga_0 cy A _) 2 (by decide) (fun _ h => h) wt_105 rfl dX11_image_25 ?_
    refine gc_V C (gr_V (As := []) (rest := []) C hK 0 (gd_V wt_536 wt_537 wt_538 wt_4 wt_539) rfl rfl rfl ⟨rfl, hs_X6_keepPlaces⟩ ⟨⟨Nat.le_of_ble_eq_true rfl, Nat.le_of_ble_eq_true rfl⟩, Nat.le_of_ble_eq_true rfl, Nat.le_of_ble_eq_true rfl⟩ rfl 4 (ga_4 cy A _) rfl rfl (Nat.le_of_ble_eq_true rfl) dX11_image_28 (c_X6_keepPlaces (q_l κ) (q_D κ) cy A hw)) (fun σ4 hw => ?_)
    refine g_aload_n C 0 rfl rfl dX11_image_31 ?_
    refine g_iconst (v := (1 : Int32)) C dX11_image_32 (by decide) ?_
    refine g_put (v := .int (1 : Int32)) C hK inX11 rfl tyX11 tyX11_ok nmX11 0 (ga_0 cy A _) 8 (by decide) (fun _ h => h) wt_111 rfl (by rcases hw.1 with e | e <;> rw [e] <;> rfl) (by rcases hw.1 with e | e <;> rw [e] <;> rfl) (Nat.le_of_ble_eq_true rfl) (gp_0_8 cy A _ _) dX11_image_33 ?_
    replace hw := hw.2
    refine g_aload_n C 0 rfl rfl dX11_image_36 ?_
    refine g_get C hK inX11 rfl 0 (ga_0 cy A _) 1 (by decide) (fun _ h => h) wt_104 rfl dX11_image_37 ?_
    refine g_get C hK inX0 rfl 3 (ga_3 cy A _) 4 (by decide) (fun _ h => h) wt_52 rfl dX11_image_40 ?_
    exact gq_I C F (by decide) (by decide) hw dX11_image_43
  · refine g_bipush (v := (-103 : Int32)) C dX11_image_10 (by decide) ?_
    exact gq_I C F (by decide) (by decide) hw dX11_image_12
set_option maxHeartbeats 4000000 in
set_option maxRecDepth 100000 in
theorem c_X11_restore (l : Launch) (D : va_G) (cy : Nat → ClassId) (A : Nat → Nat) {σ : St} {Φ : Int32 → St → Prop} (hw : wX11_restore σ Φ) : CtI l yX11_restore (.code yX11_restore cX11_restore 1 (some .int) :: gL) rm_X11_restore 0 0 [.ref (A 0)] D cy A σ Φ := by
  refine ct_any (fun sz => va_Qi Φ (HE D cy A (gZ cy A σ sz)) (gZ cy A σ sz)) (by decide +kernel) rfl rfl [(0, .ref (A 0))] rfl (Nat.le_of_ble_eq_true rfl) ?_
  intro κ hκl hnm C hK sz F
  subst hκl
  unfold wX11_restore at hw
  refine g_aload_n C 0 rfl rfl dX11_restore_0 ?_
  refine g_get C hK inX11 rfl 0 (ga_0 cy A _) 8 (by decide) (fun _ h => h) wt_111 rfl dX11_restore_1 ?_
  refine g_if_ne C 10 (by decide) hw dX11_restore_4 (fun hw => ?_) (fun hw => ?_)
  · refine g_aload_n C 0 rfl rfl dX11_restore_10 ?_
    refine g_get C hK inX11 rfl 0 (ga_0 cy A _) 1 (by decide) (fun _ h => h) wt_104 rfl dX11_restore_11 ?_
    refine g_aload_n C 0 rfl rfl dX11_restore_14 ?_
    refine g_get C hK inX11 rfl 0 (ga_0 cy A _) 7 (by decide) (fun _ h => h) wt_110 rfl dX11_restore_15 ?_
    refine gc_V C (gr_V (As := [.ref (A 17)]) (rest := []) C hK 1 (gd_V wt_520 wt_521 wt_522 wt_3 wt_523) rfl rfl rfl ⟨rfl, hs_X0_becomeLike⟩ ⟨⟨Nat.le_of_ble_eq_true rfl, Nat.le_of_ble_eq_true rfl⟩, Nat.le_of_ble_eq_true rfl, Nat.le_of_ble_eq_true rfl⟩ rfl 3 (ga_3 cy A _) rfl rfl (Nat.le_of_ble_eq_true rfl) dX11_restore_18 (c_X0_becomeLike (q_l κ) (q_D κ) cy A hC3 hC17 hw)) (fun σ1 hw => ?_)
    refine g_aload_n C 0 rfl rfl dX11_restore_21 ?_
    refine g_get C hK inX11 rfl 0 (ga_0 cy A _) 2 (by decide) (fun _ h => h) wt_105 rfl dX11_restore_22 ?_
    refine gc_V C (gr_V (As := []) (rest := []) C hK 0 (gd_V wt_544 wt_545 wt_546 wt_4 wt_547) rfl rfl rfl ⟨rfl, hs_X6_goBack⟩ ⟨⟨Nat.le_of_ble_eq_true rfl, Nat.le_of_ble_eq_true rfl⟩, Nat.le_of_ble_eq_true rfl, Nat.le_of_ble_eq_true rfl⟩ rfl 4 (ga_4 cy A _) rfl rfl (Nat.le_of_ble_eq_true rfl) dX11_restore_25 (c_X6_goBack (q_l κ) (q_D κ) cy A hw)) (fun σ2 hw => ?_)
    refine g_aload_n C 0 rfl rfl dX11_restore_28 ?_
    refine g_get C hK inX11 rfl 0 (ga_0 cy A _) 1 (by decide) (fun _ h => h) wt_104 rfl dX11_restore_29 ?_
    refine g_get C hK inX0 rfl 3 (ga_3 cy A _) 4 (by decide) (fun _ h => h) wt_52 rfl dX11_restore_32 ?_
    exact gq_I C F (by decide) (by decide) hw dX11_restore_35
  · refine g_bipush (v := (-103 : Int32)) C dX11_restore_7 (by decide) ?_
    exact gq_I C F (by decide) (by decide) hw dX11_restore_9
set_option maxHeartbeats 4000000 in
set_option maxRecDepth 100000 in
theorem c_X11_count (l : Launch) (D : va_G) (cy : Nat → ClassId) (A : Nat → Nat) {σ : St} {v1 : Int32} {Φ : Int32 → St → Prop} (hw : wX11_count σ v1 Φ) : CtI l yX11_count (.code yX11_count cX11_count 2 (some .int) :: gL) rm_X11_count 0 0 [.ref (A 0), .int v1] D cy A σ Φ := by
  refine ct_any (fun sz => va_Qi Φ (HE D cy A (gZ cy A σ sz)) (gZ cy A σ sz)) (by decide +kernel) rfl rfl [(0, .ref (A 0)), (1, .int v1)] rfl (Nat.le_of_ble_eq_true rfl) ?_
  intro κ hκl hnm C hK sz F
  subst hκl
  unfold wX11_count at hw
  refine g_iload_n C 1 rfl rfl dX11_count_0 ?_
  by_cases h9 : v1.toInt < 0 ∨ 12 < v1.toInt
  · refine g_swOut C 189 h9 (by decide) dX11_count_1 ?_
    replace hw := hw.2.2.2.2.2.2.2.2.2.2.2.2.2 h9
    refine g_bipush (v := (-102 : Int32)) C dX11_count_189 (by decide) ?_
    exact gq_I C F (by decide) (by decide) hw dX11_count_191
  · rcases (show v1.toInt = 0 ∨ v1.toInt = 1 ∨ v1.toInt = 2 ∨ v1.toInt = 3 ∨ v1.toInt = 4 ∨ v1.toInt = 5 ∨ v1.toInt = 6 ∨ v1.toInt = 7 ∨ v1.toInt = 8 ∨ v1.toInt = 9 ∨ v1.toInt = 10 ∨ v1.toInt = 11 ∨ v1.toInt = 12 by omega) with e9 | e9 | e9 | e9 | e9 | e9 | e9 | e9 | e9 | e9 | e9 | e9 | e9
    · refine g_swIn (off := 67) C 0 68 e9 (by decide) (by decide) (by decide) (by decide) dX11_count_1 ?_
      replace hw := hw.1 (Int32.toInt_inj.mp (e9.trans (by decide)))
      refine g_aload_n C 0 rfl rfl dX11_count_68 ?_
      refine g_get C hK inX11 rfl 0 (ga_0 cy A _) 1 (by decide) (fun _ h => h) wt_104 rfl dX11_count_69 ?_
      refine g_get C hK inX0 rfl 3 (ga_3 cy A _) 0 (by decide) (fun _ h => h) wt_41 rfl dX11_count_72 ?_
      exact gq_I C F (by decide) (by decide) hw dX11_count_75
    · refine g_swIn (off := 75) C 1 76 e9 (by decide) (by decide) (by decide) (by decide) dX11_count_1 ?_
      replace hw := hw.2.1 (Int32.toInt_inj.mp (e9.trans (by decide)))
      refine g_aload_n C 0 rfl rfl dX11_count_76 ?_
      refine g_get C hK inX11 rfl 0 (ga_0 cy A _) 1 (by decide) (fun _ h => h) wt_104 rfl dX11_count_77 ?_
      refine gc_I C (gr_V (As := []) (rest := []) C hK 0 (gd_V wt_356 wt_357 wt_358 wt_3 wt_359) rfl rfl rfl ⟨rfl, hs_X0_turnsNow⟩ ⟨⟨Nat.le_of_ble_eq_true rfl, Nat.le_of_ble_eq_true rfl⟩, Nat.le_of_ble_eq_true rfl, Nat.le_of_ble_eq_true rfl⟩ rfl 3 (ga_3 cy A _) rfl rfl (Nat.le_of_ble_eq_true rfl) dX11_count_80 (c_X0_turnsNow (q_l κ) (q_D κ) cy A hC3 hw)) (fun r2 σ1 hw => ?_)
      exact gq_I C F (by decide) (by decide) hw dX11_count_83
    · refine g_swIn (off := 83) C 2 84 e9 (by decide) (by decide) (by decide) (by decide) dX11_count_1 ?_
      replace hw := hw.2.2.1 (Int32.toInt_inj.mp (e9.trans (by decide)))
      refine g_aload_n C 0 rfl rfl dX11_count_84 ?_
      refine g_get C hK inX11 rfl 0 (ga_0 cy A _) 1 (by decide) (fun _ h => h) wt_104 rfl dX11_count_85 ?_
      refine g_get C hK inX0 rfl 3 (ga_3 cy A _) 1 (by decide) (fun _ h => h) wt_43 rfl dX11_count_88 ?_
      exact gq_I C F (by decide) (by decide) hw dX11_count_91
    · refine g_swIn (off := 91) C 3 92 e9 (by decide) (by decide) (by decide) (by decide) dX11_count_1 ?_
      replace hw := hw.2.2.2.1 (Int32.toInt_inj.mp (e9.trans (by decide)))
      refine g_aload_n C 0 rfl rfl dX11_count_92 ?_
      refine g_get C hK inX11 rfl 0 (ga_0 cy A _) 1 (by decide) (fun _ h => h) wt_104 rfl dX11_count_93 ?_
      refine g_aload_n C 0 rfl rfl dX11_count_96 ?_
      refine g_get C hK inX11 rfl 0 (ga_0 cy A _) 2 (by decide) (fun _ h => h) wt_105 rfl dX11_count_97 ?_
      refine gc_I C (gr_V (As := [.ref (A 4)]) (rest := []) C hK 1 (gd_V wt_501 wt_391 wt_392 wt_3 wt_393) rfl rfl rfl ⟨rfl, hs_X0_strainNow⟩ ⟨⟨Nat.le_of_ble_eq_true rfl, Nat.le_of_ble_eq_true rfl⟩, Nat.le_of_ble_eq_true rfl, Nat.le_of_ble_eq_true rfl⟩ rfl 3 (ga_3 cy A _) rfl rfl (Nat.le_of_ble_eq_true rfl) dX11_count_100 (c_X0_strainNow (q_l κ) (q_D κ) cy A hC3 hw)) (fun r4 σ3 hw => ?_)
      exact gq_I C F (by decide) (by decide) hw dX11_count_103
    · refine g_swIn (off := 103) C 4 104 e9 (by decide) (by decide) (by decide) (by decide) dX11_count_1 ?_
      replace hw := hw.2.2.2.2.1 (Int32.toInt_inj.mp (e9.trans (by decide)))
      refine g_aload_n C 0 rfl rfl dX11_count_104 ?_
      refine g_get C hK inX11 rfl 0 (ga_0 cy A _) 1 (by decide) (fun _ h => h) wt_104 rfl dX11_count_105 ?_
      refine g_get C hK inX0 rfl 3 (ga_3 cy A _) 2 (by decide) (fun _ h => h) wt_46 rfl dX11_count_108 ?_
      exact gq_I C F (by decide) (by decide) hw dX11_count_111
    · refine g_swIn (off := 111) C 5 112 e9 (by decide) (by decide) (by decide) (by decide) dX11_count_1 ?_
      replace hw := hw.2.2.2.2.2.1 (Int32.toInt_inj.mp (e9.trans (by decide)))
      refine g_aload_n C 0 rfl rfl dX11_count_112 ?_
      refine g_get C hK inX11 rfl 0 (ga_0 cy A _) 1 (by decide) (fun _ h => h) wt_104 rfl dX11_count_113 ?_
      refine g_get C hK inX0 rfl 3 (ga_3 cy A _) 5 (by decide) (fun _ h => h) wt_54 rfl dX11_count_116 ?_
      refine g_if_eq C 126 (by decide) hw dX11_count_119 (fun hw => ?_) (fun hw => ?_)
      · refine g_iconst (v := (0 : Int32)) C dX11_count_126 (by decide) ?_
        exact gq_I C F (by decide) (by decide) hw dX11_count_127
      · refine g_iconst (v := (1 : Int32)) C dX11_count_122 (by decide) ?_
        refine g_goto C 127 (by decide) dX11_count_123 ?_
        exact gq_I C F (by decide) (by decide) hw dX11_count_127
    · refine g_swIn (off := 127) C 6 128 e9 (by decide) (by decide) (by decide) (by decide) dX11_count_1 ?_
      replace hw := hw.2.2.2.2.2.2.1 (Int32.toInt_inj.mp (e9.trans (by decide)))
      refine g_aload_n C 0 rfl rfl dX11_count_128 ?_
      refine g_get C hK inX11 rfl 0 (ga_0 cy A _) 1 (by decide) (fun _ h => h) wt_104 rfl dX11_count_129 ?_
      refine g_get C hK inX0 rfl 3 (ga_3 cy A _) 3 (by decide) (fun _ h => h) wt_48 rfl dX11_count_132 ?_
      exact gq_I C F (by decide) (by decide) hw dX11_count_135
    · refine g_swIn (off := 135) C 7 136 e9 (by decide) (by decide) (by decide) (by decide) dX11_count_1 ?_
      replace hw := hw.2.2.2.2.2.2.2.1 (Int32.toInt_inj.mp (e9.trans (by decide)))
      refine g_aload_n C 0 rfl rfl dX11_count_136 ?_
      refine g_get C hK inX11 rfl 0 (ga_0 cy A _) 1 (by decide) (fun _ h => h) wt_104 rfl dX11_count_137 ?_
      refine g_get C hK inX0 rfl 3 (ga_3 cy A _) 4 (by decide) (fun _ h => h) wt_52 rfl dX11_count_140 ?_
      exact gq_I C F (by decide) (by decide) hw dX11_count_143
    · refine g_swIn (off := 143) C 8 144 e9 (by decide) (by decide) (by decide) (by decide) dX11_count_1 ?_
      replace hw := hw.2.2.2.2.2.2.2.2.1 (Int32.toInt_inj.mp (e9.trans (by decide)))
      refine g_aload_n C 0 rfl rfl dX11_count_144 ?_
      refine g_get C hK inX11 rfl 0 (ga_0 cy A _) 1 (by decide) (fun _ h => h) wt_104 rfl dX11_count_145 ?_
      refine g_get C hK inX0 rfl 3 (ga_3 cy A _) 6 (by decide) (fun _ h => h) wt_56 rfl dX11_count_148 ?_
      refine g_if_eq C 158 (by decide) hw dX11_count_151 (fun hw => ?_) (fun hw => ?_)
      · refine g_iconst (v := (0 : Int32)) C dX11_count_158 (by decide) ?_
        exact gq_I C F (by decide) (by decide) hw dX11_count_159
      · refine g_iconst (v := (1 : Int32)) C dX11_count_154 (by decide) ?_
        refine g_goto C 159 (by decide) dX11_count_155 ?_
        exact gq_I C F (by decide) (by decide) hw dX11_count_159
    · refine g_swIn (off := 159) C 9 160 e9 (by decide) (by decide) (by decide) (by decide) dX11_count_1 ?_
      replace hw := hw.2.2.2.2.2.2.2.2.2.1 (Int32.toInt_inj.mp (e9.trans (by decide)))
      refine g_aload_n C 0 rfl rfl dX11_count_160 ?_
      refine g_get C hK inX11 rfl 0 (ga_0 cy A _) 2 (by decide) (fun _ h => h) wt_105 rfl dX11_count_161 ?_
      refine g_get C hK inX6 rfl 4 (ga_4 cy A _) 2 (by decide) (fun _ h => h) wt_66 rfl dX11_count_164 ?_
      exact gq_I C F (by decide) (by decide) hw dX11_count_167
    · refine g_swIn (off := 167) C 10 168 e9 (by decide) (by decide) (by decide) (by decide) dX11_count_1 ?_
      replace hw := hw.2.2.2.2.2.2.2.2.2.2.1 (Int32.toInt_inj.mp (e9.trans (by decide)))
      refine g_aload_n C 0 rfl rfl dX11_count_168 ?_
      refine g_get C hK inX11 rfl 0 (ga_0 cy A _) 0 (by decide) (fun _ h => h) wt_103 rfl dX11_count_169 ?_
      refine g_get C hK inX7 rfl 1 (ga_1 cy A _) 1 (by decide) (fun _ h => h) wt_30 rfl dX11_count_172 ?_
      exact gq_I C F (by decide) (by decide) hw dX11_count_175
    · refine g_swIn (off := 175) C 11 176 e9 (by decide) (by decide) (by decide) (by decide) dX11_count_1 ?_
      replace hw := hw.2.2.2.2.2.2.2.2.2.2.2.1 (Int32.toInt_inj.mp (e9.trans (by decide)))
      refine g_aload_n C 0 rfl rfl dX11_count_176 ?_
      refine g_get C hK inX11 rfl 0 (ga_0 cy A _) 9 (by decide) (fun _ h => h) wt_112 rfl dX11_count_177 ?_
      exact gq_I C F (by decide) (by decide) hw dX11_count_180
    · refine g_swIn (off := 180) C 12 181 e9 (by decide) (by decide) (by decide) (by decide) dX11_count_1 ?_
      replace hw := hw.2.2.2.2.2.2.2.2.2.2.2.2.1 (Int32.toInt_inj.mp (e9.trans (by decide)))
      refine g_aload_n C 0 rfl rfl dX11_count_181 ?_
      refine g_get C hK inX11 rfl 0 (ga_0 cy A _) 3 (by decide) (fun _ h => h) wt_106 rfl dX11_count_182 ?_
      refine g_get C hK inX10 rfl 7 (ga_7 cy A _) 2 (by decide) (fun _ h => h) wt_77 rfl dX11_count_185 ?_
      exact gq_I C F (by decide) (by decide) hw dX11_count_188
set_option maxHeartbeats 4000000 in
set_option maxRecDepth 100000 in
theorem c_X11_mixed (l : Launch) (D : va_G) (cy : Nat → ClassId) (A : Nat → Nat) {σ : St} {v0 : Int64} {v2 : Int64} {Φ : Int64 → St → Prop} (hw : wX11_mixed σ v0 v2 Φ) : CtL l yX11_mixed (.code yX11_mixed cX11_mixed 4 (some .long) :: gL) rm_X11_mixed 0 0 [.long v0, .long v2] D cy A σ Φ := by
  refine ct_any (fun sz => va_Ql Φ (HE D cy A (gZ cy A σ sz)) (gZ cy A σ sz)) (by decide +kernel) rfl rfl [(0, .long v0), (2, .long v2)] rfl (Nat.le_of_ble_eq_true rfl) ?_
  intro κ hκl hnm C hK sz F
  subst hκl
  unfold wX11_mixed at hw
  refine g_ldc2 (v := (31 : Int64)) C dX11_mixed_0 wt_565 ?_
  refine g_lload_n C 0 rfl rfl dX11_mixed_3 ?_
  refine g_lmul C dX11_mixed_4 ?_
  refine g_lload_n C 1 rfl rfl dX11_mixed_5 ?_
  refine g_ladd C dX11_mixed_6 ?_
  exact gq_L C F (by decide) (by decide) hw dX11_mixed_7
set_option maxHeartbeats 4000000 in
set_option maxRecDepth 100000 in
theorem c_X11_withCabins (l : Launch) (D : va_G) (cy : Nat → ClassId) (A : Nat → Nat) {σ : St} {v1 : Int64} {Φ : Int64 → St → Prop} (hw : wX11_withCabins σ v1 Φ) : CtL l yX11_withCabins (.code yX11_withCabins cX11_withCabins 7 (some .long) :: gL) rm_X11_withCabins 0 0 [.ref (A 0), .long v1] D cy A σ Φ := by
  refine ct_any (fun sz => va_Ql Φ (HE D cy A (gZ cy A σ sz)) (gZ cy A σ sz)) (by decide +kernel) rfl rfl [(0, .ref (A 0)), (1, .long v1)] rfl (Nat.le_of_ble_eq_true rfl) ?_
  intro κ hκl hnm C hK sz F
  subst hκl
  have J14 : ∀ (K5 : St → Int64 → Int32 → Prop) (_ : ∀ (σ : St) (v3 : Int64) (v5 : Int32), K5 σ v3 v5 → GW κ 0 0 (gW cy A σ) 5 [(0, .ref (A 0)), (3, .long v3), (5, .int v5)] []), ∀ (n : Nat) (σ : St) (v3 : Int64) (v5 : Int32) (v6 : Int32), wX11_withCabins_14 K5 Φ n σ v3 v5 v6 → GW κ 0 0 (gW cy A σ) 14 [(0, .ref (A 0)), (3, .long v3), (5, .int v5), (6, .int v6)] [] := by
    intro K5 hK5 n
    induction n with
    | zero => intro σ v3 v5 v6 hw; exact hw.elim
    | succ n ih =>
      intro σ v3 v5 v6 hw
      rw [wX11_withCabins_14] at hw
      refine g_iload C 3 rfl dX11_withCabins_14 ?_
      refine g_iconst (v := (3 : Int32)) C dX11_withCabins_16 (by decide) ?_
      refine g_icmp_gt C 40 (by decide) hw dX11_withCabins_17 (fun hw => ?_) (fun hw => ?_)
      · refine g_iinc (j := 2) C [(5, .int (v5 + 1)), (0, .ref (A 0)), (3, .long v3), (6, .int v6)] F.2.2.2.1 rfl rfl (by decide) rfl dX11_withCabins_40 ?_
        refine g_goto C 5 (by decide) dX11_withCabins_43 ?_
        refine g_eql (lv' := [(0, .ref (A 0)), (3, .long v3), (5, .int (v5 + 1))]) [1, 2, 0] rfl ?_
        exact hK5 σ v3 (v5 + 1) hw
      · refine g_lload_n C 1 rfl rfl dX11_withCabins_20 ?_
        refine g_aload_n C 0 rfl rfl dX11_withCabins_21 ?_
        refine g_iload C 2 rfl dX11_withCabins_22 ?_
        refine g_iload C 3 rfl dX11_withCabins_24 ?_
        refine gc_I C (gr_V (As := [.int v5, .int v6]) (rest := [.long v3]) C hK 2 (gd_V wt_561 wt_186 wt_187 wt_1 wt_188) rfl rfl rfl ⟨rfl, hs_X11_cabin⟩ ⟨⟨Nat.le_of_ble_eq_true rfl, Nat.le_of_ble_eq_true rfl⟩, Nat.le_of_ble_eq_true rfl, Nat.le_of_ble_eq_true rfl⟩ rfl 0 (ga_0 cy A _) rfl rfl (Nat.le_of_ble_eq_true rfl) dX11_withCabins_26 (c_X11_cabin (q_l κ) (q_D κ) cy A hw)) (fun r2 σ1 hw => ?_)
        refine g_i2l C dX11_withCabins_29 ?_
        refine gc_L C (gr_S (As := [.long v3, .long r2.toInt64]) (rest := []) C hK 2 (gd_S wt_562 wt_563 wt_1 wt_564) rfl rfl rfl hs_X11_mixed ⟨⟨Nat.le_of_ble_eq_true rfl, Nat.le_of_ble_eq_true rfl⟩, Nat.le_of_ble_eq_true rfl, Nat.le_of_ble_eq_true rfl⟩ rfl rfl (Nat.le_of_ble_eq_true rfl) dX11_withCabins_30 (c_X11_mixed (q_l κ) (q_D κ) cy A hw)) (fun r4 σ3 hw => ?_)
        refine g_lstore_n C [(3, .long r4), (0, .ref (A 0)), (5, .int v5), (6, .int v6)] F.2.2.2.1 rfl (by decide) rfl dX11_withCabins_33 ?_
        refine g_iinc (j := 3) C [(6, .int (v6 + 1)), (3, .long r4), (0, .ref (A 0)), (5, .int v5)] F.2.2.2.1 rfl rfl (by decide) rfl dX11_withCabins_34 ?_
        refine g_goto C 14 (by decide) dX11_withCabins_37 ?_
        refine g_eql (lv' := [(0, .ref (A 0)), (3, .long r4), (5, .int v5), (6, .int (v6 + 1))]) [2, 1, 3, 0] rfl ?_
        exact ih σ3 r4 v5 (v6 + 1) hw
  have J5 : ∀ (n : Nat) (σ : St) (v3 : Int64) (v5 : Int32), wX11_withCabins_5 Φ n σ v3 v5 → GW κ 0 0 (gW cy A σ) 5 [(0, .ref (A 0)), (3, .long v3), (5, .int v5)] [] := by
    intro n
    induction n with
    | zero => intro σ v3 v5 hw; exact hw.elim
    | succ n ih =>
      intro σ v3 v5 hw
      rw [wX11_withCabins_5] at hw
      refine g_iload C 2 rfl dX11_withCabins_5 ?_
      refine g_iconst (v := (2 : Int32)) C dX11_withCabins_7 (by decide) ?_
      refine g_icmp_ge C 46 (by decide) hw dX11_withCabins_8 (fun hw => ?_) (fun hw => ?_)
      · refine g_lload_n C 1 rfl rfl dX11_withCabins_46 ?_
        exact gq_L C F (by decide) (by decide) hw dX11_withCabins_47
      · refine g_iconst (v := (0 : Int32)) C dX11_withCabins_11 (by decide) ?_
        refine g_istore C [(6, .int (0 : Int32)), (0, .ref (A 0)), (3, .long v3), (5, .int v5)] F.2.2.2.1 (by decide) rfl dX11_withCabins_12 ?_
        refine g_eql (lv' := [(0, .ref (A 0)), (3, .long v3), (5, .int v5), (6, .int (0 : Int32))]) [1, 2, 3, 0] rfl ?_
        obtain ⟨n0, hw⟩ := hw
        exact J14 _ ih n0 σ v3 v5 (0 : Int32) hw
  unfold wX11_withCabins at hw
  refine g_lload_n C 1 rfl rfl dX11_withCabins_0 ?_
  refine g_lstore_n C [(3, .long v1), (0, .ref (A 0)), (1, .long v1)] F.2.2.2.1 rfl (by decide) rfl dX11_withCabins_1 ?_
  refine g_iconst (v := (0 : Int32)) C dX11_withCabins_2 (by decide) ?_
  refine g_istore C [(5, .int (0 : Int32)), (3, .long v1), (0, .ref (A 0)), (1, .long v1)] F.2.2.2.1 (by decide) rfl dX11_withCabins_3 ?_
  refine g_eql (lv' := [(0, .ref (A 0)), (3, .long v1), (5, .int (0 : Int32))]) [2, 1, 0] rfl ?_
  obtain ⟨n0, hw⟩ := hw
  exact J5 n0 σ v1 (0 : Int32) hw
set_option maxHeartbeats 4000000 in
set_option maxRecDepth 100000 in
theorem c_X11_withOutlook (l : Launch) (D : va_G) (cy : Nat → ClassId) (A : Nat → Nat) {σ : St} {v1 : Int64} {Φ : Int64 → St → Prop} (hw : wX11_withOutlook σ v1 Φ) : CtL l yX11_withOutlook (.code yX11_withOutlook cX11_withOutlook 6 (some .long) :: gL) rm_X11_withOutlook 0 0 [.ref (A 0), .long v1] D cy A σ Φ := by
  refine ct_any (fun sz => va_Ql Φ (HE D cy A (gZ cy A σ sz)) (gZ cy A σ sz)) (by decide +kernel) rfl rfl [(0, .ref (A 0)), (1, .long v1)] rfl (Nat.le_of_ble_eq_true rfl) ?_
  intro κ hκl hnm C hK sz F
  subst hκl
  have J61 : ∀ (n : Nat) (σ : St) (v3 : Int64) (v5 : Int32), wX11_withOutlook_61 Φ n σ v3 v5 → GW κ 0 0 (gW cy A σ) 61 [(0, .ref (A 0)), (3, .long v3), (5, .int v5)] [] := by
    intro n
    induction n with
    | zero => intro σ v3 v5 hw; exact hw.elim
    | succ n ih =>
      intro σ v3 v5 hw
      rw [wX11_withOutlook_61] at hw
      refine g_iload C 2 rfl dX11_withOutlook_61 ?_
      refine g_iconst (v := (1 : Int32)) C dX11_withOutlook_63 (by decide) ?_
      refine g_icmp_gt C 85 (by decide) hw dX11_withOutlook_64 (fun hw => ?_) (fun hw => ?_)
      · refine g_lload_n C 1 rfl rfl dX11_withOutlook_85 ?_
        exact gq_L C F (by decide) (by decide) hw dX11_withOutlook_86
      · refine g_lload_n C 1 rfl rfl dX11_withOutlook_67 ?_
        refine g_aload_n C 0 rfl rfl dX11_withOutlook_68 ?_
        refine g_iconst (v := (2 : Int32)) C dX11_withOutlook_69 (by decide) ?_
        refine g_iload C 2 rfl dX11_withOutlook_70 ?_
        refine gc_L C (gr_V (As := [.int (2 : Int32), .int v5]) (rest := [.long v3]) C hK 2 (gd_V wt_575 wt_496 wt_497 wt_1 wt_498) rfl rfl rfl ⟨rfl, hs_X11_lasts⟩ ⟨⟨Nat.le_of_ble_eq_true rfl, Nat.le_of_ble_eq_true rfl⟩, Nat.le_of_ble_eq_true rfl, Nat.le_of_ble_eq_true rfl⟩ rfl 0 (ga_0 cy A _) rfl rfl (Nat.le_of_ble_eq_true rfl) dX11_withOutlook_72 (c_X11_lasts (q_l κ) (q_D κ) cy A hw)) (fun r10 σ9 hw => ?_)
        refine gc_L C (gr_S (As := [.long v3, .long r10]) (rest := []) C hK 2 (gd_S wt_562 wt_563 wt_1 wt_564) rfl rfl rfl hs_X11_mixed ⟨⟨Nat.le_of_ble_eq_true rfl, Nat.le_of_ble_eq_true rfl⟩, Nat.le_of_ble_eq_true rfl, Nat.le_of_ble_eq_true rfl⟩ rfl rfl (Nat.le_of_ble_eq_true rfl) dX11_withOutlook_75 (c_X11_mixed (q_l κ) (q_D κ) cy A hw)) (fun r12 σ11 hw => ?_)
        refine g_lstore_n C [(3, .long r12), (0, .ref (A 0)), (5, .int v5)] F.2.2.2.1 rfl (by decide) rfl dX11_withOutlook_78 ?_
        refine g_iinc (j := 2) C [(5, .int (v5 + 1)), (3, .long r12), (0, .ref (A 0))] F.2.2.2.1 rfl rfl (by decide) rfl dX11_withOutlook_79 ?_
        refine g_goto C 61 (by decide) dX11_withOutlook_82 ?_
        refine g_eql (lv' := [(0, .ref (A 0)), (3, .long r12), (5, .int (v5 + 1))]) [2, 1, 0] rfl ?_
        exact ih σ11 r12 (v5 + 1) hw
  have J32 : ∀ (n : Nat) (σ : St) (v3 : Int64) (v5 : Int32), wX11_withOutlook_32 Φ n σ v3 v5 → GW κ 0 0 (gW cy A σ) 32 [(0, .ref (A 0)), (3, .long v3), (5, .int v5)] [] := by
    intro n
    induction n with
    | zero => intro σ v3 v5 hw; exact hw.elim
    | succ n ih =>
      intro σ v3 v5 hw
      rw [wX11_withOutlook_32] at hw
      refine g_iload C 2 rfl dX11_withOutlook_32 ?_
      refine g_iconst (v := (1 : Int32)) C dX11_withOutlook_34 (by decide) ?_
      refine g_icmp_gt C 58 (by decide) hw dX11_withOutlook_35 (fun hw => ?_) (fun hw => ?_)
      · refine g_iconst (v := (0 : Int32)) C dX11_withOutlook_58 (by decide) ?_
        refine g_istore C [(5, .int (0 : Int32)), (0, .ref (A 0)), (3, .long v3)] F.2.2.2.1 (by decide) rfl dX11_withOutlook_59 ?_
        refine g_eql (lv' := [(0, .ref (A 0)), (3, .long v3), (5, .int (0 : Int32))]) [1, 2, 0] rfl ?_
        obtain ⟨n0, hw⟩ := hw
        exact J61 n0 σ v3 (0 : Int32) hw
      · refine g_lload_n C 1 rfl rfl dX11_withOutlook_38 ?_
        refine g_aload_n C 0 rfl rfl dX11_withOutlook_39 ?_
        refine g_bipush (v := (100 : Int32)) C dX11_withOutlook_40 (by decide) ?_
        refine g_iload C 2 rfl dX11_withOutlook_42 ?_
        refine gc_I C (gr_V (As := [.int (100 : Int32), .int v5]) (rest := [.long v3]) C hK 2 (gd_V wt_574 wt_425 wt_426 wt_1 wt_427) rfl rfl rfl ⟨rfl, hs_X11_soonest⟩ ⟨⟨Nat.le_of_ble_eq_true rfl, Nat.le_of_ble_eq_true rfl⟩, Nat.le_of_ble_eq_true rfl, Nat.le_of_ble_eq_true rfl⟩ rfl 0 (ga_0 cy A _) rfl rfl (Nat.le_of_ble_eq_true rfl) dX11_withOutlook_44 (c_X11_soonest (q_l κ) (q_D κ) cy A hw)) (fun r6 σ5 hw => ?_)
        refine g_i2l C dX11_withOutlook_47 ?_
        refine gc_L C (gr_S (As := [.long v3, .long r6.toInt64]) (rest := []) C hK 2 (gd_S wt_562 wt_563 wt_1 wt_564) rfl rfl rfl hs_X11_mixed ⟨⟨Nat.le_of_ble_eq_true rfl, Nat.le_of_ble_eq_true rfl⟩, Nat.le_of_ble_eq_true rfl, Nat.le_of_ble_eq_true rfl⟩ rfl rfl (Nat.le_of_ble_eq_true rfl) dX11_withOutlook_48 (c_X11_mixed (q_l κ) (q_D κ) cy A hw)) (fun r8 σ7 hw => ?_)
        refine g_lstore_n C [(3, .long r8), (0, .ref (A 0)), (5, .int v5)] F.2.2.2.1 rfl (by decide) rfl dX11_withOutlook_51 ?_
        refine g_iinc (j := 2) C [(5, .int (v5 + 1)), (3, .long r8), (0, .ref (A 0))] F.2.2.2.1 rfl rfl (by decide) rfl dX11_withOutlook_52 ?_
        refine g_goto C 32 (by decide) dX11_withOutlook_55 ?_
        refine g_eql (lv' := [(0, .ref (A 0)), (3, .long r8), (5, .int (v5 + 1))]) [2, 1, 0] rfl ?_
        exact ih σ7 r8 (v5 + 1) hw
  have J5 : ∀ (n : Nat) (σ : St) (v3 : Int64) (v5 : Int32), wX11_withOutlook_5 Φ n σ v3 v5 → GW κ 0 0 (gW cy A σ) 5 [(0, .ref (A 0)), (3, .long v3), (5, .int v5)] [] := by
    intro n
    induction n with
    | zero => intro σ v3 v5 hw; exact hw.elim
    | succ n ih =>
      intro σ v3 v5 hw
      rw [wX11_withOutlook_5] at hw
      refine g_iload C 2 rfl dX11_withOutlook_5 ?_
      refine g_iconst (v := (1 : Int32)) C dX11_withOutlook_7 (by decide) ?_
      refine g_icmp_gt C 29 (by decide) hw dX11_withOutlook_8 (fun hw => ?_) (fun hw => ?_)
      · refine g_iconst (v := (0 : Int32)) C dX11_withOutlook_29 (by decide) ?_
        refine g_istore C [(5, .int (0 : Int32)), (0, .ref (A 0)), (3, .long v3)] F.2.2.2.1 (by decide) rfl dX11_withOutlook_30 ?_
        refine g_eql (lv' := [(0, .ref (A 0)), (3, .long v3), (5, .int (0 : Int32))]) [1, 2, 0] rfl ?_
        obtain ⟨n0, hw⟩ := hw
        exact J32 n0 σ v3 (0 : Int32) hw
      · refine g_lload_n C 1 rfl rfl dX11_withOutlook_11 ?_
        refine g_aload_n C 0 rfl rfl dX11_withOutlook_12 ?_
        refine g_iload C 2 rfl dX11_withOutlook_13 ?_
        refine gc_I C (gr_V (As := [.int v5]) (rest := [.long v3]) C hK 1 (gd_V wt_573 wt_399 wt_400 wt_1 wt_401) rfl rfl rfl ⟨rfl, hs_X11_even⟩ ⟨⟨Nat.le_of_ble_eq_true rfl, Nat.le_of_ble_eq_true rfl⟩, Nat.le_of_ble_eq_true rfl, Nat.le_of_ble_eq_true rfl⟩ rfl 0 (ga_0 cy A _) rfl rfl (Nat.le_of_ble_eq_true rfl) dX11_withOutlook_15 (c_X11_even (q_l κ) (q_D κ) cy A hw)) (fun r2 σ1 hw => ?_)
        refine g_i2l C dX11_withOutlook_18 ?_
        refine gc_L C (gr_S (As := [.long v3, .long r2.toInt64]) (rest := []) C hK 2 (gd_S wt_562 wt_563 wt_1 wt_564) rfl rfl rfl hs_X11_mixed ⟨⟨Nat.le_of_ble_eq_true rfl, Nat.le_of_ble_eq_true rfl⟩, Nat.le_of_ble_eq_true rfl, Nat.le_of_ble_eq_true rfl⟩ rfl rfl (Nat.le_of_ble_eq_true rfl) dX11_withOutlook_19 (c_X11_mixed (q_l κ) (q_D κ) cy A hw)) (fun r4 σ3 hw => ?_)
        refine g_lstore_n C [(3, .long r4), (0, .ref (A 0)), (5, .int v5)] F.2.2.2.1 rfl (by decide) rfl dX11_withOutlook_22 ?_
        refine g_iinc (j := 2) C [(5, .int (v5 + 1)), (3, .long r4), (0, .ref (A 0))] F.2.2.2.1 rfl rfl (by decide) rfl dX11_withOutlook_23 ?_
        refine g_goto C 5 (by decide) dX11_withOutlook_26 ?_
        refine g_eql (lv' := [(0, .ref (A 0)), (3, .long r4), (5, .int (v5 + 1))]) [2, 1, 0] rfl ?_
        exact ih σ3 r4 (v5 + 1) hw
  unfold wX11_withOutlook at hw
  refine g_lload_n C 1 rfl rfl dX11_withOutlook_0 ?_
  refine g_lstore_n C [(3, .long v1), (0, .ref (A 0)), (1, .long v1)] F.2.2.2.1 rfl (by decide) rfl dX11_withOutlook_1 ?_
  refine g_iconst (v := (0 : Int32)) C dX11_withOutlook_2 (by decide) ?_
  refine g_istore C [(5, .int (0 : Int32)), (3, .long v1), (0, .ref (A 0)), (1, .long v1)] F.2.2.2.1 (by decide) rfl dX11_withOutlook_3 ?_
  refine g_eql (lv' := [(0, .ref (A 0)), (3, .long v1), (5, .int (0 : Int32))]) [2, 1, 0] rfl ?_
  obtain ⟨n0, hw⟩ := hw
  exact J5 n0 σ v1 (0 : Int32) hw
set_option maxHeartbeats 4000000 in
set_option maxRecDepth 100000 in
theorem c_X11_withThings (l : Launch) (D : va_G) (cy : Nat → ClassId) (A : Nat → Nat) {σ : St} {v1 : Int64} {Φ : Int64 → St → Prop} (hw : wX11_withThings σ v1 Φ) : CtL l yX11_withThings (.code yX11_withThings cX11_withThings 7 (some .long) :: gL) rm_X11_withThings 0 0 [.ref (A 0), .long v1] D cy A σ Φ := by
  refine ct_any (fun sz => va_Ql Φ (HE D cy A (gZ cy A σ sz)) (gZ cy A σ sz)) (by decide +kernel) rfl rfl [(0, .ref (A 0)), (1, .long v1)] rfl (Nat.le_of_ble_eq_true rfl) ?_
  intro κ hκl hnm C hK sz F
  subst hκl
  have J20 : ∀ (K5 : St → Int64 → Int32 → Prop) (_ : ∀ (σ : St) (v3 : Int64) (v5 : Int32), K5 σ v3 v5 → GW κ 0 0 (gW cy A σ) 5 [(0, .ref (A 0)), (3, .long v3), (5, .int v5)] []), ∀ (n : Nat) (σ : St) (v3 : Int64) (v5 : Int32) (v6 : Int32), wX11_withThings_20 K5 Φ n σ v3 v5 v6 → GW κ 0 0 (gW cy A σ) 20 [(0, .ref (A 0)), (3, .long v3), (5, .int v5), (6, .int v6)] [] := by
    intro K5 hK5 n
    induction n with
    | zero => intro σ v3 v5 v6 hw; exact hw.elim
    | succ n ih =>
      intro σ v3 v5 v6 hw
      rw [wX11_withThings_20] at hw
      refine g_iload C 3 rfl dX11_withThings_20 ?_
      refine g_iconst (v := (4 : Int32)) C dX11_withThings_22 (by decide) ?_
      refine g_icmp_gt C 46 (by decide) hw dX11_withThings_23 (fun hw => ?_) (fun hw => ?_)
      · refine g_iinc (j := 2) C [(5, .int (v5 + 1)), (0, .ref (A 0)), (3, .long v3), (6, .int v6)] F.2.2.2.1 rfl rfl (by decide) rfl dX11_withThings_46 ?_
        refine g_goto C 5 (by decide) dX11_withThings_49 ?_
        refine g_eql (lv' := [(0, .ref (A 0)), (3, .long v3), (5, .int (v5 + 1))]) [1, 2, 0] rfl ?_
        exact hK5 σ v3 (v5 + 1) hw
      · refine g_lload_n C 1 rfl rfl dX11_withThings_26 ?_
        refine g_aload_n C 0 rfl rfl dX11_withThings_27 ?_
        refine g_iload C 2 rfl dX11_withThings_28 ?_
        refine g_iload C 3 rfl dX11_withThings_30 ?_
        refine gc_I C (gr_V (As := [.int v5, .int v6]) (rest := [.long v3]) C hK 2 (gd_V wt_569 wt_310 wt_311 wt_1 wt_312) rfl rfl rfl ⟨rfl, hs_X11_about⟩ ⟨⟨Nat.le_of_ble_eq_true rfl, Nat.le_of_ble_eq_true rfl⟩, Nat.le_of_ble_eq_true rfl, Nat.le_of_ble_eq_true rfl⟩ rfl 0 (ga_0 cy A _) rfl rfl (Nat.le_of_ble_eq_true rfl) dX11_withThings_32 (c_X11_about (q_l κ) (q_D κ) cy A hw)) (fun r2 σ1 hw => ?_)
        refine g_i2l C dX11_withThings_35 ?_
        refine gc_L C (gr_S (As := [.long v3, .long r2.toInt64]) (rest := []) C hK 2 (gd_S wt_562 wt_563 wt_1 wt_564) rfl rfl rfl hs_X11_mixed ⟨⟨Nat.le_of_ble_eq_true rfl, Nat.le_of_ble_eq_true rfl⟩, Nat.le_of_ble_eq_true rfl, Nat.le_of_ble_eq_true rfl⟩ rfl rfl (Nat.le_of_ble_eq_true rfl) dX11_withThings_36 (c_X11_mixed (q_l κ) (q_D κ) cy A hw)) (fun r4 σ3 hw => ?_)
        refine g_lstore_n C [(3, .long r4), (0, .ref (A 0)), (5, .int v5), (6, .int v6)] F.2.2.2.1 rfl (by decide) rfl dX11_withThings_39 ?_
        refine g_iinc (j := 3) C [(6, .int (v6 + 1)), (3, .long r4), (0, .ref (A 0)), (5, .int v5)] F.2.2.2.1 rfl rfl (by decide) rfl dX11_withThings_40 ?_
        refine g_goto C 20 (by decide) dX11_withThings_43 ?_
        refine g_eql (lv' := [(0, .ref (A 0)), (3, .long r4), (5, .int v5), (6, .int (v6 + 1))]) [2, 1, 3, 0] rfl ?_
        exact ih σ3 r4 v5 (v6 + 1) hw
  have J5 : ∀ (n : Nat) (σ : St) (v3 : Int64) (v5 : Int32), wX11_withThings_5 Φ n σ v3 v5 → GW κ 0 0 (gW cy A σ) 5 [(0, .ref (A 0)), (3, .long v3), (5, .int v5)] [] := by
    intro n
    induction n with
    | zero => intro σ v3 v5 hw; exact hw.elim
    | succ n ih =>
      intro σ v3 v5 hw
      rw [wX11_withThings_5] at hw
      refine g_iload C 2 rfl dX11_withThings_5 ?_
      refine g_aload_n C 0 rfl rfl dX11_withThings_7 ?_
      refine g_get C hK inX11 rfl 0 (ga_0 cy A _) 2 (by decide) (fun _ h => h) wt_105 rfl dX11_withThings_8 ?_
      refine g_get C hK inX6 rfl 4 (ga_4 cy A _) 2 (by decide) (fun _ h => h) wt_66 rfl dX11_withThings_11 ?_
      refine g_icmp_ge C 52 (by decide) hw dX11_withThings_14 (fun hw => ?_) (fun hw => ?_)
      · refine g_lload_n C 1 rfl rfl dX11_withThings_52 ?_
        exact gq_L C F (by decide) (by decide) hw dX11_withThings_53
      · refine g_iconst (v := (0 : Int32)) C dX11_withThings_17 (by decide) ?_
        refine g_istore C [(6, .int (0 : Int32)), (0, .ref (A 0)), (3, .long v3), (5, .int v5)] F.2.2.2.1 (by decide) rfl dX11_withThings_18 ?_
        refine g_eql (lv' := [(0, .ref (A 0)), (3, .long v3), (5, .int v5), (6, .int (0 : Int32))]) [1, 2, 3, 0] rfl ?_
        obtain ⟨n0, hw⟩ := hw
        exact J20 _ ih n0 σ v3 v5 (0 : Int32) hw
  unfold wX11_withThings at hw
  refine g_lload_n C 1 rfl rfl dX11_withThings_0 ?_
  refine g_lstore_n C [(3, .long v1), (0, .ref (A 0)), (1, .long v1)] F.2.2.2.1 rfl (by decide) rfl dX11_withThings_1 ?_
  refine g_iconst (v := (0 : Int32)) C dX11_withThings_2 (by decide) ?_
  refine g_istore C [(5, .int (0 : Int32)), (3, .long v1), (0, .ref (A 0)), (1, .long v1)] F.2.2.2.1 (by decide) rfl dX11_withThings_3 ?_
  refine g_eql (lv' := [(0, .ref (A 0)), (3, .long v1), (5, .int (0 : Int32))]) [2, 1, 0] rfl ?_
  obtain ⟨n0, hw⟩ := hw
  exact J5 n0 σ v1 (0 : Int32) hw
set_option maxHeartbeats 4000000 in
set_option maxRecDepth 100000 in
theorem c_X11_digest (l : Launch) (D : va_G) (cy : Nat → ClassId) (A : Nat → Nat) {σ : St} {Φ : Int64 → St → Prop} (hw : wX11_digest σ Φ) : CtL l yX11_digest (.code yX11_digest cX11_digest 4 (some .long) :: gL) rm_X11_digest 0 0 [.ref (A 0)] D cy A σ Φ := by
  refine ct_any (fun sz => va_Ql Φ (HE D cy A (gZ cy A σ sz)) (gZ cy A σ sz)) (by decide +kernel) rfl rfl [(0, .ref (A 0))] rfl (Nat.le_of_ble_eq_true rfl) ?_
  intro κ hκl hnm C hK sz F
  subst hκl
  have J101 : ∀ (n : Nat) (σ : St) (v1 : Int64) (v3 : Int32), wX11_digest_101 Φ n σ v1 v3 → GW κ 0 0 (gW cy A σ) 101 [(0, .ref (A 0)), (1, .long v1), (3, .int v3)] [] := by
    intro n
    induction n with
    | zero => intro σ v1 v3 hw; exact hw.elim
    | succ n ih =>
      intro σ v1 v3 hw
      rw [wX11_digest_101] at hw
      refine g_iload_n C 2 rfl rfl dX11_digest_101 ?_
      refine g_bipush (v := (13 : Int32)) C dX11_digest_102 (by decide) ?_
      refine g_icmp_ge C 124 (by decide) hw dX11_digest_104 (fun hw => ?_) (fun hw => ?_)
      · refine g_lload_n C 1 rfl rfl dX11_digest_124 ?_
        exact gq_L C F (by decide) (by decide) hw dX11_digest_125
      · refine g_lload_n C 1 rfl rfl dX11_digest_107 ?_
        refine g_aload_n C 0 rfl rfl dX11_digest_108 ?_
        refine g_iload_n C 2 rfl rfl dX11_digest_109 ?_
        refine gc_I C (gr_V (As := [.int v3]) (rest := [.long v1]) C hK 1 (gd_V wt_578 wt_550 wt_551 wt_1 wt_552) rfl rfl rfl ⟨rfl, hs_X11_count⟩ ⟨⟨Nat.le_of_ble_eq_true rfl, Nat.le_of_ble_eq_true rfl⟩, Nat.le_of_ble_eq_true rfl, Nat.le_of_ble_eq_true rfl⟩ rfl 0 (ga_0 cy A _) rfl rfl (Nat.le_of_ble_eq_true rfl) dX11_digest_110 (c_X11_count (q_l κ) (q_D κ) cy A hw)) (fun r20 σ19 hw => ?_)
        refine g_i2l C dX11_digest_113 ?_
        refine gc_L C (gr_S (As := [.long v1, .long r20.toInt64]) (rest := []) C hK 2 (gd_S wt_562 wt_563 wt_1 wt_564) rfl rfl rfl hs_X11_mixed ⟨⟨Nat.le_of_ble_eq_true rfl, Nat.le_of_ble_eq_true rfl⟩, Nat.le_of_ble_eq_true rfl, Nat.le_of_ble_eq_true rfl⟩ rfl rfl (Nat.le_of_ble_eq_true rfl) dX11_digest_114 (c_X11_mixed (q_l κ) (q_D κ) cy A hw)) (fun r22 σ21 hw => ?_)
        refine g_lstore_n C [(1, .long r22), (0, .ref (A 0)), (3, .int v3)] F.2.2.2.1 rfl (by decide) rfl dX11_digest_117 ?_
        refine g_iinc (j := 2) C [(3, .int (v3 + 1)), (1, .long r22), (0, .ref (A 0))] F.2.2.2.1 rfl rfl (by decide) rfl dX11_digest_118 ?_
        refine g_goto C 101 (by decide) dX11_digest_121 ?_
        refine g_eql (lv' := [(0, .ref (A 0)), (1, .long r22), (3, .int (v3 + 1))]) [2, 1, 0] rfl ?_
        exact ih σ21 r22 (v3 + 1) hw
  have J68 : ∀ (n : Nat) (σ : St) (v1 : Int64) (v3 : Int32), wX11_digest_68 Φ n σ v1 v3 → GW κ 0 0 (gW cy A σ) 68 [(0, .ref (A 0)), (1, .long v1), (3, .int v3)] [] := by
    intro n
    induction n with
    | zero => intro σ v1 v3 hw; exact hw.elim
    | succ n ih =>
      intro σ v1 v3 hw
      rw [wX11_digest_68] at hw
      refine g_iload_n C 2 rfl rfl dX11_digest_68 ?_
      refine g_aload_n C 0 rfl rfl dX11_digest_69 ?_
      refine g_get C hK inX11 rfl 0 (ga_0 cy A _) 0 (by decide) (fun _ h => h) wt_103 rfl dX11_digest_70 ?_
      refine g_get C hK inX7 rfl 1 (ga_1 cy A _) 1 (by decide) (fun _ h => h) wt_30 rfl dX11_digest_73 ?_
      refine g_icmp_ge C 99 (by decide) hw dX11_digest_76 (fun hw => ?_) (fun hw => ?_)
      · refine g_iconst (v := (0 : Int32)) C dX11_digest_99 (by decide) ?_
        refine g_istore_n C [(3, .int (0 : Int32)), (0, .ref (A 0)), (1, .long v1)] F.2.2.2.1 rfl (by decide) rfl dX11_digest_100 ?_
        refine g_eql (lv' := [(0, .ref (A 0)), (1, .long v1), (3, .int (0 : Int32))]) [1, 2, 0] rfl ?_
        obtain ⟨n0, hw⟩ := hw
        exact J101 n0 σ v1 (0 : Int32) hw
      · refine g_lload_n C 1 rfl rfl dX11_digest_79 ?_
        refine g_aload_n C 0 rfl rfl dX11_digest_80 ?_
        refine g_get C hK inX11 rfl 0 (ga_0 cy A _) 0 (by decide) (fun _ h => h) wt_103 rfl dX11_digest_81 ?_
        refine g_iload_n C 2 rfl rfl dX11_digest_84 ?_
        refine gc_I C (gr_V (As := [.int v3]) (rest := [.long v1]) C hK 1 (gd_V wt_577 wt_154 wt_155 wt_2 wt_156) rfl rfl rfl ⟨rfl, hs_X7_at⟩ ⟨⟨Nat.le_of_ble_eq_true rfl, Nat.le_of_ble_eq_true rfl⟩, Nat.le_of_ble_eq_true rfl, Nat.le_of_ble_eq_true rfl⟩ rfl 1 (ga_1 cy A _) rfl rfl (Nat.le_of_ble_eq_true rfl) dX11_digest_85 (c_X7_at (q_l κ) (q_D κ) cy A hw)) (fun r16 σ15 hw => ?_)
        refine g_i2l C dX11_digest_88 ?_
        refine gc_L C (gr_S (As := [.long v1, .long r16.toInt64]) (rest := []) C hK 2 (gd_S wt_562 wt_563 wt_1 wt_564) rfl rfl rfl hs_X11_mixed ⟨⟨Nat.le_of_ble_eq_true rfl, Nat.le_of_ble_eq_true rfl⟩, Nat.le_of_ble_eq_true rfl, Nat.le_of_ble_eq_true rfl⟩ rfl rfl (Nat.le_of_ble_eq_true rfl) dX11_digest_89 (c_X11_mixed (q_l κ) (q_D κ) cy A hw)) (fun r18 σ17 hw => ?_)
        refine g_lstore_n C [(1, .long r18), (0, .ref (A 0)), (3, .int v3)] F.2.2.2.1 rfl (by decide) rfl dX11_digest_92 ?_
        refine g_iinc (j := 2) C [(3, .int (v3 + 1)), (1, .long r18), (0, .ref (A 0))] F.2.2.2.1 rfl rfl (by decide) rfl dX11_digest_93 ?_
        refine g_goto C 68 (by decide) dX11_digest_96 ?_
        refine g_eql (lv' := [(0, .ref (A 0)), (1, .long r18), (3, .int (v3 + 1))]) [2, 1, 0] rfl ?_
        exact ih σ17 r18 (v3 + 1) hw
  have J44 : ∀ (n : Nat) (σ : St) (v1 : Int64) (v3 : Int32), wX11_digest_44 Φ n σ v1 v3 → GW κ 0 0 (gW cy A σ) 44 [(0, .ref (A 0)), (1, .long v1), (3, .int v3)] [] := by
    intro n
    induction n with
    | zero => intro σ v1 v3 hw; exact hw.elim
    | succ n ih =>
      intro σ v1 v3 hw
      rw [wX11_digest_44] at hw
      refine g_iload_n C 2 rfl rfl dX11_digest_44 ?_
      refine g_iconst (v := (2 : Int32)) C dX11_digest_45 (by decide) ?_
      refine g_icmp_gt C 66 (by decide) hw dX11_digest_46 (fun hw => ?_) (fun hw => ?_)
      · refine g_iconst (v := (0 : Int32)) C dX11_digest_66 (by decide) ?_
        refine g_istore_n C [(3, .int (0 : Int32)), (0, .ref (A 0)), (1, .long v1)] F.2.2.2.1 rfl (by decide) rfl dX11_digest_67 ?_
        refine g_eql (lv' := [(0, .ref (A 0)), (1, .long v1), (3, .int (0 : Int32))]) [1, 2, 0] rfl ?_
        obtain ⟨n0, hw⟩ := hw
        exact J68 n0 σ v1 (0 : Int32) hw
      · refine g_lload_n C 1 rfl rfl dX11_digest_49 ?_
        refine g_aload_n C 0 rfl rfl dX11_digest_50 ?_
        refine g_iload_n C 2 rfl rfl dX11_digest_51 ?_
        refine gc_I C (gr_V (As := [.int v3]) (rest := [.long v1]) C hK 1 (gd_V wt_576 wt_480 wt_481 wt_1 wt_482) rfl rfl rfl ⟨rfl, hs_X11_fits⟩ ⟨⟨Nat.le_of_ble_eq_true rfl, Nat.le_of_ble_eq_true rfl⟩, Nat.le_of_ble_eq_true rfl, Nat.le_of_ble_eq_true rfl⟩ rfl 0 (ga_0 cy A _) rfl rfl (Nat.le_of_ble_eq_true rfl) dX11_digest_52 (c_X11_fits (q_l κ) (q_D κ) cy A hw)) (fun r12 σ11 hw => ?_)
        refine g_i2l C dX11_digest_55 ?_
        refine gc_L C (gr_S (As := [.long v1, .long r12.toInt64]) (rest := []) C hK 2 (gd_S wt_562 wt_563 wt_1 wt_564) rfl rfl rfl hs_X11_mixed ⟨⟨Nat.le_of_ble_eq_true rfl, Nat.le_of_ble_eq_true rfl⟩, Nat.le_of_ble_eq_true rfl, Nat.le_of_ble_eq_true rfl⟩ rfl rfl (Nat.le_of_ble_eq_true rfl) dX11_digest_56 (c_X11_mixed (q_l κ) (q_D κ) cy A hw)) (fun r14 σ13 hw => ?_)
        refine g_lstore_n C [(1, .long r14), (0, .ref (A 0)), (3, .int v3)] F.2.2.2.1 rfl (by decide) rfl dX11_digest_59 ?_
        refine g_iinc (j := 2) C [(3, .int (v3 + 1)), (1, .long r14), (0, .ref (A 0))] F.2.2.2.1 rfl rfl (by decide) rfl dX11_digest_60 ?_
        refine g_goto C 44 (by decide) dX11_digest_63 ?_
        refine g_eql (lv' := [(0, .ref (A 0)), (1, .long r14), (3, .int (v3 + 1))]) [2, 1, 0] rfl ?_
        exact ih σ13 r14 (v3 + 1) hw
  have J42 : ∀ (σ : St) (v1 : Int64), wX11_digest_42 Φ σ v1 → GW κ 0 0 (gW cy A σ) 42 [(0, .ref (A 0)), (1, .long v1)] [] := by
    intro σ v1 hw
    unfold wX11_digest_42 at hw
    refine g_iconst (v := (0 : Int32)) C dX11_digest_42 (by decide) ?_
    refine g_istore_n C [(3, .int (0 : Int32)), (0, .ref (A 0)), (1, .long v1)] F.2.2.2.1 rfl (by decide) rfl dX11_digest_43 ?_
    refine g_eql (lv' := [(0, .ref (A 0)), (1, .long v1), (3, .int (0 : Int32))]) [1, 2, 0] rfl ?_
    obtain ⟨n0, hw⟩ := hw
    exact J44 n0 σ v1 (0 : Int32) hw
  have J20 : ∀ (σ : St) (v1 : Int64), wX11_digest_20 Φ σ v1 → GW κ 0 0 (gW cy A σ) 20 [(0, .ref (A 0)), (1, .long v1)] [] := by
    intro σ v1 hw
    unfold wX11_digest_20 at hw
    refine g_aload_n C 0 rfl rfl dX11_digest_20 ?_
    refine g_lload_n C 1 rfl rfl dX11_digest_21 ?_
    refine gc_L C (gr_V (As := [.long v1]) (rest := []) C hK 1 (gd_V wt_566 wt_567 wt_842 wt_1 wt_568) rfl rfl rfl ⟨rfl, hs_X11_withThings⟩ ⟨⟨Nat.le_of_ble_eq_true rfl, Nat.le_of_ble_eq_true rfl⟩, Nat.le_of_ble_eq_true rfl, Nat.le_of_ble_eq_true rfl⟩ rfl 0 (ga_0 cy A _) rfl rfl (Nat.le_of_ble_eq_true rfl) dX11_digest_22 (c_X11_withThings (q_l κ) (q_D κ) cy A hw)) (fun r6 σ5 hw => ?_)
    refine g_lstore_n C [(1, .long r6), (0, .ref (A 0))] F.2.2.2.1 rfl (by decide) rfl dX11_digest_25 ?_
    refine g_aload_n C 1 rfl rfl dX11_digest_26 ?_
    refine g_get C hK inX11 rfl 0 (ga_0 cy A _) 1 (by decide) (fun _ h => h) wt_104 rfl dX11_digest_27 ?_
    refine gc_I C (gr_V (As := []) (rest := []) C hK 0 (gd_V wt_352 wt_353 wt_354 wt_3 wt_355) rfl rfl rfl ⟨rfl, hs_X0_isWhole⟩ ⟨⟨Nat.le_of_ble_eq_true rfl, Nat.le_of_ble_eq_true rfl⟩, Nat.le_of_ble_eq_true rfl, Nat.le_of_ble_eq_true rfl⟩ rfl 3 (ga_3 cy A _) rfl rfl (Nat.le_of_ble_eq_true rfl) dX11_digest_30 (c_X0_isWhole (q_l κ) (q_D κ) cy A hC3 hw)) (fun r8 σ7 hw => ?_)
    refine g_if_eq C 42 (by decide) hw dX11_digest_33 (fun hw => ?_) (fun hw => ?_)
    · refine g_eql (lv' := [(0, .ref (A 0)), (1, .long r6)]) [1, 0] rfl ?_
      exact J42 σ7 r6 hw
    · refine g_aload_n C 1 rfl rfl dX11_digest_36 ?_
      refine g_lload_n C 0 rfl rfl dX11_digest_37 ?_
      refine gc_L C (gr_V (As := [.long r6]) (rest := []) C hK 1 (gd_V wt_570 wt_571 wt_843 wt_1 wt_572) rfl rfl rfl ⟨rfl, hs_X11_withOutlook⟩ ⟨⟨Nat.le_of_ble_eq_true rfl, Nat.le_of_ble_eq_true rfl⟩, Nat.le_of_ble_eq_true rfl, Nat.le_of_ble_eq_true rfl⟩ rfl 0 (ga_0 cy A _) rfl rfl (Nat.le_of_ble_eq_true rfl) dX11_digest_38 (c_X11_withOutlook (q_l κ) (q_D κ) cy A hw)) (fun r10 σ9 hw => ?_)
      refine g_lstore_n C [(1, .long r10), (0, .ref (A 0))] F.2.2.2.1 rfl (by decide) rfl dX11_digest_41 ?_
      refine g_eql (lv' := [(0, .ref (A 0)), (1, .long r10)]) [1, 0] rfl ?_
      exact J42 σ9 r10 hw
  unfold wX11_digest at hw
  refine g_ldc2 (v := (683 : Int64)) C dX11_digest_0 wt_557 ?_
  refine g_lstore_n C [(1, .long (683 : Int64)), (0, .ref (A 0))] F.2.2.2.1 rfl (by decide) rfl dX11_digest_3 ?_
  refine g_aload_n C 1 rfl rfl dX11_digest_4 ?_
  refine g_get C hK inX11 rfl 0 (ga_0 cy A _) 1 (by decide) (fun _ h => h) wt_104 rfl dX11_digest_5 ?_
  refine gc_I C (gr_V (As := []) (rest := []) C hK 0 (gd_V wt_192 wt_193 wt_194 wt_3 wt_195) rfl rfl rfl ⟨rfl, hs_X0_isThere⟩ ⟨⟨Nat.le_of_ble_eq_true rfl, Nat.le_of_ble_eq_true rfl⟩, Nat.le_of_ble_eq_true rfl, Nat.le_of_ble_eq_true rfl⟩ rfl 3 (ga_3 cy A _) rfl rfl (Nat.le_of_ble_eq_true rfl) dX11_digest_8 (c_X0_isThere (q_l κ) (q_D κ) cy A hC3 hw)) (fun r2 σ1 hw => ?_)
  refine g_if_eq C 20 (by decide) hw dX11_digest_11 (fun hw => ?_) (fun hw => ?_)
  · refine g_eql (lv' := [(0, .ref (A 0)), (1, .long (683 : Int64))]) [1, 0] rfl ?_
    exact J20 σ1 (683 : Int64) hw
  · refine g_aload_n C 1 rfl rfl dX11_digest_14 ?_
    refine g_lload_n C 0 rfl rfl dX11_digest_15 ?_
    refine gc_L C (gr_V (As := [.long (683 : Int64)]) (rest := []) C hK 1 (gd_V wt_558 wt_559 wt_841 wt_1 wt_560) rfl rfl rfl ⟨rfl, hs_X11_withCabins⟩ ⟨⟨Nat.le_of_ble_eq_true rfl, Nat.le_of_ble_eq_true rfl⟩, Nat.le_of_ble_eq_true rfl, Nat.le_of_ble_eq_true rfl⟩ rfl 0 (ga_0 cy A _) rfl rfl (Nat.le_of_ble_eq_true rfl) dX11_digest_16 (c_X11_withCabins (q_l κ) (q_D κ) cy A hw)) (fun r4 σ3 hw => ?_)
    refine g_lstore_n C [(1, .long r4), (0, .ref (A 0))] F.2.2.2.1 rfl (by decide) rfl dX11_digest_19 ?_
    refine g_eql (lv' := [(0, .ref (A 0)), (1, .long r4)]) [1, 0] rfl ?_
    exact J20 σ3 r4 hw
set_option maxHeartbeats 4000000 in
set_option maxRecDepth 100000 in
theorem c_X12_within (l : Launch) (D : va_G) (cy : Nat → ClassId) (A : Nat → Nat) {σ : St} {v0 : Int32} {v1 : Int32} {v2 : Int32} {Φ : Int32 → St → Prop} (hw : wX12_within σ v0 v1 v2 Φ) : CtI l yX12_within (.code yX12_within cX12_within 3 (some .boolean) :: gL) rm_X12_within 0 0 [.int v0, .int v1, .int v2] D cy A σ Φ := by
  refine ct_any (fun sz => va_Qi Φ (HE D cy A (gZ cy A σ sz)) (gZ cy A σ sz)) (by decide +kernel) rfl rfl [(0, .int v0), (1, .int v1), (2, .int v2)] rfl (Nat.le_of_ble_eq_true rfl) ?_
  intro κ hκl hnm C hK sz F
  subst hκl
  unfold wX12_within at hw
  refine g_iload_n C 0 rfl rfl dX12_within_0 ?_
  refine g_iload_n C 1 rfl rfl dX12_within_1 ?_
  refine g_icmp_lt C 14 (by decide) hw dX12_within_2 (fun hw => ?_) (fun hw => ?_)
  · refine g_iconst (v := (0 : Int32)) C dX12_within_14 (by decide) ?_
    exact gq_Z C F (by decide) (by decide) hw dX12_within_15
  · refine g_iload_n C 0 rfl rfl dX12_within_5 ?_
    refine g_iload_n C 2 rfl rfl dX12_within_6 ?_
    refine g_icmp_gt C 14 (by decide) hw dX12_within_7 (fun hw => ?_) (fun hw => ?_)
    · refine g_iconst (v := (0 : Int32)) C dX12_within_14 (by decide) ?_
      exact gq_Z C F (by decide) (by decide) hw dX12_within_15
    · refine g_iconst (v := (1 : Int32)) C dX12_within_10 (by decide) ?_
      refine g_goto C 15 (by decide) dX12_within_11 ?_
      exact gq_Z C F (by decide) (by decide) hw dX12_within_15
set_option maxHeartbeats 4000000 in
set_option maxRecDepth 100000 in
theorem c_X12_has (l : Launch) (D : va_G) (cy : Nat → ClassId) (A : Nat → Nat) {σ : St} {v0 : Int32} {v1 : Int32} {Φ : Int32 → St → Prop} (hw : wX12_has σ v0 v1 Φ) : CtI l yX12_has (.code yX12_has cX12_has 2 (some .boolean) :: gL) rm_X12_has 0 0 [.int v0, .int v1] D cy A σ Φ := by
  refine ct_any (fun sz => va_Qi Φ (HE D cy A (gZ cy A σ sz)) (gZ cy A σ sz)) (by decide +kernel) rfl rfl [(0, .int v0), (1, .int v1)] rfl (Nat.le_of_ble_eq_true rfl) ?_
  intro κ hκl hnm C hK sz F
  subst hκl
  unfold wX12_has at hw
  refine g_iload_n C 0 rfl rfl dX12_has_0 ?_
  refine g_iload_n C 1 rfl rfl dX12_has_1 ?_
  refine g_ishr C dX12_has_2 ?_
  refine g_iconst (v := (1 : Int32)) C dX12_has_3 (by decide) ?_
  refine g_iand C dX12_has_4 ?_
  refine g_iconst (v := (1 : Int32)) C dX12_has_5 (by decide) ?_
  refine g_icmp_ne C 13 (by decide) hw dX12_has_6 (fun hw => ?_) (fun hw => ?_)
  · refine g_iconst (v := (0 : Int32)) C dX12_has_13 (by decide) ?_
    exact gq_Z C F (by decide) (by decide) hw dX12_has_14
  · refine g_iconst (v := (1 : Int32)) C dX12_has_9 (by decide) ?_
    refine g_goto C 14 (by decide) dX12_has_10 ?_
    exact gq_Z C F (by decide) (by decide) hw dX12_has_14
set_option maxHeartbeats 4000000 in
set_option maxRecDepth 100000 in
theorem c_X12_letters (l : Launch) (D : va_G) (cy : Nat → ClassId) (A : Nat → Nat) {σ : St} {v1 : Int64} {Φ : Int32 → St → Prop} (hw : wX12_letters σ v1 Φ) : CtI l yX12_letters (.code yX12_letters cX12_letters 7 (some .int) :: gL) rm_X12_letters 0 0 [.ref (A 18), .long v1] D cy A σ Φ := by
  refine ct_any (fun sz => va_Qi Φ (HE D cy A (gZ cy A σ sz)) (gZ cy A σ sz)) (by decide +kernel) rfl rfl [(0, .ref (A 18)), (1, .long v1)] rfl (Nat.le_of_ble_eq_true rfl) ?_
  intro κ hκl hnm C hK sz F
  subst hκl
  have J102 : ∀ (n : Nat) (σ : St) (v1 : Int64) (v3 : Int32) (v5 : Int32), wX12_letters_102 Φ n σ v1 v3 v5 → GW κ 0 0 (gW cy A σ) 102 [(0, .ref (A 18)), (1, .long v1), (3, .int v3), (5, .int v5)] [] := by
    intro n
    induction n with
    | zero => intro σ v1 v3 v5 hw; exact hw.elim
    | succ n ih =>
      intro σ v1 v3 v5 hw
      rw [wX12_letters_102] at hw
      refine g_iload C 3 rfl dX12_letters_102 ?_
      refine g_iload_n C 2 rfl rfl dX12_letters_104 ?_
      refine g_icmp_ge C 135 (by decide) hw dX12_letters_105 (fun hw => ?_) (fun hw => ?_)
      · refine g_aload_n C 0 rfl rfl dX12_letters_135 ?_
        refine g_dup C rfl dX12_letters_136 ?_
        refine g_get C hK inX12 rfl 18 (ga_18 cy A _) 17 (by decide) (fun _ h => h) wt_602 rfl dX12_letters_137 ?_
        refine g_iload_n C 2 rfl rfl dX12_letters_140 ?_
        refine g_iadd C dX12_letters_141 ?_
        refine g_put (v := .int ((σ.1 18 17) + v3)) C hK inX12 rfl tyX12 tyX12_ok nmX12 18 (ga_18 cy A _) 17 (by decide) (fun _ h => h) wt_602 rfl rfl rfl (Nat.le_of_ble_eq_true rfl) (gp_18_17 cy A _ _) dX12_letters_142 ?_
        refine g_aload_n C 0 rfl rfl dX12_letters_145 ?_
        refine g_get C hK inX12 rfl 18 (ga_18 cy A _) 17 (by decide) (fun _ h => h) wt_602 rfl dX12_letters_146 ?_
        exact gq_I C F (by decide) (by decide) hw dX12_letters_149
      · refine g_aload_n C 0 rfl rfl dX12_letters_108 ?_
        refine g_get C hK inX12 rfl 18 (ga_18 cy A _) 18 (by decide) (fun _ h => h) wt_603 rfl dX12_letters_109 ?_
        refine g_aload_n C 0 rfl rfl dX12_letters_112 ?_
        refine g_get C hK inX12 rfl 18 (ga_18 cy A _) 17 (by decide) (fun _ h => h) wt_602 rfl dX12_letters_113 ?_
        refine g_iload C 3 rfl dX12_letters_116 ?_
        refine g_iadd C dX12_letters_118 ?_
        refine g_lload_n C 1 rfl rfl dX12_letters_119 ?_
        refine g_bipush (v := (8 : Int32)) C dX12_letters_120 (by decide) ?_
        refine g_iload C 3 rfl dX12_letters_122 ?_
        refine g_imul C dX12_letters_124 ?_
        refine g_lshr C dX12_letters_125 ?_
        refine g_l2i C dX12_letters_126 ?_
        refine g_i2b C dX12_letters_127 ?_
        refine g_bast C hK 25 0 (ga_25 cy A _) rfl hw.1 (gs_25 cy A _ _ _) dX12_letters_128 ?_
        replace hw := hw.2
        refine g_iinc (j := 3) C [(5, .int (v5 + 1)), (0, .ref (A 18)), (1, .long v1), (3, .int v3)] F.2.2.2.1 rfl rfl (by decide) rfl dX12_letters_129 ?_
        refine g_goto C 102 (by decide) dX12_letters_132 ?_
        refine g_eql (lv' := [(0, .ref (A 18)), (1, .long v1), (3, .int v3), (5, .int (v5 + 1))]) [1, 2, 3, 0] rfl ?_
        exact ih (sV σ 25 ((σ.1 18 17) + v5).toNatClampNeg (vp_nar .byte (v1 >>> (((8 : Int32) * v5).toInt64 &&& 63)).toInt32.toInt8.toInt32)) v1 v3 (v5 + 1) hw
  have J77 : ∀ (K8 : St → Int64 → Int32 → Int32 → Int32 → Prop) (_ : ∀ (σ : St) (v1 : Int64) (v3 : Int32) (v4 : Int32) (v5 : Int32), K8 σ v1 v3 v4 v5 → GW κ 0 0 (gW cy A σ) 8 [(0, .ref (A 18)), (1, .long v1), (3, .int v3), (4, .int v4), (5, .int v5)] []), ∀ (σ : St) (v1 : Int64) (v4 : Int32) (v5 : Int32) (s0 : Int32) (s1 : Int32), wX12_letters_77 K8 Φ σ v1 v4 v5 s0 s1 → GW κ 0 0 (gW cy A σ) 77 [(0, .ref (A 18)), (1, .long v1), (4, .int v4), (5, .int v5)] [.int s0, .int s1] := by
    intro K8 hK8 σ v1 v4 v5 s0 s1 hw
    unfold wX12_letters_77 at hw
    refine g_iadd C dX12_letters_77 ?_
    refine g_istore_n C [(3, .int (s1 + s0)), (0, .ref (A 18)), (1, .long v1), (4, .int v4), (5, .int v5)] F.2.2.2.1 rfl (by decide) rfl dX12_letters_78 ?_
    refine g_iinc (j := 4) C [(5, .int (v5 + 1)), (3, .int (s1 + s0)), (0, .ref (A 18)), (1, .long v1), (4, .int v4)] F.2.2.2.1 rfl rfl (by decide) rfl dX12_letters_79 ?_
    refine g_goto C 8 (by decide) dX12_letters_82 ?_
    refine g_eql (lv' := [(0, .ref (A 18)), (1, .long v1), (3, .int (s1 + s0)), (4, .int v4), (5, .int (v5 + 1))]) [2, 3, 1, 4, 0] rfl ?_
    exact hK8 σ v1 (s1 + s0) v4 (v5 + 1) hw
  have J64 : ∀ (K8 : St → Int64 → Int32 → Int32 → Int32 → Prop) (_ : ∀ (σ : St) (v1 : Int64) (v3 : Int32) (v4 : Int32) (v5 : Int32), K8 σ v1 v3 v4 v5 → GW κ 0 0 (gW cy A σ) 8 [(0, .ref (A 18)), (1, .long v1), (3, .int v3), (4, .int v4), (5, .int v5)] []), ∀ (σ : St) (v1 : Int64) (v3 : Int32) (v5 : Int32) (v6 : Int32) (s0 : Int32), wX12_letters_64 K8 Φ σ v1 v3 v5 v6 s0 → GW κ 0 0 (gW cy A σ) 64 [(0, .ref (A 18)), (1, .long v1), (3, .int v3), (5, .int v5), (6, .int v6)] [.int s0] := by
    intro K8 hK8 σ v1 v3 v5 v6 s0 hw
    unfold wX12_letters_64 at hw
    refine g_istore C [(4, .int s0), (0, .ref (A 18)), (1, .long v1), (3, .int v3), (5, .int v5), (6, .int v6)] F.2.2.2.1 (by decide) rfl dX12_letters_64 ?_
    refine g_iload_n C 3 rfl rfl dX12_letters_66 ?_
    refine g_iload C 5 rfl dX12_letters_67 ?_
    refine g_if_ne C 76 (by decide) hw dX12_letters_69 (fun hw => ?_) (fun hw => ?_)
    · refine g_iconst (v := (1 : Int32)) C dX12_letters_76 (by decide) ?_
      refine g_eql (lv' := [(0, .ref (A 18)), (1, .long v1), (4, .int s0), (5, .int v5)]) [1, 2, 0, 4] rfl ?_
      exact J77 _ hK8 σ v1 s0 v5 (1 : Int32) v3 hw
    · refine g_iconst (v := (0 : Int32)) C dX12_letters_72 (by decide) ?_
      refine g_goto C 77 (by decide) dX12_letters_73 ?_
      refine g_eql (lv' := [(0, .ref (A 18)), (1, .long v1), (4, .int s0), (5, .int v5)]) [1, 2, 0, 4] rfl ?_
      exact J77 _ hK8 σ v1 s0 v5 (0 : Int32) v3 hw
  have J59 : ∀ (K8 : St → Int64 → Int32 → Int32 → Int32 → Prop) (_ : ∀ (σ : St) (v1 : Int64) (v3 : Int32) (v4 : Int32) (v5 : Int32), K8 σ v1 v3 v4 v5 → GW κ 0 0 (gW cy A σ) 8 [(0, .ref (A 18)), (1, .long v1), (3, .int v3), (4, .int v4), (5, .int v5)] []), ∀ (σ : St) (v1 : Int64) (v3 : Int32) (v5 : Int32) (v6 : Int32), wX12_letters_59 K8 Φ σ v1 v3 v5 v6 → GW κ 0 0 (gW cy A σ) 59 [(0, .ref (A 18)), (1, .long v1), (3, .int v3), (5, .int v5), (6, .int v6)] [] := by
    intro K8 hK8 σ v1 v3 v5 v6 hw
    unfold wX12_letters_59 at hw
    refine g_iconst (v := (1 : Int32)) C dX12_letters_59 (by decide) ?_
    refine g_goto C 64 (by decide) dX12_letters_60 ?_
    exact J64 _ hK8 σ v1 v3 v5 v6 (1 : Int32) hw
  have J49 : ∀ (K8 : St → Int64 → Int32 → Int32 → Int32 → Prop) (_ : ∀ (σ : St) (v1 : Int64) (v3 : Int32) (v4 : Int32) (v5 : Int32), K8 σ v1 v3 v4 v5 → GW κ 0 0 (gW cy A σ) 8 [(0, .ref (A 18)), (1, .long v1), (3, .int v3), (4, .int v4), (5, .int v5)] []), ∀ (σ : St) (v1 : Int64) (v3 : Int32) (v4 : Int32) (v5 : Int32) (v6 : Int32), wX12_letters_49 K8 Φ σ v1 v3 v4 v5 v6 → GW κ 0 0 (gW cy A σ) 49 [(0, .ref (A 18)), (1, .long v1), (3, .int v3), (4, .int v4), (5, .int v5), (6, .int v6)] [] := by
    intro K8 hK8 σ v1 v3 v4 v5 v6 hw
    unfold wX12_letters_49 at hw
    refine g_iload C 3 rfl dX12_letters_49 ?_
    refine g_if_ne C 59 (by decide) hw dX12_letters_51 (fun hw => ?_) (fun hw => ?_)
    · refine g_eql (lv' := [(0, .ref (A 18)), (1, .long v1), (3, .int v3), (5, .int v5), (6, .int v6)]) [0, 1, 2, 4, 5] rfl ?_
      exact J59 _ hK8 σ v1 v3 v5 v6 hw
    · refine g_iload C 5 rfl dX12_letters_54 ?_
      refine g_if_ne C 63 (by decide) hw dX12_letters_56 (fun hw => ?_) (fun hw => ?_)
      · refine g_iconst (v := (0 : Int32)) C dX12_letters_63 (by decide) ?_
        refine g_eql (lv' := [(0, .ref (A 18)), (1, .long v1), (3, .int v3), (5, .int v5), (6, .int v6)]) [0, 1, 2, 4, 5] rfl ?_
        exact J64 _ hK8 σ v1 v3 v5 v6 (0 : Int32) hw
      · refine g_eql (lv' := [(0, .ref (A 18)), (1, .long v1), (3, .int v3), (5, .int v5), (6, .int v6)]) [0, 1, 2, 4, 5] rfl ?_
        exact J59 _ hK8 σ v1 v3 v5 v6 hw
  have J8 : ∀ (n : Nat) (σ : St) (v1 : Int64) (v3 : Int32) (v4 : Int32) (v5 : Int32), wX12_letters_8 Φ n σ v1 v3 v4 v5 → GW κ 0 0 (gW cy A σ) 8 [(0, .ref (A 18)), (1, .long v1), (3, .int v3), (4, .int v4), (5, .int v5)] [] := by
    intro n
    induction n with
    | zero => intro σ v1 v3 v4 v5 hw; exact hw.elim
    | succ n ih =>
      intro σ v1 v3 v4 v5 hw
      rw [wX12_letters_8] at hw
      refine g_iload C 4 rfl dX12_letters_8 ?_
      refine g_bipush (v := (8 : Int32)) C dX12_letters_10 (by decide) ?_
      refine g_icmp_ge C 85 (by decide) hw dX12_letters_12 (fun hw => ?_) (fun hw => ?_)
      · refine g_aload_n C 0 rfl rfl dX12_letters_85 ?_
        refine g_get C hK inX12 rfl 18 (ga_18 cy A _) 17 (by decide) (fun _ h => h) wt_602 rfl dX12_letters_86 ?_
        refine g_iload_n C 2 rfl rfl dX12_letters_89 ?_
        refine g_iadd C dX12_letters_90 ?_
        refine g_bipush (v := (12 : Int32)) C dX12_letters_91 (by decide) ?_
        refine g_icmp_le C 99 (by decide) hw dX12_letters_93 (fun hw => ?_) (fun hw => ?_)
        · refine g_iconst (v := (0 : Int32)) C dX12_letters_99 (by decide) ?_
          refine g_istore C [(5, .int (0 : Int32)), (0, .ref (A 18)), (1, .long v1), (3, .int v3), (4, .int v4)] F.2.2.2.1 (by decide) rfl dX12_letters_100 ?_
          refine g_eql (lv' := [(0, .ref (A 18)), (1, .long v1), (3, .int v3), (5, .int (0 : Int32))]) [1, 2, 3, 0] rfl ?_
          obtain ⟨n0, hw⟩ := hw
          exact J102 n0 σ v1 v3 (0 : Int32) hw
        · refine g_bipush (v := (-104 : Int32)) C dX12_letters_96 (by decide) ?_
          exact gq_I C F (by decide) (by decide) hw dX12_letters_98
      · refine g_lload_n C 1 rfl rfl dX12_letters_15 ?_
        refine g_bipush (v := (8 : Int32)) C dX12_letters_16 (by decide) ?_
        refine g_iload C 4 rfl dX12_letters_18 ?_
        refine g_imul C dX12_letters_20 ?_
        refine g_lshr C dX12_letters_21 ?_
        refine g_ldc2 (v := (255 : Int64)) C dX12_letters_22 wt_630 ?_
        refine g_land C dX12_letters_25 ?_
        refine g_l2i C dX12_letters_26 ?_
        refine g_istore C [(6, .int ((v1 >>> (((8 : Int32) * v5).toInt64 &&& 63)) &&& (255 : Int64)).toInt32), (0, .ref (A 18)), (1, .long v1), (3, .int v3), (4, .int v4), (5, .int v5)] F.2.2.2.1 (by decide) rfl dX12_letters_27 ?_
        refine g_iload C 0 rfl dX12_letters_29 ?_
        refine g_bipush (v := (126 : Int32)) C dX12_letters_31 (by decide) ?_
        refine g_icmp_gt C 46 (by decide) hw dX12_letters_33 (fun hw => ?_) (fun hw => ?_)
        · refine g_bipush (v := (-102 : Int32)) C dX12_letters_46 (by decide) ?_
          exact gq_I C F (by decide) (by decide) hw dX12_letters_48
        · refine g_iload C 4 rfl dX12_letters_36 ?_
          refine g_if_eq C 49 (by decide) hw dX12_letters_38 (fun hw => ?_) (fun hw => ?_)
          · refine g_eql (lv' := [(0, .ref (A 18)), (1, .long v1), (3, .int v3), (4, .int v4), (5, .int v5), (6, .int ((v1 >>> (((8 : Int32) * v5).toInt64 &&& 63)) &&& (255 : Int64)).toInt32)]) [1, 2, 3, 4, 5, 0] rfl ?_
            exact J49 _ ih σ v1 v3 v4 v5 ((v1 >>> (((8 : Int32) * v5).toInt64 &&& 63)) &&& (255 : Int64)).toInt32 hw
          · refine g_iload C 0 rfl dX12_letters_41 ?_
            refine g_if_eq C 49 (by decide) hw dX12_letters_43 (fun hw => ?_) (fun hw => ?_)
            · refine g_eql (lv' := [(0, .ref (A 18)), (1, .long v1), (3, .int v3), (4, .int v4), (5, .int v5), (6, .int ((v1 >>> (((8 : Int32) * v5).toInt64 &&& 63)) &&& (255 : Int64)).toInt32)]) [1, 2, 3, 4, 5, 0] rfl ?_
              exact J49 _ ih σ v1 v3 v4 v5 ((v1 >>> (((8 : Int32) * v5).toInt64 &&& 63)) &&& (255 : Int64)).toInt32 hw
            · refine g_bipush (v := (-102 : Int32)) C dX12_letters_46 (by decide) ?_
              exact gq_I C F (by decide) (by decide) hw dX12_letters_48
  unfold wX12_letters at hw
  refine g_iconst (v := (0 : Int32)) C dX12_letters_0 (by decide) ?_
  refine g_istore_n C [(3, .int (0 : Int32)), (0, .ref (A 18)), (1, .long v1)] F.2.2.2.1 rfl (by decide) rfl dX12_letters_1 ?_
  refine g_iconst (v := (0 : Int32)) C dX12_letters_2 (by decide) ?_
  refine g_istore C [(4, .int (0 : Int32)), (3, .int (0 : Int32)), (0, .ref (A 18)), (1, .long v1)] F.2.2.2.1 (by decide) rfl dX12_letters_3 ?_
  refine g_iconst (v := (0 : Int32)) C dX12_letters_5 (by decide) ?_
  refine g_istore C [(5, .int (0 : Int32)), (4, .int (0 : Int32)), (3, .int (0 : Int32)), (0, .ref (A 18)), (1, .long v1)] F.2.2.2.1 (by decide) rfl dX12_letters_6 ?_
  refine g_eql (lv' := [(0, .ref (A 18)), (1, .long v1), (3, .int (0 : Int32)), (4, .int (0 : Int32)), (5, .int (0 : Int32))]) [3, 4, 2, 1, 0] rfl ?_
  obtain ⟨n0, hw⟩ := hw
  exact J8 n0 σ v1 (0 : Int32) (0 : Int32) (0 : Int32) hw
