set_option maxHeartbeats 4000000 in
set_option maxRecDepth 100000 in
theorem c_X11_whirls (l : Launch) (D : va_G) (cy : Nat → ClassId) (A : Nat → Nat) {σ : St} {v1 : Int32} {v2 : Int32} {v3 : Int32} {Φ : Int32 → St → Prop} (hw : wX11_whirls σ v1 v2 v3 Φ) : CtI l yX11_whirls (.code yX11_whirls cX11_whirls 5 (some .int) :: gL) rm_X11_whirls 0 0 [.ref (A 0), .int v1, .int v2, .int v3] D cy A σ Φ := by
  refine ct_any (fun sz => va_Qi Φ (HE D cy A (gZ cy A σ sz)) (gZ cy A σ sz)) (by decide +kernel) rfl rfl [(0, .ref (A 0)), (1, .int v1), (2, .int v2), (3, .int v3)] rfl (Nat.le_of_ble_eq_true rfl) ?_
  intro κ hκl hnm C hK sz F
  subst hκl
  unfold wX11_whirls at hw
  refine g_iload_n C 1 rfl rfl dX11_whirls_0 ?_
  refine g_iconst (v := (1 : Int32)) C dX11_whirls_1 (by decide) ?_
  refine g_icmp_lt C 24 (by decide) hw dX11_whirls_2 (fun hw => ?_) (fun hw => ?_)
  · refine g_bipush (v := (-102 : Int32)) C dX11_whirls_24 (by decide) ?_
    exact gq_I C F (by decide) (by decide) hw dX11_whirls_26
  · refine g_iload_n C 1 rfl rfl dX11_whirls_5 ?_
    refine g_bipush (v := (60 : Int32)) C dX11_whirls_6 (by decide) ?_
    refine g_icmp_gt C 24 (by decide) hw dX11_whirls_8 (fun hw => ?_) (fun hw => ?_)
    · refine g_bipush (v := (-102 : Int32)) C dX11_whirls_24 (by decide) ?_
      exact gq_I C F (by decide) (by decide) hw dX11_whirls_26
    · refine g_iload_n C 2 rfl rfl dX11_whirls_11 ?_
      refine g_if_lt C 24 (by decide) hw dX11_whirls_12 (fun hw => ?_) (fun hw => ?_)
      · refine g_bipush (v := (-102 : Int32)) C dX11_whirls_24 (by decide) ?_
        exact gq_I C F (by decide) (by decide) hw dX11_whirls_26
      · refine g_iload_n C 3 rfl rfl dX11_whirls_15 ?_
        refine g_if_lt C 24 (by decide) hw dX11_whirls_16 (fun hw => ?_) (fun hw => ?_)
        · refine g_bipush (v := (-102 : Int32)) C dX11_whirls_24 (by decide) ?_
          exact gq_I C F (by decide) (by decide) hw dX11_whirls_26
        · refine g_iload_n C 3 rfl rfl dX11_whirls_19 ?_
          refine g_iconst (v := (3 : Int32)) C dX11_whirls_20 (by decide) ?_
          refine g_icmp_le C 27 (by decide) hw dX11_whirls_21 (fun hw => ?_) (fun hw => ?_)
          · refine g_aload_n C 0 rfl rfl dX11_whirls_27 ?_
            refine g_get C hK inX11 rfl 0 (ga_0 cy A _) 1 (by decide) (fun _ h => h) wt_86 rfl dX11_whirls_28 ?_
            refine gc_I C (gr_V (As := []) (rest := []) C hK 0 (gd_V wt_204 wt_205 wt_206 wt_3 wt_207) rfl rfl rfl ⟨rfl, hs_X0_isWhole⟩ ⟨⟨Nat.le_of_ble_eq_true rfl, Nat.le_of_ble_eq_true rfl⟩, Nat.le_of_ble_eq_true rfl, Nat.le_of_ble_eq_true rfl⟩ rfl 3 (ga_3 cy A _) rfl rfl (Nat.le_of_ble_eq_true rfl) dX11_whirls_31 (c_X0_isWhole (q_l κ) (q_D κ) cy A hC3 hw)) (fun r2 σ1 hw => ?_)
            refine g_if_ne C 40 (by decide) hw dX11_whirls_34 (fun hw => ?_) (fun hw => ?_)
            · refine g_aload_n C 0 rfl rfl dX11_whirls_40 ?_
              refine g_iload_n C 1 rfl rfl dX11_whirls_41 ?_
              refine g_iload_n C 2 rfl rfl dX11_whirls_42 ?_
              refine gc_I C (gr_V (As := [.int v1, .int v2]) (rest := []) C hK 2 (gd_V wt_266 wt_267 wt_455 wt_1 wt_268) rfl rfl rfl ⟨rfl, hs_X11_tryHours⟩ ⟨⟨Nat.le_of_ble_eq_true rfl, Nat.le_of_ble_eq_true rfl⟩, Nat.le_of_ble_eq_true rfl, Nat.le_of_ble_eq_true rfl⟩ rfl 0 (ga_0 cy A _) rfl rfl (Nat.le_of_ble_eq_true rfl) dX11_whirls_43 (c_X11_tryHours (q_l κ) (q_D κ) cy A hw)) (fun r4 σ3 hw => ?_)
              refine g_istore C [(4, .int r4), (0, .ref (A 0)), (1, .int v1), (2, .int v2), (3, .int v3)] F.2.2.2.1 (by decide) rfl dX11_whirls_46 ?_
              refine g_iload_n C 4 rfl rfl dX11_whirls_48 ?_
              by_cases h9 : v3.toInt < 0 ∨ 2 < v3.toInt
              · refine g_swOut C 108 h9 (by decide) dX11_whirls_49 ?_
                replace hw := hw.2.2.2 h9
                refine g_iload C 0 rfl dX11_whirls_108 ?_
                exact gq_I C F (by decide) (by decide) hw dX11_whirls_110
              · rcases (show v3.toInt = 0 ∨ v3.toInt = 1 ∨ v3.toInt = 2 by omega) with e9 | e9 | e9
                · refine g_swIn (off := 27) C 0 76 e9 (by decide) (by decide) (by decide) (by decide) dX11_whirls_49 ?_
                  replace hw := hw.1 (Int32.toInt_inj.mp (e9.trans (by decide)))
                  refine g_aload_n C 1 rfl rfl dX11_whirls_76 ?_
                  refine g_get C hK inX11 rfl 0 (ga_0 cy A _) 6 (by decide) (fun _ h => h) wt_91 rfl dX11_whirls_77 ?_
                  refine g_get C hK inX0 rfl 16 (ga_16 cy A _) 0 (by decide) (fun _ h => h) wt_38 rfl dX11_whirls_80 ?_
                  exact gq_I C F (by decide) (by decide) hw dX11_whirls_83
                · refine g_swIn (off := 35) C 1 84 e9 (by decide) (by decide) (by decide) (by decide) dX11_whirls_49 ?_
                  replace hw := hw.2.1 (Int32.toInt_inj.mp (e9.trans (by decide)))
                  refine g_aload_n C 1 rfl rfl dX11_whirls_84 ?_
                  refine g_get C hK inX11 rfl 0 (ga_0 cy A _) 6 (by decide) (fun _ h => h) wt_91 rfl dX11_whirls_85 ?_
                  refine g_get C hK inX0 rfl 16 (ga_16 cy A _) 3 (by decide) (fun _ h => h) wt_44 rfl dX11_whirls_88 ?_
                  exact gq_I C F (by decide) (by decide) hw dX11_whirls_91
                · refine g_swIn (off := 43) C 2 92 e9 (by decide) (by decide) (by decide) (by decide) dX11_whirls_49 ?_
                  replace hw := hw.2.2.1 (Int32.toInt_inj.mp (e9.trans (by decide)))
                  refine g_aload_n C 1 rfl rfl dX11_whirls_92 ?_
                  refine g_get C hK inX11 rfl 0 (ga_0 cy A _) 6 (by decide) (fun _ h => h) wt_91 rfl dX11_whirls_93 ?_
                  refine g_get C hK inX0 rfl 16 (ga_16 cy A _) 4 (by decide) (fun _ h => h) wt_46 rfl dX11_whirls_96 ?_
                  refine g_aload_n C 1 rfl rfl dX11_whirls_99 ?_
                  refine g_get C hK inX11 rfl 0 (ga_0 cy A _) 1 (by decide) (fun _ h => h) wt_86 rfl dX11_whirls_100 ?_
                  refine g_get C hK inX0 rfl 3 (ga_3 cy A _) 4 (by decide) (fun _ h => h) wt_46 rfl dX11_whirls_103 ?_
                  refine g_isub C dX11_whirls_106 ?_
                  exact gq_I C F (by decide) (by decide) hw dX11_whirls_107
            · refine g_bipush (v := (-103 : Int32)) C dX11_whirls_37 (by decide) ?_
              exact gq_I C F (by decide) (by decide) hw dX11_whirls_39
          · refine g_bipush (v := (-102 : Int32)) C dX11_whirls_24 (by decide) ?_
            exact gq_I C F (by decide) (by decide) hw dX11_whirls_26
set_option maxHeartbeats 4000000 in
set_option maxRecDepth 100000 in
theorem c_X11_count (l : Launch) (D : va_G) (cy : Nat → ClassId) (A : Nat → Nat) {σ : St} {v1 : Int32} {Φ : Int32 → St → Prop} (hw : wX11_count σ v1 Φ) : CtI l yX11_count (.code yX11_count cX11_count 2 (some .int) :: gL) rm_X11_count 0 0 [.ref (A 0), .int v1] D cy A σ Φ := by
  refine ct_any (fun sz => va_Qi Φ (HE D cy A (gZ cy A σ sz)) (gZ cy A σ sz)) (by decide +kernel) rfl rfl [(0, .ref (A 0)), (1, .int v1)] rfl (Nat.le_of_ble_eq_true rfl) ?_
  intro κ hκl hnm C hK sz F
  subst hκl
  unfold wX11_count at hw
  refine g_iload_n C 1 rfl rfl dX11_count_0 ?_
  by_cases h9 : v1.toInt < 0 ∨ 12 < v1.toInt
  · refine g_swOut C 189 h9 (by decide) dX11_count_1 ?_
    replace hw := hw.2.2.2.2.2.2.2.2.2.2.2.2.2 h9
    refine g_bipush (v := (-102 : Int32)) C dX11_count_189 (by decide) ?_
    exact gq_I C F (by decide) (by decide) hw dX11_count_191
  · rcases (show v1.toInt = 0 ∨ v1.toInt = 1 ∨ v1.toInt = 2 ∨ v1.toInt = 3 ∨ v1.toInt = 4 ∨ v1.toInt = 5 ∨ v1.toInt = 6 ∨ v1.toInt = 7 ∨ v1.toInt = 8 ∨ v1.toInt = 9 ∨ v1.toInt = 10 ∨ v1.toInt = 11 ∨ v1.toInt = 12 by omega) with e9 | e9 | e9 | e9 | e9 | e9 | e9 | e9 | e9 | e9 | e9 | e9 | e9
    · refine g_swIn (off := 67) C 0 68 e9 (by decide) (by decide) (by decide) (by decide) dX11_count_1 ?_
      replace hw := hw.1 (Int32.toInt_inj.mp (e9.trans (by decide)))
      refine g_aload_n C 0 rfl rfl dX11_count_68 ?_
      refine g_get C hK inX11 rfl 0 (ga_0 cy A _) 1 (by decide) (fun _ h => h) wt_86 rfl dX11_count_69 ?_
      refine g_get C hK inX0 rfl 3 (ga_3 cy A _) 0 (by decide) (fun _ h => h) wt_38 rfl dX11_count_72 ?_
      exact gq_I C F (by decide) (by decide) hw dX11_count_75
    · refine g_swIn (off := 75) C 1 76 e9 (by decide) (by decide) (by decide) (by decide) dX11_count_1 ?_
      replace hw := hw.2.1 (Int32.toInt_inj.mp (e9.trans (by decide)))
      refine g_aload_n C 0 rfl rfl dX11_count_76 ?_
      refine g_get C hK inX11 rfl 0 (ga_0 cy A _) 1 (by decide) (fun _ h => h) wt_86 rfl dX11_count_77 ?_
      refine gc_I C (gr_V (As := []) (rest := []) C hK 0 (gd_V wt_208 wt_209 wt_210 wt_3 wt_211) rfl rfl rfl ⟨rfl, hs_X0_turnsNow⟩ ⟨⟨Nat.le_of_ble_eq_true rfl, Nat.le_of_ble_eq_true rfl⟩, Nat.le_of_ble_eq_true rfl, Nat.le_of_ble_eq_true rfl⟩ rfl 3 (ga_3 cy A _) rfl rfl (Nat.le_of_ble_eq_true rfl) dX11_count_80 (c_X0_turnsNow (q_l κ) (q_D κ) cy A hC3 hw)) (fun r2 σ1 hw => ?_)
      exact gq_I C F (by decide) (by decide) hw dX11_count_83
    · refine g_swIn (off := 83) C 2 84 e9 (by decide) (by decide) (by decide) (by decide) dX11_count_1 ?_
      replace hw := hw.2.2.1 (Int32.toInt_inj.mp (e9.trans (by decide)))
      refine g_aload_n C 0 rfl rfl dX11_count_84 ?_
      refine g_get C hK inX11 rfl 0 (ga_0 cy A _) 1 (by decide) (fun _ h => h) wt_86 rfl dX11_count_85 ?_
      refine g_get C hK inX0 rfl 3 (ga_3 cy A _) 1 (by decide) (fun _ h => h) wt_40 rfl dX11_count_88 ?_
      exact gq_I C F (by decide) (by decide) hw dX11_count_91
    · refine g_swIn (off := 91) C 3 92 e9 (by decide) (by decide) (by decide) (by decide) dX11_count_1 ?_
      replace hw := hw.2.2.2.1 (Int32.toInt_inj.mp (e9.trans (by decide)))
      refine g_aload_n C 0 rfl rfl dX11_count_92 ?_
      refine g_get C hK inX11 rfl 0 (ga_0 cy A _) 1 (by decide) (fun _ h => h) wt_86 rfl dX11_count_93 ?_
      refine g_aload_n C 0 rfl rfl dX11_count_96 ?_
      refine g_get C hK inX11 rfl 0 (ga_0 cy A _) 2 (by decide) (fun _ h => h) wt_87 rfl dX11_count_97 ?_
      refine gc_I C (gr_V (As := [.ref (A 4)]) (rest := []) C hK 1 (gd_V wt_448 wt_243 wt_244 wt_3 wt_245) rfl rfl rfl ⟨rfl, hs_X0_strainNow⟩ ⟨⟨Nat.le_of_ble_eq_true rfl, Nat.le_of_ble_eq_true rfl⟩, Nat.le_of_ble_eq_true rfl, Nat.le_of_ble_eq_true rfl⟩ rfl 3 (ga_3 cy A _) rfl rfl (Nat.le_of_ble_eq_true rfl) dX11_count_100 (c_X0_strainNow (q_l κ) (q_D κ) cy A hC3 hw)) (fun r4 σ3 hw => ?_)
      exact gq_I C F (by decide) (by decide) hw dX11_count_103
    · refine g_swIn (off := 103) C 4 104 e9 (by decide) (by decide) (by decide) (by decide) dX11_count_1 ?_
      replace hw := hw.2.2.2.2.1 (Int32.toInt_inj.mp (e9.trans (by decide)))
      refine g_aload_n C 0 rfl rfl dX11_count_104 ?_
      refine g_get C hK inX11 rfl 0 (ga_0 cy A _) 1 (by decide) (fun _ h => h) wt_86 rfl dX11_count_105 ?_
      refine g_get C hK inX0 rfl 3 (ga_3 cy A _) 2 (by decide) (fun _ h => h) wt_42 rfl dX11_count_108 ?_
      exact gq_I C F (by decide) (by decide) hw dX11_count_111
    · refine g_swIn (off := 111) C 5 112 e9 (by decide) (by decide) (by decide) (by decide) dX11_count_1 ?_
      replace hw := hw.2.2.2.2.2.1 (Int32.toInt_inj.mp (e9.trans (by decide)))
      refine g_aload_n C 0 rfl rfl dX11_count_112 ?_
      refine g_get C hK inX11 rfl 0 (ga_0 cy A _) 1 (by decide) (fun _ h => h) wt_86 rfl dX11_count_113 ?_
      refine g_get C hK inX0 rfl 3 (ga_3 cy A _) 5 (by decide) (fun _ h => h) wt_48 rfl dX11_count_116 ?_
      refine g_if_eq C 126 (by decide) hw dX11_count_119 (fun hw => ?_) (fun hw => ?_)
      · refine g_iconst (v := (0 : Int32)) C dX11_count_126 (by decide) ?_
        exact gq_I C F (by decide) (by decide) hw dX11_count_127
      · refine g_iconst (v := (1 : Int32)) C dX11_count_122 (by decide) ?_
        refine g_goto C 127 (by decide) dX11_count_123 ?_
        exact gq_I C F (by decide) (by decide) hw dX11_count_127
    · refine g_swIn (off := 127) C 6 128 e9 (by decide) (by decide) (by decide) (by decide) dX11_count_1 ?_
      replace hw := hw.2.2.2.2.2.2.1 (Int32.toInt_inj.mp (e9.trans (by decide)))
      refine g_aload_n C 0 rfl rfl dX11_count_128 ?_
      refine g_get C hK inX11 rfl 0 (ga_0 cy A _) 1 (by decide) (fun _ h => h) wt_86 rfl dX11_count_129 ?_
      refine g_get C hK inX0 rfl 3 (ga_3 cy A _) 3 (by decide) (fun _ h => h) wt_44 rfl dX11_count_132 ?_
      exact gq_I C F (by decide) (by decide) hw dX11_count_135
    · refine g_swIn (off := 135) C 7 136 e9 (by decide) (by decide) (by decide) (by decide) dX11_count_1 ?_
      replace hw := hw.2.2.2.2.2.2.2.1 (Int32.toInt_inj.mp (e9.trans (by decide)))
      refine g_aload_n C 0 rfl rfl dX11_count_136 ?_
      refine g_get C hK inX11 rfl 0 (ga_0 cy A _) 1 (by decide) (fun _ h => h) wt_86 rfl dX11_count_137 ?_
      refine g_get C hK inX0 rfl 3 (ga_3 cy A _) 4 (by decide) (fun _ h => h) wt_46 rfl dX11_count_140 ?_
      exact gq_I C F (by decide) (by decide) hw dX11_count_143
    · refine g_swIn (off := 143) C 8 144 e9 (by decide) (by decide) (by decide) (by decide) dX11_count_1 ?_
      replace hw := hw.2.2.2.2.2.2.2.2.1 (Int32.toInt_inj.mp (e9.trans (by decide)))
      refine g_aload_n C 0 rfl rfl dX11_count_144 ?_
      refine g_get C hK inX11 rfl 0 (ga_0 cy A _) 1 (by decide) (fun _ h => h) wt_86 rfl dX11_count_145 ?_
      refine g_get C hK inX0 rfl 3 (ga_3 cy A _) 6 (by decide) (fun _ h => h) wt_50 rfl dX11_count_148 ?_
      refine g_if_eq C 158 (by decide) hw dX11_count_151 (fun hw => ?_) (fun hw => ?_)
      · refine g_iconst (v := (0 : Int32)) C dX11_count_158 (by decide) ?_
        exact gq_I C F (by decide) (by decide) hw dX11_count_159
      · refine g_iconst (v := (1 : Int32)) C dX11_count_154 (by decide) ?_
        refine g_goto C 159 (by decide) dX11_count_155 ?_
        exact gq_I C F (by decide) (by decide) hw dX11_count_159
    · refine g_swIn (off := 159) C 9 160 e9 (by decide) (by decide) (by decide) (by decide) dX11_count_1 ?_
      replace hw := hw.2.2.2.2.2.2.2.2.2.1 (Int32.toInt_inj.mp (e9.trans (by decide)))
      refine g_aload_n C 0 rfl rfl dX11_count_160 ?_
      refine g_get C hK inX11 rfl 0 (ga_0 cy A _) 2 (by decide) (fun _ h => h) wt_87 rfl dX11_count_161 ?_
      refine g_get C hK inX6 rfl 4 (ga_4 cy A _) 2 (by decide) (fun _ h => h) wt_60 rfl dX11_count_164 ?_
      exact gq_I C F (by decide) (by decide) hw dX11_count_167
    · refine g_swIn (off := 167) C 10 168 e9 (by decide) (by decide) (by decide) (by decide) dX11_count_1 ?_
      replace hw := hw.2.2.2.2.2.2.2.2.2.2.1 (Int32.toInt_inj.mp (e9.trans (by decide)))
      refine g_aload_n C 0 rfl rfl dX11_count_168 ?_
      refine g_get C hK inX11 rfl 0 (ga_0 cy A _) 0 (by decide) (fun _ h => h) wt_85 rfl dX11_count_169 ?_
      refine g_get C hK inX7 rfl 1 (ga_1 cy A _) 1 (by decide) (fun _ h => h) wt_29 rfl dX11_count_172 ?_
      exact gq_I C F (by decide) (by decide) hw dX11_count_175
    · refine g_swIn (off := 175) C 11 176 e9 (by decide) (by decide) (by decide) (by decide) dX11_count_1 ?_
      replace hw := hw.2.2.2.2.2.2.2.2.2.2.2.1 (Int32.toInt_inj.mp (e9.trans (by decide)))
      refine g_aload_n C 0 rfl rfl dX11_count_176 ?_
      refine g_get C hK inX11 rfl 0 (ga_0 cy A _) 9 (by decide) (fun _ h => h) wt_94 rfl dX11_count_177 ?_
      exact gq_I C F (by decide) (by decide) hw dX11_count_180
    · refine g_swIn (off := 180) C 12 181 e9 (by decide) (by decide) (by decide) (by decide) dX11_count_1 ?_
      replace hw := hw.2.2.2.2.2.2.2.2.2.2.2.2.1 (Int32.toInt_inj.mp (e9.trans (by decide)))
      refine g_aload_n C 0 rfl rfl dX11_count_181 ?_
      refine g_get C hK inX11 rfl 0 (ga_0 cy A _) 3 (by decide) (fun _ h => h) wt_88 rfl dX11_count_182 ?_
      refine g_get C hK inX10 rfl 7 (ga_7 cy A _) 2 (by decide) (fun _ h => h) wt_70 rfl dX11_count_185 ?_
      exact gq_I C F (by decide) (by decide) hw dX11_count_188
set_option maxHeartbeats 4000000 in
set_option maxRecDepth 100000 in
theorem c_L_put (l : Launch) (D : va_G) (cy : Nat → ClassId) (A : Nat → Nat) {σ : St} {v1 : Int32} {Φ : Int32 → St → Prop} (hw : wL_put σ v1 Φ) : CtI l yL_put (.code yL_put cL_put 2 (some .boolean) :: gL) rm_L_put 0 0 [.ref (A 0), .int v1] D cy A σ Φ := by
  refine ct_any (fun sz => va_Qi Φ (HE D cy A (gZ cy A σ sz)) (gZ cy A σ sz)) (by decide +kernel) rfl rfl [(0, .ref (A 0)), (1, .int v1)] rfl (Nat.le_of_ble_eq_true rfl) ?_
  intro κ hκl hnm C hK sz F
  subst hκl
  unfold wL_put at hw
  refine g_aload_n C 0 rfl rfl dL_put_0 ?_
  refine g_iload_n C 1 rfl rfl dL_put_1 ?_
  refine g_i2l C dL_put_2 ?_
  refine gc_I C (gr_V (As := [.long v1.toInt64]) (rest := []) C hK 1 (gd_V wt_294 wt_295 wt_296 wt_1 wt_297) rfl rfl rfl ⟨rfl, hs_X11_letters⟩ ⟨⟨Nat.le_of_ble_eq_true rfl, Nat.le_of_ble_eq_true rfl⟩, Nat.le_of_ble_eq_true rfl, Nat.le_of_ble_eq_true rfl⟩ rfl 0 (ga_0 cy A _) rfl rfl (Nat.le_of_ble_eq_true rfl) dL_put_3 (c_X11_letters (q_l κ) (q_D κ) cy A hw)) (fun r2 σ1 hw => ?_)
  refine g_if_le C 13 (by decide) hw dL_put_6 (fun hw => ?_) (fun hw => ?_)
  · refine g_iconst (v := (0 : Int32)) C dL_put_13 (by decide) ?_
    exact gq_Z C F (by decide) (by decide) hw dL_put_14
  · refine g_iconst (v := (1 : Int32)) C dL_put_9 (by decide) ?_
    refine g_goto C 14 (by decide) dL_put_10 ?_
    exact gq_Z C F (by decide) (by decide) hw dL_put_14
set_option maxHeartbeats 4000000 in
set_option maxRecDepth 100000 in
theorem c_L_wire (l : Launch) (D : va_G) (cy : Nat → ClassId) (A : Nat → Nat) {σ : St} {v1 : Int32} {q : Nat} (hq : isQ q) {Φ : Int32 → St → Prop} (hw : wL_wire σ v1 q Φ) : CtI l yL_wire (.code yL_wire cL_wire 7 (some .boolean) :: gL) rm_L_wire 0 0 [.ref (A 0), .int v1, .ref (A q)] D cy A σ Φ := by
  refine ct_any (fun sz => va_Qi Φ (HE D cy A (gZ cy A σ sz)) (gZ cy A σ sz)) (by decide +kernel) rfl rfl [(0, .ref (A 0)), (1, .int v1), (2, .ref (A q))] rfl (Nat.le_of_ble_eq_true rfl) ?_
  intro κ hκl hnm C hK sz F
  subst hκl
  have J213 : ∀ (σ : St) (s0 : Int32), wL_wire_213 q Φ σ s0 → GW κ 0 0 (gW cy A σ) 213 [(0, .ref (A 0)), (2, .ref (A q))] [.int s0] := by
    intro σ s0 hw
    unfold wL_wire_213 at hw
    refine g_istore C [(6, .int s0), (0, .ref (A 0)), (2, .ref (A q))] F.2.2.2.1 (by decide) rfl dL_wire_213 ?_
    refine g_iload C 0 rfl dL_wire_215 ?_
    refine g_if_eq C 247 (by decide) hw dL_wire_217 (fun hw => ?_) (fun hw => ?_)
    · refine g_iconst (v := (0 : Int32)) C dL_wire_247 (by decide) ?_
      exact gq_Z C F (by decide) (by decide) hw dL_wire_248
    · refine g_aload_n C 1 rfl rfl dL_wire_220 ?_
      refine gc_I C (gr_V (As := []) (rest := []) C hK 0 (gd_V wt_312 wt_313 wt_314 wt_1 wt_315) rfl rfl rfl ⟨rfl, hs_X11_fault⟩ ⟨⟨Nat.le_of_ble_eq_true rfl, Nat.le_of_ble_eq_true rfl⟩, Nat.le_of_ble_eq_true rfl, Nat.le_of_ble_eq_true rfl⟩ rfl 0 (ga_0 cy A _) rfl rfl (Nat.le_of_ble_eq_true rfl) dL_wire_221 (c_X11_fault (q_l κ) (q_D κ) cy A hw)) (fun r20 σ19 hw => ?_)
      refine g_bipush (v := (8 : Int32)) C dL_wire_224 (by decide) ?_
      refine g_aload_n C 2 rfl rfl dL_wire_226 ?_
      refine g_iconst (v := (3 : Int32)) C dL_wire_227 (by decide) ?_
      refine g_iald C hK q 2 (ga_q cy A _ hq) rfl hw.1 dL_wire_228 ?_
      replace hw := hw.2
      refine g_iadd C dL_wire_229 ?_
      refine g_icmp_ne C 247 (by decide) hw dL_wire_230 (fun hw => ?_) (fun hw => ?_)
      · refine g_iconst (v := (0 : Int32)) C dL_wire_247 (by decide) ?_
        exact gq_Z C F (by decide) (by decide) hw dL_wire_248
      · refine g_aload_n C 1 rfl rfl dL_wire_233 ?_
        refine gc_I C (gr_V (As := []) (rest := []) C hK 0 (gd_V wt_330 wt_331 wt_332 wt_1 wt_333) rfl rfl rfl ⟨rfl, hs_X11_wire⟩ ⟨⟨Nat.le_of_ble_eq_true rfl, Nat.le_of_ble_eq_true rfl⟩, Nat.le_of_ble_eq_true rfl, Nat.le_of_ble_eq_true rfl⟩ rfl 0 (ga_0 cy A _) rfl rfl (Nat.le_of_ble_eq_true rfl) dL_wire_234 (c_X11_wire (q_l κ) (q_D κ) cy A hw)) (fun r22 σ21 hw => ?_)
        refine g_aload_n C 2 rfl rfl dL_wire_237 ?_
        refine g_iconst (v := (1 : Int32)) C dL_wire_238 (by decide) ?_
        refine g_iald C hK q 2 (ga_q cy A _ hq) rfl hw.1 dL_wire_239 ?_
        replace hw := hw.2
        refine g_icmp_ne C 247 (by decide) hw dL_wire_240 (fun hw => ?_) (fun hw => ?_)
        · refine g_iconst (v := (0 : Int32)) C dL_wire_247 (by decide) ?_
          exact gq_Z C F (by decide) (by decide) hw dL_wire_248
        · refine g_iconst (v := (1 : Int32)) C dL_wire_243 (by decide) ?_
          refine g_goto C 248 (by decide) dL_wire_244 ?_
          exact gq_Z C F (by decide) (by decide) hw dL_wire_248
  have J212 : ∀ (σ : St), wL_wire_212 q Φ σ → GW κ 0 0 (gW cy A σ) 212 [(0, .ref (A 0)), (2, .ref (A q))] [] := by
    intro σ hw
    unfold wL_wire_212 at hw
    refine g_iconst (v := (0 : Int32)) C dL_wire_212 (by decide) ?_
    exact J213 σ (0 : Int32) hw
  have J208 : ∀ (σ : St), wL_wire_208 q Φ σ → GW κ 0 0 (gW cy A σ) 208 [(0, .ref (A 0)), (2, .ref (A q))] [] := by
    intro σ hw
    unfold wL_wire_208 at hw
    refine g_iconst (v := (1 : Int32)) C dL_wire_208 (by decide) ?_
    refine g_goto C 213 (by decide) dL_wire_209 ?_
    exact J213 σ (1 : Int32) hw
  have J42 : ∀ (n : Nat) (σ : St) (v1 : Int32) (v3 : Int32) (v4 : Int32) (v5 : Int32) (v6 : Int32), wL_wire_42 q Φ n σ v1 v3 v4 v5 v6 → GW κ 0 0 (gW cy A σ) 42 [(0, .ref (A 0)), (1, .int v1), (2, .ref (A q)), (3, .int v3), (4, .int v4), (5, .int v5), (6, .int v6)] [] := by
    intro n
    induction n with
    | zero => intro σ v1 v3 v4 v5 v6 hw; exact hw.elim
    | succ n ih =>
      intro σ v1 v3 v4 v5 v6 hw
      rw [wL_wire_42] at hw
      refine g_iload C 6 rfl dL_wire_42 ?_
      refine g_bipush (v := (32 : Int32)) C dL_wire_44 (by decide) ?_
      refine g_icmp_ge C 60 (by decide) hw dL_wire_46 (fun hw => ?_) (fun hw => ?_)
      · refine g_aload_n C 2 rfl rfl dL_wire_60 ?_
        refine g_iconst (v := (0 : Int32)) C dL_wire_61 (by decide) ?_
        refine g_iload_n C 3 rfl rfl dL_wire_62 ?_
        refine g_iast C hK q 2 (ga_q cy A _ hq) rfl hw.1 (gs_q cy A _ _ _ hq) dL_wire_63 ?_
        replace hw := hw.2
        refine g_aload_n C 2 rfl rfl dL_wire_64 ?_
        refine g_iconst (v := (1 : Int32)) C dL_wire_65 (by decide) ?_
        refine g_iload_n C 3 rfl rfl dL_wire_66 ?_
        refine g_iload_n C 3 rfl rfl dL_wire_67 ?_
        refine g_imul C dL_wire_68 ?_
        refine g_iload C 4 rfl dL_wire_69 ?_
        refine g_imul C dL_wire_71 ?_
        refine g_iast C hK q 2 (ga_q cy A _ hq) rfl hw.1 (gs_q cy A _ _ _ hq) dL_wire_72 ?_
        replace hw := hw.2
        refine g_aload_n C 2 rfl rfl dL_wire_73 ?_
        refine g_iconst (v := (2 : Int32)) C dL_wire_74 (by decide) ?_
        refine g_iload C 5 rfl dL_wire_75 ?_
        refine g_iast C hK q 2 (ga_q cy A _ hq) rfl hw.1 (gs_q cy A _ _ _ hq) dL_wire_77 ?_
        replace hw := hw.2
        refine g_aload_n C 2 rfl rfl dL_wire_78 ?_
        refine g_iconst (v := (3 : Int32)) C dL_wire_79 (by decide) ?_
        refine g_iload_n C 1 rfl rfl dL_wire_80 ?_
        refine g_ldc (v := (524288 : Int32)) C dL_wire_81 wt_290 ?_
        refine g_idiv C hw.1 dL_wire_83 ?_
        replace hw := hw.2
        refine g_iconst (v := (2 : Int32)) C dL_wire_84 (by decide) ?_
        refine g_irem C hw.1 dL_wire_85 ?_
        replace hw := hw.2
        refine g_iast C hK q 2 (ga_q cy A _ hq) rfl hw.1 (gs_q cy A _ _ _ hq) dL_wire_86 ?_
        replace hw := hw.2
        refine g_aload_n C 0 rfl rfl dL_wire_87 ?_
        refine g_bipush (v := (48 : Int32)) C dL_wire_88 (by decide) ?_
        refine g_iload_n C 3 rfl rfl dL_wire_90 ?_
        refine g_bipush (v := (10 : Int32)) C dL_wire_91 (by decide) ?_
        refine g_idiv C hw.1 dL_wire_93 ?_
        replace hw := hw.2
        refine g_iadd C dL_wire_94 ?_
        refine gc_I C (gr_S (As := [.ref (A 0), .int ((48 : Int32) + (v3 / (10 : Int32)))]) (rest := []) C hK 2 (gd_S wt_291 wt_292 wt_0 wt_293) rfl rfl rfl hs_L_put ⟨⟨Nat.le_of_ble_eq_true rfl, Nat.le_of_ble_eq_true rfl⟩, Nat.le_of_ble_eq_true rfl, Nat.le_of_ble_eq_true rfl⟩ rfl rfl (Nat.le_of_ble_eq_true rfl) dL_wire_95 (c_L_put (q_l κ) (q_D κ) cy A hw)) (fun r2 σ1 hw => ?_)
        refine g_if_eq C 212 (by decide) hw dL_wire_98 (fun hw => ?_) (fun hw => ?_)
        · refine g_eql (lv' := [(0, .ref (A 0)), (2, .ref (A q))]) [0, 2] rfl ?_
          exact J212 σ1 hw
        · refine g_aload_n C 0 rfl rfl dL_wire_101 ?_
          refine g_bipush (v := (48 : Int32)) C dL_wire_102 (by decide) ?_
          refine g_iload_n C 3 rfl rfl dL_wire_104 ?_
          refine g_bipush (v := (10 : Int32)) C dL_wire_105 (by decide) ?_
          refine g_irem C hw.1 dL_wire_107 ?_
          replace hw := hw.2
          refine g_iadd C dL_wire_108 ?_
          refine gc_I C (gr_S (As := [.ref (A 0), .int ((48 : Int32) + (v3 - v3 / (10 : Int32) * (10 : Int32)))]) (rest := []) C hK 2 (gd_S wt_291 wt_292 wt_0 wt_293) rfl rfl rfl hs_L_put ⟨⟨Nat.le_of_ble_eq_true rfl, Nat.le_of_ble_eq_true rfl⟩, Nat.le_of_ble_eq_true rfl, Nat.le_of_ble_eq_true rfl⟩ rfl rfl (Nat.le_of_ble_eq_true rfl) dL_wire_109 (c_L_put (q_l κ) (q_D κ) cy A hw)) (fun r4 σ3 hw => ?_)
          refine g_if_eq C 212 (by decide) hw dL_wire_112 (fun hw => ?_) (fun hw => ?_)
          · refine g_eql (lv' := [(0, .ref (A 0)), (2, .ref (A q))]) [0, 2] rfl ?_
            exact J212 σ3 hw
          · refine g_aload_n C 0 rfl rfl dL_wire_115 ?_
            refine g_bipush (v := (58 : Int32)) C dL_wire_116 (by decide) ?_
            refine gc_I C (gr_S (As := [.ref (A 0), .int (58 : Int32)]) (rest := []) C hK 2 (gd_S wt_291 wt_292 wt_0 wt_293) rfl rfl rfl hs_L_put ⟨⟨Nat.le_of_ble_eq_true rfl, Nat.le_of_ble_eq_true rfl⟩, Nat.le_of_ble_eq_true rfl, Nat.le_of_ble_eq_true rfl⟩ rfl rfl (Nat.le_of_ble_eq_true rfl) dL_wire_118 (c_L_put (q_l κ) (q_D κ) cy A hw)) (fun r6 σ5 hw => ?_)
            refine g_if_eq C 212 (by decide) hw dL_wire_121 (fun hw => ?_) (fun hw => ?_)
            · refine g_eql (lv' := [(0, .ref (A 0)), (2, .ref (A q))]) [0, 2] rfl ?_
              exact J212 σ5 hw
            · refine g_aload_n C 0 rfl rfl dL_wire_124 ?_
              refine g_bipush (v := (48 : Int32)) C dL_wire_125 (by decide) ?_
              refine g_iload C 4 rfl dL_wire_127 ?_
              refine g_iadd C dL_wire_129 ?_
              refine gc_I C (gr_S (As := [.ref (A 0), .int ((48 : Int32) + v4)]) (rest := []) C hK 2 (gd_S wt_291 wt_292 wt_0 wt_293) rfl rfl rfl hs_L_put ⟨⟨Nat.le_of_ble_eq_true rfl, Nat.le_of_ble_eq_true rfl⟩, Nat.le_of_ble_eq_true rfl, Nat.le_of_ble_eq_true rfl⟩ rfl rfl (Nat.le_of_ble_eq_true rfl) dL_wire_130 (c_L_put (q_l κ) (q_D κ) cy A hw)) (fun r8 σ7 hw => ?_)
              refine g_if_eq C 212 (by decide) hw dL_wire_133 (fun hw => ?_) (fun hw => ?_)
              · refine g_eql (lv' := [(0, .ref (A 0)), (2, .ref (A q))]) [0, 2] rfl ?_
                exact J212 σ7 hw
              · refine g_aload_n C 0 rfl rfl dL_wire_136 ?_
                refine g_bipush (v := (58 : Int32)) C dL_wire_137 (by decide) ?_
                refine gc_I C (gr_S (As := [.ref (A 0), .int (58 : Int32)]) (rest := []) C hK 2 (gd_S wt_291 wt_292 wt_0 wt_293) rfl rfl rfl hs_L_put ⟨⟨Nat.le_of_ble_eq_true rfl, Nat.le_of_ble_eq_true rfl⟩, Nat.le_of_ble_eq_true rfl, Nat.le_of_ble_eq_true rfl⟩ rfl rfl (Nat.le_of_ble_eq_true rfl) dL_wire_139 (c_L_put (q_l κ) (q_D κ) cy A hw)) (fun r10 σ9 hw => ?_)
                refine g_if_eq C 212 (by decide) hw dL_wire_142 (fun hw => ?_) (fun hw => ?_)
                · refine g_eql (lv' := [(0, .ref (A 0)), (2, .ref (A q))]) [0, 2] rfl ?_
                  exact J212 σ9 hw
                · refine g_aload_n C 0 rfl rfl dL_wire_145 ?_
                  refine g_bipush (v := (48 : Int32)) C dL_wire_146 (by decide) ?_
                  refine g_iload C 5 rfl dL_wire_148 ?_
                  refine g_bipush (v := (100 : Int32)) C dL_wire_150 (by decide) ?_
                  refine g_idiv C hw.1 dL_wire_152 ?_
                  replace hw := hw.2
                  refine g_iadd C dL_wire_153 ?_
                  refine gc_I C (gr_S (As := [.ref (A 0), .int ((48 : Int32) + (v5 / (100 : Int32)))]) (rest := []) C hK 2 (gd_S wt_291 wt_292 wt_0 wt_293) rfl rfl rfl hs_L_put ⟨⟨Nat.le_of_ble_eq_true rfl, Nat.le_of_ble_eq_true rfl⟩, Nat.le_of_ble_eq_true rfl, Nat.le_of_ble_eq_true rfl⟩ rfl rfl (Nat.le_of_ble_eq_true rfl) dL_wire_154 (c_L_put (q_l κ) (q_D κ) cy A hw)) (fun r12 σ11 hw => ?_)
                  refine g_if_eq C 212 (by decide) hw dL_wire_157 (fun hw => ?_) (fun hw => ?_)
                  · refine g_eql (lv' := [(0, .ref (A 0)), (2, .ref (A q))]) [0, 2] rfl ?_
                    exact J212 σ11 hw
                  · refine g_aload_n C 0 rfl rfl dL_wire_160 ?_
                    refine g_bipush (v := (48 : Int32)) C dL_wire_161 (by decide) ?_
                    refine g_iload C 5 rfl dL_wire_163 ?_
                    refine g_bipush (v := (10 : Int32)) C dL_wire_165 (by decide) ?_
                    refine g_idiv C hw.1 dL_wire_167 ?_
                    replace hw := hw.2
                    refine g_bipush (v := (10 : Int32)) C dL_wire_168 (by decide) ?_
                    refine g_irem C hw.1 dL_wire_170 ?_
                    replace hw := hw.2
                    refine g_iadd C dL_wire_171 ?_
                    refine gc_I C (gr_S (As := [.ref (A 0), .int ((48 : Int32) + ((v5 / (10 : Int32)) - (v5 / (10 : Int32)) / (10 : Int32) * (10 : Int32)))]) (rest := []) C hK 2 (gd_S wt_291 wt_292 wt_0 wt_293) rfl rfl rfl hs_L_put ⟨⟨Nat.le_of_ble_eq_true rfl, Nat.le_of_ble_eq_true rfl⟩, Nat.le_of_ble_eq_true rfl, Nat.le_of_ble_eq_true rfl⟩ rfl rfl (Nat.le_of_ble_eq_true rfl) dL_wire_172 (c_L_put (q_l κ) (q_D κ) cy A hw)) (fun r14 σ13 hw => ?_)
                    refine g_if_eq C 212 (by decide) hw dL_wire_175 (fun hw => ?_) (fun hw => ?_)
                    · refine g_eql (lv' := [(0, .ref (A 0)), (2, .ref (A q))]) [0, 2] rfl ?_
                      exact J212 σ13 hw
                    · refine g_aload_n C 0 rfl rfl dL_wire_178 ?_
                      refine g_bipush (v := (48 : Int32)) C dL_wire_179 (by decide) ?_
                      refine g_iload C 5 rfl dL_wire_181 ?_
                      refine g_bipush (v := (10 : Int32)) C dL_wire_183 (by decide) ?_
                      refine g_irem C hw.1 dL_wire_185 ?_
                      replace hw := hw.2
                      refine g_iadd C dL_wire_186 ?_
                      refine gc_I C (gr_S (As := [.ref (A 0), .int ((48 : Int32) + (v5 - v5 / (10 : Int32) * (10 : Int32)))]) (rest := []) C hK 2 (gd_S wt_291 wt_292 wt_0 wt_293) rfl rfl rfl hs_L_put ⟨⟨Nat.le_of_ble_eq_true rfl, Nat.le_of_ble_eq_true rfl⟩, Nat.le_of_ble_eq_true rfl, Nat.le_of_ble_eq_true rfl⟩ rfl rfl (Nat.le_of_ble_eq_true rfl) dL_wire_187 (c_L_put (q_l κ) (q_D κ) cy A hw)) (fun r16 σ15 hw => ?_)
                      refine g_if_eq C 212 (by decide) hw dL_wire_190 (fun hw => ?_) (fun hw => ?_)
                      · refine g_eql (lv' := [(0, .ref (A 0)), (2, .ref (A q))]) [0, 2] rfl ?_
                        exact J212 σ15 hw
                      · refine g_aload_n C 2 rfl rfl dL_wire_193 ?_
                        refine g_iconst (v := (3 : Int32)) C dL_wire_194 (by decide) ?_
                        refine g_iald C hK q 2 (ga_q cy A _ hq) rfl hw.1 dL_wire_195 ?_
                        replace hw := hw.2
                        refine g_if_eq C 208 (by decide) hw dL_wire_196 (fun hw => ?_) (fun hw => ?_)
                        · refine g_eql (lv' := [(0, .ref (A 0)), (2, .ref (A q))]) [0, 2] rfl ?_
                          exact J208 σ15 hw
                        · refine g_aload_n C 0 rfl rfl dL_wire_199 ?_
                          refine g_bipush (v := (111 : Int32)) C dL_wire_200 (by decide) ?_
                          refine gc_I C (gr_S (As := [.ref (A 0), .int (111 : Int32)]) (rest := []) C hK 2 (gd_S wt_291 wt_292 wt_0 wt_293) rfl rfl rfl hs_L_put ⟨⟨Nat.le_of_ble_eq_true rfl, Nat.le_of_ble_eq_true rfl⟩, Nat.le_of_ble_eq_true rfl, Nat.le_of_ble_eq_true rfl⟩ rfl rfl (Nat.le_of_ble_eq_true rfl) dL_wire_202 (c_L_put (q_l κ) (q_D κ) cy A hw)) (fun r18 σ17 hw => ?_)
                          refine g_if_eq C 212 (by decide) hw dL_wire_205 (fun hw => ?_) (fun hw => ?_)
                          · refine g_eql (lv' := [(0, .ref (A 0)), (2, .ref (A q))]) [0, 2] rfl ?_
                            exact J212 σ17 hw
                          · refine g_eql (lv' := [(0, .ref (A 0)), (2, .ref (A q))]) [0, 2] rfl ?_
                            exact J208 σ17 hw
      · refine g_aload_n C 2 rfl rfl dL_wire_49 ?_
        refine g_iload C 6 rfl dL_wire_50 ?_
        refine g_iconst (v := (0 : Int32)) C dL_wire_52 (by decide) ?_
        refine g_iast C hK q 2 (ga_q cy A _ hq) rfl hw.1 (gs_q cy A _ _ _ hq) dL_wire_53 ?_
        replace hw := hw.2
        refine g_iinc (j := 6) C [(6, .int (v6 + 1)), (0, .ref (A 0)), (1, .int v1), (2, .ref (A q)), (3, .int v3), (4, .int v4), (5, .int v5)] F.2.2.2.1 rfl rfl (by decide) rfl dL_wire_54 ?_
        refine g_goto C 42 (by decide) dL_wire_57 ?_
        refine g_eql (lv' := [(0, .ref (A 0)), (1, .int v1), (2, .ref (A q)), (3, .int v3), (4, .int v4), (5, .int v5), (6, .int (v6 + 1))]) [1, 2, 3, 4, 5, 6, 0] rfl ?_
        exact ih (sV σ q v6.toNatClampNeg (0 : Int32)) v1 v3 v4 v5 (v6 + 1) hw
  unfold wL_wire at hw
  refine g_bipush (v := (10 : Int32)) C dL_wire_0 (by decide) ?_
  refine g_iload_n C 1 rfl rfl dL_wire_2 ?_
  refine g_bipush (v := (31 : Int32)) C dL_wire_3 (by decide) ?_
  refine g_irem C hw.1 dL_wire_5 ?_
  replace hw := hw.2
  refine g_iadd C dL_wire_6 ?_
  refine g_istore_n C [(3, .int ((10 : Int32) + (v1 - v1 / (31 : Int32) * (31 : Int32)))), (0, .ref (A 0)), (1, .int v1), (2, .ref (A q))] F.2.2.2.1 rfl (by decide) rfl dL_wire_7 ?_
  refine g_iconst (v := (1 : Int32)) C dL_wire_8 (by decide) ?_
  refine g_iload_n C 2 rfl rfl dL_wire_9 ?_
  refine g_bipush (v := (32 : Int32)) C dL_wire_10 (by decide) ?_
  refine g_idiv C hw.1 dL_wire_12 ?_
  replace hw := hw.2
  refine g_bipush (v := (9 : Int32)) C dL_wire_13 (by decide) ?_
  refine g_irem C hw.1 dL_wire_15 ?_
  replace hw := hw.2
  refine g_iload_n C 2 rfl rfl dL_wire_16 ?_
  refine g_iconst (v := (3 : Int32)) C dL_wire_17 (by decide) ?_
  refine g_irem C hw.1 dL_wire_18 ?_
  replace hw := hw.2
  refine g_iconst (v := (1 : Int32)) C dL_wire_19 (by decide) ?_
  refine g_iadd C dL_wire_20 ?_
  refine g_idiv C hw.1 dL_wire_21 ?_
  replace hw := hw.2
  refine g_iadd C dL_wire_22 ?_
  refine g_istore C [(4, .int ((1 : Int32) + (((v1 / (32 : Int32)) - (v1 / (32 : Int32)) / (9 : Int32) * (9 : Int32)) / ((v1 - v1 / (3 : Int32) * (3 : Int32)) + (1 : Int32))))), (3, .int ((10 : Int32) + (v1 - v1 / (31 : Int32) * (31 : Int32)))), (0, .ref (A 0)), (1, .int v1), (2, .ref (A q))] F.2.2.2.1 (by decide) rfl dL_wire_23 ?_
  refine g_bipush (v := (100 : Int32)) C dL_wire_25 (by decide) ?_
  refine g_iload_n C 3 rfl rfl dL_wire_27 ?_
  refine g_sipush (v := (512 : Int32)) C dL_wire_28 (by decide) ?_
  refine g_idiv C hw.1 dL_wire_31 ?_
  replace hw := hw.2
  refine g_sipush (v := (900 : Int32)) C dL_wire_32 (by decide) ?_
  refine g_irem C hw.1 dL_wire_35 ?_
  replace hw := hw.2
  refine g_iadd C dL_wire_36 ?_
  refine g_istore C [(5, .int ((100 : Int32) + ((v1 / (512 : Int32)) - (v1 / (512 : Int32)) / (900 : Int32) * (900 : Int32)))), (4, .int ((1 : Int32) + (((v1 / (32 : Int32)) - (v1 / (32 : Int32)) / (9 : Int32) * (9 : Int32)) / ((v1 - v1 / (3 : Int32) * (3 : Int32)) + (1 : Int32))))), (3, .int ((10 : Int32) + (v1 - v1 / (31 : Int32) * (31 : Int32)))), (0, .ref (A 0)), (1, .int v1), (2, .ref (A q))] F.2.2.2.1 (by decide) rfl dL_wire_37 ?_
  refine g_iconst (v := (0 : Int32)) C dL_wire_39 (by decide) ?_
  refine g_istore C [(6, .int (0 : Int32)), (5, .int ((100 : Int32) + ((v1 / (512 : Int32)) - (v1 / (512 : Int32)) / (900 : Int32) * (900 : Int32)))), (4, .int ((1 : Int32) + (((v1 / (32 : Int32)) - (v1 / (32 : Int32)) / (9 : Int32) * (9 : Int32)) / ((v1 - v1 / (3 : Int32) * (3 : Int32)) + (1 : Int32))))), (3, .int ((10 : Int32) + (v1 - v1 / (31 : Int32) * (31 : Int32)))), (0, .ref (A 0)), (1, .int v1), (2, .ref (A q))] F.2.2.2.1 (by decide) rfl dL_wire_40 ?_
  refine g_eql (lv' := [(0, .ref (A 0)), (1, .int v1), (2, .ref (A q)), (3, .int ((10 : Int32) + (v1 - v1 / (31 : Int32) * (31 : Int32)))), (4, .int ((1 : Int32) + (((v1 / (32 : Int32)) - (v1 / (32 : Int32)) / (9 : Int32) * (9 : Int32)) / ((v1 - v1 / (3 : Int32) * (3 : Int32)) + (1 : Int32))))), (5, .int ((100 : Int32) + ((v1 / (512 : Int32)) - (v1 / (512 : Int32)) / (900 : Int32) * (900 : Int32)))), (6, .int (0 : Int32))]) [4, 5, 6, 3, 2, 1, 0] rfl ?_
  obtain ⟨n0, hw⟩ := hw
  exact J42 n0 σ v1 ((10 : Int32) + (v1 - v1 / (31 : Int32) * (31 : Int32))) ((1 : Int32) + (((v1 / (32 : Int32)) - (v1 / (32 : Int32)) / (9 : Int32) * (9 : Int32)) / ((v1 - v1 / (3 : Int32) * (3 : Int32)) + (1 : Int32)))) ((100 : Int32) + ((v1 / (512 : Int32)) - (v1 / (512 : Int32)) / (900 : Int32) * (900 : Int32))) (0 : Int32) hw
set_option maxHeartbeats 4000000 in
set_option maxRecDepth 100000 in
theorem c_L_thing (l : Launch) (D : va_G) (cy : Nat → ClassId) (A : Nat → Nat) {σ : St} {v1 : Int32} {q : Nat} (hq : isQ q) {Φ : Int32 → St → Prop} (hw : wL_thing σ v1 q Φ) : CtI l yL_thing (.code yL_thing cL_thing 4 (some .boolean) :: gL) rm_L_thing 1 3 [.ref (A 0), .int v1, .ref (A q)] D cy A σ Φ := by
  refine ct_any (fun sz => va_Qi Φ (HE D cy A (gZ cy A σ sz)) (gZ cy A σ sz)) (by decide +kernel) rfl rfl [(0, .ref (A 0)), (1, .int v1), (2, .ref (A q))] rfl (Nat.le_of_ble_eq_true rfl) ?_
  intro κ hκl hnm C hK sz F
  subst hκl
  unfold wL_thing at hw
  refine g_bipush (v := (8 : Int32)) C dL_thing_0 (by decide) ?_
  refine g_iconst (v := (4 : Int32)) C dL_thing_2 (by decide) ?_
  refine g_aload_n C 2 rfl rfl dL_thing_3 ?_
  refine g_bipush (v := (7 : Int32)) C dL_thing_4 (by decide) ?_
  refine g_iald C hK q 2 (ga_q cy A _ hq) rfl hw.1 dL_thing_6 ?_
  replace hw := hw.2
  refine g_imul C dL_thing_7 ?_
  refine g_iadd C dL_thing_8 ?_
  refine g_istore_n C [(3, .int ((8 : Int32) + ((4 : Int32) * (σ.1 q (7 : Int32).toNatClampNeg)))), (0, .ref (A 0)), (1, .int v1), (2, .ref (A q))] F.2.2.2.1 rfl (by decide) rfl dL_thing_9 ?_
  refine g_aload_n C 3 rfl rfl dL_thing_10 ?_
  refine g_iload_n C 0 rfl rfl dL_thing_11 ?_
  refine g_iload_n C 2 rfl rfl dL_thing_12 ?_
  refine g_iconst (v := (5 : Int32)) C dL_thing_13 (by decide) ?_
  refine g_irem C hw.1 dL_thing_14 ?_
  replace hw := hw.2
  refine g_iast C hK q 2 (ga_q cy A _ hq) rfl hw.1 (gs_q cy A _ _ _ hq) dL_thing_15 ?_
  replace hw := hw.2
  refine g_aload_n C 3 rfl rfl dL_thing_16 ?_
  refine g_iload_n C 0 rfl rfl dL_thing_17 ?_
  refine g_iconst (v := (1 : Int32)) C dL_thing_18 (by decide) ?_
  refine g_iadd C dL_thing_19 ?_
  refine g_iconst (v := (1 : Int32)) C dL_thing_20 (by decide) ?_
  refine g_iload_n C 2 rfl rfl dL_thing_21 ?_
  refine g_bipush (v := (8 : Int32)) C dL_thing_22 (by decide) ?_
  refine g_idiv C hw.1 dL_thing_24 ?_
  replace hw := hw.2
  refine g_bipush (v := (20 : Int32)) C dL_thing_25 (by decide) ?_
  refine g_irem C hw.1 dL_thing_27 ?_
  replace hw := hw.2
  refine g_iadd C dL_thing_28 ?_
  refine g_iast C hK q 2 (ga_q cy A _ hq) rfl hw.1 (gs_q cy A _ _ _ hq) dL_thing_29 ?_
  replace hw := hw.2
  refine g_aload_n C 3 rfl rfl dL_thing_30 ?_
  refine g_iload_n C 0 rfl rfl dL_thing_31 ?_
  refine g_iconst (v := (2 : Int32)) C dL_thing_32 (by decide) ?_
  refine g_iadd C dL_thing_33 ?_
  refine g_iload_n C 2 rfl rfl dL_thing_34 ?_
  refine g_sipush (v := (256 : Int32)) C dL_thing_35 (by decide) ?_
  refine g_idiv C hw.1 dL_thing_38 ?_
  replace hw := hw.2
  refine g_iconst (v := (2 : Int32)) C dL_thing_39 (by decide) ?_
  refine g_irem C hw.1 dL_thing_40 ?_
  replace hw := hw.2
  refine g_iast C hK q 2 (ga_q cy A _ hq) rfl hw.1 (gs_q cy A _ _ _ hq) dL_thing_41 ?_
  replace hw := hw.2
  refine g_aload_n C 3 rfl rfl dL_thing_42 ?_
  refine g_iload_n C 0 rfl rfl dL_thing_43 ?_
  refine g_iconst (v := (3 : Int32)) C dL_thing_44 (by decide) ?_
  refine g_iadd C dL_thing_45 ?_
  refine g_aload_n C 3 rfl rfl dL_thing_46 ?_
  refine g_iconst (v := (5 : Int32)) C dL_thing_47 (by decide) ?_
  refine g_iald C hK q 2 (ga_q cy A _ hq) rfl hw.1 dL_thing_48 ?_
  replace hw := hw.2
  refine g_iast C hK q 2 (ga_q cy A _ hq) rfl hw.1 (gs_q cy A _ _ _ hq) dL_thing_49 ?_
  replace hw := hw.2
  refine g_aload_n C 3 rfl rfl dL_thing_50 ?_
  refine g_bipush (v := (7 : Int32)) C dL_thing_51 (by decide) ?_
  refine g_dup2 C rfl rfl dL_thing_53 ?_
  refine g_iald C hK q 2 (ga_q cy A _ hq) rfl hw.1 dL_thing_54 ?_
  replace hw := hw.2
  refine g_iconst (v := (1 : Int32)) C dL_thing_55 (by decide) ?_
  refine g_iadd C dL_thing_56 ?_
  refine g_iast C hK q 2 (ga_q cy A _ hq) rfl hw.1 (gs_q cy A _ _ _ hq) dL_thing_57 ?_
  replace hw := hw.2
  refine g_aload_n C 1 rfl rfl dL_thing_58 ?_
  refine g_iload_n C 2 rfl rfl dL_thing_59 ?_
  refine g_iconst (v := (5 : Int32)) C dL_thing_60 (by decide) ?_
  refine g_irem C hw.1 dL_thing_61 ?_
  replace hw := hw.2
  refine g_aload_n C 3 rfl rfl dL_thing_62 ?_
  refine g_iload_n C 0 rfl rfl dL_thing_63 ?_
  refine g_iconst (v := (1 : Int32)) C dL_thing_64 (by decide) ?_
  refine g_iadd C dL_thing_65 ?_
  refine g_iald C hK q 2 (ga_q cy A _ hq) rfl hw.1 dL_thing_66 ?_
  replace hw := hw.2
  refine g_aload_n C 3 rfl rfl dL_thing_67 ?_
  refine g_iload_n C 0 rfl rfl dL_thing_68 ?_
  refine g_iconst (v := (2 : Int32)) C dL_thing_69 (by decide) ?_
  refine g_iadd C dL_thing_70 ?_
  refine g_iald C hK q 2 (ga_q cy A _ hq) rfl hw.1 dL_thing_71 ?_
  replace hw := hw.2
  refine gc_I C (gr_V (As := [.int (v1 - v1 / (5 : Int32) * (5 : Int32)), .int ((sV (sV (sV (sV (sV σ q ((8 : Int32) + ((4 : Int32) * (σ.1 q (7 : Int32).toNatClampNeg))).toNatClampNeg (v1 - v1 / (5 : Int32) * (5 : Int32))) q (((8 : Int32) + ((4 : Int32) * (σ.1 q (7 : Int32).toNatClampNeg))) + (1 : Int32)).toNatClampNeg ((1 : Int32) + ((v1 / (8 : Int32)) - (v1 / (8 : Int32)) / (20 : Int32) * (20 : Int32)))) q (((8 : Int32) + ((4 : Int32) * (σ.1 q (7 : Int32).toNatClampNeg))) + (2 : Int32)).toNatClampNeg ((v1 / (256 : Int32)) - (v1 / (256 : Int32)) / (2 : Int32) * (2 : Int32))) q (((8 : Int32) + ((4 : Int32) * (σ.1 q (7 : Int32).toNatClampNeg))) + (3 : Int32)).toNatClampNeg ((sV (sV (sV σ q ((8 : Int32) + ((4 : Int32) * (σ.1 q (7 : Int32).toNatClampNeg))).toNatClampNeg (v1 - v1 / (5 : Int32) * (5 : Int32))) q (((8 : Int32) + ((4 : Int32) * (σ.1 q (7 : Int32).toNatClampNeg))) + (1 : Int32)).toNatClampNeg ((1 : Int32) + ((v1 / (8 : Int32)) - (v1 / (8 : Int32)) / (20 : Int32) * (20 : Int32)))) q (((8 : Int32) + ((4 : Int32) * (σ.1 q (7 : Int32).toNatClampNeg))) + (2 : Int32)).toNatClampNeg ((v1 / (256 : Int32)) - (v1 / (256 : Int32)) / (2 : Int32) * (2 : Int32))).1 q (5 : Int32).toNatClampNeg)) q (7 : Int32).toNatClampNeg (((sV (sV (sV (sV σ q ((8 : Int32) + ((4 : Int32) * (σ.1 q (7 : Int32).toNatClampNeg))).toNatClampNeg (v1 - v1 / (5 : Int32) * (5 : Int32))) q (((8 : Int32) + ((4 : Int32) * (σ.1 q (7 : Int32).toNatClampNeg))) + (1 : Int32)).toNatClampNeg ((1 : Int32) + ((v1 / (8 : Int32)) - (v1 / (8 : Int32)) / (20 : Int32) * (20 : Int32)))) q (((8 : Int32) + ((4 : Int32) * (σ.1 q (7 : Int32).toNatClampNeg))) + (2 : Int32)).toNatClampNeg ((v1 / (256 : Int32)) - (v1 / (256 : Int32)) / (2 : Int32) * (2 : Int32))) q (((8 : Int32) + ((4 : Int32) * (σ.1 q (7 : Int32).toNatClampNeg))) + (3 : Int32)).toNatClampNeg ((sV (sV (sV σ q ((8 : Int32) + ((4 : Int32) * (σ.1 q (7 : Int32).toNatClampNeg))).toNatClampNeg (v1 - v1 / (5 : Int32) * (5 : Int32))) q (((8 : Int32) + ((4 : Int32) * (σ.1 q (7 : Int32).toNatClampNeg))) + (1 : Int32)).toNatClampNeg ((1 : Int32) + ((v1 / (8 : Int32)) - (v1 / (8 : Int32)) / (20 : Int32) * (20 : Int32)))) q (((8 : Int32) + ((4 : Int32) * (σ.1 q (7 : Int32).toNatClampNeg))) + (2 : Int32)).toNatClampNeg ((v1 / (256 : Int32)) - (v1 / (256 : Int32)) / (2 : Int32) * (2 : Int32))).1 q (5 : Int32).toNatClampNeg)).1 q (7 : Int32).toNatClampNeg) + (1 : Int32))).1 q (((8 : Int32) + ((4 : Int32) * (σ.1 q (7 : Int32).toNatClampNeg))) + (1 : Int32)).toNatClampNeg), .int ((sV (sV (sV (sV (sV σ q ((8 : Int32) + ((4 : Int32) * (σ.1 q (7 : Int32).toNatClampNeg))).toNatClampNeg (v1 - v1 / (5 : Int32) * (5 : Int32))) q (((8 : Int32) + ((4 : Int32) * (σ.1 q (7 : Int32).toNatClampNeg))) + (1 : Int32)).toNatClampNeg ((1 : Int32) + ((v1 / (8 : Int32)) - (v1 / (8 : Int32)) / (20 : Int32) * (20 : Int32)))) q (((8 : Int32) + ((4 : Int32) * (σ.1 q (7 : Int32).toNatClampNeg))) + (2 : Int32)).toNatClampNeg ((v1 / (256 : Int32)) - (v1 / (256 : Int32)) / (2 : Int32) * (2 : Int32))) q (((8 : Int32) + ((4 : Int32) * (σ.1 q (7 : Int32).toNatClampNeg))) + (3 : Int32)).toNatClampNeg ((sV (sV (sV σ q ((8 : Int32) + ((4 : Int32) * (σ.1 q (7 : Int32).toNatClampNeg))).toNatClampNeg (v1 - v1 / (5 : Int32) * (5 : Int32))) q (((8 : Int32) + ((4 : Int32) * (σ.1 q (7 : Int32).toNatClampNeg))) + (1 : Int32)).toNatClampNeg ((1 : Int32) + ((v1 / (8 : Int32)) - (v1 / (8 : Int32)) / (20 : Int32) * (20 : Int32)))) q (((8 : Int32) + ((4 : Int32) * (σ.1 q (7 : Int32).toNatClampNeg))) + (2 : Int32)).toNatClampNeg ((v1 / (256 : Int32)) - (v1 / (256 : Int32)) / (2 : Int32) * (2 : Int32))).1 q (5 : Int32).toNatClampNeg)) q (7 : Int32).toNatClampNeg (((sV (sV (sV (sV σ q ((8 : Int32) + ((4 : Int32) * (σ.1 q (7 : Int32).toNatClampNeg))).toNatClampNeg (v1 - v1 / (5 : Int32) * (5 : Int32))) q (((8 : Int32) + ((4 : Int32) * (σ.1 q (7 : Int32).toNatClampNeg))) + (1 : Int32)).toNatClampNeg ((1 : Int32) + ((v1 / (8 : Int32)) - (v1 / (8 : Int32)) / (20 : Int32) * (20 : Int32)))) q (((8 : Int32) + ((4 : Int32) * (σ.1 q (7 : Int32).toNatClampNeg))) + (2 : Int32)).toNatClampNeg ((v1 / (256 : Int32)) - (v1 / (256 : Int32)) / (2 : Int32) * (2 : Int32))) q (((8 : Int32) + ((4 : Int32) * (σ.1 q (7 : Int32).toNatClampNeg))) + (3 : Int32)).toNatClampNeg ((sV (sV (sV σ q ((8 : Int32) + ((4 : Int32) * (σ.1 q (7 : Int32).toNatClampNeg))).toNatClampNeg (v1 - v1 / (5 : Int32) * (5 : Int32))) q (((8 : Int32) + ((4 : Int32) * (σ.1 q (7 : Int32).toNatClampNeg))) + (1 : Int32)).toNatClampNeg ((1 : Int32) + ((v1 / (8 : Int32)) - (v1 / (8 : Int32)) / (20 : Int32) * (20 : Int32)))) q (((8 : Int32) + ((4 : Int32) * (σ.1 q (7 : Int32).toNatClampNeg))) + (2 : Int32)).toNatClampNeg ((v1 / (256 : Int32)) - (v1 / (256 : Int32)) / (2 : Int32) * (2 : Int32))).1 q (5 : Int32).toNatClampNeg)).1 q (7 : Int32).toNatClampNeg) + (1 : Int32))).1 q (((8 : Int32) + ((4 : Int32) * (σ.1 q (7 : Int32).toNatClampNeg))) + (2 : Int32)).toNatClampNeg)]) (rest := []) C hK 3 (gd_V wt_363 wt_364 wt_365 wt_1 wt_366) rfl rfl rfl ⟨rfl, hs_X11_thing⟩ ⟨⟨Nat.le_of_ble_eq_true rfl, Nat.le_of_ble_eq_true rfl⟩, Nat.le_of_ble_eq_true rfl, Nat.le_of_ble_eq_true rfl⟩ rfl 0 (ga_0 cy A _) rfl rfl (Nat.le_of_ble_eq_true rfl) dL_thing_72 (c_X11_thing (q_l κ) (q_D κ) cy A hw)) (fun r2 σ1 hw => ?_)
  refine g_aload_n C 3 rfl rfl dL_thing_75 ?_
  refine g_bipush (v := (7 : Int32)) C dL_thing_76 (by decide) ?_
  refine g_iald C hK q 2 (ga_q cy A _ hq) rfl hw.1 dL_thing_78 ?_
  replace hw := hw.2
  refine g_iconst (v := (1 : Int32)) C dL_thing_79 (by decide) ?_
  refine g_isub C dL_thing_80 ?_
  refine g_icmp_ne C 88 (by decide) hw dL_thing_81 (fun hw => ?_) (fun hw => ?_)
  · refine g_iconst (v := (0 : Int32)) C dL_thing_88 (by decide) ?_
    exact gq_Z C F (by decide) (by decide) hw dL_thing_89
  · refine g_iconst (v := (1 : Int32)) C dL_thing_84 (by decide) ?_
    refine g_goto C 89 (by decide) dL_thing_85 ?_
    exact gq_Z C F (by decide) (by decide) hw dL_thing_89
set_option maxHeartbeats 4000000 in
set_option maxRecDepth 100000 in
theorem c_L_weighs (l : Launch) (D : va_G) (cy : Nat → ClassId) (A : Nat → Nat) {σ : St} {q : Nat} (hq : isQ q) {v1 : Int32} {v2 : Int32} {Φ : Int32 → St → Prop} (hw : wL_weighs σ q v1 v2 Φ) : CtI l yL_weighs (.code yL_weighs cL_weighs 5 (some .int) :: gL) rm_L_weighs 0 0 [.ref (A q), .int v1, .int v2] D cy A σ Φ := by
  refine ct_any (fun sz => va_Qi Φ (HE D cy A (gZ cy A σ sz)) (gZ cy A σ sz)) (by decide +kernel) rfl rfl [(0, .ref (A q)), (1, .int v1), (2, .int v2)] rfl (Nat.le_of_ble_eq_true rfl) ?_
  intro κ hκl hnm C hK sz F
  subst hκl
  unfold wL_weighs at hw
  refine g_aload_n C 0 rfl rfl dL_weighs_0 ?_
  refine g_bipush (v := (8 : Int32)) C dL_weighs_1 (by decide) ?_
  refine g_iconst (v := (4 : Int32)) C dL_weighs_3 (by decide) ?_
  refine g_iload_n C 1 rfl rfl dL_weighs_4 ?_
  refine g_imul C dL_weighs_5 ?_
  refine g_iadd C dL_weighs_6 ?_
  refine g_iald C hK q 2 (ga_q cy A _ hq) rfl hw.1 dL_weighs_7 ?_
  replace hw := hw.2
  refine g_istore_n C [(3, .int (σ.1 q ((8 : Int32) + ((4 : Int32) * v1)).toNatClampNeg)), (0, .ref (A q)), (1, .int v1), (2, .int v2)] F.2.2.2.1 rfl (by decide) rfl dL_weighs_8 ?_
  refine g_aload_n C 1 rfl rfl dL_weighs_9 ?_
  refine g_iconst (v := (5 : Int32)) C dL_weighs_10 (by decide) ?_
  refine g_iald C hK q 2 (ga_q cy A _ hq) rfl hw.1 dL_weighs_11 ?_
  replace hw := hw.2
  refine g_iload_n C 3 rfl rfl dL_weighs_12 ?_
  refine g_iadd C dL_weighs_13 ?_
  refine g_aload_n C 1 rfl rfl dL_weighs_14 ?_
  refine g_bipush (v := (11 : Int32)) C dL_weighs_15 (by decide) ?_
  refine g_iconst (v := (4 : Int32)) C dL_weighs_17 (by decide) ?_
  refine g_iload_n C 2 rfl rfl dL_weighs_18 ?_
  refine g_imul C dL_weighs_19 ?_
  refine g_iadd C dL_weighs_20 ?_
  refine g_iald C hK q 2 (ga_q cy A _ hq) rfl hw.1 dL_weighs_21 ?_
  replace hw := hw.2
  refine g_isub C dL_weighs_22 ?_
  refine g_bipush (v := (6 : Int32)) C dL_weighs_23 (by decide) ?_
  refine g_idiv C hw.1 dL_weighs_25 ?_
  replace hw := hw.2
  refine g_istore C [(4, .int ((((σ.1 q (5 : Int32).toNatClampNeg) + v2) - (σ.1 q ((11 : Int32) + ((4 : Int32) * v1)).toNatClampNeg)) / (6 : Int32))), (3, .int (σ.1 q ((8 : Int32) + ((4 : Int32) * v1)).toNatClampNeg)), (0, .ref (A q)), (1, .int v1), (2, .int v2)] F.2.2.2.1 (by decide) rfl dL_weighs_26 ?_
  refine g_aload_n C 2 rfl rfl dL_weighs_28 ?_
  refine g_bipush (v := (9 : Int32)) C dL_weighs_29 (by decide) ?_
  refine g_iconst (v := (4 : Int32)) C dL_weighs_31 (by decide) ?_
  refine g_iload_n C 3 rfl rfl dL_weighs_32 ?_
  refine g_imul C dL_weighs_33 ?_
  refine g_iadd C dL_weighs_34 ?_
  refine g_iald C hK q 2 (ga_q cy A _ hq) rfl hw.1 dL_weighs_35 ?_
  replace hw := hw.2
  refine g_iload_n C 1 rfl rfl dL_weighs_36 ?_
  refine g_iconst (v := (1 : Int32)) C dL_weighs_37 (by decide) ?_
  refine g_icmp_ne C 45 (by decide) hw dL_weighs_38 (fun hw => ?_) (fun hw => ?_)
  · refine g_iload_n C 1 rfl rfl dL_weighs_45 ?_
    refine g_iconst (v := (3 : Int32)) C dL_weighs_46 (by decide) ?_
    refine g_icmp_ne C 55 (by decide) hw dL_weighs_47 (fun hw => ?_) (fun hw => ?_)
    · refine g_iload_n C 1 rfl rfl dL_weighs_55 ?_
      refine g_iconst (v := (4 : Int32)) C dL_weighs_56 (by decide) ?_
      refine g_icmp_ne C 68 (by decide) hw dL_weighs_57 (fun hw => ?_) (fun hw => ?_)
      · refine g_iconst (v := (0 : Int32)) C dL_weighs_68 (by decide) ?_
        refine g_iadd C dL_weighs_69 ?_
        exact gq_I C F (by decide) (by decide) hw dL_weighs_70
      · refine g_iload C 0 rfl dL_weighs_60 ?_
        refine g_iload C 0 rfl dL_weighs_62 ?_
        refine g_iadd C dL_weighs_64 ?_
        refine g_goto C 69 (by decide) dL_weighs_65 ?_
        refine g_iadd C dL_weighs_69 ?_
        exact gq_I C F (by decide) (by decide) hw dL_weighs_70
    · refine g_iload C 0 rfl dL_weighs_50 ?_
      refine g_goto C 69 (by decide) dL_weighs_52 ?_
      refine g_iadd C dL_weighs_69 ?_
      exact gq_I C F (by decide) (by decide) hw dL_weighs_70
  · refine g_iconst (v := (2 : Int32)) C dL_weighs_41 (by decide) ?_
    refine g_goto C 69 (by decide) dL_weighs_42 ?_
    refine g_iadd C dL_weighs_69 ?_
    exact gq_I C F (by decide) (by decide) hw dL_weighs_70
set_option maxHeartbeats 4000000 in
set_option maxRecDepth 100000 in
theorem c_L_cabin (l : Launch) (D : va_G) (cy : Nat → ClassId) (A : Nat → Nat) {σ : St} {q : Nat} (hq : isQ q) {v1 : Int32} {v2 : Int32} {v3 : Int32} {Φ : Int32 → St → Prop} (hw : wL_cabin σ q v1 v2 v3 Φ) : CtI l yL_cabin (.code yL_cabin cL_cabin 7 (some .int) :: gL) rm_L_cabin 0 0 [.ref (A q), .int v1, .int v2, .int v3] D cy A σ Φ := by
  refine ct_any (fun sz => va_Qi Φ (HE D cy A (gZ cy A σ sz)) (gZ cy A σ sz)) (by decide +kernel) rfl rfl [(0, .ref (A q)), (1, .int v1), (2, .int v2), (3, .int v3)] rfl (Nat.le_of_ble_eq_true rfl) ?_
  intro κ hκl hnm C hK sz F
  subst hκl
  have J55 : ∀ (K7 : St → Int32 → Int32 → Int32 → Int32 → Int32 → Prop) (_ : ∀ (σ : St) (v1 : Int32) (v2 : Int32) (v3 : Int32) (v4 : Int32) (v5 : Int32), K7 σ v1 v2 v3 v4 v5 → GW κ 0 0 (gW cy A σ) 7 [(0, .ref (A q)), (1, .int v1), (2, .int v2), (3, .int v3), (4, .int v4), (5, .int v5)] []), ∀ (σ : St) (v1 : Int32) (v2 : Int32) (v3 : Int32) (v5 : Int32) (s0 : Int32) (s1 : Int32), wL_cabin_55 q K7 Φ σ v1 v2 v3 v5 s0 s1 → GW κ 0 0 (gW cy A σ) 55 [(0, .ref (A q)), (1, .int v1), (2, .int v2), (3, .int v3), (5, .int v5)] [.int s0, .int s1] := by
    intro K7 hK7 σ v1 v2 v3 v5 s0 s1 hw
    unfold wL_cabin_55 at hw
    refine g_iadd C dL_cabin_55 ?_
    refine g_istore C [(4, .int (s1 + s0)), (0, .ref (A q)), (1, .int v1), (2, .int v2), (3, .int v3), (5, .int v5)] F.2.2.2.1 (by decide) rfl dL_cabin_56 ?_
    refine g_iinc (j := 5) C [(5, .int (v5 + 1)), (4, .int (s1 + s0)), (0, .ref (A q)), (1, .int v1), (2, .int v2), (3, .int v3)] F.2.2.2.1 rfl rfl (by decide) rfl dL_cabin_58 ?_
    refine g_goto C 7 (by decide) dL_cabin_61 ?_
    refine g_eql (lv' := [(0, .ref (A q)), (1, .int v1), (2, .int v2), (3, .int v3), (4, .int (s1 + s0)), (5, .int (v5 + 1))]) [2, 3, 4, 5, 1, 0] rfl ?_
    exact hK7 σ v1 v2 v3 (s1 + s0) (v5 + 1) hw
  have J7 : ∀ (n : Nat) (σ : St) (v1 : Int32) (v2 : Int32) (v3 : Int32) (v4 : Int32) (v5 : Int32), wL_cabin_7 q Φ n σ v1 v2 v3 v4 v5 → GW κ 0 0 (gW cy A σ) 7 [(0, .ref (A q)), (1, .int v1), (2, .int v2), (3, .int v3), (4, .int v4), (5, .int v5)] [] := by
    intro n
    induction n with
    | zero => intro σ v1 v2 v3 v4 v5 hw; exact hw.elim
    | succ n ih =>
      intro σ v1 v2 v3 v4 v5 hw
      rw [wL_cabin_7] at hw
      refine g_iload C 5 rfl dL_cabin_7 ?_
      refine g_aload_n C 0 rfl rfl dL_cabin_9 ?_
      refine g_bipush (v := (7 : Int32)) C dL_cabin_10 (by decide) ?_
      refine g_iald C hK q 2 (ga_q cy A _ hq) rfl hw.1 dL_cabin_12 ?_
      replace hw := hw.2
      refine g_icmp_ge C 64 (by decide) hw dL_cabin_13 (fun hw => ?_) (fun hw => ?_)
      · refine g_iload C 4 rfl dL_cabin_64 ?_
        exact gq_I C F (by decide) (by decide) hw dL_cabin_66
      · refine g_aload_n C 0 rfl rfl dL_cabin_16 ?_
        refine g_bipush (v := (10 : Int32)) C dL_cabin_17 (by decide) ?_
        refine g_iconst (v := (4 : Int32)) C dL_cabin_19 (by decide) ?_
        refine g_iload C 5 rfl dL_cabin_20 ?_
        refine g_imul C dL_cabin_22 ?_
        refine g_iadd C dL_cabin_23 ?_
        refine g_iald C hK q 2 (ga_q cy A _ hq) rfl hw.1 dL_cabin_24 ?_
        replace hw := hw.2
        refine g_iload_n C 2 rfl rfl dL_cabin_25 ?_
        refine g_iload C 5 rfl dL_cabin_26 ?_
        refine g_ishr C dL_cabin_28 ?_
        refine g_iconst (v := (1 : Int32)) C dL_cabin_29 (by decide) ?_
        refine g_iand C dL_cabin_30 ?_
        refine g_iadd C dL_cabin_31 ?_
        refine g_iconst (v := (2 : Int32)) C dL_cabin_32 (by decide) ?_
        refine g_irem C hw.1 dL_cabin_33 ?_
        replace hw := hw.2
        refine g_istore C [(6, .int (((σ.1 q ((10 : Int32) + ((4 : Int32) * v5)).toNatClampNeg) + ((v2 >>> (v5 &&& 31)) &&& (1 : Int32))) - ((σ.1 q ((10 : Int32) + ((4 : Int32) * v5)).toNatClampNeg) + ((v2 >>> (v5 &&& 31)) &&& (1 : Int32))) / (2 : Int32) * (2 : Int32))), (0, .ref (A q)), (1, .int v1), (2, .int v2), (3, .int v3), (4, .int v4), (5, .int v5)] F.2.2.2.1 (by decide) rfl dL_cabin_34 ?_
        refine g_iload C 5 rfl dL_cabin_36 ?_
        refine g_iload C 0 rfl dL_cabin_38 ?_
        refine g_iload_n C 2 rfl rfl dL_cabin_40 ?_
        refine g_icmp_ne C 54 (by decide) hw dL_cabin_41 (fun hw => ?_) (fun hw => ?_)
        · refine g_iconst (v := (0 : Int32)) C dL_cabin_54 (by decide) ?_
          refine g_eql (lv' := [(0, .ref (A q)), (1, .int v1), (2, .int v2), (3, .int v3), (5, .int v5)]) [1, 2, 3, 4, 6] rfl ?_
          exact J55 _ ih σ v1 v2 v3 v5 (0 : Int32) v4 hw
        · refine g_aload_n C 1 rfl rfl dL_cabin_44 ?_
          refine g_iload C 6 rfl dL_cabin_45 ?_
          refine g_iload_n C 4 rfl rfl dL_cabin_47 ?_
          refine gc_I C (gr_S (As := [.ref (A q), .int v5, .int v3]) (rest := [.int v4]) C hK 3 (gd_S wt_438 wt_439 wt_0 wt_440) rfl rfl rfl hs_L_weighs ⟨⟨Nat.le_of_ble_eq_true rfl, Nat.le_of_ble_eq_true rfl⟩, Nat.le_of_ble_eq_true rfl, Nat.le_of_ble_eq_true rfl⟩ rfl rfl (Nat.le_of_ble_eq_true rfl) dL_cabin_48 (c_L_weighs (q_l κ) (q_D κ) cy A hq hw)) (fun r2 σ1 hw => ?_)
          refine g_goto C 55 (by decide) dL_cabin_51 ?_
          refine g_eql (lv' := [(0, .ref (A q)), (1, .int v1), (2, .int v2), (3, .int v3), (5, .int v5)]) [1, 2, 3, 4, 6] rfl ?_
          exact J55 _ ih σ1 v1 v2 v3 v5 r2 v4 hw
  unfold wL_cabin at hw
  refine g_bipush (v := (10 : Int32)) C dL_cabin_0 (by decide) ?_
  refine g_istore C [(4, .int (10 : Int32)), (0, .ref (A q)), (1, .int v1), (2, .int v2), (3, .int v3)] F.2.2.2.1 (by decide) rfl dL_cabin_2 ?_
  refine g_iconst (v := (0 : Int32)) C dL_cabin_4 (by decide) ?_
  refine g_istore C [(5, .int (0 : Int32)), (4, .int (10 : Int32)), (0, .ref (A q)), (1, .int v1), (2, .int v2), (3, .int v3)] F.2.2.2.1 (by decide) rfl dL_cabin_5 ?_
  refine g_eql (lv' := [(0, .ref (A q)), (1, .int v1), (2, .int v2), (3, .int v3), (4, .int (10 : Int32)), (5, .int (0 : Int32))]) [2, 3, 4, 5, 1, 0] rfl ?_
  obtain ⟨n0, hw⟩ := hw
  exact J7 n0 σ v1 v2 v3 (10 : Int32) (0 : Int32) hw
set_option maxHeartbeats 4000000 in
set_option maxRecDepth 100000 in
theorem c_L_turns (l : Launch) (D : va_G) (cy : Nat → ClassId) (A : Nat → Nat) {σ : St} {q : Nat} (hq : isQ q) {v1 : Int32} {Φ : Int32 → St → Prop} (hw : wL_turns σ q v1 Φ) : CtI l yL_turns (.code yL_turns cL_turns 2 (some .int) :: gL) rm_L_turns 0 0 [.ref (A q), .int v1] D cy A σ Φ := by
  refine ct_any (fun sz => va_Qi Φ (HE D cy A (gZ cy A σ sz)) (gZ cy A σ sz)) (by decide +kernel) rfl rfl [(0, .ref (A q)), (1, .int v1)] rfl (Nat.le_of_ble_eq_true rfl) ?_
  intro κ hκl hnm C hK sz F
  subst hκl
  unfold wL_turns at hw
  refine g_aload_n C 0 rfl rfl dL_turns_0 ?_
  refine g_iconst (v := (1 : Int32)) C dL_turns_1 (by decide) ?_
  refine g_iald C hK q 2 (ga_q cy A _ hq) rfl hw.1 dL_turns_2 ?_
  replace hw := hw.2
  refine g_iload_n C 1 rfl rfl dL_turns_3 ?_
  refine g_iload_n C 1 rfl rfl dL_turns_4 ?_
  refine g_imul C dL_turns_5 ?_
  refine g_idiv C hw.1 dL_turns_6 ?_
  replace hw := hw.2
  exact gq_I C F (by decide) (by decide) hw dL_turns_7
set_option maxHeartbeats 4000000 in
set_option maxRecDepth 100000 in
theorem c_L_arm (l : Launch) (D : va_G) (cy : Nat → ClassId) (A : Nat → Nat) {σ : St} {q : Nat} (hq : isQ q) {v1 : Int32} {v2 : Int32} {v3 : Int32} {v4 : Int32} {Φ : Int32 → St → Prop} (hw : wL_arm σ q v1 v2 v3 v4 Φ) : CtI l yL_arm (.code yL_arm cL_arm 8 (some .int) :: gL) rm_L_arm 0 0 [.ref (A q), .int v1, .int v2, .int v3, .int v4] D cy A σ Φ := by
  refine ct_any (fun sz => va_Qi Φ (HE D cy A (gZ cy A σ sz)) (gZ cy A σ sz)) (by decide +kernel) rfl rfl [(0, .ref (A q)), (1, .int v1), (2, .int v2), (3, .int v3), (4, .int v4)] rfl (Nat.le_of_ble_eq_true rfl) ?_
  intro κ hκl hnm C hK sz F
  subst hκl
  unfold wL_arm at hw
  refine g_aload_n C 0 rfl rfl dL_arm_0 ?_
  refine g_iconst (v := (0 : Int32)) C dL_arm_1 (by decide) ?_
  refine g_iload_n C 2 rfl rfl dL_arm_2 ?_
  refine g_iload C 4 rfl dL_arm_3 ?_
  refine gc_I C (gr_S (As := [.ref (A q), .int (0 : Int32), .int v2, .int v4]) (rest := []) C hK 4 (gd_S wt_435 wt_436 wt_0 wt_437) rfl rfl rfl hs_L_cabin ⟨⟨Nat.le_of_ble_eq_true rfl, Nat.le_of_ble_eq_true rfl⟩, Nat.le_of_ble_eq_true rfl, Nat.le_of_ble_eq_true rfl⟩ rfl rfl (Nat.le_of_ble_eq_true rfl) dL_arm_5 (c_L_cabin (q_l κ) (q_D κ) cy A hq hw)) (fun r2 σ1 hw => ?_)
  refine g_istore C [(5, .int r2), (0, .ref (A q)), (1, .int v1), (2, .int v2), (3, .int v3), (4, .int v4)] F.2.2.2.1 (by decide) rfl dL_arm_8 ?_
  refine g_aload_n C 1 rfl rfl dL_arm_10 ?_
  refine g_iconst (v := (1 : Int32)) C dL_arm_11 (by decide) ?_
  refine g_iload_n C 3 rfl rfl dL_arm_12 ?_
  refine g_iload C 5 rfl dL_arm_13 ?_
  refine gc_I C (gr_S (As := [.ref (A q), .int (1 : Int32), .int v2, .int v4]) (rest := []) C hK 4 (gd_S wt_435 wt_436 wt_0 wt_437) rfl rfl rfl hs_L_cabin ⟨⟨Nat.le_of_ble_eq_true rfl, Nat.le_of_ble_eq_true rfl⟩, Nat.le_of_ble_eq_true rfl, Nat.le_of_ble_eq_true rfl⟩ rfl rfl (Nat.le_of_ble_eq_true rfl) dL_arm_15 (c_L_cabin (q_l κ) (q_D κ) cy A hq hw)) (fun r4 σ3 hw => ?_)
  refine g_istore C [(6, .int r4), (5, .int r2), (0, .ref (A q)), (1, .int v1), (2, .int v2), (3, .int v3), (4, .int v4)] F.2.2.2.1 (by decide) rfl dL_arm_18 ?_
  refine g_iload_n C 5 rfl rfl dL_arm_20 ?_
  refine g_iload C 0 rfl dL_arm_21 ?_
  refine g_imul C dL_arm_23 ?_
  refine g_iload_n C 5 rfl rfl dL_arm_24 ?_
  refine g_iload C 0 rfl dL_arm_25 ?_
  refine g_imul C dL_arm_27 ?_
  refine g_iload C 1 rfl dL_arm_28 ?_
  refine g_iload C 0 rfl dL_arm_30 ?_
  refine g_iadd C dL_arm_32 ?_
  refine g_irem C hw.1 dL_arm_33 ?_
  replace hw := hw.2
  refine g_isub C dL_arm_34 ?_
  refine g_iload C 1 rfl dL_arm_35 ?_
  refine g_iload C 0 rfl dL_arm_37 ?_
  refine g_iadd C dL_arm_39 ?_
  refine g_idiv C hw.1 dL_arm_40 ?_
  replace hw := hw.2
  refine g_istore C [(7, .int (((v3 * r4) - ((v3 * r4) - (v3 * r4) / (r2 + r4) * (r2 + r4))) / (r2 + r4))), (6, .int r4), (5, .int r2), (0, .ref (A q)), (1, .int v1), (2, .int v2), (3, .int v3), (4, .int v4)] F.2.2.2.1 (by decide) rfl dL_arm_41 ?_
  refine g_iload_n C 4 rfl rfl dL_arm_43 ?_
  refine g_if_ne C 52 (by decide) hw dL_arm_44 (fun hw => ?_) (fun hw => ?_)
  · refine g_iload_n C 6 rfl rfl dL_arm_52 ?_
    refine g_iload C 0 rfl dL_arm_53 ?_
    refine g_isub C dL_arm_55 ?_
    exact gq_I C F (by decide) (by decide) hw dL_arm_56
  · refine g_iload C 0 rfl dL_arm_47 ?_
    refine g_goto C 56 (by decide) dL_arm_49 ?_
    exact gq_I C F (by decide) (by decide) hw dL_arm_56
