set_option maxHeartbeats 8000000 in
set_option maxRecDepth 100000 in
theorem law_body {κ : qC} (C : Cx κ code RL gL room_1) (hN : q_n κ = 20) {cy : Nat → ClassId} (hK : va_K (q_D κ) vwCl (gty cy) (q_s κ)) {A : Nat → Nat} {b L : Nat} {xs : Nat → Int32} (hX : va_X b L xs (q_s κ) (q_s κ).heap) (hbl : b < (q_s κ).heap.size) (hbA : ¬ q_A κ b) (hL : L < 2 ^ 31) (hret : ∀ (k n : Nat) (ws : va_W) (lv : List (Nat × Value)) (pc : Nat) (v : Int32), k ≤ 888223 → n ≤ 6437580 → v = 1 → decode code pc = .ok (.ireturn, 1) → GW κ k n ws pc lv [.int v]) {σ : St} {kk : Nat} (hk6 : kk ≤ 600) (hw : wL_law L xs σ kk) : GW κ (20 + kk) (245 + 3 * kk) (gW cy A σ) 18 [(0, .ref b), (1, .ref (A 0)), (2, .ref (A 18)), (3, .ref (A 19))] [] := by
  have J953 : ∀ (K80 : St → Nat → Int32 → Prop) (_ : ∀ (σ : St) (kk : Nat) (v5 : Int32), kk ≤ 600 → K80 σ kk v5 → GW κ (20 + kk) (245 + 3 * kk) (gW cy A σ) 80 [(0, .ref b), (1, .ref (A 0)), (2, .ref (A 18)), (3, .ref (A 19)), (5, .int v5)] []), ∀ (σ : St) (kk : Nat) (v5 : Int32), kk ≤ 600 → wL_law_953 K80 L xs σ kk v5 → GW κ (20 + kk) (245 + 3 * kk) (gW cy A σ) 953 [(0, .ref b), (1, .ref (A 0)), (2, .ref (A 18)), (3, .ref (A 19)), (5, .int v5)] [] := by
    intro K80 hK80 σ kk v5 hk6 hw
    unfold wL_law_953 at hw
    refine g_iinc (j := 4) C [(5, .int (v5 + 1)), (0, .ref b), (1, .ref (A 0)), (2, .ref (A 18)), (3, .ref (A 19))] hN rfl rfl (by decide) rfl dL_law_953 ?_
    refine g_goto C 80 (by decide) dL_law_956 ?_
    refine g_eql (lv' := [(0, .ref b), (1, .ref (A 0)), (2, .ref (A 18)), (3, .ref (A 19)), (5, .int (v5 + 1))]) [1, 2, 3, 4, 0] rfl ?_
    exact hK80 σ kk (v5 + 1) (by omega) hw
  have J947 : ∀ (K80 : St → Nat → Int32 → Prop) (_ : ∀ (σ : St) (kk : Nat) (v5 : Int32), kk ≤ 600 → K80 σ kk v5 → GW κ (20 + kk) (245 + 3 * kk) (gW cy A σ) 80 [(0, .ref b), (1, .ref (A 0)), (2, .ref (A 18)), (3, .ref (A 19)), (5, .int v5)] []), ∀ (σ : St) (kk : Nat) (v5 : Int32) (s0 : Int64) (s1 : Int64), kk ≤ 600 → wL_law_947 K80 L xs σ kk v5 s0 s1 → GW κ (20 + kk) (245 + 3 * kk) (gW cy A σ) 947 [(0, .ref b), (1, .ref (A 0)), (2, .ref (A 18)), (3, .ref (A 19)), (5, .int v5)] [.long s0, .long s1] := by
    intro K80 hK80 σ kk v5 s0 s1 hk6 hw
    unfold wL_law_947 at hw
    refine g_lcmp C dL_law_947 ?_
    refine g_if_eq C 953 (by decide) hw dL_law_948 (fun hw => ?_) (fun hw => ?_)
    · exact J953 _ hK80 σ kk v5 (by omega) hw
    · refine g_iconst (v := (0 : Int32)) C dL_law_951 (by decide) ?_
      exact hret _ _ _ _ _ _ (by omega) (by omega) hw dL_law_952
  have J921 : ∀ (K80 : St → Nat → Int32 → Prop) (_ : ∀ (σ : St) (kk : Nat) (v5 : Int32), kk ≤ 600 → K80 σ kk v5 → GW κ (20 + kk) (245 + 3 * kk) (gW cy A σ) 80 [(0, .ref b), (1, .ref (A 0)), (2, .ref (A 18)), (3, .ref (A 19)), (5, .int v5)] []), ∀ (σ : St) (kk : Nat) (v5 : Int32) (v13 : Int32) (v14 : Int32) (v15 : Int64) (v18 : Int32) (s0 : Int32) (s1 : Int32), kk ≤ 600 → wL_law_921 K80 L xs σ kk v5 v13 v14 v15 v18 s0 s1 → GW κ (20 + kk) (245 + 3 * kk) (gW cy A σ) 921 [(0, .ref b), (1, .ref (A 0)), (2, .ref (A 18)), (3, .ref (A 19)), (5, .int v5), (13, .int v13), (14, .int v14), (15, .long v15), (18, .int v18)] [.int s0, .int s1] := by
    intro K80 hK80 σ kk v5 v13 v14 v15 v18 s0 s1 hk6 hw
    unfold wL_law_921 at hw
    refine g_icmp_ne C 951 (by decide) hw dL_law_921 (fun hw => ?_) (fun hw => ?_)
    · refine g_iconst (v := (0 : Int32)) C dL_law_951 (by decide) ?_
      exact hret _ _ _ _ _ _ (by omega) (by omega) hw dL_law_952
    · refine g_aload_n C 1 rfl rfl dL_law_924 ?_
      refine g_iload C 5 rfl dL_law_925 ?_
      refine g_iload C 6 rfl dL_law_927 ?_
      refine g_iconst (v := (3 : Int32)) C dL_law_929 (by decide) ?_
      refine gc_I (mc := 0) (ms := 0) C (gr_V (mc := 0) (ms := 0) (As := [.int v13, .int v14, .int (3 : Int32)]) (rest := []) C hK 3 (gd_V wt_262 wt_263 wt_264 wt_1 wt_265) rfl rfl rfl ⟨rfl, hs_X11_whirls⟩ ⟨⟨Nat.le_of_ble_eq_true rfl, Nat.le_of_ble_eq_true rfl⟩, (by show _ ≤ 888223; omega), (by show _ ≤ 6437580; omega)⟩ rfl 0 (ga_0 cy A _) rfl rfl (Nat.le_of_ble_eq_true rfl) dL_law_930 (c_X11_whirls (q_l κ) (q_D κ) cy A hw)) (fun r64 σ63 hw => ?_)
      refine g_widen (k' := 20 + kk) (n' := 245 + 3 * kk) (by omega) (by omega) ?_
      refine g_i2l C dL_law_933 ?_
      refine g_iload C 8 rfl dL_law_934 ?_
      refine g_if_eq C 945 (by decide) hw dL_law_936 (fun hw => ?_) (fun hw => ?_)
      · refine g_lload C 7 rfl dL_law_945 ?_
        refine g_eql (lv' := [(0, .ref b), (1, .ref (A 0)), (2, .ref (A 18)), (3, .ref (A 19)), (5, .int v5)]) [0, 1, 2, 3, 4] rfl ?_
        exact J947 _ hK80 σ63 kk v5 v15 r64.toInt64 (by omega) hw
      · refine g_ldc2 (v := (-103 : Int64)) C dL_law_939 wt_454 ?_
        refine g_goto C 947 (by decide) dL_law_942 ?_
        refine g_eql (lv' := [(0, .ref b), (1, .ref (A 0)), (2, .ref (A 18)), (3, .ref (A 19)), (5, .int v5)]) [0, 1, 2, 3, 4] rfl ?_
        exact J947 _ hK80 σ63 kk v5 (-103 : Int64) r64.toInt64 (by omega) hw
  have J897 : ∀ (K80 : St → Nat → Int32 → Prop) (_ : ∀ (σ : St) (kk : Nat) (v5 : Int32), kk ≤ 600 → K80 σ kk v5 → GW κ (20 + kk) (245 + 3 * kk) (gW cy A σ) 80 [(0, .ref b), (1, .ref (A 0)), (2, .ref (A 18)), (3, .ref (A 19)), (5, .int v5)] []), ∀ (σ : St) (kk : Nat) (v5 : Int32) (v13 : Int32) (v14 : Int32) (v15 : Int64) (v17 : Int32) (v18 : Int32) (s0 : Int32) (s1 : Int32), kk ≤ 600 → wL_law_897 K80 L xs σ kk v5 v13 v14 v15 v17 v18 s0 s1 → GW κ (20 + kk) (245 + 3 * kk) (gW cy A σ) 897 [(0, .ref b), (1, .ref (A 0)), (2, .ref (A 18)), (3, .ref (A 19)), (5, .int v5), (13, .int v13), (14, .int v14), (15, .long v15), (17, .int v17), (18, .int v18)] [.int s0, .int s1] := by
    intro K80 hK80 σ kk v5 v13 v14 v15 v17 v18 s0 s1 hk6 hw
    unfold wL_law_897 at hw
    refine g_icmp_ne C 951 (by decide) hw dL_law_897 (fun hw => ?_) (fun hw => ?_)
    · refine g_iconst (v := (0 : Int32)) C dL_law_951 (by decide) ?_
      exact hret _ _ _ _ _ _ (by omega) (by omega) hw dL_law_952
    · refine g_aload_n C 1 rfl rfl dL_law_900 ?_
      refine g_iload C 5 rfl dL_law_901 ?_
      refine g_iload C 6 rfl dL_law_903 ?_
      refine g_iconst (v := (2 : Int32)) C dL_law_905 (by decide) ?_
      refine gc_I (mc := 0) (ms := 0) C (gr_V (mc := 0) (ms := 0) (As := [.int v13, .int v14, .int (2 : Int32)]) (rest := []) C hK 3 (gd_V wt_262 wt_263 wt_264 wt_1 wt_265) rfl rfl rfl ⟨rfl, hs_X11_whirls⟩ ⟨⟨Nat.le_of_ble_eq_true rfl, Nat.le_of_ble_eq_true rfl⟩, (by show _ ≤ 888223; omega), (by show _ ≤ 6437580; omega)⟩ rfl 0 (ga_0 cy A _) rfl rfl (Nat.le_of_ble_eq_true rfl) dL_law_906 (c_X11_whirls (q_l κ) (q_D κ) cy A hw)) (fun r62 σ61 hw => ?_)
      refine g_widen (k' := 20 + kk) (n' := 245 + 3 * kk) (by omega) (by omega) ?_
      refine g_iload C 9 rfl dL_law_909 ?_
      refine g_if_eq C 919 (by decide) hw dL_law_911 (fun hw => ?_) (fun hw => ?_)
      · refine g_iload C 8 rfl dL_law_919 ?_
        refine g_eql (lv' := [(0, .ref b), (1, .ref (A 0)), (2, .ref (A 18)), (3, .ref (A 19)), (5, .int v5), (13, .int v13), (14, .int v14), (15, .long v15), (18, .int v18)]) [0, 1, 2, 3, 4, 5, 6, 7, 9] rfl ?_
        exact J921 _ hK80 σ61 kk v5 v13 v14 v15 v18 v17 r62 (by omega) hw
      · refine g_bipush (v := (-103 : Int32)) C dL_law_914 (by decide) ?_
        refine g_goto C 921 (by decide) dL_law_916 ?_
        refine g_eql (lv' := [(0, .ref b), (1, .ref (A 0)), (2, .ref (A 18)), (3, .ref (A 19)), (5, .int v5), (13, .int v13), (14, .int v14), (15, .long v15), (18, .int v18)]) [0, 1, 2, 3, 4, 5, 6, 7, 9] rfl ?_
        exact J921 _ hK80 σ61 kk v5 v13 v14 v15 v18 (-103 : Int32) r62 (by omega) hw
  have J872 : ∀ (K80 : St → Nat → Int32 → Prop) (_ : ∀ (σ : St) (kk : Nat) (v5 : Int32), kk ≤ 600 → K80 σ kk v5 → GW κ (20 + kk) (245 + 3 * kk) (gW cy A σ) 80 [(0, .ref b), (1, .ref (A 0)), (2, .ref (A 18)), (3, .ref (A 19)), (5, .int v5)] []), ∀ (σ : St) (kk : Nat) (v5 : Int32) (v13 : Int32) (v14 : Int32) (v15 : Int64) (v17 : Int32) (v18 : Int32) (s0 : Int32) (s1 : Int32), kk ≤ 600 → wL_law_872 K80 L xs σ kk v5 v13 v14 v15 v17 v18 s0 s1 → GW κ (20 + kk) (245 + 3 * kk) (gW cy A σ) 872 [(0, .ref b), (1, .ref (A 0)), (2, .ref (A 18)), (3, .ref (A 19)), (5, .int v5), (13, .int v13), (14, .int v14), (15, .long v15), (17, .int v17), (18, .int v18)] [.int s0, .int s1] := by
    intro K80 hK80 σ kk v5 v13 v14 v15 v17 v18 s0 s1 hk6 hw
    unfold wL_law_872 at hw
    refine g_icmp_ne C 951 (by decide) hw dL_law_872 (fun hw => ?_) (fun hw => ?_)
    · refine g_iconst (v := (0 : Int32)) C dL_law_951 (by decide) ?_
      exact hret _ _ _ _ _ _ (by omega) (by omega) hw dL_law_952
    · refine g_aload_n C 1 rfl rfl dL_law_875 ?_
      refine g_iload C 5 rfl dL_law_876 ?_
      refine g_iload C 6 rfl dL_law_878 ?_
      refine g_iconst (v := (1 : Int32)) C dL_law_880 (by decide) ?_
      refine gc_I (mc := 0) (ms := 0) C (gr_V (mc := 0) (ms := 0) (As := [.int v13, .int v14, .int (1 : Int32)]) (rest := []) C hK 3 (gd_V wt_262 wt_263 wt_264 wt_1 wt_265) rfl rfl rfl ⟨rfl, hs_X11_whirls⟩ ⟨⟨Nat.le_of_ble_eq_true rfl, Nat.le_of_ble_eq_true rfl⟩, (by show _ ≤ 888223; omega), (by show _ ≤ 6437580; omega)⟩ rfl 0 (ga_0 cy A _) rfl rfl (Nat.le_of_ble_eq_true rfl) dL_law_881 (c_X11_whirls (q_l κ) (q_D κ) cy A hw)) (fun r60 σ59 hw => ?_)
      refine g_widen (k' := 20 + kk) (n' := 245 + 3 * kk) (by omega) (by omega) ?_
      refine g_iload C 9 rfl dL_law_884 ?_
      refine g_if_eq C 894 (by decide) hw dL_law_886 (fun hw => ?_) (fun hw => ?_)
      · refine g_aload_n C 3 rfl rfl dL_law_894 ?_
        refine g_iconst (v := (4 : Int32)) C dL_law_895 (by decide) ?_
        refine g_iald C hK 19 2 (ga_19 cy A _) rfl hw.1 dL_law_896 ?_
        replace hw := hw.2
        exact J897 _ hK80 σ59 kk v5 v13 v14 v15 v17 v18 (σ59.1 19 (4 : Int32).toNatClampNeg) r60 (by omega) hw
      · refine g_bipush (v := (-103 : Int32)) C dL_law_889 (by decide) ?_
        refine g_goto C 897 (by decide) dL_law_891 ?_
        exact J897 _ hK80 σ59 kk v5 v13 v14 v15 v17 v18 (-103 : Int32) r60 (by omega) hw
  have J848 : ∀ (K80 : St → Nat → Int32 → Prop) (_ : ∀ (σ : St) (kk : Nat) (v5 : Int32), kk ≤ 600 → K80 σ kk v5 → GW κ (20 + kk) (245 + 3 * kk) (gW cy A σ) 80 [(0, .ref b), (1, .ref (A 0)), (2, .ref (A 18)), (3, .ref (A 19)), (5, .int v5)] []), ∀ (σ : St) (kk : Nat) (v5 : Int32) (v13 : Int32) (v14 : Int32) (v15 : Int64) (v17 : Int32) (s0 : Int32), kk ≤ 600 → wL_law_848 K80 L xs σ kk v5 v13 v14 v15 v17 s0 → GW κ (20 + kk) (245 + 3 * kk) (gW cy A σ) 848 [(0, .ref b), (1, .ref (A 0)), (2, .ref (A 18)), (3, .ref (A 19)), (5, .int v5), (13, .int v13), (14, .int v14), (15, .long v15), (17, .int v17)] [.int s0] := by
    intro K80 hK80 σ kk v5 v13 v14 v15 v17 s0 hk6 hw
    unfold wL_law_848 at hw
    refine g_istore C [(18, .int s0), (0, .ref b), (1, .ref (A 0)), (2, .ref (A 18)), (3, .ref (A 19)), (5, .int v5), (13, .int v13), (14, .int v14), (15, .long v15), (17, .int v17)] hN (by decide) rfl dL_law_848 ?_
    refine g_aload_n C 2 rfl rfl dL_law_850 ?_
    refine g_iload C 6 rfl dL_law_851 ?_
    refine g_iload C 7 rfl dL_law_853 ?_
    refine g_iconst (v := (0 : Int32)) C dL_law_855 (by decide) ?_
    refine gc_I (mc := 0) (ms := 0) C (gr_V (mc := 0) (ms := 0) (As := [.int v13, .int v14, .int (0 : Int32)]) (rest := []) C hK 3 (gd_V wt_262 wt_263 wt_264 wt_1 wt_265) rfl rfl rfl ⟨rfl, hs_X11_whirls⟩ ⟨⟨Nat.le_of_ble_eq_true rfl, Nat.le_of_ble_eq_true rfl⟩, (by show _ ≤ 888223; omega), (by show _ ≤ 6437580; omega)⟩ rfl 0 (ga_0 cy A _) rfl rfl (Nat.le_of_ble_eq_true rfl) dL_law_856 (c_X11_whirls (q_l κ) (q_D κ) cy A hw)) (fun r58 σ57 hw => ?_)
    refine g_widen (k' := 20 + kk) (n' := 245 + 3 * kk) (by omega) (by omega) ?_
    refine g_iload C 0 rfl dL_law_859 ?_
    refine g_if_eq C 869 (by decide) hw dL_law_861 (fun hw => ?_) (fun hw => ?_)
    · refine g_aload_n C 4 rfl rfl dL_law_869 ?_
      refine g_iconst (v := (0 : Int32)) C dL_law_870 (by decide) ?_
      refine g_iald C hK 19 2 (ga_19 cy A _) rfl hw.1 dL_law_871 ?_
      replace hw := hw.2
      refine g_eql (lv' := [(0, .ref b), (1, .ref (A 0)), (2, .ref (A 18)), (3, .ref (A 19)), (5, .int v5), (13, .int v13), (14, .int v14), (15, .long v15), (17, .int v17), (18, .int s0)]) [1, 2, 3, 4, 5, 6, 7, 8, 9, 0] rfl ?_
      exact J872 _ hK80 σ57 kk v5 v13 v14 v15 v17 s0 (σ57.1 19 (0 : Int32).toNatClampNeg) r58 (by omega) hw
    · refine g_bipush (v := (-103 : Int32)) C dL_law_864 (by decide) ?_
      refine g_goto C 872 (by decide) dL_law_866 ?_
      refine g_eql (lv' := [(0, .ref b), (1, .ref (A 0)), (2, .ref (A 18)), (3, .ref (A 19)), (5, .int v5), (13, .int v13), (14, .int v14), (15, .long v15), (17, .int v17), (18, .int s0)]) [1, 2, 3, 4, 5, 6, 7, 8, 9, 0] rfl ?_
      exact J872 _ hK80 σ57 kk v5 v13 v14 v15 v17 s0 (-103 : Int32) r58 (by omega) hw
  have J835 : ∀ (K80 : St → Nat → Int32 → Prop) (_ : ∀ (σ : St) (kk : Nat) (v5 : Int32), kk ≤ 600 → K80 σ kk v5 → GW κ (20 + kk) (245 + 3 * kk) (gW cy A σ) 80 [(0, .ref b), (1, .ref (A 0)), (2, .ref (A 18)), (3, .ref (A 19)), (5, .int v5)] []), ∀ (σ : St) (kk : Nat) (v5 : Int32) (v13 : Int32) (v14 : Int32) (v15 : Int64) (v17 : Int32), kk ≤ 600 → wL_law_835 K80 L xs σ kk v5 v13 v14 v15 v17 → GW κ (20 + kk) (245 + 3 * kk) (gW cy A σ) 835 [(0, .ref b), (1, .ref (A 0)), (2, .ref (A 18)), (3, .ref (A 19)), (5, .int v5), (13, .int v13), (14, .int v14), (15, .long v15), (17, .int v17)] [] := by
    intro K80 hK80 σ kk v5 v13 v14 v15 v17 hk6 hw
    unfold wL_law_835 at hw
    refine g_aload_n C 2 rfl rfl dL_law_835 ?_
    refine g_bipush (v := (6 : Int32)) C dL_law_836 (by decide) ?_
    refine g_iald C hK 18 2 (ga_18 cy A _) rfl hw.1 dL_law_838 ?_
    replace hw := hw.2
    refine g_iconst (v := (1 : Int32)) C dL_law_839 (by decide) ?_
    refine g_icmp_ne C 847 (by decide) hw dL_law_840 (fun hw => ?_) (fun hw => ?_)
    · refine g_iconst (v := (0 : Int32)) C dL_law_847 (by decide) ?_
      exact J848 _ hK80 σ kk v5 v13 v14 v15 v17 (0 : Int32) (by omega) hw
    · refine g_iconst (v := (1 : Int32)) C dL_law_843 (by decide) ?_
      refine g_goto C 848 (by decide) dL_law_844 ?_
      exact J848 _ hK80 σ kk v5 v13 v14 v15 v17 (1 : Int32) (by omega) hw
  have J829 : ∀ (K80 : St → Nat → Int32 → Prop) (_ : ∀ (σ : St) (kk : Nat) (v5 : Int32), kk ≤ 600 → K80 σ kk v5 → GW κ (20 + kk) (245 + 3 * kk) (gW cy A σ) 80 [(0, .ref b), (1, .ref (A 0)), (2, .ref (A 18)), (3, .ref (A 19)), (5, .int v5)] [])  (K722 : St → Nat → Int32 → Int32 → Int32 → Int64 → Int32 → Prop) (_ : ∀ (σ : St) (kk : Nat) (v5 : Int32) (v13 : Int32) (v14 : Int32) (v15 : Int64) (v17 : Int32), kk ≤ 600 → K722 σ kk v5 v13 v14 v15 v17 → GW κ (20 + kk) (245 + 3 * kk) (gW cy A σ) 722 [(0, .ref b), (1, .ref (A 0)), (2, .ref (A 18)), (3, .ref (A 19)), (5, .int v5), (13, .int v13), (14, .int v14), (15, .long v15), (17, .int v17)] []), ∀ (σ : St) (kk : Nat) (v5 : Int32) (v13 : Int32) (v14 : Int32) (v15 : Int64) (s0 : Int32) (s1 : Int32), kk ≤ 600 → wL_law_829 K80 K722 L xs σ kk v5 v13 v14 v15 s0 s1 → GW κ (20 + kk) (245 + 3 * kk) (gW cy A σ) 829 [(0, .ref b), (1, .ref (A 0)), (2, .ref (A 18)), (3, .ref (A 19)), (5, .int v5), (13, .int v13), (14, .int v14), (15, .long v15)] [.int s0, .int s1] := by
    intro K80 hK80 K722 hK722 σ kk v5 v13 v14 v15 s0 s1 hk6 hw
    unfold wL_law_829 at hw
    refine g_iadd C dL_law_829 ?_
    refine g_istore C [(17, .int (s1 + s0)), (0, .ref b), (1, .ref (A 0)), (2, .ref (A 18)), (3, .ref (A 19)), (5, .int v5), (13, .int v13), (14, .int v14), (15, .long v15)] hN (by decide) rfl dL_law_830 ?_
    refine g_goto C 722 (by decide) dL_law_832 ?_
    refine g_eql (lv' := [(0, .ref b), (1, .ref (A 0)), (2, .ref (A 18)), (3, .ref (A 19)), (5, .int v5), (13, .int v13), (14, .int v14), (15, .long v15), (17, .int (s1 + s0))]) [1, 2, 3, 4, 5, 6, 7, 8, 0] rfl ?_
    exact hK722 σ kk v5 v13 v14 v15 (s1 + s0) (by omega) hw
  have J810 : ∀ (K80 : St → Nat → Int32 → Prop) (_ : ∀ (σ : St) (kk : Nat) (v5 : Int32), kk ≤ 600 → K80 σ kk v5 → GW κ (20 + kk) (245 + 3 * kk) (gW cy A σ) 80 [(0, .ref b), (1, .ref (A 0)), (2, .ref (A 18)), (3, .ref (A 19)), (5, .int v5)] [])  (K722 : St → Nat → Int32 → Int32 → Int32 → Int64 → Int32 → Prop) (_ : ∀ (σ : St) (kk : Nat) (v5 : Int32) (v13 : Int32) (v14 : Int32) (v15 : Int64) (v17 : Int32), kk ≤ 600 → K722 σ kk v5 v13 v14 v15 v17 → GW κ (20 + kk) (245 + 3 * kk) (gW cy A σ) 722 [(0, .ref b), (1, .ref (A 0)), (2, .ref (A 18)), (3, .ref (A 19)), (5, .int v5), (13, .int v13), (14, .int v14), (15, .long v15), (17, .int v17)] []), ∀ (σ : St) (kk : Nat) (v5 : Int32) (v13 : Int32) (v14 : Int32) (v15 : Int64) (v17 : Int32) (s0 : Int32), kk ≤ 600 → wL_law_810 K80 K722 L xs σ kk v5 v13 v14 v15 v17 s0 → GW κ (20 + kk) (245 + 3 * kk) (gW cy A σ) 810 [(0, .ref b), (1, .ref (A 0)), (2, .ref (A 18)), (3, .ref (A 19)), (5, .int v5), (13, .int v13), (14, .int v14), (15, .long v15), (17, .int v17)] [.int s0] := by
    intro K80 hK80 K722 hK722 σ kk v5 v13 v14 v15 v17 s0 hk6 hw
    unfold wL_law_810 at hw
    refine g_istore C [(19, .int s0), (0, .ref b), (1, .ref (A 0)), (2, .ref (A 18)), (3, .ref (A 19)), (5, .int v5), (13, .int v13), (14, .int v14), (15, .long v15), (17, .int v17)] hN (by decide) rfl dL_law_810 ?_
    refine g_iload C 9 rfl dL_law_812 ?_
    refine g_aload_n C 4 rfl rfl dL_law_814 ?_
    refine g_iload C 0 rfl dL_law_815 ?_
    refine gc_I (mc := 0) (ms := 0) C (gr_S (mc := 0) (ms := 0) (As := [.ref (A 19), .int s0]) (rest := [.int v17]) C hK 2 (gd_S wt_423 wt_424 wt_0 wt_425) rfl rfl rfl hs_L_hour ⟨⟨Nat.le_of_ble_eq_true rfl, Nat.le_of_ble_eq_true rfl⟩, (by show _ ≤ 888223; omega), (by show _ ≤ 6437580; omega)⟩ rfl rfl (Nat.le_of_ble_eq_true rfl) dL_law_817 (c_L_hour (q_l κ) (q_D κ) cy A hQ19 hw)) (fun r56 σ55 hw => ?_)
    refine g_widen (k' := 20 + kk) (n' := 245 + 3 * kk) (by omega) (by omega) ?_
    refine g_iconst (v := (-1 : Int32)) C dL_law_820 (by decide) ?_
    refine g_icmp_ge C 828 (by decide) hw dL_law_821 (fun hw => ?_) (fun hw => ?_)
    · refine g_iconst (v := (1 : Int32)) C dL_law_828 (by decide) ?_
      refine g_eql (lv' := [(0, .ref b), (1, .ref (A 0)), (2, .ref (A 18)), (3, .ref (A 19)), (5, .int v5), (13, .int v13), (14, .int v14), (15, .long v15)]) [1, 2, 3, 4, 5, 6, 7, 8] rfl ?_
      exact J829 _ hK80 _ hK722 σ55 kk v5 v13 v14 v15 (1 : Int32) v17 (by omega) hw
    · refine g_iconst (v := (0 : Int32)) C dL_law_824 (by decide) ?_
      refine g_goto C 829 (by decide) dL_law_825 ?_
      refine g_eql (lv' := [(0, .ref b), (1, .ref (A 0)), (2, .ref (A 18)), (3, .ref (A 19)), (5, .int v5), (13, .int v13), (14, .int v14), (15, .long v15)]) [1, 2, 3, 4, 5, 6, 7, 8] rfl ?_
      exact J829 _ hK80 _ hK722 σ55 kk v5 v13 v14 v15 (0 : Int32) v17 (by omega) hw
  have J809 : ∀ (K80 : St → Nat → Int32 → Prop) (_ : ∀ (σ : St) (kk : Nat) (v5 : Int32), kk ≤ 600 → K80 σ kk v5 → GW κ (20 + kk) (245 + 3 * kk) (gW cy A σ) 80 [(0, .ref b), (1, .ref (A 0)), (2, .ref (A 18)), (3, .ref (A 19)), (5, .int v5)] [])  (K722 : St → Nat → Int32 → Int32 → Int32 → Int64 → Int32 → Prop) (_ : ∀ (σ : St) (kk : Nat) (v5 : Int32) (v13 : Int32) (v14 : Int32) (v15 : Int64) (v17 : Int32), kk ≤ 600 → K722 σ kk v5 v13 v14 v15 v17 → GW κ (20 + kk) (245 + 3 * kk) (gW cy A σ) 722 [(0, .ref b), (1, .ref (A 0)), (2, .ref (A 18)), (3, .ref (A 19)), (5, .int v5), (13, .int v13), (14, .int v14), (15, .long v15), (17, .int v17)] []), ∀ (σ : St) (kk : Nat) (v5 : Int32) (v13 : Int32) (v14 : Int32) (v15 : Int64) (v17 : Int32), kk ≤ 600 → wL_law_809 K80 K722 L xs σ kk v5 v13 v14 v15 v17 → GW κ (20 + kk) (245 + 3 * kk) (gW cy A σ) 809 [(0, .ref b), (1, .ref (A 0)), (2, .ref (A 18)), (3, .ref (A 19)), (5, .int v5), (13, .int v13), (14, .int v14), (15, .long v15), (17, .int v17)] [] := by
    intro K80 hK80 K722 hK722 σ kk v5 v13 v14 v15 v17 hk6 hw
    unfold wL_law_809 at hw
    refine g_iconst (v := (0 : Int32)) C dL_law_809 (by decide) ?_
    exact J810 _ hK80 _ hK722 σ kk v5 v13 v14 v15 v17 (0 : Int32) (by omega) hw
  have J780 : ∀ (K80 : St → Nat → Int32 → Prop) (_ : ∀ (σ : St) (kk : Nat) (v5 : Int32), kk ≤ 600 → K80 σ kk v5 → GW κ (20 + kk) (245 + 3 * kk) (gW cy A σ) 80 [(0, .ref b), (1, .ref (A 0)), (2, .ref (A 18)), (3, .ref (A 19)), (5, .int v5)] [])  (K722 : St → Nat → Int32 → Int32 → Int32 → Int64 → Int32 → Prop) (_ : ∀ (σ : St) (kk : Nat) (v5 : Int32) (v13 : Int32) (v14 : Int32) (v15 : Int64) (v17 : Int32), kk ≤ 600 → K722 σ kk v5 v13 v14 v15 v17 → GW κ (20 + kk) (245 + 3 * kk) (gW cy A σ) 722 [(0, .ref b), (1, .ref (A 0)), (2, .ref (A 18)), (3, .ref (A 19)), (5, .int v5), (13, .int v13), (14, .int v14), (15, .long v15), (17, .int v17)] []), ∀ (σ : St) (kk : Nat) (v5 : Int32) (v13 : Int32) (v14 : Int32) (v15 : Int64) (v17 : Int32) (s0 : Int32), kk ≤ 600 → wL_law_780 K80 K722 L xs σ kk v5 v13 v14 v15 v17 s0 → GW κ (20 + kk) (245 + 3 * kk) (gW cy A σ) 780 [(0, .ref b), (1, .ref (A 0)), (2, .ref (A 18)), (3, .ref (A 19)), (5, .int v5), (13, .int v13), (14, .int v14), (15, .long v15), (17, .int v17)] [.int s0] := by
    intro K80 hK80 K722 hK722 σ kk v5 v13 v14 v15 v17 s0 hk6 hw
    unfold wL_law_780 at hw
    refine g_istore C [(19, .int s0), (0, .ref b), (1, .ref (A 0)), (2, .ref (A 18)), (3, .ref (A 19)), (5, .int v5), (13, .int v13), (14, .int v14), (15, .long v15), (17, .int v17)] hN (by decide) rfl dL_law_780 ?_
    refine g_aload_n C 4 rfl rfl dL_law_782 ?_
    refine g_iconst (v := (0 : Int32)) C dL_law_783 (by decide) ?_
    refine g_iald C hK 19 2 (ga_19 cy A _) rfl hw.1 dL_law_784 ?_
    replace hw := hw.2
    refine g_iload C 0 rfl dL_law_785 ?_
    refine g_isub C dL_law_787 ?_
    refine g_bipush (v := (9 : Int32)) C dL_law_788 (by decide) ?_
    refine g_icmp_le C 809 (by decide) hw dL_law_790 (fun hw => ?_) (fun hw => ?_)
    · refine g_eql (lv' := [(0, .ref b), (1, .ref (A 0)), (2, .ref (A 18)), (3, .ref (A 19)), (5, .int v5), (13, .int v13), (14, .int v14), (15, .long v15), (17, .int v17)]) [1, 2, 3, 4, 5, 6, 7, 8, 9] rfl ?_
      exact J809 _ hK80 _ hK722 σ kk v5 v13 v14 v15 v17 (by omega) hw
    · refine g_aload_n C 4 rfl rfl dL_law_793 ?_
      refine g_iconst (v := (0 : Int32)) C dL_law_794 (by decide) ?_
      refine g_iald C hK 19 2 (ga_19 cy A _) rfl hw.1 dL_law_795 ?_
      replace hw := hw.2
      refine g_iload C 0 rfl dL_law_796 ?_
      refine g_isub C dL_law_798 ?_
      refine g_bipush (v := (41 : Int32)) C dL_law_799 (by decide) ?_
      refine g_icmp_ge C 809 (by decide) hw dL_law_801 (fun hw => ?_) (fun hw => ?_)
      · refine g_eql (lv' := [(0, .ref b), (1, .ref (A 0)), (2, .ref (A 18)), (3, .ref (A 19)), (5, .int v5), (13, .int v13), (14, .int v14), (15, .long v15), (17, .int v17)]) [1, 2, 3, 4, 5, 6, 7, 8, 9] rfl ?_
        exact J809 _ hK80 _ hK722 σ kk v5 v13 v14 v15 v17 (by omega) hw
      · refine g_iload C 0 rfl dL_law_804 ?_
        refine g_goto C 810 (by decide) dL_law_806 ?_
        refine g_eql (lv' := [(0, .ref b), (1, .ref (A 0)), (2, .ref (A 18)), (3, .ref (A 19)), (5, .int v5), (13, .int v13), (14, .int v14), (15, .long v15), (17, .int v17)]) [1, 2, 3, 4, 5, 6, 7, 8, 9] rfl ?_
        exact J810 _ hK80 _ hK722 σ kk v5 v13 v14 v15 v17 s0 (by omega) hw
  have J722 : ∀ (K80 : St → Nat → Int32 → Prop) (_ : ∀ (σ : St) (kk : Nat) (v5 : Int32), kk ≤ 600 → K80 σ kk v5 → GW κ (20 + kk) (245 + 3 * kk) (gW cy A σ) 80 [(0, .ref b), (1, .ref (A 0)), (2, .ref (A 18)), (3, .ref (A 19)), (5, .int v5)] []), ∀ (n : Nat) (σ : St) (kk : Nat) (v5 : Int32) (v13 : Int32) (v14 : Int32) (v15 : Int64) (v17 : Int32), kk ≤ 600 → wL_law_722 K80 L xs n σ kk v5 v13 v14 v15 v17 → GW κ (20 + kk) (245 + 3 * kk) (gW cy A σ) 722 [(0, .ref b), (1, .ref (A 0)), (2, .ref (A 18)), (3, .ref (A 19)), (5, .int v5), (13, .int v13), (14, .int v14), (15, .long v15), (17, .int v17)] [] := by
    intro K80 hK80 n
    induction n with
    | zero => intro σ kk v5 v13 v14 v15 v17 hk6 hw; exact hw.elim
    | succ n ih =>
      intro σ kk v5 v13 v14 v15 v17 hk6 hw
      rw [wL_law_722] at hw
      refine g_iload C 8 rfl dL_law_722 ?_
      refine g_iload C 5 rfl dL_law_724 ?_
      refine g_icmp_ge C 835 (by decide) hw dL_law_726 (fun hw => ?_) (fun hw => ?_)
      · exact J835 _ hK80 σ kk v5 v13 v14 v15 v17 (by omega) hw
      · refine g_aload_n C 3 rfl rfl dL_law_729 ?_
        refine g_bipush (v := (6 : Int32)) C dL_law_730 (by decide) ?_
        refine g_iald C hK 19 2 (ga_19 cy A _) rfl hw.1 dL_law_732 ?_
        replace hw := hw.2
        refine g_if_ne C 835 (by decide) hw dL_law_733 (fun hw => ?_) (fun hw => ?_)
        · exact J835 _ hK80 σ kk v5 v13 v14 v15 v17 (by omega) hw
        · refine g_ldc2 (v := (1103515245 : Int64)) C dL_law_736 wt_449 ?_
          refine g_lload C 7 rfl dL_law_739 ?_
          refine g_lmul C dL_law_741 ?_
          refine g_ldc2 (v := (12345 : Int64)) C dL_law_742 wt_450 ?_
          refine g_ladd C dL_law_745 ?_
          refine g_ldc2 (v := (2147483648 : Int64)) C dL_law_746 wt_451 ?_
          refine g_lrem C hw.1 dL_law_749 ?_
          replace hw := hw.2
          refine g_lstore C [(15, .long ((((1103515245 : Int64) * v15) + (12345 : Int64)) - (((1103515245 : Int64) * v15) + (12345 : Int64)) / (2147483648 : Int64) * (2147483648 : Int64))), (0, .ref b), (1, .ref (A 0)), (2, .ref (A 18)), (3, .ref (A 19)), (5, .int v5), (13, .int v13), (14, .int v14), (17, .int v17)] hN (by decide) rfl dL_law_750 ?_
          refine g_lload C 0 rfl dL_law_752 ?_
          refine g_ldc2 (v := (65536 : Int64)) C dL_law_754 wt_452 ?_
          refine g_ldiv C hw.1 dL_law_757 ?_
          replace hw := hw.2
          refine g_ldc2 (v := (7 : Int64)) C dL_law_758 wt_453 ?_
          refine g_lrem C hw.1 dL_law_761 ?_
          replace hw := hw.2
          refine g_l2i C dL_law_762 ?_
          refine g_istore C [(18, .int ((((((1103515245 : Int64) * v15) + (12345 : Int64)) - (((1103515245 : Int64) * v15) + (12345 : Int64)) / (2147483648 : Int64) * (2147483648 : Int64)) / (65536 : Int64)) - (((((1103515245 : Int64) * v15) + (12345 : Int64)) - (((1103515245 : Int64) * v15) + (12345 : Int64)) / (2147483648 : Int64) * (2147483648 : Int64)) / (65536 : Int64)) / (7 : Int64) * (7 : Int64)).toInt32), (15, .long ((((1103515245 : Int64) * v15) + (12345 : Int64)) - (((1103515245 : Int64) * v15) + (12345 : Int64)) / (2147483648 : Int64) * (2147483648 : Int64))), (0, .ref b), (1, .ref (A 0)), (2, .ref (A 18)), (3, .ref (A 19)), (5, .int v5), (13, .int v13), (14, .int v14), (17, .int v17)] hN (by decide) rfl dL_law_763 ?_
          refine g_iload C 0 rfl dL_law_765 ?_
          refine g_iconst (v := (4 : Int32)) C dL_law_767 (by decide) ?_
          refine g_icmp_ge C 776 (by decide) hw dL_law_768 (fun hw => ?_) (fun hw => ?_)
          · refine g_iconst (v := (3 : Int32)) C dL_law_776 (by decide) ?_
            refine g_iload C 0 rfl dL_law_777 ?_
            refine g_isub C dL_law_779 ?_
            refine g_eql (lv' := [(0, .ref b), (1, .ref (A 0)), (2, .ref (A 18)), (3, .ref (A 19)), (5, .int v5), (13, .int v13), (14, .int v14), (15, .long ((((1103515245 : Int64) * v15) + (12345 : Int64)) - (((1103515245 : Int64) * v15) + (12345 : Int64)) / (2147483648 : Int64) * (2147483648 : Int64))), (17, .int v17)]) [2, 3, 4, 5, 6, 7, 8, 1, 9] rfl ?_
            exact J780 _ hK80 _ ih σ kk v5 v13 v14 ((((1103515245 : Int64) * v15) + (12345 : Int64)) - (((1103515245 : Int64) * v15) + (12345 : Int64)) / (2147483648 : Int64) * (2147483648 : Int64)) v17 ((3 : Int32) - ((((((1103515245 : Int64) * v15) + (12345 : Int64)) - (((1103515245 : Int64) * v15) + (12345 : Int64)) / (2147483648 : Int64) * (2147483648 : Int64)) / (65536 : Int64)) - (((((1103515245 : Int64) * v15) + (12345 : Int64)) - (((1103515245 : Int64) * v15) + (12345 : Int64)) / (2147483648 : Int64) * (2147483648 : Int64)) / (65536 : Int64)) / (7 : Int64) * (7 : Int64)).toInt32) (by omega) hw
          · refine g_iload C 0 rfl dL_law_771 ?_
            refine g_goto C 780 (by decide) dL_law_773 ?_
            refine g_eql (lv' := [(0, .ref b), (1, .ref (A 0)), (2, .ref (A 18)), (3, .ref (A 19)), (5, .int v5), (13, .int v13), (14, .int v14), (15, .long ((((1103515245 : Int64) * v15) + (12345 : Int64)) - (((1103515245 : Int64) * v15) + (12345 : Int64)) / (2147483648 : Int64) * (2147483648 : Int64))), (17, .int v17)]) [2, 3, 4, 5, 6, 7, 8, 1, 9] rfl ?_
            exact J780 _ hK80 _ ih σ kk v5 v13 v14 ((((1103515245 : Int64) * v15) + (12345 : Int64)) - (((1103515245 : Int64) * v15) + (12345 : Int64)) / (2147483648 : Int64) * (2147483648 : Int64)) v17 ((((((1103515245 : Int64) * v15) + (12345 : Int64)) - (((1103515245 : Int64) * v15) + (12345 : Int64)) / (2147483648 : Int64) * (2147483648 : Int64)) / (65536 : Int64)) - (((((1103515245 : Int64) * v15) + (12345 : Int64)) - (((1103515245 : Int64) * v15) + (12345 : Int64)) / (2147483648 : Int64) * (2147483648 : Int64)) / (65536 : Int64)) / (7 : Int64) * (7 : Int64)).toInt32 (by omega) hw
  have J698 : ∀ (K80 : St → Nat → Int32 → Prop) (_ : ∀ (σ : St) (kk : Nat) (v5 : Int32), kk ≤ 600 → K80 σ kk v5 → GW κ (20 + kk) (245 + 3 * kk) (gW cy A σ) 80 [(0, .ref b), (1, .ref (A 0)), (2, .ref (A 18)), (3, .ref (A 19)), (5, .int v5)] []), ∀ (n : Nat) (σ : St) (kk : Nat) (v5 : Int32) (v13 : Int32) (v14 : Int32) (v15 : Int64) (v17 : Int32), kk ≤ 600 → wL_law_698 K80 L xs n σ kk v5 v13 v14 v15 v17 → GW κ (20 + kk) (245 + 3 * kk) (gW cy A σ) 698 [(0, .ref b), (1, .ref (A 0)), (2, .ref (A 18)), (3, .ref (A 19)), (5, .int v5), (13, .int v13), (14, .int v14), (15, .long v15), (17, .int v17)] [] := by
    intro K80 hK80 n
    induction n with
    | zero => intro σ kk v5 v13 v14 v15 v17 hk6 hw; exact hw.elim
    | succ n ih =>
      intro σ kk v5 v13 v14 v15 v17 hk6 hw
      rw [wL_law_698] at hw
      refine g_iload C 8 rfl dL_law_698 ?_
      refine g_bipush (v := (32 : Int32)) C dL_law_700 (by decide) ?_
      refine g_icmp_ge C 719 (by decide) hw dL_law_702 (fun hw => ?_) (fun hw => ?_)
      · refine g_iconst (v := (0 : Int32)) C dL_law_719 (by decide) ?_
        refine g_istore C [(17, .int (0 : Int32)), (0, .ref b), (1, .ref (A 0)), (2, .ref (A 18)), (3, .ref (A 19)), (5, .int v5), (13, .int v13), (14, .int v14), (15, .long v15)] hN (by decide) rfl dL_law_720 ?_
        refine g_eql (lv' := [(0, .ref b), (1, .ref (A 0)), (2, .ref (A 18)), (3, .ref (A 19)), (5, .int v5), (13, .int v13), (14, .int v14), (15, .long v15), (17, .int (0 : Int32))]) [1, 2, 3, 4, 5, 6, 7, 8, 0] rfl ?_
        obtain ⟨n0, hw⟩ := hw
        exact J722 _ hK80 n0 σ kk v5 v13 v14 v15 (0 : Int32) (by omega) hw
      · refine g_aload_n C 3 rfl rfl dL_law_705 ?_
        refine g_iload C 8 rfl dL_law_706 ?_
        refine g_aload_n C 2 rfl rfl dL_law_708 ?_
        refine g_iload C 8 rfl dL_law_709 ?_
        refine g_iald C hK 18 2 (ga_18 cy A _) rfl hw.1 dL_law_711 ?_
        replace hw := hw.2
        refine g_iast C hK 19 2 (ga_19 cy A _) rfl hw.1 (gs_19 cy A _ _ _) dL_law_712 ?_
        replace hw := hw.2
        refine g_iinc (j := 8) C [(17, .int (v17 + 1)), (0, .ref b), (1, .ref (A 0)), (2, .ref (A 18)), (3, .ref (A 19)), (5, .int v5), (13, .int v13), (14, .int v14), (15, .long v15)] hN rfl rfl (by decide) rfl dL_law_713 ?_
        refine g_goto C 698 (by decide) dL_law_716 ?_
        refine g_eql (lv' := [(0, .ref b), (1, .ref (A 0)), (2, .ref (A 18)), (3, .ref (A 19)), (5, .int v5), (13, .int v13), (14, .int v14), (15, .long v15), (17, .int (v17 + 1))]) [1, 2, 3, 4, 5, 6, 7, 8, 0] rfl ?_
        exact ih (sV σ 19 v17.toNatClampNeg (σ.1 18 v17.toNatClampNeg)) kk v5 v13 v14 v15 (v17 + 1) (by omega) hw
  have J649 : ∀ (K80 : St → Nat → Int32 → Prop) (_ : ∀ (σ : St) (kk : Nat) (v5 : Int32), kk ≤ 600 → K80 σ kk v5 → GW κ (20 + kk) (245 + 3 * kk) (gW cy A σ) 80 [(0, .ref b), (1, .ref (A 0)), (2, .ref (A 18)), (3, .ref (A 19)), (5, .int v5)] []), ∀ (σ : St) (kk : Nat) (v5 : Int32) (v6 : Int32) (s0 : Int32) (s1 : Int32), kk ≤ 600 → wL_law_649 K80 L xs σ kk v5 v6 s0 s1 → GW κ (20 + kk) (245 + 3 * kk) (gW cy A σ) 649 [(0, .ref b), (1, .ref (A 0)), (2, .ref (A 18)), (3, .ref (A 19)), (5, .int v5), (6, .int v6)] [.int s0, .int s1] := by
    intro K80 hK80 σ kk v5 v6 s0 s1 hk6 hw
    unfold wL_law_649 at hw
    refine g_icmp_eq C 654 (by decide) hw dL_law_649 (fun hw => ?_) (fun hw => ?_)
    · refine g_iload C 4 rfl dL_law_654 ?_
      refine g_bipush (v := (6 : Int32)) C dL_law_656 (by decide) ?_
      refine g_irem C hw.1 dL_law_658 ?_
      replace hw := hw.2
      refine g_iconst (v := (2 : Int32)) C dL_law_659 (by decide) ?_
      refine g_icmp_ne C 953 (by decide) hw dL_law_660 (fun hw => ?_) (fun hw => ?_)
      · refine g_eql (lv' := [(0, .ref b), (1, .ref (A 0)), (2, .ref (A 18)), (3, .ref (A 19)), (5, .int v5)]) [0, 1, 2, 3, 4] rfl ?_
        exact J953 _ hK80 σ kk v5 (by omega) hw
      · refine g_iconst (v := (1 : Int32)) C dL_law_663 (by decide) ?_
        refine g_iload C 5 rfl dL_law_664 ?_
        refine g_sipush (v := (512 : Int32)) C dL_law_666 (by decide) ?_
        refine g_idiv C hw.1 dL_law_669 ?_
        replace hw := hw.2
        refine g_bipush (v := (60 : Int32)) C dL_law_670 (by decide) ?_
        refine g_irem C hw.1 dL_law_672 ?_
        replace hw := hw.2
        refine g_iadd C dL_law_673 ?_
        refine g_istore C [(13, .int ((1 : Int32) + ((v6 / (512 : Int32)) - (v6 / (512 : Int32)) / (60 : Int32) * (60 : Int32)))), (0, .ref b), (1, .ref (A 0)), (2, .ref (A 18)), (3, .ref (A 19)), (5, .int v5), (6, .int v6)] hN (by decide) rfl dL_law_674 ?_
        refine g_aload_n C 1 rfl rfl dL_law_676 ?_
        refine g_bipush (v := (52 : Int32)) C dL_law_677 (by decide) ?_
        refine g_iload C 5 rfl dL_law_679 ?_
        refine g_bipush (v := (6 : Int32)) C dL_law_681 (by decide) ?_
        refine g_idiv C hw.1 dL_law_683 ?_
        replace hw := hw.2
        refine g_iadd C dL_law_684 ?_
        obtain ⟨h8, hw⟩ := hw
        refine g_cell (rest := []) C hX hbl hbA hL h8 (gd_S wt_283 wt_284 wt_0 wt_285) ⟨⟨Nat.le_of_ble_eq_true rfl, Nat.le_of_ble_eq_true rfl⟩, (by show _ ≤ 888223; omega), (by show _ ≤ 6437580; omega)⟩ (Nat.le_of_ble_eq_true rfl) dL_law_685 ?_
        refine g_istore C [(14, .int (cellV xs L ((52 : Int32) + (v5 / (6 : Int32))))), (13, .int ((1 : Int32) + ((v6 / (512 : Int32)) - (v6 / (512 : Int32)) / (60 : Int32) * (60 : Int32)))), (0, .ref b), (1, .ref (A 0)), (2, .ref (A 18)), (3, .ref (A 19)), (5, .int v5), (6, .int v6)] hN (by decide) rfl dL_law_688 ?_
        refine g_iload C 0 rfl dL_law_690 ?_
        refine g_i2l C dL_law_692 ?_
        refine g_lstore C [(15, .long (cellV xs L ((52 : Int32) + (v5 / (6 : Int32)))).toInt64), (14, .int (cellV xs L ((52 : Int32) + (v5 / (6 : Int32))))), (13, .int ((1 : Int32) + ((v6 / (512 : Int32)) - (v6 / (512 : Int32)) / (60 : Int32) * (60 : Int32)))), (0, .ref b), (1, .ref (A 0)), (2, .ref (A 18)), (3, .ref (A 19)), (5, .int v5), (6, .int v6)] hN (by decide) rfl dL_law_693 ?_
        refine g_iconst (v := (0 : Int32)) C dL_law_695 (by decide) ?_
        refine g_istore C [(17, .int (0 : Int32)), (15, .long (cellV xs L ((52 : Int32) + (v5 / (6 : Int32)))).toInt64), (14, .int (cellV xs L ((52 : Int32) + (v5 / (6 : Int32))))), (13, .int ((1 : Int32) + ((v6 / (512 : Int32)) - (v6 / (512 : Int32)) / (60 : Int32) * (60 : Int32)))), (0, .ref b), (1, .ref (A 0)), (2, .ref (A 18)), (3, .ref (A 19)), (5, .int v5), (6, .int v6)] hN (by decide) rfl dL_law_696 ?_
        refine g_eql (lv' := [(0, .ref b), (1, .ref (A 0)), (2, .ref (A 18)), (3, .ref (A 19)), (5, .int v5), (13, .int ((1 : Int32) + ((v6 / (512 : Int32)) - (v6 / (512 : Int32)) / (60 : Int32) * (60 : Int32)))), (14, .int (cellV xs L ((52 : Int32) + (v5 / (6 : Int32))))), (15, .long (cellV xs L ((52 : Int32) + (v5 / (6 : Int32)))).toInt64), (17, .int (0 : Int32))]) [4, 5, 6, 7, 8, 3, 2, 1, 0] rfl ?_
        obtain ⟨n0, hw⟩ := hw
        exact J698 _ hK80 n0 σ kk v5 ((1 : Int32) + ((v6 / (512 : Int32)) - (v6 / (512 : Int32)) / (60 : Int32) * (60 : Int32))) (cellV xs L ((52 : Int32) + (v5 / (6 : Int32)))) (cellV xs L ((52 : Int32) + (v5 / (6 : Int32)))).toInt64 (0 : Int32) (by omega) hw
    · refine g_iconst (v := (0 : Int32)) C dL_law_652 (by decide) ?_
      exact hret _ _ _ _ _ _ (by omega) (by omega) hw dL_law_653
  have J620 : ∀ (K80 : St → Nat → Int32 → Prop) (_ : ∀ (σ : St) (kk : Nat) (v5 : Int32), kk ≤ 600 → K80 σ kk v5 → GW κ (20 + kk) (245 + 3 * kk) (gW cy A σ) 80 [(0, .ref b), (1, .ref (A 0)), (2, .ref (A 18)), (3, .ref (A 19)), (5, .int v5)] [])  (K564 : St → Nat → Int32 → Int32 → Int32 → Int32 → Int32 → Int32 → Int32 → Prop) (_ : ∀ (σ : St) (kk : Nat) (v5 : Int32) (v6 : Int32) (v9 : Int32) (v10 : Int32) (v11 : Int32) (v12 : Int32) (v13 : Int32), kk ≤ 600 → K564 σ kk v5 v6 v9 v10 v11 v12 v13 → GW κ (20 + kk) (245 + 3 * kk) (gW cy A σ) 564 [(0, .ref b), (1, .ref (A 0)), (2, .ref (A 18)), (3, .ref (A 19)), (5, .int v5), (6, .int v6), (9, .int v9), (10, .int v10), (11, .int v11), (12, .int v12), (13, .int v13)] []), ∀ (σ : St) (kk : Nat) (v5 : Int32) (v6 : Int32) (v9 : Int32) (v10 : Int32) (v11 : Int32) (v13 : Int32) (s0 : Int32), kk ≤ 600 → wL_law_620 K80 K564 L xs σ kk v5 v6 v9 v10 v11 v13 s0 → GW κ (20 + kk) (245 + 3 * kk) (gW cy A σ) 620 [(0, .ref b), (1, .ref (A 0)), (2, .ref (A 18)), (3, .ref (A 19)), (5, .int v5), (6, .int v6), (9, .int v9), (10, .int v10), (11, .int v11), (13, .int v13)] [.int s0] := by
    intro K80 hK80 K564 hK564 σ kk v5 v6 v9 v10 v11 v13 s0 hk6 hw
    unfold wL_law_620 at hw
    refine g_istore C [(12, .int s0), (0, .ref b), (1, .ref (A 0)), (2, .ref (A 18)), (3, .ref (A 19)), (5, .int v5), (6, .int v6), (9, .int v9), (10, .int v10), (11, .int v11), (13, .int v13)] hN (by decide) rfl dL_law_620 ?_
    refine g_iinc (j := 10) C [(13, .int (v13 + (-1))), (12, .int s0), (0, .ref b), (1, .ref (A 0)), (2, .ref (A 18)), (3, .ref (A 19)), (5, .int v5), (6, .int v6), (9, .int v9), (10, .int v10), (11, .int v11)] hN rfl (congrArg (fun z => v13 + z) (by decide : Int32.ofInt (-1) = (-1 : Int32))) (by decide) rfl dL_law_622 ?_
    refine g_goto C 564 (by decide) dL_law_625 ?_
    refine g_eql (lv' := [(0, .ref b), (1, .ref (A 0)), (2, .ref (A 18)), (3, .ref (A 19)), (5, .int v5), (6, .int v6), (9, .int v9), (10, .int v10), (11, .int v11), (12, .int s0), (13, .int (v13 + (-1)))]) [2, 3, 4, 5, 6, 7, 8, 9, 10, 1, 0] rfl ?_
    exact hK564 σ kk v5 v6 v9 v10 v11 s0 (v13 + (-1)) (by omega) hw
  have J613 : ∀ (K80 : St → Nat → Int32 → Prop) (_ : ∀ (σ : St) (kk : Nat) (v5 : Int32), kk ≤ 600 → K80 σ kk v5 → GW κ (20 + kk) (245 + 3 * kk) (gW cy A σ) 80 [(0, .ref b), (1, .ref (A 0)), (2, .ref (A 18)), (3, .ref (A 19)), (5, .int v5)] [])  (K564 : St → Nat → Int32 → Int32 → Int32 → Int32 → Int32 → Int32 → Int32 → Prop) (_ : ∀ (σ : St) (kk : Nat) (v5 : Int32) (v6 : Int32) (v9 : Int32) (v10 : Int32) (v11 : Int32) (v12 : Int32) (v13 : Int32), kk ≤ 600 → K564 σ kk v5 v6 v9 v10 v11 v12 v13 → GW κ (20 + kk) (245 + 3 * kk) (gW cy A σ) 564 [(0, .ref b), (1, .ref (A 0)), (2, .ref (A 18)), (3, .ref (A 19)), (5, .int v5), (6, .int v6), (9, .int v9), (10, .int v10), (11, .int v11), (12, .int v12), (13, .int v13)] []), ∀ (σ : St) (kk : Nat) (v5 : Int32) (v6 : Int32) (v9 : Int32) (v10 : Int32) (v11 : Int32) (v13 : Int32), kk ≤ 600 → wL_law_613 K80 K564 L xs σ kk v5 v6 v9 v10 v11 v13 → GW κ (20 + kk) (245 + 3 * kk) (gW cy A σ) 613 [(0, .ref b), (1, .ref (A 0)), (2, .ref (A 18)), (3, .ref (A 19)), (5, .int v5), (6, .int v6), (9, .int v9), (10, .int v10), (11, .int v11), (13, .int v13)] [] := by
    intro K80 hK80 K564 hK564 σ kk v5 v6 v9 v10 v11 v13 hk6 hw
    unfold wL_law_613 at hw
    refine g_iload C 9 rfl dL_law_613 ?_
    refine g_goto C 620 (by decide) dL_law_615 ?_
    exact J620 _ hK80 _ hK564 σ kk v5 v6 v9 v10 v11 v13 v13 (by omega) hw
  have J564 : ∀ (K80 : St → Nat → Int32 → Prop) (_ : ∀ (σ : St) (kk : Nat) (v5 : Int32), kk ≤ 600 → K80 σ kk v5 → GW κ (20 + kk) (245 + 3 * kk) (gW cy A σ) 80 [(0, .ref b), (1, .ref (A 0)), (2, .ref (A 18)), (3, .ref (A 19)), (5, .int v5)] []), ∀ (n : Nat) (σ : St) (kk : Nat) (v5 : Int32) (v6 : Int32) (v9 : Int32) (v10 : Int32) (v11 : Int32) (v12 : Int32) (v13 : Int32), kk ≤ 600 → wL_law_564 K80 L xs n σ kk v5 v6 v9 v10 v11 v12 v13 → GW κ (20 + kk) (245 + 3 * kk) (gW cy A σ) 564 [(0, .ref b), (1, .ref (A 0)), (2, .ref (A 18)), (3, .ref (A 19)), (5, .int v5), (6, .int v6), (9, .int v9), (10, .int v10), (11, .int v11), (12, .int v12), (13, .int v13)] [] := by
    intro K80 hK80 n
    induction n with
    | zero => intro σ kk v5 v6 v9 v10 v11 v12 v13 hk6 hw; exact hw.elim
    | succ n ih =>
      intro σ kk v5 v6 v9 v10 v11 v12 v13 hk6 hw
      rw [wL_law_564] at hw
      refine g_iload C 10 rfl dL_law_564 ?_
      refine g_if_lt C 628 (by decide) hw dL_law_566 (fun hw => ?_) (fun hw => ?_)
      · refine g_aload_n C 1 rfl rfl dL_law_628 ?_
        refine g_iload C 6 rfl dL_law_629 ?_
        refine gc_I (mc := 0) (ms := 0) C (gr_V (mc := 0) (ms := 0) (As := [.int v9]) (rest := []) C hK 1 (gd_V wt_250 wt_251 wt_252 wt_1 wt_253) rfl rfl rfl ⟨rfl, hs_X11_caught⟩ ⟨⟨Nat.le_of_ble_eq_true rfl, Nat.le_of_ble_eq_true rfl⟩, (by show _ ≤ 888223; omega), (by show _ ≤ 6437580; omega)⟩ rfl 0 (ga_0 cy A _) rfl rfl (Nat.le_of_ble_eq_true rfl) dL_law_631 (c_X11_caught (q_l κ) (q_D κ) cy A hw)) (fun r54 σ53 hw => ?_)
        refine g_widen (k' := 20 + kk) (n' := 245 + 3 * kk) (by omega) (by omega) ?_
        refine g_aload_n C 2 rfl rfl dL_law_634 ?_
        refine g_bipush (v := (6 : Int32)) C dL_law_635 (by decide) ?_
        refine g_iald C hK 18 2 (ga_18 cy A _) rfl hw.1 dL_law_637 ?_
        replace hw := hw.2
        refine g_iconst (v := (1 : Int32)) C dL_law_638 (by decide) ?_
        refine g_icmp_ne C 647 (by decide) hw dL_law_639 (fun hw => ?_) (fun hw => ?_)
        · refine g_iload C 9 rfl dL_law_647 ?_
          refine g_eql (lv' := [(0, .ref b), (1, .ref (A 0)), (2, .ref (A 18)), (3, .ref (A 19)), (5, .int v5), (6, .int v6)]) [0, 1, 2, 3, 4, 5] rfl ?_
          exact J649 _ hK80 σ53 kk v5 v6 v12 r54 (by omega) hw
        · refine g_bipush (v := (-103 : Int32)) C dL_law_642 (by decide) ?_
          refine g_goto C 649 (by decide) dL_law_644 ?_
          refine g_eql (lv' := [(0, .ref b), (1, .ref (A 0)), (2, .ref (A 18)), (3, .ref (A 19)), (5, .int v5), (6, .int v6)]) [0, 1, 2, 3, 4, 5] rfl ?_
          exact J649 _ hK80 σ53 kk v5 v6 (-103 : Int32) r54 (by omega) hw
      · refine g_aload_n C 2 rfl rfl dL_law_569 ?_
        refine g_iconst (v := (4 : Int32)) C dL_law_570 (by decide) ?_
        refine g_iald C hK 18 2 (ga_18 cy A _) rfl hw.1 dL_law_571 ?_
        replace hw := hw.2
        refine g_iload C 10 rfl dL_law_572 ?_
        refine g_iload C 7 rfl dL_law_574 ?_
        refine g_imul C dL_law_576 ?_
        refine g_bipush (v := (10 : Int32)) C dL_law_577 (by decide) ?_
        refine g_imul C dL_law_579 ?_
        refine g_iadd C dL_law_580 ?_
        refine g_iload C 8 rfl dL_law_581 ?_
        refine g_isub C dL_law_583 ?_
        refine g_sipush (v := (360 : Int32)) C dL_law_584 (by decide) ?_
        refine g_irem C hw.1 dL_law_587 ?_
        replace hw := hw.2
        refine g_sipush (v := (360 : Int32)) C dL_law_588 (by decide) ?_
        refine g_iadd C dL_law_591 ?_
        refine g_sipush (v := (360 : Int32)) C dL_law_592 (by decide) ?_
        refine g_irem C hw.1 dL_law_595 ?_
        replace hw := hw.2
        refine g_istore C [(14, .int ((((((σ.1 18 (4 : Int32).toNatClampNeg) + ((v13 * v10) * (10 : Int32))) - v11) - (((σ.1 18 (4 : Int32).toNatClampNeg) + ((v13 * v10) * (10 : Int32))) - v11) / (360 : Int32) * (360 : Int32)) + (360 : Int32)) - (((((σ.1 18 (4 : Int32).toNatClampNeg) + ((v13 * v10) * (10 : Int32))) - v11) - (((σ.1 18 (4 : Int32).toNatClampNeg) + ((v13 * v10) * (10 : Int32))) - v11) / (360 : Int32) * (360 : Int32)) + (360 : Int32)) / (360 : Int32) * (360 : Int32))), (0, .ref b), (1, .ref (A 0)), (2, .ref (A 18)), (3, .ref (A 19)), (5, .int v5), (6, .int v6), (9, .int v9), (10, .int v10), (11, .int v11), (12, .int v12), (13, .int v13)] hN (by decide) rfl dL_law_596 ?_
        refine g_iload C 0 rfl dL_law_598 ?_
        refine g_bipush (v := (6 : Int32)) C dL_law_600 (by decide) ?_
        refine g_icmp_lt C 613 (by decide) hw dL_law_602 (fun hw => ?_) (fun hw => ?_)
        · refine g_eql (lv' := [(0, .ref b), (1, .ref (A 0)), (2, .ref (A 18)), (3, .ref (A 19)), (5, .int v5), (6, .int v6), (9, .int v9), (10, .int v10), (11, .int v11), (13, .int v13)]) [1, 2, 3, 4, 5, 6, 7, 8, 9, 11] rfl ?_
          exact J613 _ hK80 _ ih σ kk v5 v6 v9 v10 v11 v13 (by omega) hw
        · refine g_iload C 0 rfl dL_law_605 ?_
          refine g_sipush (v := (354 : Int32)) C dL_law_607 (by decide) ?_
          refine g_icmp_le C 618 (by decide) hw dL_law_610 (fun hw => ?_) (fun hw => ?_)
          · refine g_iload C 10 rfl dL_law_618 ?_
            refine g_eql (lv' := [(0, .ref b), (1, .ref (A 0)), (2, .ref (A 18)), (3, .ref (A 19)), (5, .int v5), (6, .int v6), (9, .int v9), (10, .int v10), (11, .int v11), (13, .int v13)]) [1, 2, 3, 4, 5, 6, 7, 8, 9, 11] rfl ?_
            exact J620 _ hK80 _ ih σ kk v5 v6 v9 v10 v11 v13 v12 (by omega) hw
          · refine g_eql (lv' := [(0, .ref b), (1, .ref (A 0)), (2, .ref (A 18)), (3, .ref (A 19)), (5, .int v5), (6, .int v6), (9, .int v9), (10, .int v10), (11, .int v11), (13, .int v13)]) [1, 2, 3, 4, 5, 6, 7, 8, 9, 11] rfl ?_
            exact J613 _ hK80 _ ih σ kk v5 v6 v9 v10 v11 v13 (by omega) hw
  have J496 : ∀ (K80 : St → Nat → Int32 → Prop) (_ : ∀ (σ : St) (kk : Nat) (v5 : Int32), kk ≤ 600 → K80 σ kk v5 → GW κ (20 + kk) (245 + 3 * kk) (gW cy A σ) 80 [(0, .ref b), (1, .ref (A 0)), (2, .ref (A 18)), (3, .ref (A 19)), (5, .int v5)] [])  (K429 : St → Nat → Int32 → Int32 → Int32 → Prop) (_ : ∀ (σ : St) (kk : Nat) (v5 : Int32) (v6 : Int32) (v9 : Int32), kk ≤ 600 → K429 σ kk v5 v6 v9 → GW κ (20 + kk) (245 + 3 * kk) (gW cy A σ) 429 [(0, .ref b), (1, .ref (A 0)), (2, .ref (A 18)), (3, .ref (A 19)), (5, .int v5), (6, .int v6), (9, .int v9)] [])  (K441 : St → Nat → Int32 → Int32 → Int32 → Int32 → Prop) (_ : ∀ (σ : St) (kk : Nat) (v5 : Int32) (v6 : Int32) (v9 : Int32) (v10 : Int32), kk ≤ 600 → K441 σ kk v5 v6 v9 v10 → GW κ (20 + kk) (245 + 3 * kk) (gW cy A σ) 441 [(0, .ref b), (1, .ref (A 0)), (2, .ref (A 18)), (3, .ref (A 19)), (5, .int v5), (6, .int v6), (9, .int v9), (10, .int v10)] []), ∀ (σ : St) (kk : Nat) (v5 : Int32) (v6 : Int32) (v9 : Int32) (v10 : Int32) (s0 : Int32) (s1 : Int32), kk ≤ 600 → wL_law_496 K80 K429 K441 L xs σ kk v5 v6 v9 v10 s0 s1 → GW κ (20 + kk) (245 + 3 * kk) (gW cy A σ) 496 [(0, .ref b), (1, .ref (A 0)), (2, .ref (A 18)), (3, .ref (A 19)), (5, .int v5), (6, .int v6), (9, .int v9), (10, .int v10)] [.int s0, .int s1] := by
    intro K80 hK80 K429 hK429 K441 hK441 σ kk v5 v6 v9 v10 s0 s1 hk6 hw
    unfold wL_law_496 at hw
    refine g_icmp_eq C 501 (by decide) hw dL_law_496 (fun hw => ?_) (fun hw => ?_)
    · refine g_iinc (j := 7) C [(10, .int (v10 + 1)), (0, .ref b), (1, .ref (A 0)), (2, .ref (A 18)), (3, .ref (A 19)), (5, .int v5), (6, .int v6), (9, .int v9)] hN rfl rfl (by decide) rfl dL_law_501 ?_
      refine g_goto C 441 (by decide) dL_law_504 ?_
      refine g_eql (lv' := [(0, .ref b), (1, .ref (A 0)), (2, .ref (A 18)), (3, .ref (A 19)), (5, .int v5), (6, .int v6), (9, .int v9), (10, .int (v10 + 1))]) [1, 2, 3, 4, 5, 6, 7, 0] rfl ?_
      exact hK441 σ kk v5 v6 v9 (v10 + 1) (by omega) hw
    · refine g_iconst (v := (0 : Int32)) C dL_law_499 (by decide) ?_
      exact hret _ _ _ _ _ _ (by omega) (by omega) hw dL_law_500
  have J495 : ∀ (K80 : St → Nat → Int32 → Prop) (_ : ∀ (σ : St) (kk : Nat) (v5 : Int32), kk ≤ 600 → K80 σ kk v5 → GW κ (20 + kk) (245 + 3 * kk) (gW cy A σ) 80 [(0, .ref b), (1, .ref (A 0)), (2, .ref (A 18)), (3, .ref (A 19)), (5, .int v5)] [])  (K429 : St → Nat → Int32 → Int32 → Int32 → Prop) (_ : ∀ (σ : St) (kk : Nat) (v5 : Int32) (v6 : Int32) (v9 : Int32), kk ≤ 600 → K429 σ kk v5 v6 v9 → GW κ (20 + kk) (245 + 3 * kk) (gW cy A σ) 429 [(0, .ref b), (1, .ref (A 0)), (2, .ref (A 18)), (3, .ref (A 19)), (5, .int v5), (6, .int v6), (9, .int v9)] [])  (K441 : St → Nat → Int32 → Int32 → Int32 → Int32 → Prop) (_ : ∀ (σ : St) (kk : Nat) (v5 : Int32) (v6 : Int32) (v9 : Int32) (v10 : Int32), kk ≤ 600 → K441 σ kk v5 v6 v9 v10 → GW κ (20 + kk) (245 + 3 * kk) (gW cy A σ) 441 [(0, .ref b), (1, .ref (A 0)), (2, .ref (A 18)), (3, .ref (A 19)), (5, .int v5), (6, .int v6), (9, .int v9), (10, .int v10)] []), ∀ (σ : St) (kk : Nat) (v5 : Int32) (v6 : Int32) (v9 : Int32) (v10 : Int32) (s0 : Int32), kk ≤ 600 → wL_law_495 K80 K429 K441 L xs σ kk v5 v6 v9 v10 s0 → GW κ (20 + kk) (245 + 3 * kk) (gW cy A σ) 495 [(0, .ref b), (1, .ref (A 0)), (2, .ref (A 18)), (3, .ref (A 19)), (5, .int v5), (6, .int v6), (9, .int v9), (10, .int v10)] [.int s0] := by
    intro K80 hK80 K429 hK429 K441 hK441 σ kk v5 v6 v9 v10 s0 hk6 hw
    unfold wL_law_495 at hw
    refine g_iconst (v := (-1 : Int32)) C dL_law_495 (by decide) ?_
    exact J496 _ hK80 _ hK429 _ hK441 σ kk v5 v6 v9 v10 (-1 : Int32) s0 (by omega) hw
  have J490 : ∀ (K80 : St → Nat → Int32 → Prop) (_ : ∀ (σ : St) (kk : Nat) (v5 : Int32), kk ≤ 600 → K80 σ kk v5 → GW κ (20 + kk) (245 + 3 * kk) (gW cy A σ) 80 [(0, .ref b), (1, .ref (A 0)), (2, .ref (A 18)), (3, .ref (A 19)), (5, .int v5)] [])  (K429 : St → Nat → Int32 → Int32 → Int32 → Prop) (_ : ∀ (σ : St) (kk : Nat) (v5 : Int32) (v6 : Int32) (v9 : Int32), kk ≤ 600 → K429 σ kk v5 v6 v9 → GW κ (20 + kk) (245 + 3 * kk) (gW cy A σ) 429 [(0, .ref b), (1, .ref (A 0)), (2, .ref (A 18)), (3, .ref (A 19)), (5, .int v5), (6, .int v6), (9, .int v9)] [])  (K441 : St → Nat → Int32 → Int32 → Int32 → Int32 → Prop) (_ : ∀ (σ : St) (kk : Nat) (v5 : Int32) (v6 : Int32) (v9 : Int32) (v10 : Int32), kk ≤ 600 → K441 σ kk v5 v6 v9 v10 → GW κ (20 + kk) (245 + 3 * kk) (gW cy A σ) 441 [(0, .ref b), (1, .ref (A 0)), (2, .ref (A 18)), (3, .ref (A 19)), (5, .int v5), (6, .int v6), (9, .int v9), (10, .int v10)] []), ∀ (σ : St) (kk : Nat) (v5 : Int32) (v6 : Int32) (v9 : Int32) (v10 : Int32) (s0 : Int32), kk ≤ 600 → wL_law_490 K80 K429 K441 L xs σ kk v5 v6 v9 v10 s0 → GW κ (20 + kk) (245 + 3 * kk) (gW cy A σ) 490 [(0, .ref b), (1, .ref (A 0)), (2, .ref (A 18)), (3, .ref (A 19)), (5, .int v5), (6, .int v6), (9, .int v9), (10, .int v10)] [.int s0] := by
    intro K80 hK80 K429 hK429 K441 hK441 σ kk v5 v6 v9 v10 s0 hk6 hw
    unfold wL_law_490 at hw
    refine g_iload C 6 rfl dL_law_490 ?_
    refine g_goto C 496 (by decide) dL_law_492 ?_
    exact J496 _ hK80 _ hK429 _ hK441 σ kk v5 v6 v9 v10 v9 s0 (by omega) hw
  have J441 : ∀ (K80 : St → Nat → Int32 → Prop) (_ : ∀ (σ : St) (kk : Nat) (v5 : Int32), kk ≤ 600 → K80 σ kk v5 → GW κ (20 + kk) (245 + 3 * kk) (gW cy A σ) 80 [(0, .ref b), (1, .ref (A 0)), (2, .ref (A 18)), (3, .ref (A 19)), (5, .int v5)] [])  (K429 : St → Nat → Int32 → Int32 → Int32 → Prop) (_ : ∀ (σ : St) (kk : Nat) (v5 : Int32) (v6 : Int32) (v9 : Int32), kk ≤ 600 → K429 σ kk v5 v6 v9 → GW κ (20 + kk) (245 + 3 * kk) (gW cy A σ) 429 [(0, .ref b), (1, .ref (A 0)), (2, .ref (A 18)), (3, .ref (A 19)), (5, .int v5), (6, .int v6), (9, .int v9)] []), ∀ (n : Nat) (σ : St) (kk : Nat) (v5 : Int32) (v6 : Int32) (v9 : Int32) (v10 : Int32), kk ≤ 600 → wL_law_441 K80 K429 L xs n σ kk v5 v6 v9 v10 → GW κ (20 + kk) (245 + 3 * kk) (gW cy A σ) 441 [(0, .ref b), (1, .ref (A 0)), (2, .ref (A 18)), (3, .ref (A 19)), (5, .int v5), (6, .int v6), (9, .int v9), (10, .int v10)] [] := by
    intro K80 hK80 K429 hK429 n
    induction n with
    | zero => intro σ kk v5 v6 v9 v10 hk6 hw; exact hw.elim
    | succ n ih =>
      intro σ kk v5 v6 v9 v10 hk6 hw
      rw [wL_law_441] at hw
      refine g_iload C 7 rfl dL_law_441 ?_
      refine g_iconst (v := (5 : Int32)) C dL_law_443 (by decide) ?_
      refine g_icmp_ge C 507 (by decide) hw dL_law_444 (fun hw => ?_) (fun hw => ?_)
      · refine g_iinc (j := 6) C [(9, .int (v9 + 1)), (0, .ref b), (1, .ref (A 0)), (2, .ref (A 18)), (3, .ref (A 19)), (5, .int v5), (6, .int v6), (10, .int v10)] hN rfl rfl (by decide) rfl dL_law_507 ?_
        refine g_goto C 429 (by decide) dL_law_510 ?_
        refine g_eql (lv' := [(0, .ref b), (1, .ref (A 0)), (2, .ref (A 18)), (3, .ref (A 19)), (5, .int v5), (6, .int v6), (9, .int (v9 + 1))]) [1, 2, 3, 4, 5, 6, 0] rfl ?_
        exact hK429 σ kk v5 v6 (v9 + 1) (by omega) hw
      · refine g_aload_n C 2 rfl rfl dL_law_447 ?_
        refine g_bipush (v := (8 : Int32)) C dL_law_448 (by decide) ?_
        refine g_iconst (v := (4 : Int32)) C dL_law_450 (by decide) ?_
        refine g_iload C 6 rfl dL_law_451 ?_
        refine g_imul C dL_law_453 ?_
        refine g_iadd C dL_law_454 ?_
        refine g_iald C hK 18 2 (ga_18 cy A _) rfl hw.1 dL_law_455 ?_
        replace hw := hw.2
        refine g_istore C [(11, .int (σ.1 18 ((8 : Int32) + ((4 : Int32) * v9)).toNatClampNeg)), (0, .ref b), (1, .ref (A 0)), (2, .ref (A 18)), (3, .ref (A 19)), (5, .int v5), (6, .int v6), (9, .int v9), (10, .int v10)] hN (by decide) rfl dL_law_456 ?_
        refine g_aload_n C 2 rfl rfl dL_law_458 ?_
        refine g_iload C 7 rfl dL_law_459 ?_
        refine g_iload C 8 rfl dL_law_461 ?_
        refine gc_I (mc := 0) (ms := 0) C (gr_V (mc := 0) (ms := 0) (As := [.int v9, .int v10]) (rest := []) C hK 2 (gd_V wt_186 wt_187 wt_188 wt_1 wt_189) rfl rfl rfl ⟨rfl, hs_X11_as⟩ ⟨⟨Nat.le_of_ble_eq_true rfl, Nat.le_of_ble_eq_true rfl⟩, (by show _ ≤ 888223; omega), (by show _ ≤ 6437580; omega)⟩ rfl 0 (ga_0 cy A _) rfl rfl (Nat.le_of_ble_eq_true rfl) dL_law_463 (c_X11_as (q_l κ) (q_D κ) cy A hw)) (fun r52 σ51 hw => ?_)
        refine g_widen (k' := 20 + kk) (n' := 245 + 3 * kk) (by omega) (by omega) ?_
        refine g_iload C 8 rfl dL_law_466 ?_
        refine g_if_eq C 490 (by decide) hw dL_law_468 (fun hw => ?_) (fun hw => ?_)
        · refine g_eql (lv' := [(0, .ref b), (1, .ref (A 0)), (2, .ref (A 18)), (3, .ref (A 19)), (5, .int v5), (6, .int v6), (9, .int v9), (10, .int v10)]) [1, 2, 3, 4, 5, 6, 7, 8] rfl ?_
          exact J490 _ hK80 _ hK429 _ ih σ51 kk v5 v6 v9 v10 r52 (by omega) hw
        · refine g_iload C 8 rfl dL_law_471 ?_
          refine g_iload C 0 rfl dL_law_473 ?_
          refine g_icmp_eq C 490 (by decide) hw dL_law_475 (fun hw => ?_) (fun hw => ?_)
          · refine g_eql (lv' := [(0, .ref b), (1, .ref (A 0)), (2, .ref (A 18)), (3, .ref (A 19)), (5, .int v5), (6, .int v6), (9, .int v9), (10, .int v10)]) [1, 2, 3, 4, 5, 6, 7, 8] rfl ?_
            exact J490 _ hK80 _ hK429 _ ih σ51 kk v5 v6 v9 v10 r52 (by omega) hw
          · refine g_iload C 8 rfl dL_law_478 ?_
            refine g_iconst (v := (3 : Int32)) C dL_law_480 (by decide) ?_
            refine g_icmp_ne C 495 (by decide) hw dL_law_481 (fun hw => ?_) (fun hw => ?_)
            · refine g_eql (lv' := [(0, .ref b), (1, .ref (A 0)), (2, .ref (A 18)), (3, .ref (A 19)), (5, .int v5), (6, .int v6), (9, .int v9), (10, .int v10)]) [1, 2, 3, 4, 5, 6, 7, 8] rfl ?_
              exact J495 _ hK80 _ hK429 _ ih σ51 kk v5 v6 v9 v10 r52 (by omega) hw
            · refine g_iload C 0 rfl dL_law_484 ?_
              refine g_iconst (v := (4 : Int32)) C dL_law_486 (by decide) ?_
              refine g_icmp_ne C 495 (by decide) hw dL_law_487 (fun hw => ?_) (fun hw => ?_)
              · refine g_eql (lv' := [(0, .ref b), (1, .ref (A 0)), (2, .ref (A 18)), (3, .ref (A 19)), (5, .int v5), (6, .int v6), (9, .int v9), (10, .int v10)]) [1, 2, 3, 4, 5, 6, 7, 8] rfl ?_
                exact J495 _ hK80 _ hK429 _ ih σ51 kk v5 v6 v9 v10 r52 (by omega) hw
              · refine g_eql (lv' := [(0, .ref b), (1, .ref (A 0)), (2, .ref (A 18)), (3, .ref (A 19)), (5, .int v5), (6, .int v6), (9, .int v9), (10, .int v10)]) [1, 2, 3, 4, 5, 6, 7, 8] rfl ?_
                exact J490 _ hK80 _ hK429 _ ih σ51 kk v5 v6 v9 v10 r52 (by omega) hw
  have J429 : ∀ (K80 : St → Nat → Int32 → Prop) (_ : ∀ (σ : St) (kk : Nat) (v5 : Int32), kk ≤ 600 → K80 σ kk v5 → GW κ (20 + kk) (245 + 3 * kk) (gW cy A σ) 80 [(0, .ref b), (1, .ref (A 0)), (2, .ref (A 18)), (3, .ref (A 19)), (5, .int v5)] []), ∀ (n : Nat) (σ : St) (kk : Nat) (v5 : Int32) (v6 : Int32) (v9 : Int32), kk ≤ 600 → wL_law_429 K80 L xs n σ kk v5 v6 v9 → GW κ (20 + kk) (245 + 3 * kk) (gW cy A σ) 429 [(0, .ref b), (1, .ref (A 0)), (2, .ref (A 18)), (3, .ref (A 19)), (5, .int v5), (6, .int v6), (9, .int v9)] [] := by
    intro K80 hK80 n
    induction n with
    | zero => intro σ kk v5 v6 v9 hk6 hw; exact hw.elim
    | succ n ih =>
      intro σ kk v5 v6 v9 hk6 hw
      rw [wL_law_429] at hw
      refine g_iload C 6 rfl dL_law_429 ?_
      refine g_aload_n C 2 rfl rfl dL_law_431 ?_
      refine g_bipush (v := (7 : Int32)) C dL_law_432 (by decide) ?_
      refine g_iald C hK 18 2 (ga_18 cy A _) rfl hw.1 dL_law_434 ?_
      replace hw := hw.2
      refine g_icmp_ge C 513 (by decide) hw dL_law_435 (fun hw => ?_) (fun hw => ?_)
      · refine g_iconst (v := (1 : Int32)) C dL_law_513 (by decide) ?_
        refine g_iload C 5 rfl dL_law_514 ?_
        refine g_sipush (v := (4096 : Int32)) C dL_law_516 (by decide) ?_
        refine g_idiv C hw.1 dL_law_519 ?_
        replace hw := hw.2
        refine g_bipush (v := (99 : Int32)) C dL_law_520 (by decide) ?_
        refine g_irem C hw.1 dL_law_522 ?_
        replace hw := hw.2
        refine g_iadd C dL_law_523 ?_
        refine g_istore C [(9, .int ((1 : Int32) + ((v6 / (4096 : Int32)) - (v6 / (4096 : Int32)) / (99 : Int32) * (99 : Int32)))), (0, .ref b), (1, .ref (A 0)), (2, .ref (A 18)), (3, .ref (A 19)), (5, .int v5), (6, .int v6)] hN (by decide) rfl dL_law_524 ?_
        refine g_aload_n C 3 rfl rfl dL_law_526 ?_
        refine g_aload_n C 3 rfl rfl dL_law_527 ?_
        refine g_iconst (v := (0 : Int32)) C dL_law_528 (by decide) ?_
        refine g_iald C hK 18 2 (ga_18 cy A _) rfl hw.1 dL_law_529 ?_
        replace hw := hw.2
        refine gc_I (mc := 0) (ms := 0) C (gr_S (mc := 0) (ms := 0) (As := [.ref (A 18), .int (σ.1 18 (0 : Int32).toNatClampNeg)]) (rest := []) C hK 2 (gd_S wt_420 wt_421 wt_0 wt_422) rfl rfl rfl hs_L_turns ⟨⟨Nat.le_of_ble_eq_true rfl, Nat.le_of_ble_eq_true rfl⟩, (by show _ ≤ 888223; omega), (by show _ ≤ 6437580; omega)⟩ rfl rfl (Nat.le_of_ble_eq_true rfl) dL_law_530 (c_L_turns (q_l κ) (q_D κ) cy A hQ18 hw)) (fun r50 σ49 hw => ?_)
        refine g_widen (k' := 20 + kk) (n' := 245 + 3 * kk) (by omega) (by omega) ?_
        refine g_istore C [(10, .int r50), (9, .int ((1 : Int32) + ((v6 / (4096 : Int32)) - (v6 / (4096 : Int32)) / (99 : Int32) * (99 : Int32)))), (0, .ref b), (1, .ref (A 0)), (2, .ref (A 18)), (3, .ref (A 19)), (5, .int v5), (6, .int v6)] hN (by decide) rfl dL_law_533 ?_
        refine g_bipush (v := (90 : Int32)) C dL_law_535 (by decide) ?_
        refine g_iload C 1 rfl dL_law_537 ?_
        refine g_iload C 0 rfl dL_law_539 ?_
        refine g_imul C dL_law_541 ?_
        refine g_isub C dL_law_542 ?_
        refine g_sipush (v := (360 : Int32)) C dL_law_543 (by decide) ?_
        refine g_irem C hw.1 dL_law_546 ?_
        replace hw := hw.2
        refine g_sipush (v := (360 : Int32)) C dL_law_547 (by decide) ?_
        refine g_iadd C dL_law_550 ?_
        refine g_sipush (v := (360 : Int32)) C dL_law_551 (by decide) ?_
        refine g_irem C hw.1 dL_law_554 ?_
        replace hw := hw.2
        refine g_istore C [(11, .int (((((90 : Int32) - (((1 : Int32) + ((v6 / (4096 : Int32)) - (v6 / (4096 : Int32)) / (99 : Int32) * (99 : Int32))) * r50)) - ((90 : Int32) - (((1 : Int32) + ((v6 / (4096 : Int32)) - (v6 / (4096 : Int32)) / (99 : Int32) * (99 : Int32))) * r50)) / (360 : Int32) * (360 : Int32)) + (360 : Int32)) - ((((90 : Int32) - (((1 : Int32) + ((v6 / (4096 : Int32)) - (v6 / (4096 : Int32)) / (99 : Int32) * (99 : Int32))) * r50)) - ((90 : Int32) - (((1 : Int32) + ((v6 / (4096 : Int32)) - (v6 / (4096 : Int32)) / (99 : Int32) * (99 : Int32))) * r50)) / (360 : Int32) * (360 : Int32)) + (360 : Int32)) / (360 : Int32) * (360 : Int32))), (10, .int r50), (9, .int ((1 : Int32) + ((v6 / (4096 : Int32)) - (v6 / (4096 : Int32)) / (99 : Int32) * (99 : Int32)))), (0, .ref b), (1, .ref (A 0)), (2, .ref (A 18)), (3, .ref (A 19)), (5, .int v5), (6, .int v6)] hN (by decide) rfl dL_law_555 ?_
        refine g_iconst (v := (-1 : Int32)) C dL_law_557 (by decide) ?_
        refine g_istore C [(12, .int (-1 : Int32)), (11, .int (((((90 : Int32) - (((1 : Int32) + ((v6 / (4096 : Int32)) - (v6 / (4096 : Int32)) / (99 : Int32) * (99 : Int32))) * r50)) - ((90 : Int32) - (((1 : Int32) + ((v6 / (4096 : Int32)) - (v6 / (4096 : Int32)) / (99 : Int32) * (99 : Int32))) * r50)) / (360 : Int32) * (360 : Int32)) + (360 : Int32)) - ((((90 : Int32) - (((1 : Int32) + ((v6 / (4096 : Int32)) - (v6 / (4096 : Int32)) / (99 : Int32) * (99 : Int32))) * r50)) - ((90 : Int32) - (((1 : Int32) + ((v6 / (4096 : Int32)) - (v6 / (4096 : Int32)) / (99 : Int32) * (99 : Int32))) * r50)) / (360 : Int32) * (360 : Int32)) + (360 : Int32)) / (360 : Int32) * (360 : Int32))), (10, .int r50), (9, .int ((1 : Int32) + ((v6 / (4096 : Int32)) - (v6 / (4096 : Int32)) / (99 : Int32) * (99 : Int32)))), (0, .ref b), (1, .ref (A 0)), (2, .ref (A 18)), (3, .ref (A 19)), (5, .int v5), (6, .int v6)] hN (by decide) rfl dL_law_558 ?_
        refine g_bipush (v := (98 : Int32)) C dL_law_560 (by decide) ?_
        refine g_istore C [(13, .int (98 : Int32)), (12, .int (-1 : Int32)), (11, .int (((((90 : Int32) - (((1 : Int32) + ((v6 / (4096 : Int32)) - (v6 / (4096 : Int32)) / (99 : Int32) * (99 : Int32))) * r50)) - ((90 : Int32) - (((1 : Int32) + ((v6 / (4096 : Int32)) - (v6 / (4096 : Int32)) / (99 : Int32) * (99 : Int32))) * r50)) / (360 : Int32) * (360 : Int32)) + (360 : Int32)) - ((((90 : Int32) - (((1 : Int32) + ((v6 / (4096 : Int32)) - (v6 / (4096 : Int32)) / (99 : Int32) * (99 : Int32))) * r50)) - ((90 : Int32) - (((1 : Int32) + ((v6 / (4096 : Int32)) - (v6 / (4096 : Int32)) / (99 : Int32) * (99 : Int32))) * r50)) / (360 : Int32) * (360 : Int32)) + (360 : Int32)) / (360 : Int32) * (360 : Int32))), (10, .int r50), (9, .int ((1 : Int32) + ((v6 / (4096 : Int32)) - (v6 / (4096 : Int32)) / (99 : Int32) * (99 : Int32)))), (0, .ref b), (1, .ref (A 0)), (2, .ref (A 18)), (3, .ref (A 19)), (5, .int v5), (6, .int v6)] hN (by decide) rfl dL_law_562 ?_
        refine g_eql (lv' := [(0, .ref b), (1, .ref (A 0)), (2, .ref (A 18)), (3, .ref (A 19)), (5, .int v5), (6, .int v6), (9, .int ((1 : Int32) + ((v6 / (4096 : Int32)) - (v6 / (4096 : Int32)) / (99 : Int32) * (99 : Int32)))), (10, .int r50), (11, .int (((((90 : Int32) - (((1 : Int32) + ((v6 / (4096 : Int32)) - (v6 / (4096 : Int32)) / (99 : Int32) * (99 : Int32))) * r50)) - ((90 : Int32) - (((1 : Int32) + ((v6 / (4096 : Int32)) - (v6 / (4096 : Int32)) / (99 : Int32) * (99 : Int32))) * r50)) / (360 : Int32) * (360 : Int32)) + (360 : Int32)) - ((((90 : Int32) - (((1 : Int32) + ((v6 / (4096 : Int32)) - (v6 / (4096 : Int32)) / (99 : Int32) * (99 : Int32))) * r50)) - ((90 : Int32) - (((1 : Int32) + ((v6 / (4096 : Int32)) - (v6 / (4096 : Int32)) / (99 : Int32) * (99 : Int32))) * r50)) / (360 : Int32) * (360 : Int32)) + (360 : Int32)) / (360 : Int32) * (360 : Int32))), (12, .int (-1 : Int32)), (13, .int (98 : Int32))]) [5, 6, 7, 8, 9, 10, 4, 3, 2, 1, 0] rfl ?_
        obtain ⟨n0, hw⟩ := hw
        exact J564 _ hK80 n0 σ49 kk v5 v6 ((1 : Int32) + ((v6 / (4096 : Int32)) - (v6 / (4096 : Int32)) / (99 : Int32) * (99 : Int32))) r50 (((((90 : Int32) - (((1 : Int32) + ((v6 / (4096 : Int32)) - (v6 / (4096 : Int32)) / (99 : Int32) * (99 : Int32))) * r50)) - ((90 : Int32) - (((1 : Int32) + ((v6 / (4096 : Int32)) - (v6 / (4096 : Int32)) / (99 : Int32) * (99 : Int32))) * r50)) / (360 : Int32) * (360 : Int32)) + (360 : Int32)) - ((((90 : Int32) - (((1 : Int32) + ((v6 / (4096 : Int32)) - (v6 / (4096 : Int32)) / (99 : Int32) * (99 : Int32))) * r50)) - ((90 : Int32) - (((1 : Int32) + ((v6 / (4096 : Int32)) - (v6 / (4096 : Int32)) / (99 : Int32) * (99 : Int32))) * r50)) / (360 : Int32) * (360 : Int32)) + (360 : Int32)) / (360 : Int32) * (360 : Int32)) (-1 : Int32) (98 : Int32) (by omega) hw
      · refine g_iconst (v := (0 : Int32)) C dL_law_438 (by decide) ?_
        refine g_istore C [(10, .int (0 : Int32)), (0, .ref b), (1, .ref (A 0)), (2, .ref (A 18)), (3, .ref (A 19)), (5, .int v5), (6, .int v6), (9, .int v9)] hN (by decide) rfl dL_law_439 ?_
        refine g_eql (lv' := [(0, .ref b), (1, .ref (A 0)), (2, .ref (A 18)), (3, .ref (A 19)), (5, .int v5), (6, .int v6), (9, .int v9), (10, .int (0 : Int32))]) [1, 2, 3, 4, 5, 6, 7, 0] rfl ?_
        obtain ⟨n0, hw⟩ := hw
        exact J441 _ hK80 _ ih n0 σ kk v5 v6 v9 (0 : Int32) (by omega) hw
  have J416 : ∀ (K80 : St → Nat → Int32 → Prop) (_ : ∀ (σ : St) (kk : Nat) (v5 : Int32), kk ≤ 600 → K80 σ kk v5 → GW κ (20 + kk) (245 + 3 * kk) (gW cy A σ) 80 [(0, .ref b), (1, .ref (A 0)), (2, .ref (A 18)), (3, .ref (A 19)), (5, .int v5)] []), ∀ (σ : St) (kk : Nat) (v5 : Int32) (v6 : Int32), kk ≤ 600 → wL_law_416 K80 L xs σ kk v5 v6 → GW κ (20 + kk) (245 + 3 * kk) (gW cy A σ) 416 [(0, .ref b), (1, .ref (A 0)), (2, .ref (A 18)), (3, .ref (A 19)), (5, .int v5), (6, .int v6)] [] := by
    intro K80 hK80 σ kk v5 v6 hk6 hw
    unfold wL_law_416 at hw
    refine g_aload_n C 1 rfl rfl dL_law_416 ?_
    refine g_aload_n C 2 rfl rfl dL_law_417 ?_
    refine gc_I (mc := 0) (ms := 0) C (gr_S (mc := 0) (ms := 0) (As := [.ref (A 0), .ref (A 18)]) (rest := []) C hK 2 (gd_S wt_441 wt_442 wt_0 wt_443) rfl rfl rfl hs_L_told ⟨⟨Nat.le_of_ble_eq_true rfl, Nat.le_of_ble_eq_true rfl⟩, (by show _ ≤ 888223; omega), (by show _ ≤ 6437580; omega)⟩ rfl rfl (Nat.le_of_ble_eq_true rfl) dL_law_418 (c_L_told (q_l κ) (q_D κ) cy A hQ18 hw)) (fun r48 σ47 hw => ?_)
    refine g_widen (k' := 20 + kk) (n' := 245 + 3 * kk) (by omega) (by omega) ?_
    refine g_if_ne C 426 (by decide) hw dL_law_421 (fun hw => ?_) (fun hw => ?_)
    · refine g_iconst (v := (0 : Int32)) C dL_law_426 (by decide) ?_
      refine g_istore C [(9, .int (0 : Int32)), (0, .ref b), (1, .ref (A 0)), (2, .ref (A 18)), (3, .ref (A 19)), (5, .int v5), (6, .int v6)] hN (by decide) rfl dL_law_427 ?_
      refine g_eql (lv' := [(0, .ref b), (1, .ref (A 0)), (2, .ref (A 18)), (3, .ref (A 19)), (5, .int v5), (6, .int v6), (9, .int (0 : Int32))]) [1, 2, 3, 4, 5, 6, 0] rfl ?_
      obtain ⟨n0, hw⟩ := hw
      exact J429 _ hK80 n0 σ47 kk v5 v6 (0 : Int32) (by omega) hw
    · refine g_iconst (v := (0 : Int32)) C dL_law_424 (by decide) ?_
      exact hret _ _ _ _ _ _ (by omega) (by omega) hw dL_law_425
  have J386 : ∀ (K80 : St → Nat → Int32 → Prop) (_ : ∀ (σ : St) (kk : Nat) (v5 : Int32), kk ≤ 600 → K80 σ kk v5 → GW κ (20 + kk) (245 + 3 * kk) (gW cy A σ) 80 [(0, .ref b), (1, .ref (A 0)), (2, .ref (A 18)), (3, .ref (A 19)), (5, .int v5)] []), ∀ (σ : St) (kk : Nat) (v5 : Int32) (v6 : Int32) (v7 : Int32), kk ≤ 600 → wL_law_386 K80 L xs σ kk v5 v6 v7 → GW κ (20 + kk) (245 + 3 * kk) (gW cy A σ) 386 [(0, .ref b), (1, .ref (A 0)), (2, .ref (A 18)), (3, .ref (A 19)), (5, .int v5), (6, .int v6), (7, .int v7)] [] := by
    intro K80 hK80 σ kk v5 v6 v7 hk6 hw
    unfold wL_law_386 at hw
    refine g_aload_n C 2 rfl rfl dL_law_386 ?_
    refine g_bipush (v := (6 : Int32)) C dL_law_387 (by decide) ?_
    refine g_iald C hK 18 2 (ga_18 cy A _) rfl hw.1 dL_law_389 ?_
    replace hw := hw.2
    refine g_iconst (v := (1 : Int32)) C dL_law_390 (by decide) ?_
    refine g_icmp_ne C 416 (by decide) hw dL_law_391 (fun hw => ?_) (fun hw => ?_)
    · refine g_eql (lv' := [(0, .ref b), (1, .ref (A 0)), (2, .ref (A 18)), (3, .ref (A 19)), (5, .int v5), (6, .int v6)]) [0, 1, 2, 3, 4, 5] rfl ?_
      exact J416 _ hK80 σ kk v5 v6 (by omega) hw
    · refine g_iload C 6 rfl dL_law_394 ?_
      refine g_bipush (v := (15 : Int32)) C dL_law_396 (by decide) ?_
      refine g_icmp_ne C 416 (by decide) hw dL_law_398 (fun hw => ?_) (fun hw => ?_)
      · refine g_eql (lv' := [(0, .ref b), (1, .ref (A 0)), (2, .ref (A 18)), (3, .ref (A 19)), (5, .int v5), (6, .int v6)]) [0, 1, 2, 3, 4, 5] rfl ?_
        exact J416 _ hK80 σ kk v5 v6 (by omega) hw
      · refine g_aload_n C 1 rfl rfl dL_law_401 ?_
        refine g_iload C 5 rfl dL_law_402 ?_
        refine g_bipush (v := (16 : Int32)) C dL_law_404 (by decide) ?_
        refine g_idiv C hw.1 dL_law_406 ?_
        replace hw := hw.2
        refine g_aload_n C 2 rfl rfl dL_law_407 ?_
        refine gc_I (mc := 0) (ms := 0) C (gr_S (mc := 0) (ms := 0) (As := [.ref (A 0), .int (v6 / (16 : Int32)), .ref (A 18)]) (rest := []) C hK 3 (gd_S wt_287 wt_288 wt_0 wt_289) rfl rfl rfl hs_L_wire ⟨⟨Nat.le_of_ble_eq_true rfl, Nat.le_of_ble_eq_true rfl⟩, (by show _ ≤ 888223; omega), (by show _ ≤ 6437580; omega)⟩ rfl rfl (Nat.le_of_ble_eq_true rfl) dL_law_408 (c_L_wire (q_l κ) (q_D κ) cy A hQ18 hw)) (fun r46 σ45 hw => ?_)
        refine g_widen (k' := 20 + kk) (n' := 245 + 3 * kk) (by omega) (by omega) ?_
        refine g_if_ne C 416 (by decide) hw dL_law_411 (fun hw => ?_) (fun hw => ?_)
        · refine g_eql (lv' := [(0, .ref b), (1, .ref (A 0)), (2, .ref (A 18)), (3, .ref (A 19)), (5, .int v5), (6, .int v6)]) [0, 1, 2, 3, 4, 5] rfl ?_
          exact J416 _ hK80 σ45 kk v5 v6 (by omega) hw
        · refine g_iconst (v := (0 : Int32)) C dL_law_414 (by decide) ?_
          exact hret _ _ _ _ _ _ (by omega) (by omega) hw dL_law_415
  have J355 : ∀ (K80 : St → Nat → Int32 → Prop) (_ : ∀ (σ : St) (kk : Nat) (v5 : Int32), kk ≤ 600 → K80 σ kk v5 → GW κ (20 + kk) (245 + 3 * kk) (gW cy A σ) 80 [(0, .ref b), (1, .ref (A 0)), (2, .ref (A 18)), (3, .ref (A 19)), (5, .int v5)] []), ∀ (σ : St) (kk : Nat) (v5 : Int32) (v6 : Int32) (v7 : Int32), kk ≤ 600 → wL_law_355 K80 L xs σ kk v5 v6 v7 → GW κ (20 + kk) (245 + 3 * kk) (gW cy A σ) 355 [(0, .ref b), (1, .ref (A 0)), (2, .ref (A 18)), (3, .ref (A 19)), (5, .int v5), (6, .int v6), (7, .int v7)] [] := by
    intro K80 hK80 σ kk v5 v6 v7 hk6 hw
    unfold wL_law_355 at hw
    refine g_iload C 6 rfl dL_law_355 ?_
    refine g_bipush (v := (14 : Int32)) C dL_law_357 (by decide) ?_
    refine g_icmp_ne C 386 (by decide) hw dL_law_359 (fun hw => ?_) (fun hw => ?_)
    · exact J386 _ hK80 σ kk v5 v6 v7 (by omega) hw
    · refine g_aload_n C 2 rfl rfl dL_law_362 ?_
      refine g_bipush (v := (7 : Int32)) C dL_law_363 (by decide) ?_
      refine g_iald C hK 18 2 (ga_18 cy A _) rfl hw.1 dL_law_365 ?_
      replace hw := hw.2
      refine g_bipush (v := (6 : Int32)) C dL_law_366 (by decide) ?_
      refine g_icmp_ge C 386 (by decide) hw dL_law_368 (fun hw => ?_) (fun hw => ?_)
      · exact J386 _ hK80 σ kk v5 v6 v7 (by omega) hw
      · refine g_aload_n C 1 rfl rfl dL_law_371 ?_
        refine g_iload C 5 rfl dL_law_372 ?_
        refine g_bipush (v := (16 : Int32)) C dL_law_374 (by decide) ?_
        refine g_idiv C hw.1 dL_law_376 ?_
        replace hw := hw.2
        refine g_aload_n C 2 rfl rfl dL_law_377 ?_
        obtain ⟨hk7, hw⟩ := hw
        refine g_widen (k' := 20 + kk) (n' := 245 + 3 * kk) (by omega) (by omega) ?_
        refine gc_I (mc := 1) (ms := 3) C (gr_S (mc := 1) (ms := 3) (As := [.ref (A 0), .int (v6 / (16 : Int32)), .ref (A 18)]) (rest := []) C hK 3 (gd_S wt_360 wt_361 wt_0 wt_362) rfl rfl rfl hs_L_thing ⟨⟨Nat.le_of_ble_eq_true rfl, Nat.le_of_ble_eq_true rfl⟩, (by show _ ≤ 888223; omega), (by show _ ≤ 6437580; omega)⟩ rfl rfl (Nat.le_of_ble_eq_true rfl) dL_law_378 (c_L_thing (q_l κ) (q_D κ) cy A hQ18 hw)) (fun r44 σ43 hw => ?_)
        refine g_widen (k' := 20 + (kk + 1)) (n' := 245 + 3 * (kk + 1)) (by omega) (by omega) ?_
        refine g_if_ne C 416 (by decide) hw dL_law_381 (fun hw => ?_) (fun hw => ?_)
        · refine g_eql (lv' := [(0, .ref b), (1, .ref (A 0)), (2, .ref (A 18)), (3, .ref (A 19)), (5, .int v5), (6, .int v6)]) [0, 1, 2, 3, 4, 5] rfl ?_
          exact J416 _ hK80 σ43 (kk + 1) v5 v6 (by omega) hw
        · refine g_iconst (v := (0 : Int32)) C dL_law_384 (by decide) ?_
          exact hret _ _ _ _ _ _ (by omega) (by omega) hw dL_law_385
  have J347 : ∀ (K80 : St → Nat → Int32 → Prop) (_ : ∀ (σ : St) (kk : Nat) (v5 : Int32), kk ≤ 600 → K80 σ kk v5 → GW κ (20 + kk) (245 + 3 * kk) (gW cy A σ) 80 [(0, .ref b), (1, .ref (A 0)), (2, .ref (A 18)), (3, .ref (A 19)), (5, .int v5)] []), ∀ (σ : St) (kk : Nat) (v5 : Int32) (v6 : Int32) (s0 : Int32) (s1 : Int32), kk ≤ 600 → wL_law_347 K80 L xs σ kk v5 v6 s0 s1 → GW κ (20 + kk) (245 + 3 * kk) (gW cy A σ) 347 [(0, .ref b), (1, .ref (A 0)), (2, .ref (A 18)), (3, .ref (A 19)), (5, .int v5), (6, .int v6)] [.int s0, .int s1] := by
    intro K80 hK80 σ kk v5 v6 s0 s1 hk6 hw
    unfold wL_law_347 at hw
    refine g_icmp_eq C 352 (by decide) hw dL_law_347 (fun hw => ?_) (fun hw => ?_)
    · refine g_goto C 416 (by decide) dL_law_352 ?_
      exact J416 _ hK80 σ kk v5 v6 (by omega) hw
    · refine g_iconst (v := (0 : Int32)) C dL_law_350 (by decide) ?_
      exact hret _ _ _ _ _ _ (by omega) (by omega) hw dL_law_351
  have J321 : ∀ (K80 : St → Nat → Int32 → Prop) (_ : ∀ (σ : St) (kk : Nat) (v5 : Int32), kk ≤ 600 → K80 σ kk v5 → GW κ (20 + kk) (245 + 3 * kk) (gW cy A σ) 80 [(0, .ref b), (1, .ref (A 0)), (2, .ref (A 18)), (3, .ref (A 19)), (5, .int v5)] []), ∀ (σ : St) (kk : Nat) (v5 : Int32) (v6 : Int32) (v8 : Int32) (v9 : Int32) (s0 : Int32) (s1 : Int32), kk ≤ 600 → wL_law_321 K80 L xs σ kk v5 v6 v8 v9 s0 s1 → GW κ (20 + kk) (245 + 3 * kk) (gW cy A σ) 321 [(0, .ref b), (1, .ref (A 0)), (2, .ref (A 18)), (3, .ref (A 19)), (5, .int v5), (6, .int v6), (8, .int v8), (9, .int v9)] [.int s0, .int s1, .ref (A 18)] := by
    intro K80 hK80 σ kk v5 v6 v8 v9 s0 s1 hk6 hw
    unfold wL_law_321 at hw
    refine g_iast C hK 18 2 (ga_18 cy A _) rfl hw.1 (gs_18 cy A _ _ _) dL_law_321 ?_
    replace hw := hw.2
    refine g_aload_n C 1 rfl rfl dL_law_322 ?_
    refine g_iload C 6 rfl dL_law_323 ?_
    refine gc_I (mc := 0) (ms := 0) C (gr_V (mc := 0) (ms := 0) (As := [.int v8]) (rest := []) C hK 1 (gd_V wt_200 wt_201 wt_202 wt_1 wt_203) rfl rfl rfl ⟨rfl, hs_X11_carry⟩ ⟨⟨Nat.le_of_ble_eq_true rfl, Nat.le_of_ble_eq_true rfl⟩, (by show _ ≤ 888223; omega), (by show _ ≤ 6437580; omega)⟩ rfl 0 (ga_0 cy A _) rfl rfl (Nat.le_of_ble_eq_true rfl) dL_law_325 (c_X11_carry (q_l κ) (q_D κ) cy A hw)) (fun r42 σ41 hw => ?_)
    refine g_widen (k' := 20 + kk) (n' := 245 + 3 * kk) (by omega) (by omega) ?_
    refine g_iload C 7 rfl dL_law_328 ?_
    refine g_if_eq C 345 (by decide) hw dL_law_330 (fun hw => ?_) (fun hw => ?_)
    · refine g_bipush (v := (-103 : Int32)) C dL_law_345 (by decide) ?_
      refine g_eql (lv' := [(0, .ref b), (1, .ref (A 0)), (2, .ref (A 18)), (3, .ref (A 19)), (5, .int v5), (6, .int v6)]) [0, 1, 2, 3, 4, 5] rfl ?_
      exact J347 _ hK80 σ41 kk v5 v6 (-103 : Int32) r42 (by omega) hw
    · refine g_aload_n C 2 rfl rfl dL_law_333 ?_
      refine g_bipush (v := (10 : Int32)) C dL_law_334 (by decide) ?_
      refine g_iconst (v := (4 : Int32)) C dL_law_336 (by decide) ?_
      refine g_iload C 6 rfl dL_law_337 ?_
      refine g_imul C dL_law_339 ?_
      refine g_iadd C dL_law_340 ?_
      refine g_iald C hK 18 2 (ga_18 cy A _) rfl hw.1 dL_law_341 ?_
      replace hw := hw.2
      refine g_goto C 347 (by decide) dL_law_342 ?_
      refine g_eql (lv' := [(0, .ref b), (1, .ref (A 0)), (2, .ref (A 18)), (3, .ref (A 19)), (5, .int v5), (6, .int v6)]) [0, 1, 2, 3, 4, 5] rfl ?_
      exact J347 _ hK80 σ41 kk v5 v6 (σ41.1 18 ((10 : Int32) + ((4 : Int32) * v8)).toNatClampNeg) r42 (by omega) hw
  have J283 : ∀ (K80 : St → Nat → Int32 → Prop) (_ : ∀ (σ : St) (kk : Nat) (v5 : Int32), kk ≤ 600 → K80 σ kk v5 → GW κ (20 + kk) (245 + 3 * kk) (gW cy A σ) 80 [(0, .ref b), (1, .ref (A 0)), (2, .ref (A 18)), (3, .ref (A 19)), (5, .int v5)] []), ∀ (σ : St) (kk : Nat) (v5 : Int32) (v6 : Int32) (v8 : Int32) (s0 : Int32), kk ≤ 600 → wL_law_283 K80 L xs σ kk v5 v6 v8 s0 → GW κ (20 + kk) (245 + 3 * kk) (gW cy A σ) 283 [(0, .ref b), (1, .ref (A 0)), (2, .ref (A 18)), (3, .ref (A 19)), (5, .int v5), (6, .int v6), (8, .int v8)] [.int s0] := by
    intro K80 hK80 σ kk v5 v6 v8 s0 hk6 hw
    unfold wL_law_283 at hw
    refine g_istore C [(9, .int s0), (0, .ref b), (1, .ref (A 0)), (2, .ref (A 18)), (3, .ref (A 19)), (5, .int v5), (6, .int v6), (8, .int v8)] hN (by decide) rfl dL_law_283 ?_
    refine g_aload_n C 3 rfl rfl dL_law_285 ?_
    refine g_bipush (v := (10 : Int32)) C dL_law_286 (by decide) ?_
    refine g_iconst (v := (4 : Int32)) C dL_law_288 (by decide) ?_
    refine g_iload C 7 rfl dL_law_289 ?_
    refine g_imul C dL_law_291 ?_
    refine g_iadd C dL_law_292 ?_
    refine g_iload C 0 rfl dL_law_293 ?_
    refine g_if_eq C 312 (by decide) hw dL_law_295 (fun hw => ?_) (fun hw => ?_)
    · refine g_aload_n C 3 rfl rfl dL_law_312 ?_
      refine g_bipush (v := (10 : Int32)) C dL_law_313 (by decide) ?_
      refine g_iconst (v := (4 : Int32)) C dL_law_315 (by decide) ?_
      refine g_iload C 7 rfl dL_law_316 ?_
      refine g_imul C dL_law_318 ?_
      refine g_iadd C dL_law_319 ?_
      refine g_iald C hK 18 2 (ga_18 cy A _) rfl hw.1 dL_law_320 ?_
      replace hw := hw.2
      refine g_eql (lv' := [(0, .ref b), (1, .ref (A 0)), (2, .ref (A 18)), (3, .ref (A 19)), (5, .int v5), (6, .int v6), (8, .int v8), (9, .int s0)]) [1, 2, 3, 4, 5, 6, 7, 0] rfl ?_
      exact J321 _ hK80 σ kk v5 v6 v8 s0 (σ.1 18 ((10 : Int32) + ((4 : Int32) * v8)).toNatClampNeg) ((10 : Int32) + ((4 : Int32) * v8)) (by omega) hw
    · refine g_iconst (v := (1 : Int32)) C dL_law_298 (by decide) ?_
      refine g_aload_n C 3 rfl rfl dL_law_299 ?_
      refine g_bipush (v := (10 : Int32)) C dL_law_300 (by decide) ?_
      refine g_iconst (v := (4 : Int32)) C dL_law_302 (by decide) ?_
      refine g_iload C 7 rfl dL_law_303 ?_
      refine g_imul C dL_law_305 ?_
      refine g_iadd C dL_law_306 ?_
      refine g_iald C hK 18 2 (ga_18 cy A _) rfl hw.1 dL_law_307 ?_
      replace hw := hw.2
      refine g_isub C dL_law_308 ?_
      refine g_goto C 321 (by decide) dL_law_309 ?_
      refine g_eql (lv' := [(0, .ref b), (1, .ref (A 0)), (2, .ref (A 18)), (3, .ref (A 19)), (5, .int v5), (6, .int v6), (8, .int v8), (9, .int s0)]) [1, 2, 3, 4, 5, 6, 7, 0] rfl ?_
      exact J321 _ hK80 σ kk v5 v6 v8 s0 ((1 : Int32) - (σ.1 18 ((10 : Int32) + ((4 : Int32) * v8)).toNatClampNeg)) ((10 : Int32) + ((4 : Int32) * v8)) (by omega) hw
  have J282 : ∀ (K80 : St → Nat → Int32 → Prop) (_ : ∀ (σ : St) (kk : Nat) (v5 : Int32), kk ≤ 600 → K80 σ kk v5 → GW κ (20 + kk) (245 + 3 * kk) (gW cy A σ) 80 [(0, .ref b), (1, .ref (A 0)), (2, .ref (A 18)), (3, .ref (A 19)), (5, .int v5)] []), ∀ (σ : St) (kk : Nat) (v5 : Int32) (v6 : Int32) (v8 : Int32), kk ≤ 600 → wL_law_282 K80 L xs σ kk v5 v6 v8 → GW κ (20 + kk) (245 + 3 * kk) (gW cy A σ) 282 [(0, .ref b), (1, .ref (A 0)), (2, .ref (A 18)), (3, .ref (A 19)), (5, .int v5), (6, .int v6), (8, .int v8)] [] := by
    intro K80 hK80 σ kk v5 v6 v8 hk6 hw
    unfold wL_law_282 at hw
    refine g_iconst (v := (0 : Int32)) C dL_law_282 (by decide) ?_
    exact J283 _ hK80 σ kk v5 v6 v8 (0 : Int32) (by omega) hw
  have J278 : ∀ (K80 : St → Nat → Int32 → Prop) (_ : ∀ (σ : St) (kk : Nat) (v5 : Int32), kk ≤ 600 → K80 σ kk v5 → GW κ (20 + kk) (245 + 3 * kk) (gW cy A σ) 80 [(0, .ref b), (1, .ref (A 0)), (2, .ref (A 18)), (3, .ref (A 19)), (5, .int v5)] []), ∀ (σ : St) (kk : Nat) (v5 : Int32) (v6 : Int32) (v8 : Int32), kk ≤ 600 → wL_law_278 K80 L xs σ kk v5 v6 v8 → GW κ (20 + kk) (245 + 3 * kk) (gW cy A σ) 278 [(0, .ref b), (1, .ref (A 0)), (2, .ref (A 18)), (3, .ref (A 19)), (5, .int v5), (6, .int v6), (8, .int v8)] [] := by
    intro K80 hK80 σ kk v5 v6 v8 hk6 hw
    unfold wL_law_278 at hw
    refine g_iconst (v := (1 : Int32)) C dL_law_278 (by decide) ?_
    refine g_goto C 283 (by decide) dL_law_279 ?_
    exact J283 _ hK80 σ kk v5 v6 v8 (1 : Int32) (by omega) hw
  have J225 : ∀ (K80 : St → Nat → Int32 → Prop) (_ : ∀ (σ : St) (kk : Nat) (v5 : Int32), kk ≤ 600 → K80 σ kk v5 → GW κ (20 + kk) (245 + 3 * kk) (gW cy A σ) 80 [(0, .ref b), (1, .ref (A 0)), (2, .ref (A 18)), (3, .ref (A 19)), (5, .int v5)] []), ∀ (σ : St) (kk : Nat) (v5 : Int32) (v6 : Int32) (s0 : Int32) (s1 : Int32), kk ≤ 600 → wL_law_225 K80 L xs σ kk v5 v6 s0 s1 → GW κ (20 + kk) (245 + 3 * kk) (gW cy A σ) 225 [(0, .ref b), (1, .ref (A 0)), (2, .ref (A 18)), (3, .ref (A 19)), (5, .int v5), (6, .int v6)] [.int s0, .int s1] := by
    intro K80 hK80 σ kk v5 v6 s0 s1 hk6 hw
    unfold wL_law_225 at hw
    refine g_icmp_eq C 230 (by decide) hw dL_law_225 (fun hw => ?_) (fun hw => ?_)
    · refine g_goto C 416 (by decide) dL_law_230 ?_
      exact J416 _ hK80 σ kk v5 v6 (by omega) hw
    · refine g_iconst (v := (0 : Int32)) C dL_law_228 (by decide) ?_
      exact hret _ _ _ _ _ _ (by omega) (by omega) hw dL_law_229
  have J201 : ∀ (K80 : St → Nat → Int32 → Prop) (_ : ∀ (σ : St) (kk : Nat) (v5 : Int32), kk ≤ 600 → K80 σ kk v5 → GW κ (20 + kk) (245 + 3 * kk) (gW cy A σ) 80 [(0, .ref b), (1, .ref (A 0)), (2, .ref (A 18)), (3, .ref (A 19)), (5, .int v5)] []), ∀ (σ : St) (kk : Nat) (v5 : Int32) (v6 : Int32) (v9 : Int32) (s0 : Int32), kk ≤ 600 → wL_law_201 K80 L xs σ kk v5 v6 v9 s0 → GW κ (20 + kk) (245 + 3 * kk) (gW cy A σ) 201 [(0, .ref b), (1, .ref (A 0)), (2, .ref (A 18)), (3, .ref (A 19)), (5, .int v5), (6, .int v6), (9, .int v9)] [.int s0] := by
    intro K80 hK80 σ kk v5 v6 v9 s0 hk6 hw
    unfold wL_law_201 at hw
    refine g_istore C [(10, .int s0), (0, .ref b), (1, .ref (A 0)), (2, .ref (A 18)), (3, .ref (A 19)), (5, .int v5), (6, .int v6), (9, .int v9)] hN (by decide) rfl dL_law_201 ?_
    refine g_aload_n C 2 rfl rfl dL_law_203 ?_
    refine g_iload C 7 rfl dL_law_204 ?_
    refine gc_I (mc := 0) (ms := 0) C (gr_V (mc := 0) (ms := 0) (As := [.int v9]) (rest := []) C hK 1 (gd_V wt_223 wt_224 wt_225 wt_1 wt_226) rfl rfl rfl ⟨rfl, hs_X11_hour⟩ ⟨⟨Nat.le_of_ble_eq_true rfl, Nat.le_of_ble_eq_true rfl⟩, (by show _ ≤ 888223; omega), (by show _ ≤ 6437580; omega)⟩ rfl 0 (ga_0 cy A _) rfl rfl (Nat.le_of_ble_eq_true rfl) dL_law_206 (c_X11_hour (q_l κ) (q_D κ) cy A hw)) (fun r38 σ37 hw => ?_)
    refine g_widen (k' := 20 + kk) (n' := 245 + 3 * kk) (by omega) (by omega) ?_
    refine g_iload C 0 rfl dL_law_209 ?_
    refine g_if_eq C 223 (by decide) hw dL_law_211 (fun hw => ?_) (fun hw => ?_)
    · refine g_bipush (v := (-103 : Int32)) C dL_law_223 (by decide) ?_
      refine g_eql (lv' := [(0, .ref b), (1, .ref (A 0)), (2, .ref (A 18)), (3, .ref (A 19)), (5, .int v5), (6, .int v6)]) [1, 2, 3, 4, 5, 6] rfl ?_
      exact J225 _ hK80 σ37 kk v5 v6 (-103 : Int32) r38 (by omega) hw
    · refine g_aload_n C 3 rfl rfl dL_law_214 ?_
      refine g_iload C 7 rfl dL_law_215 ?_
      refine gc_I (mc := 0) (ms := 0) C (gr_S (mc := 0) (ms := 0) (As := [.ref (A 18), .int v9]) (rest := [.int r38]) C hK 2 (gd_S wt_423 wt_424 wt_0 wt_425) rfl rfl rfl hs_L_hour ⟨⟨Nat.le_of_ble_eq_true rfl, Nat.le_of_ble_eq_true rfl⟩, (by show _ ≤ 888223; omega), (by show _ ≤ 6437580; omega)⟩ rfl rfl (Nat.le_of_ble_eq_true rfl) dL_law_217 (c_L_hour (q_l κ) (q_D κ) cy A hQ18 hw)) (fun r40 σ39 hw => ?_)
      refine g_widen (k' := 20 + kk) (n' := 245 + 3 * kk) (by omega) (by omega) ?_
      refine g_goto C 225 (by decide) dL_law_220 ?_
      refine g_eql (lv' := [(0, .ref b), (1, .ref (A 0)), (2, .ref (A 18)), (3, .ref (A 19)), (5, .int v5), (6, .int v6)]) [1, 2, 3, 4, 5, 6] rfl ?_
      exact J225 _ hK80 σ39 kk v5 v6 r40 r38 (by omega) hw
  have J200 : ∀ (K80 : St → Nat → Int32 → Prop) (_ : ∀ (σ : St) (kk : Nat) (v5 : Int32), kk ≤ 600 → K80 σ kk v5 → GW κ (20 + kk) (245 + 3 * kk) (gW cy A σ) 80 [(0, .ref b), (1, .ref (A 0)), (2, .ref (A 18)), (3, .ref (A 19)), (5, .int v5)] []), ∀ (σ : St) (kk : Nat) (v5 : Int32) (v6 : Int32) (v9 : Int32), kk ≤ 600 → wL_law_200 K80 L xs σ kk v5 v6 v9 → GW κ (20 + kk) (245 + 3 * kk) (gW cy A σ) 200 [(0, .ref b), (1, .ref (A 0)), (2, .ref (A 18)), (3, .ref (A 19)), (5, .int v5), (6, .int v6), (9, .int v9)] [] := by
    intro K80 hK80 σ kk v5 v6 v9 hk6 hw
    unfold wL_law_200 at hw
    refine g_iconst (v := (0 : Int32)) C dL_law_200 (by decide) ?_
    exact J201 _ hK80 σ kk v5 v6 v9 (0 : Int32) (by omega) hw
  have J165 : ∀ (K80 : St → Nat → Int32 → Prop) (_ : ∀ (σ : St) (kk : Nat) (v5 : Int32), kk ≤ 600 → K80 σ kk v5 → GW κ (20 + kk) (245 + 3 * kk) (gW cy A σ) 80 [(0, .ref b), (1, .ref (A 0)), (2, .ref (A 18)), (3, .ref (A 19)), (5, .int v5)] []), ∀ (σ : St) (kk : Nat) (v5 : Int32) (v6 : Int32) (s0 : Int32), kk ≤ 600 → wL_law_165 K80 L xs σ kk v5 v6 s0 → GW κ (20 + kk) (245 + 3 * kk) (gW cy A σ) 165 [(0, .ref b), (1, .ref (A 0)), (2, .ref (A 18)), (3, .ref (A 19)), (5, .int v5), (6, .int v6)] [.int s0] := by
    intro K80 hK80 σ kk v5 v6 s0 hk6 hw
    unfold wL_law_165 at hw
    refine g_istore C [(9, .int s0), (0, .ref b), (1, .ref (A 0)), (2, .ref (A 18)), (3, .ref (A 19)), (5, .int v5), (6, .int v6)] hN (by decide) rfl dL_law_165 ?_
    refine g_aload_n C 3 rfl rfl dL_law_167 ?_
    refine g_bipush (v := (6 : Int32)) C dL_law_168 (by decide) ?_
    refine g_iald C hK 18 2 (ga_18 cy A _) rfl hw.1 dL_law_170 ?_
    replace hw := hw.2
    refine g_if_ne C 200 (by decide) hw dL_law_171 (fun hw => ?_) (fun hw => ?_)
    · refine g_eql (lv' := [(0, .ref b), (1, .ref (A 0)), (2, .ref (A 18)), (3, .ref (A 19)), (5, .int v5), (6, .int v6), (9, .int s0)]) [1, 2, 3, 4, 5, 6, 0] rfl ?_
      exact J200 _ hK80 σ kk v5 v6 s0 (by omega) hw
    · refine g_aload_n C 3 rfl rfl dL_law_174 ?_
      refine g_iconst (v := (0 : Int32)) C dL_law_175 (by decide) ?_
      refine g_iald C hK 18 2 (ga_18 cy A _) rfl hw.1 dL_law_176 ?_
      replace hw := hw.2
      refine g_iload C 0 rfl dL_law_177 ?_
      refine g_isub C dL_law_179 ?_
      refine g_bipush (v := (9 : Int32)) C dL_law_180 (by decide) ?_
      refine g_icmp_le C 200 (by decide) hw dL_law_182 (fun hw => ?_) (fun hw => ?_)
      · refine g_eql (lv' := [(0, .ref b), (1, .ref (A 0)), (2, .ref (A 18)), (3, .ref (A 19)), (5, .int v5), (6, .int v6), (9, .int s0)]) [1, 2, 3, 4, 5, 6, 0] rfl ?_
        exact J200 _ hK80 σ kk v5 v6 s0 (by omega) hw
      · refine g_aload_n C 3 rfl rfl dL_law_185 ?_
        refine g_iconst (v := (0 : Int32)) C dL_law_186 (by decide) ?_
        refine g_iald C hK 18 2 (ga_18 cy A _) rfl hw.1 dL_law_187 ?_
        replace hw := hw.2
        refine g_iload C 0 rfl dL_law_188 ?_
        refine g_isub C dL_law_190 ?_
        refine g_bipush (v := (41 : Int32)) C dL_law_191 (by decide) ?_
        refine g_icmp_ge C 200 (by decide) hw dL_law_193 (fun hw => ?_) (fun hw => ?_)
        · refine g_eql (lv' := [(0, .ref b), (1, .ref (A 0)), (2, .ref (A 18)), (3, .ref (A 19)), (5, .int v5), (6, .int v6), (9, .int s0)]) [1, 2, 3, 4, 5, 6, 0] rfl ?_
          exact J200 _ hK80 σ kk v5 v6 s0 (by omega) hw
        · refine g_iconst (v := (1 : Int32)) C dL_law_196 (by decide) ?_
          refine g_goto C 201 (by decide) dL_law_197 ?_
          refine g_eql (lv' := [(0, .ref b), (1, .ref (A 0)), (2, .ref (A 18)), (3, .ref (A 19)), (5, .int v5), (6, .int v6), (9, .int s0)]) [1, 2, 3, 4, 5, 6, 0] rfl ?_
          exact J201 _ hK80 σ kk v5 v6 s0 (1 : Int32) (by omega) hw
  have J126 : ∀ (K80 : St → Nat → Int32 → Prop) (_ : ∀ (σ : St) (kk : Nat) (v5 : Int32), kk ≤ 600 → K80 σ kk v5 → GW κ (20 + kk) (245 + 3 * kk) (gW cy A σ) 80 [(0, .ref b), (1, .ref (A 0)), (2, .ref (A 18)), (3, .ref (A 19)), (5, .int v5)] []), ∀ (σ : St) (kk : Nat) (v5 : Int32) (v6 : Int32) (v7 : Int32) (s0 : Int32), kk ≤ 600 → wL_law_126 K80 L xs σ kk v5 v6 v7 s0 → GW κ (20 + kk) (245 + 3 * kk) (gW cy A σ) 126 [(0, .ref b), (1, .ref (A 0)), (2, .ref (A 18)), (3, .ref (A 19)), (5, .int v5), (6, .int v6), (7, .int v7)] [.int s0] := by
    intro K80 hK80 σ kk v5 v6 v7 s0 hk6 hw
    unfold wL_law_126 at hw
    refine g_istore C [(8, .int s0), (0, .ref b), (1, .ref (A 0)), (2, .ref (A 18)), (3, .ref (A 19)), (5, .int v5), (6, .int v6), (7, .int v7)] hN (by decide) rfl dL_law_126 ?_
    refine g_iload C 7 rfl dL_law_128 ?_
    refine g_bipush (v := (9 : Int32)) C dL_law_130 (by decide) ?_
    refine g_icmp_ge C 233 (by decide) hw dL_law_132 (fun hw => ?_) (fun hw => ?_)
    · refine g_iload C 7 rfl dL_law_233 ?_
      refine g_bipush (v := (14 : Int32)) C dL_law_235 (by decide) ?_
      refine g_icmp_ge C 355 (by decide) hw dL_law_237 (fun hw => ?_) (fun hw => ?_)
      · refine g_eql (lv' := [(0, .ref b), (1, .ref (A 0)), (2, .ref (A 18)), (3, .ref (A 19)), (5, .int v5), (6, .int v6), (7, .int v7)]) [1, 2, 3, 4, 5, 6, 7] rfl ?_
        exact J355 _ hK80 σ kk v5 v6 v7 (by omega) hw
      · refine g_aload_n C 3 rfl rfl dL_law_240 ?_
        refine g_bipush (v := (7 : Int32)) C dL_law_241 (by decide) ?_
        refine g_iald C hK 18 2 (ga_18 cy A _) rfl hw.1 dL_law_243 ?_
        replace hw := hw.2
        refine g_if_le C 355 (by decide) hw dL_law_244 (fun hw => ?_) (fun hw => ?_)
        · refine g_eql (lv' := [(0, .ref b), (1, .ref (A 0)), (2, .ref (A 18)), (3, .ref (A 19)), (5, .int v5), (6, .int v6), (7, .int v7)]) [1, 2, 3, 4, 5, 6, 7] rfl ?_
          exact J355 _ hK80 σ kk v5 v6 v7 (by omega) hw
        · refine g_aload_n C 3 rfl rfl dL_law_247 ?_
          refine g_bipush (v := (6 : Int32)) C dL_law_248 (by decide) ?_
          refine g_iald C hK 18 2 (ga_18 cy A _) rfl hw.1 dL_law_250 ?_
          replace hw := hw.2
          refine g_if_ne C 282 (by decide) hw dL_law_251 (fun hw => ?_) (fun hw => ?_)
          · refine g_eql (lv' := [(0, .ref b), (1, .ref (A 0)), (2, .ref (A 18)), (3, .ref (A 19)), (5, .int v5), (6, .int v6), (8, .int s0)]) [1, 2, 3, 4, 5, 6, 0] rfl ?_
            exact J282 _ hK80 σ kk v5 v6 s0 (by omega) hw
          · refine g_aload_n C 3 rfl rfl dL_law_254 ?_
            refine g_bipush (v := (8 : Int32)) C dL_law_255 (by decide) ?_
            refine g_iconst (v := (4 : Int32)) C dL_law_257 (by decide) ?_
            refine g_iload C 0 rfl dL_law_258 ?_
            refine g_imul C dL_law_260 ?_
            refine g_iadd C dL_law_261 ?_
            refine g_iald C hK 18 2 (ga_18 cy A _) rfl hw.1 dL_law_262 ?_
            replace hw := hw.2
            refine g_iconst (v := (2 : Int32)) C dL_law_263 (by decide) ?_
            refine g_icmp_ne C 278 (by decide) hw dL_law_264 (fun hw => ?_) (fun hw => ?_)
            · refine g_eql (lv' := [(0, .ref b), (1, .ref (A 0)), (2, .ref (A 18)), (3, .ref (A 19)), (5, .int v5), (6, .int v6), (8, .int s0)]) [1, 2, 3, 4, 5, 6, 0] rfl ?_
              exact J278 _ hK80 σ kk v5 v6 s0 (by omega) hw
            · refine g_aload_n C 3 rfl rfl dL_law_267 ?_
              refine g_aload_n C 3 rfl rfl dL_law_268 ?_
              refine g_iconst (v := (0 : Int32)) C dL_law_269 (by decide) ?_
              refine g_iald C hK 18 2 (ga_18 cy A _) rfl hw.1 dL_law_270 ?_
              replace hw := hw.2
              refine gc_I (mc := 0) (ms := 0) C (gr_S (mc := 0) (ms := 0) (As := [.ref (A 18), .int (σ.1 18 (0 : Int32).toNatClampNeg)]) (rest := []) C hK 2 (gd_S wt_420 wt_421 wt_0 wt_422) rfl rfl rfl hs_L_turns ⟨⟨Nat.le_of_ble_eq_true rfl, Nat.le_of_ble_eq_true rfl⟩, (by show _ ≤ 888223; omega), (by show _ ≤ 6437580; omega)⟩ rfl rfl (Nat.le_of_ble_eq_true rfl) dL_law_271 (c_L_turns (q_l κ) (q_D κ) cy A hQ18 hw)) (fun r36 σ35 hw => ?_)
              refine g_widen (k' := 20 + kk) (n' := 245 + 3 * kk) (by omega) (by omega) ?_
              refine g_iconst (v := (3 : Int32)) C dL_law_274 (by decide) ?_
              refine g_icmp_ge C 282 (by decide) hw dL_law_275 (fun hw => ?_) (fun hw => ?_)
              · refine g_eql (lv' := [(0, .ref b), (1, .ref (A 0)), (2, .ref (A 18)), (3, .ref (A 19)), (5, .int v5), (6, .int v6), (8, .int s0)]) [1, 2, 3, 4, 5, 6, 0] rfl ?_
                exact J282 _ hK80 σ35 kk v5 v6 s0 (by omega) hw
              · refine g_eql (lv' := [(0, .ref b), (1, .ref (A 0)), (2, .ref (A 18)), (3, .ref (A 19)), (5, .int v5), (6, .int v6), (8, .int s0)]) [1, 2, 3, 4, 5, 6, 0] rfl ?_
                exact J278 _ hK80 σ35 kk v5 v6 s0 (by omega) hw
    · refine g_iload C 6 rfl dL_law_135 ?_
      refine g_sipush (v := (128 : Int32)) C dL_law_137 (by decide) ?_
      refine g_idiv C hw.1 dL_law_140 ?_
      replace hw := hw.2
      refine g_bipush (v := (7 : Int32)) C dL_law_141 (by decide) ?_
      refine g_irem C hw.1 dL_law_143 ?_
      replace hw := hw.2
      refine g_iconst (v := (3 : Int32)) C dL_law_144 (by decide) ?_
      refine g_isub C dL_law_145 ?_
      refine g_istore C [(9, .int (((v6 / (128 : Int32)) - (v6 / (128 : Int32)) / (7 : Int32) * (7 : Int32)) - (3 : Int32))), (8, .int s0), (0, .ref b), (1, .ref (A 0)), (2, .ref (A 18)), (3, .ref (A 19)), (5, .int v5), (6, .int v6), (7, .int v7)] hN (by decide) rfl dL_law_146 ?_
      refine g_iload C 7 rfl dL_law_148 ?_
      refine g_sipush (v := (1024 : Int32)) C dL_law_150 (by decide) ?_
      refine g_idiv C hw.1 dL_law_153 ?_
      replace hw := hw.2
      refine g_iconst (v := (3 : Int32)) C dL_law_154 (by decide) ?_
      refine g_irem C hw.1 dL_law_155 ?_
      replace hw := hw.2
      refine g_if_ne C 163 (by decide) hw dL_law_156 (fun hw => ?_) (fun hw => ?_)
      · refine g_iload C 0 rfl dL_law_163 ?_
        refine g_eql (lv' := [(0, .ref b), (1, .ref (A 0)), (2, .ref (A 18)), (3, .ref (A 19)), (5, .int v5), (6, .int v6)]) [2, 3, 4, 5, 6, 7] rfl ?_
        exact J165 _ hK80 σ kk v5 v6 (((v6 / (128 : Int32)) - (v6 / (128 : Int32)) / (7 : Int32) * (7 : Int32)) - (3 : Int32)) (by omega) hw
      · refine g_iconst (v := (0 : Int32)) C dL_law_159 (by decide) ?_
        refine g_goto C 165 (by decide) dL_law_160 ?_
        refine g_eql (lv' := [(0, .ref b), (1, .ref (A 0)), (2, .ref (A 18)), (3, .ref (A 19)), (5, .int v5), (6, .int v6)]) [2, 3, 4, 5, 6, 7] rfl ?_
        exact J165 _ hK80 σ kk v5 v6 (0 : Int32) (by omega) hw
  have J80 : ∀ (n : Nat) (σ : St) (kk : Nat) (v5 : Int32), kk ≤ 600 → wL_law_80 L xs n σ kk v5 → GW κ (20 + kk) (245 + 3 * kk) (gW cy A σ) 80 [(0, .ref b), (1, .ref (A 0)), (2, .ref (A 18)), (3, .ref (A 19)), (5, .int v5)] [] := by
    intro n
    induction n with
    | zero => intro σ kk v5 hk6 hw; exact hw.elim
    | succ n ih =>
      intro σ kk v5 hk6 hw
      rw [wL_law_80] at hw
      refine g_iload C 4 rfl dL_law_80 ?_
      refine g_bipush (v := (44 : Int32)) C dL_law_82 (by decide) ?_
      refine g_icmp_ge C 959 (by decide) hw dL_law_84 (fun hw => ?_) (fun hw => ?_)
      · refine g_aload_n C 1 rfl rfl dL_law_959 ?_
        refine g_iconst (v := (2 : Int32)) C dL_law_960 (by decide) ?_
        refine g_iconst (v := (0 : Int32)) C dL_law_961 (by decide) ?_
        refine gc_I (mc := 0) (ms := 0) C (gr_V (mc := 0) (ms := 0) (As := [.int (2 : Int32), .int (0 : Int32)]) (rest := []) C hK 2 (gd_V wt_95 wt_96 wt_97 wt_1 wt_98) rfl rfl rfl ⟨rfl, hs_X11_cabin⟩ ⟨⟨Nat.le_of_ble_eq_true rfl, Nat.le_of_ble_eq_true rfl⟩, (by show _ ≤ 888223; omega), (by show _ ≤ 6437580; omega)⟩ rfl 0 (ga_0 cy A _) rfl rfl (Nat.le_of_ble_eq_true rfl) dL_law_962 (c_X11_cabin (q_l κ) (q_D κ) cy A hw)) (fun r6 σ5 hw => ?_)
        refine g_widen (k' := 20 + kk) (n' := 245 + 3 * kk) (by omega) (by omega) ?_
        refine g_bipush (v := (-101 : Int32)) C dL_law_965 (by decide) ?_
        refine g_icmp_ne C 1144 (by decide) hw dL_law_967 (fun hw => ?_) (fun hw => ?_)
        · refine g_iconst (v := (0 : Int32)) C dL_law_1144 (by decide) ?_
          exact hret _ _ _ _ _ _ (by omega) (by omega) hw dL_law_1145
        · refine g_aload_n C 1 rfl rfl dL_law_970 ?_
          refine g_iconst (v := (0 : Int32)) C dL_law_971 (by decide) ?_
          refine g_iconst (v := (4 : Int32)) C dL_law_972 (by decide) ?_
          refine gc_I (mc := 0) (ms := 0) C (gr_V (mc := 0) (ms := 0) (As := [.int (0 : Int32), .int (4 : Int32)]) (rest := []) C hK 2 (gd_V wt_95 wt_96 wt_97 wt_1 wt_98) rfl rfl rfl ⟨rfl, hs_X11_cabin⟩ ⟨⟨Nat.le_of_ble_eq_true rfl, Nat.le_of_ble_eq_true rfl⟩, (by show _ ≤ 888223; omega), (by show _ ≤ 6437580; omega)⟩ rfl 0 (ga_0 cy A _) rfl rfl (Nat.le_of_ble_eq_true rfl) dL_law_973 (c_X11_cabin (q_l κ) (q_D κ) cy A hw)) (fun r8 σ7 hw => ?_)
          refine g_widen (k' := 20 + kk) (n' := 245 + 3 * kk) (by omega) (by omega) ?_
          refine g_bipush (v := (-102 : Int32)) C dL_law_976 (by decide) ?_
          refine g_icmp_ne C 1144 (by decide) hw dL_law_978 (fun hw => ?_) (fun hw => ?_)
          · refine g_iconst (v := (0 : Int32)) C dL_law_1144 (by decide) ?_
            exact hret _ _ _ _ _ _ (by omega) (by omega) hw dL_law_1145
          · refine g_aload_n C 1 rfl rfl dL_law_981 ?_
            refine g_aload_n C 2 rfl rfl dL_law_982 ?_
            refine g_bipush (v := (7 : Int32)) C dL_law_983 (by decide) ?_
            refine g_iald C hK 18 2 (ga_18 cy A _) rfl hw.1 dL_law_985 ?_
            replace hw := hw.2
            refine g_iconst (v := (0 : Int32)) C dL_law_986 (by decide) ?_
            refine gc_I (mc := 0) (ms := 0) C (gr_V (mc := 0) (ms := 0) (As := [.int (σ7.1 18 (7 : Int32).toNatClampNeg), .int (0 : Int32)]) (rest := []) C hK 2 (gd_V wt_154 wt_155 wt_156 wt_1 wt_157) rfl rfl rfl ⟨rfl, hs_X11_about⟩ ⟨⟨Nat.le_of_ble_eq_true rfl, Nat.le_of_ble_eq_true rfl⟩, (by show _ ≤ 888223; omega), (by show _ ≤ 6437580; omega)⟩ rfl 0 (ga_0 cy A _) rfl rfl (Nat.le_of_ble_eq_true rfl) dL_law_987 (c_X11_about (q_l κ) (q_D κ) cy A hw)) (fun r10 σ9 hw => ?_)
            refine g_widen (k' := 20 + kk) (n' := 245 + 3 * kk) (by omega) (by omega) ?_
            refine g_bipush (v := (-101 : Int32)) C dL_law_990 (by decide) ?_
            refine g_icmp_ne C 1144 (by decide) hw dL_law_992 (fun hw => ?_) (fun hw => ?_)
            · refine g_iconst (v := (0 : Int32)) C dL_law_1144 (by decide) ?_
              exact hret _ _ _ _ _ _ (by omega) (by omega) hw dL_law_1145
            · refine g_aload_n C 1 rfl rfl dL_law_995 ?_
              refine g_aload_n C 2 rfl rfl dL_law_996 ?_
              refine g_bipush (v := (7 : Int32)) C dL_law_997 (by decide) ?_
              refine g_iald C hK 18 2 (ga_18 cy A _) rfl hw.1 dL_law_999 ?_
              replace hw := hw.2
              refine g_iconst (v := (0 : Int32)) C dL_law_1000 (by decide) ?_
              refine gc_I (mc := 0) (ms := 0) C (gr_V (mc := 0) (ms := 0) (As := [.int (σ9.1 18 (7 : Int32).toNatClampNeg), .int (0 : Int32)]) (rest := []) C hK 2 (gd_V wt_186 wt_187 wt_188 wt_1 wt_189) rfl rfl rfl ⟨rfl, hs_X11_as⟩ ⟨⟨Nat.le_of_ble_eq_true rfl, Nat.le_of_ble_eq_true rfl⟩, (by show _ ≤ 888223; omega), (by show _ ≤ 6437580; omega)⟩ rfl 0 (ga_0 cy A _) rfl rfl (Nat.le_of_ble_eq_true rfl) dL_law_1001 (c_X11_as (q_l κ) (q_D κ) cy A hw)) (fun r12 σ11 hw => ?_)
              refine g_widen (k' := 20 + kk) (n' := 245 + 3 * kk) (by omega) (by omega) ?_
              refine g_bipush (v := (-101 : Int32)) C dL_law_1004 (by decide) ?_
              refine g_icmp_ne C 1144 (by decide) hw dL_law_1006 (fun hw => ?_) (fun hw => ?_)
              · refine g_iconst (v := (0 : Int32)) C dL_law_1144 (by decide) ?_
                exact hret _ _ _ _ _ _ (by omega) (by omega) hw dL_law_1145
              · refine g_aload_n C 1 rfl rfl dL_law_1009 ?_
                refine g_bipush (v := (6 : Int32)) C dL_law_1010 (by decide) ?_
                refine gc_I (mc := 0) (ms := 0) C (gr_V (mc := 0) (ms := 0) (As := [.int (6 : Int32)]) (rest := []) C hK 1 (gd_V wt_200 wt_201 wt_202 wt_1 wt_203) rfl rfl rfl ⟨rfl, hs_X11_carry⟩ ⟨⟨Nat.le_of_ble_eq_true rfl, Nat.le_of_ble_eq_true rfl⟩, (by show _ ≤ 888223; omega), (by show _ ≤ 6437580; omega)⟩ rfl 0 (ga_0 cy A _) rfl rfl (Nat.le_of_ble_eq_true rfl) dL_law_1012 (c_X11_carry (q_l κ) (q_D κ) cy A hw)) (fun r14 σ13 hw => ?_)
                refine g_widen (k' := 20 + kk) (n' := 245 + 3 * kk) (by omega) (by omega) ?_
                refine g_bipush (v := (-101 : Int32)) C dL_law_1015 (by decide) ?_
                refine g_icmp_ne C 1144 (by decide) hw dL_law_1017 (fun hw => ?_) (fun hw => ?_)
                · refine g_iconst (v := (0 : Int32)) C dL_law_1144 (by decide) ?_
                  exact hret _ _ _ _ _ _ (by omega) (by omega) hw dL_law_1145
                · refine g_aload_n C 1 rfl rfl dL_law_1020 ?_
                  refine g_iconst (v := (4 : Int32)) C dL_law_1021 (by decide) ?_
                  refine gc_I (mc := 0) (ms := 0) C (gr_V (mc := 0) (ms := 0) (As := [.int (4 : Int32)]) (rest := []) C hK 1 (gd_V wt_223 wt_224 wt_225 wt_1 wt_226) rfl rfl rfl ⟨rfl, hs_X11_hour⟩ ⟨⟨Nat.le_of_ble_eq_true rfl, Nat.le_of_ble_eq_true rfl⟩, (by show _ ≤ 888223; omega), (by show _ ≤ 6437580; omega)⟩ rfl 0 (ga_0 cy A _) rfl rfl (Nat.le_of_ble_eq_true rfl) dL_law_1022 (c_X11_hour (q_l κ) (q_D κ) cy A hw)) (fun r16 σ15 hw => ?_)
                  refine g_widen (k' := 20 + kk) (n' := 245 + 3 * kk) (by omega) (by omega) ?_
                  refine g_bipush (v := (-102 : Int32)) C dL_law_1025 (by decide) ?_
                  refine g_icmp_ne C 1144 (by decide) hw dL_law_1027 (fun hw => ?_) (fun hw => ?_)
                  · refine g_iconst (v := (0 : Int32)) C dL_law_1144 (by decide) ?_
                    exact hret _ _ _ _ _ _ (by omega) (by omega) hw dL_law_1145
                  · refine g_aload_n C 1 rfl rfl dL_law_1030 ?_
                    refine g_bipush (v := (-4 : Int32)) C dL_law_1031 (by decide) ?_
                    refine gc_I (mc := 0) (ms := 0) C (gr_V (mc := 0) (ms := 0) (As := [.int (-4 : Int32)]) (rest := []) C hK 1 (gd_V wt_223 wt_224 wt_225 wt_1 wt_226) rfl rfl rfl ⟨rfl, hs_X11_hour⟩ ⟨⟨Nat.le_of_ble_eq_true rfl, Nat.le_of_ble_eq_true rfl⟩, (by show _ ≤ 888223; omega), (by show _ ≤ 6437580; omega)⟩ rfl 0 (ga_0 cy A _) rfl rfl (Nat.le_of_ble_eq_true rfl) dL_law_1033 (c_X11_hour (q_l κ) (q_D κ) cy A hw)) (fun r18 σ17 hw => ?_)
                    refine g_widen (k' := 20 + kk) (n' := 245 + 3 * kk) (by omega) (by omega) ?_
                    refine g_bipush (v := (-102 : Int32)) C dL_law_1036 (by decide) ?_
                    refine g_icmp_ne C 1144 (by decide) hw dL_law_1038 (fun hw => ?_) (fun hw => ?_)
                    · refine g_iconst (v := (0 : Int32)) C dL_law_1144 (by decide) ?_
                      exact hret _ _ _ _ _ _ (by omega) (by omega) hw dL_law_1145
                    · refine g_aload_n C 1 rfl rfl dL_law_1041 ?_
                      refine g_iconst (v := (0 : Int32)) C dL_law_1042 (by decide) ?_
                      refine gc_I (mc := 0) (ms := 0) C (gr_V (mc := 0) (ms := 0) (As := [.int (0 : Int32)]) (rest := []) C hK 1 (gd_V wt_250 wt_251 wt_252 wt_1 wt_253) rfl rfl rfl ⟨rfl, hs_X11_caught⟩ ⟨⟨Nat.le_of_ble_eq_true rfl, Nat.le_of_ble_eq_true rfl⟩, (by show _ ≤ 888223; omega), (by show _ ≤ 6437580; omega)⟩ rfl 0 (ga_0 cy A _) rfl rfl (Nat.le_of_ble_eq_true rfl) dL_law_1043 (c_X11_caught (q_l κ) (q_D κ) cy A hw)) (fun r20 σ19 hw => ?_)
                      refine g_widen (k' := 20 + kk) (n' := 245 + 3 * kk) (by omega) (by omega) ?_
                      refine g_bipush (v := (-102 : Int32)) C dL_law_1046 (by decide) ?_
                      refine g_icmp_ne C 1144 (by decide) hw dL_law_1048 (fun hw => ?_) (fun hw => ?_)
                      · refine g_iconst (v := (0 : Int32)) C dL_law_1144 (by decide) ?_
                        exact hret _ _ _ _ _ _ (by omega) (by omega) hw dL_law_1145
                      · refine g_aload_n C 1 rfl rfl dL_law_1051 ?_
                        refine g_bipush (v := (100 : Int32)) C dL_law_1052 (by decide) ?_
                        refine gc_I (mc := 0) (ms := 0) C (gr_V (mc := 0) (ms := 0) (As := [.int (100 : Int32)]) (rest := []) C hK 1 (gd_V wt_250 wt_251 wt_252 wt_1 wt_253) rfl rfl rfl ⟨rfl, hs_X11_caught⟩ ⟨⟨Nat.le_of_ble_eq_true rfl, Nat.le_of_ble_eq_true rfl⟩, (by show _ ≤ 888223; omega), (by show _ ≤ 6437580; omega)⟩ rfl 0 (ga_0 cy A _) rfl rfl (Nat.le_of_ble_eq_true rfl) dL_law_1054 (c_X11_caught (q_l κ) (q_D κ) cy A hw)) (fun r22 σ21 hw => ?_)
                        refine g_widen (k' := 20 + kk) (n' := 245 + 3 * kk) (by omega) (by omega) ?_
                        refine g_bipush (v := (-102 : Int32)) C dL_law_1057 (by decide) ?_
                        refine g_icmp_ne C 1144 (by decide) hw dL_law_1059 (fun hw => ?_) (fun hw => ?_)
                        · refine g_iconst (v := (0 : Int32)) C dL_law_1144 (by decide) ?_
                          exact hret _ _ _ _ _ _ (by omega) (by omega) hw dL_law_1145
                        · refine g_aload_n C 1 rfl rfl dL_law_1062 ?_
                          refine g_iconst (v := (0 : Int32)) C dL_law_1063 (by decide) ?_
                          refine g_iconst (v := (1 : Int32)) C dL_law_1064 (by decide) ?_
                          refine g_iconst (v := (0 : Int32)) C dL_law_1065 (by decide) ?_
                          refine gc_I (mc := 0) (ms := 0) C (gr_V (mc := 0) (ms := 0) (As := [.int (0 : Int32), .int (1 : Int32), .int (0 : Int32)]) (rest := []) C hK 3 (gd_V wt_262 wt_263 wt_264 wt_1 wt_265) rfl rfl rfl ⟨rfl, hs_X11_whirls⟩ ⟨⟨Nat.le_of_ble_eq_true rfl, Nat.le_of_ble_eq_true rfl⟩, (by show _ ≤ 888223; omega), (by show _ ≤ 6437580; omega)⟩ rfl 0 (ga_0 cy A _) rfl rfl (Nat.le_of_ble_eq_true rfl) dL_law_1066 (c_X11_whirls (q_l κ) (q_D κ) cy A hw)) (fun r24 σ23 hw => ?_)
                          refine g_widen (k' := 20 + kk) (n' := 245 + 3 * kk) (by omega) (by omega) ?_
                          refine g_bipush (v := (-102 : Int32)) C dL_law_1069 (by decide) ?_
                          refine g_icmp_ne C 1144 (by decide) hw dL_law_1071 (fun hw => ?_) (fun hw => ?_)
                          · refine g_iconst (v := (0 : Int32)) C dL_law_1144 (by decide) ?_
                            exact hret _ _ _ _ _ _ (by omega) (by omega) hw dL_law_1145
                          · refine g_aload_n C 1 rfl rfl dL_law_1074 ?_
                            refine g_bipush (v := (61 : Int32)) C dL_law_1075 (by decide) ?_
                            refine g_iconst (v := (1 : Int32)) C dL_law_1077 (by decide) ?_
                            refine g_iconst (v := (0 : Int32)) C dL_law_1078 (by decide) ?_
                            refine gc_I (mc := 0) (ms := 0) C (gr_V (mc := 0) (ms := 0) (As := [.int (61 : Int32), .int (1 : Int32), .int (0 : Int32)]) (rest := []) C hK 3 (gd_V wt_262 wt_263 wt_264 wt_1 wt_265) rfl rfl rfl ⟨rfl, hs_X11_whirls⟩ ⟨⟨Nat.le_of_ble_eq_true rfl, Nat.le_of_ble_eq_true rfl⟩, (by show _ ≤ 888223; omega), (by show _ ≤ 6437580; omega)⟩ rfl 0 (ga_0 cy A _) rfl rfl (Nat.le_of_ble_eq_true rfl) dL_law_1079 (c_X11_whirls (q_l κ) (q_D κ) cy A hw)) (fun r26 σ25 hw => ?_)
                            refine g_widen (k' := 20 + kk) (n' := 245 + 3 * kk) (by omega) (by omega) ?_
                            refine g_bipush (v := (-102 : Int32)) C dL_law_1082 (by decide) ?_
                            refine g_icmp_ne C 1144 (by decide) hw dL_law_1084 (fun hw => ?_) (fun hw => ?_)
                            · refine g_iconst (v := (0 : Int32)) C dL_law_1144 (by decide) ?_
                              exact hret _ _ _ _ _ _ (by omega) (by omega) hw dL_law_1145
                            · refine g_aload_n C 1 rfl rfl dL_law_1087 ?_
                              refine g_iconst (v := (1 : Int32)) C dL_law_1088 (by decide) ?_
                              refine g_iconst (v := (-1 : Int32)) C dL_law_1089 (by decide) ?_
                              refine g_iconst (v := (0 : Int32)) C dL_law_1090 (by decide) ?_
                              refine gc_I (mc := 0) (ms := 0) C (gr_V (mc := 0) (ms := 0) (As := [.int (1 : Int32), .int (-1 : Int32), .int (0 : Int32)]) (rest := []) C hK 3 (gd_V wt_262 wt_263 wt_264 wt_1 wt_265) rfl rfl rfl ⟨rfl, hs_X11_whirls⟩ ⟨⟨Nat.le_of_ble_eq_true rfl, Nat.le_of_ble_eq_true rfl⟩, (by show _ ≤ 888223; omega), (by show _ ≤ 6437580; omega)⟩ rfl 0 (ga_0 cy A _) rfl rfl (Nat.le_of_ble_eq_true rfl) dL_law_1091 (c_X11_whirls (q_l κ) (q_D κ) cy A hw)) (fun r28 σ27 hw => ?_)
                              refine g_widen (k' := 20 + kk) (n' := 245 + 3 * kk) (by omega) (by omega) ?_
                              refine g_bipush (v := (-102 : Int32)) C dL_law_1094 (by decide) ?_
                              refine g_icmp_ne C 1144 (by decide) hw dL_law_1096 (fun hw => ?_) (fun hw => ?_)
                              · refine g_iconst (v := (0 : Int32)) C dL_law_1144 (by decide) ?_
                                exact hret _ _ _ _ _ _ (by omega) (by omega) hw dL_law_1145
                              · refine g_aload_n C 1 rfl rfl dL_law_1099 ?_
                                refine g_iconst (v := (1 : Int32)) C dL_law_1100 (by decide) ?_
                                refine g_iconst (v := (1 : Int32)) C dL_law_1101 (by decide) ?_
                                refine g_iconst (v := (4 : Int32)) C dL_law_1102 (by decide) ?_
                                refine gc_I (mc := 0) (ms := 0) C (gr_V (mc := 0) (ms := 0) (As := [.int (1 : Int32), .int (1 : Int32), .int (4 : Int32)]) (rest := []) C hK 3 (gd_V wt_262 wt_263 wt_264 wt_1 wt_265) rfl rfl rfl ⟨rfl, hs_X11_whirls⟩ ⟨⟨Nat.le_of_ble_eq_true rfl, Nat.le_of_ble_eq_true rfl⟩, (by show _ ≤ 888223; omega), (by show _ ≤ 6437580; omega)⟩ rfl 0 (ga_0 cy A _) rfl rfl (Nat.le_of_ble_eq_true rfl) dL_law_1103 (c_X11_whirls (q_l κ) (q_D κ) cy A hw)) (fun r30 σ29 hw => ?_)
                                refine g_widen (k' := 20 + kk) (n' := 245 + 3 * kk) (by omega) (by omega) ?_
                                refine g_bipush (v := (-102 : Int32)) C dL_law_1106 (by decide) ?_
                                refine g_icmp_ne C 1144 (by decide) hw dL_law_1108 (fun hw => ?_) (fun hw => ?_)
                                · refine g_iconst (v := (0 : Int32)) C dL_law_1144 (by decide) ?_
                                  exact hret _ _ _ _ _ _ (by omega) (by omega) hw dL_law_1145
                                · refine g_aload_n C 2 rfl rfl dL_law_1111 ?_
                                  refine g_bipush (v := (7 : Int32)) C dL_law_1112 (by decide) ?_
                                  refine g_iald C hK 18 2 (ga_18 cy A _) rfl hw.1 dL_law_1114 ?_
                                  replace hw := hw.2
                                  refine g_if_eq C 1140 (by decide) hw dL_law_1115 (fun hw => ?_) (fun hw => ?_)
                                  · refine g_iconst (v := (1 : Int32)) C dL_law_1140 (by decide) ?_
                                    refine g_goto C 1145 (by decide) dL_law_1141 ?_
                                    exact hret _ _ _ _ _ _ (by omega) (by omega) hw dL_law_1145
                                  · refine g_aload_n C 1 rfl rfl dL_law_1118 ?_
                                    refine g_iconst (v := (0 : Int32)) C dL_law_1119 (by decide) ?_
                                    refine g_iconst (v := (5 : Int32)) C dL_law_1120 (by decide) ?_
                                    refine gc_I (mc := 0) (ms := 0) C (gr_V (mc := 0) (ms := 0) (As := [.int (0 : Int32), .int (5 : Int32)]) (rest := []) C hK 2 (gd_V wt_154 wt_155 wt_156 wt_1 wt_157) rfl rfl rfl ⟨rfl, hs_X11_about⟩ ⟨⟨Nat.le_of_ble_eq_true rfl, Nat.le_of_ble_eq_true rfl⟩, (by show _ ≤ 888223; omega), (by show _ ≤ 6437580; omega)⟩ rfl 0 (ga_0 cy A _) rfl rfl (Nat.le_of_ble_eq_true rfl) dL_law_1121 (c_X11_about (q_l κ) (q_D κ) cy A hw)) (fun r32 σ31 hw => ?_)
                                    refine g_widen (k' := 20 + kk) (n' := 245 + 3 * kk) (by omega) (by omega) ?_
                                    refine g_bipush (v := (-102 : Int32)) C dL_law_1124 (by decide) ?_
                                    refine g_icmp_ne C 1144 (by decide) hw dL_law_1126 (fun hw => ?_) (fun hw => ?_)
                                    · refine g_iconst (v := (0 : Int32)) C dL_law_1144 (by decide) ?_
                                      exact hret _ _ _ _ _ _ (by omega) (by omega) hw dL_law_1145
                                    · refine g_aload_n C 1 rfl rfl dL_law_1129 ?_
                                      refine g_iconst (v := (0 : Int32)) C dL_law_1130 (by decide) ?_
                                      refine g_iconst (v := (5 : Int32)) C dL_law_1131 (by decide) ?_
                                      refine gc_I (mc := 0) (ms := 0) C (gr_V (mc := 0) (ms := 0) (As := [.int (0 : Int32), .int (5 : Int32)]) (rest := []) C hK 2 (gd_V wt_186 wt_187 wt_188 wt_1 wt_189) rfl rfl rfl ⟨rfl, hs_X11_as⟩ ⟨⟨Nat.le_of_ble_eq_true rfl, Nat.le_of_ble_eq_true rfl⟩, (by show _ ≤ 888223; omega), (by show _ ≤ 6437580; omega)⟩ rfl 0 (ga_0 cy A _) rfl rfl (Nat.le_of_ble_eq_true rfl) dL_law_1132 (c_X11_as (q_l κ) (q_D κ) cy A hw)) (fun r34 σ33 hw => ?_)
                                      refine g_widen (k' := 20 + kk) (n' := 245 + 3 * kk) (by omega) (by omega) ?_
                                      refine g_bipush (v := (-102 : Int32)) C dL_law_1135 (by decide) ?_
                                      refine g_icmp_ne C 1144 (by decide) hw dL_law_1137 (fun hw => ?_) (fun hw => ?_)
                                      · refine g_iconst (v := (0 : Int32)) C dL_law_1144 (by decide) ?_
                                        exact hret _ _ _ _ _ _ (by omega) (by omega) hw dL_law_1145
                                      · refine g_iconst (v := (1 : Int32)) C dL_law_1140 (by decide) ?_
                                        refine g_goto C 1145 (by decide) dL_law_1141 ?_
                                        exact hret _ _ _ _ _ _ (by omega) (by omega) hw dL_law_1145
      · refine g_aload_n C 0 rfl rfl dL_law_87 ?_
        refine g_bipush (v := (8 : Int32)) C dL_law_88 (by decide) ?_
        refine g_iload C 4 rfl dL_law_90 ?_
        refine g_iadd C dL_law_92 ?_
        obtain ⟨h8, hw⟩ := hw
        refine g_cell (rest := []) C hX hbl hbA hL h8 (gd_S wt_283 wt_284 wt_0 wt_285) ⟨⟨Nat.le_of_ble_eq_true rfl, Nat.le_of_ble_eq_true rfl⟩, (by show _ ≤ 888223; omega), (by show _ ≤ 6437580; omega)⟩ (Nat.le_of_ble_eq_true rfl) dL_law_93 ?_
        refine g_istore C [(6, .int (cellV xs L ((8 : Int32) + v5))), (0, .ref b), (1, .ref (A 0)), (2, .ref (A 18)), (3, .ref (A 19)), (5, .int v5)] hN (by decide) rfl dL_law_96 ?_
        refine g_iload C 0 rfl dL_law_98 ?_
        refine g_bipush (v := (16 : Int32)) C dL_law_100 (by decide) ?_
        refine g_irem C hw.1 dL_law_102 ?_
        replace hw := hw.2
        refine g_istore C [(7, .int ((cellV xs L ((8 : Int32) + v5)) - (cellV xs L ((8 : Int32) + v5)) / (16 : Int32) * (16 : Int32))), (6, .int (cellV xs L ((8 : Int32) + v5))), (0, .ref b), (1, .ref (A 0)), (2, .ref (A 18)), (3, .ref (A 19)), (5, .int v5)] hN (by decide) rfl dL_law_103 ?_
        refine g_aload_n C 4 rfl rfl dL_law_105 ?_
        refine g_bipush (v := (7 : Int32)) C dL_law_106 (by decide) ?_
        refine g_iald C hK 18 2 (ga_18 cy A _) rfl hw.1 dL_law_108 ?_
        replace hw := hw.2
        refine g_if_ne C 116 (by decide) hw dL_law_109 (fun hw => ?_) (fun hw => ?_)
        · refine g_iload C 1 rfl dL_law_116 ?_
          refine g_bipush (v := (16 : Int32)) C dL_law_118 (by decide) ?_
          refine g_idiv C hw.1 dL_law_120 ?_
          replace hw := hw.2
          refine g_aload_n C 4 rfl rfl dL_law_121 ?_
          refine g_bipush (v := (7 : Int32)) C dL_law_122 (by decide) ?_
          refine g_iald C hK 18 2 (ga_18 cy A _) rfl hw.1 dL_law_124 ?_
          replace hw := hw.2
          refine g_irem C hw.1 dL_law_125 ?_
          replace hw := hw.2
          refine g_eql (lv' := [(0, .ref b), (1, .ref (A 0)), (2, .ref (A 18)), (3, .ref (A 19)), (5, .int v5), (6, .int (cellV xs L ((8 : Int32) + v5))), (7, .int ((cellV xs L ((8 : Int32) + v5)) - (cellV xs L ((8 : Int32) + v5)) / (16 : Int32) * (16 : Int32)))]) [2, 3, 4, 5, 6, 1, 0] rfl ?_
          exact J126 _ ih σ kk v5 (cellV xs L ((8 : Int32) + v5)) ((cellV xs L ((8 : Int32) + v5)) - (cellV xs L ((8 : Int32) + v5)) / (16 : Int32) * (16 : Int32)) (((cellV xs L ((8 : Int32) + v5)) / (16 : Int32)) - ((cellV xs L ((8 : Int32) + v5)) / (16 : Int32)) / (σ.1 18 (7 : Int32).toNatClampNeg) * (σ.1 18 (7 : Int32).toNatClampNeg)) (by omega) hw
        · refine g_iconst (v := (0 : Int32)) C dL_law_112 (by decide) ?_
          refine g_goto C 126 (by decide) dL_law_113 ?_
          refine g_eql (lv' := [(0, .ref b), (1, .ref (A 0)), (2, .ref (A 18)), (3, .ref (A 19)), (5, .int v5), (6, .int (cellV xs L ((8 : Int32) + v5))), (7, .int ((cellV xs L ((8 : Int32) + v5)) - (cellV xs L ((8 : Int32) + v5)) / (16 : Int32) * (16 : Int32)))]) [2, 3, 4, 5, 6, 1, 0] rfl ?_
          exact J126 _ ih σ kk v5 (cellV xs L ((8 : Int32) + v5)) ((cellV xs L ((8 : Int32) + v5)) - (cellV xs L ((8 : Int32) + v5)) / (16 : Int32) * (16 : Int32)) (0 : Int32) (by omega) hw
  have J46 : ∀ (n : Nat) (σ : St) (kk : Nat) (v4 : Int32) (v5 : Int32), kk ≤ 600 → wL_law_46 L xs n σ kk v4 v5 → GW κ (20 + kk) (245 + 3 * kk) (gW cy A σ) 46 [(0, .ref b), (1, .ref (A 0)), (2, .ref (A 18)), (3, .ref (A 19)), (4, .int v4), (5, .int v5)] [] := by
    intro n
    induction n with
    | zero => intro σ kk v4 v5 hk6 hw; exact hw.elim
    | succ n ih =>
      intro σ kk v4 v5 hk6 hw
      rw [wL_law_46] at hw
      refine g_iload C 5 rfl dL_law_46 ?_
      refine g_iload C 4 rfl dL_law_48 ?_
      refine g_icmp_ge C 77 (by decide) hw dL_law_50 (fun hw => ?_) (fun hw => ?_)
      · refine g_iconst (v := (0 : Int32)) C dL_law_77 (by decide) ?_
        refine g_istore C [(5, .int (0 : Int32)), (0, .ref b), (1, .ref (A 0)), (2, .ref (A 18)), (3, .ref (A 19)), (4, .int v4)] hN (by decide) rfl dL_law_78 ?_
        refine g_eql (lv' := [(0, .ref b), (1, .ref (A 0)), (2, .ref (A 18)), (3, .ref (A 19)), (5, .int (0 : Int32))]) [1, 2, 3, 4, 0] rfl ?_
        obtain ⟨n0, hw⟩ := hw
        exact J80 n0 σ kk (0 : Int32) (by omega) hw
      · refine g_aload_n C 1 rfl rfl dL_law_53 ?_
        refine g_aload_n C 0 rfl rfl dL_law_54 ?_
        refine g_iconst (v := (2 : Int32)) C dL_law_55 (by decide) ?_
        refine g_iload C 5 rfl dL_law_56 ?_
        refine g_iadd C dL_law_58 ?_
        obtain ⟨h8, hw⟩ := hw
        refine g_cell (rest := [.ref (A 0)]) C hX hbl hbA hL h8 (gd_S wt_283 wt_284 wt_0 wt_285) ⟨⟨Nat.le_of_ble_eq_true rfl, Nat.le_of_ble_eq_true rfl⟩, (by show _ ≤ 888223; omega), (by show _ ≤ 6437580; omega)⟩ (Nat.le_of_ble_eq_true rfl) dL_law_59 ?_
        refine g_aload_n C 2 rfl rfl dL_law_62 ?_
        obtain ⟨hk7, hw⟩ := hw
        refine g_widen (k' := 20 + kk) (n' := 245 + 3 * kk) (by omega) (by omega) ?_
        refine gc_I (mc := 1) (ms := 3) C (gr_S (mc := 1) (ms := 3) (As := [.ref (A 0), .int (cellV xs L ((2 : Int32) + v5)), .ref (A 18)]) (rest := []) C hK 3 (gd_S wt_360 wt_361 wt_0 wt_362) rfl rfl rfl hs_L_thing ⟨⟨Nat.le_of_ble_eq_true rfl, Nat.le_of_ble_eq_true rfl⟩, (by show _ ≤ 888223; omega), (by show _ ≤ 6437580; omega)⟩ rfl rfl (Nat.le_of_ble_eq_true rfl) dL_law_63 (c_L_thing (q_l κ) (q_D κ) cy A hQ18 hw)) (fun r4 σ3 hw => ?_)
        refine g_widen (k' := 20 + (kk + 1)) (n' := 245 + 3 * (kk + 1)) (by omega) (by omega) ?_
        refine g_if_ne C 71 (by decide) hw dL_law_66 (fun hw => ?_) (fun hw => ?_)
        · refine g_iinc (j := 5) C [(5, .int (v5 + 1)), (0, .ref b), (1, .ref (A 0)), (2, .ref (A 18)), (3, .ref (A 19)), (4, .int v4)] hN rfl rfl (by decide) rfl dL_law_71 ?_
          refine g_goto C 46 (by decide) dL_law_74 ?_
          refine g_eql (lv' := [(0, .ref b), (1, .ref (A 0)), (2, .ref (A 18)), (3, .ref (A 19)), (4, .int v4), (5, .int (v5 + 1))]) [1, 2, 3, 4, 5, 0] rfl ?_
          exact ih σ3 (kk + 1) v4 (v5 + 1) (by omega) hw
        · refine g_iconst (v := (0 : Int32)) C dL_law_69 (by decide) ?_
          exact hret _ _ _ _ _ _ (by omega) (by omega) hw dL_law_70
  unfold wL_law at hw
  refine g_aload_n C 1 rfl rfl dL_law_18 ?_
  refine g_aload_n C 0 rfl rfl dL_law_19 ?_
  refine g_iconst (v := (0 : Int32)) C dL_law_20 (by decide) ?_
  obtain ⟨h8, hw⟩ := hw
  refine g_cell (rest := [.ref (A 0)]) C hX hbl hbA hL h8 (gd_S wt_283 wt_284 wt_0 wt_285) ⟨⟨Nat.le_of_ble_eq_true rfl, Nat.le_of_ble_eq_true rfl⟩, (by show _ ≤ 888223; omega), (by show _ ≤ 6437580; omega)⟩ (Nat.le_of_ble_eq_true rfl) dL_law_21 ?_
  refine g_aload_n C 2 rfl rfl dL_law_24 ?_
  refine gc_I (mc := 0) (ms := 0) C (gr_S (mc := 0) (ms := 0) (As := [.ref (A 0), .int (cellV xs L (0 : Int32)), .ref (A 18)]) (rest := []) C hK 3 (gd_S wt_287 wt_288 wt_0 wt_289) rfl rfl rfl hs_L_wire ⟨⟨Nat.le_of_ble_eq_true rfl, Nat.le_of_ble_eq_true rfl⟩, (by show _ ≤ 888223; omega), (by show _ ≤ 6437580; omega)⟩ rfl rfl (Nat.le_of_ble_eq_true rfl) dL_law_25 (c_L_wire (q_l κ) (q_D κ) cy A hQ18 hw)) (fun r2 σ1 hw => ?_)
  refine g_widen (k' := 20 + kk) (n' := 245 + 3 * kk) (by omega) (by omega) ?_
  refine g_if_ne C 33 (by decide) hw dL_law_28 (fun hw => ?_) (fun hw => ?_)
  · refine g_aload_n C 0 rfl rfl dL_law_33 ?_
    refine g_iconst (v := (1 : Int32)) C dL_law_34 (by decide) ?_
    obtain ⟨h8, hw⟩ := hw
    refine g_cell (rest := []) C hX hbl hbA hL h8 (gd_S wt_283 wt_284 wt_0 wt_285) ⟨⟨Nat.le_of_ble_eq_true rfl, Nat.le_of_ble_eq_true rfl⟩, (by show _ ≤ 888223; omega), (by show _ ≤ 6437580; omega)⟩ (Nat.le_of_ble_eq_true rfl) dL_law_35 ?_
    refine g_bipush (v := (6 : Int32)) C dL_law_38 (by decide) ?_
    refine g_irem C hw.1 dL_law_40 ?_
    replace hw := hw.2
    refine g_istore C [(4, .int ((cellV xs L (1 : Int32)) - (cellV xs L (1 : Int32)) / (6 : Int32) * (6 : Int32))), (0, .ref b), (1, .ref (A 0)), (2, .ref (A 18)), (3, .ref (A 19))] hN (by decide) rfl dL_law_41 ?_
    refine g_iconst (v := (0 : Int32)) C dL_law_43 (by decide) ?_
    refine g_istore C [(5, .int (0 : Int32)), (4, .int ((cellV xs L (1 : Int32)) - (cellV xs L (1 : Int32)) / (6 : Int32) * (6 : Int32))), (0, .ref b), (1, .ref (A 0)), (2, .ref (A 18)), (3, .ref (A 19))] hN (by decide) rfl dL_law_44 ?_
    refine g_eql (lv' := [(0, .ref b), (1, .ref (A 0)), (2, .ref (A 18)), (3, .ref (A 19)), (4, .int ((cellV xs L (1 : Int32)) - (cellV xs L (1 : Int32)) / (6 : Int32) * (6 : Int32))), (5, .int (0 : Int32))]) [2, 3, 4, 5, 1, 0] rfl ?_
    obtain ⟨n0, hw⟩ := hw
    exact J46 n0 σ1 kk ((cellV xs L (1 : Int32)) - (cellV xs L (1 : Int32)) / (6 : Int32) * (6 : Int32)) (0 : Int32) (by omega) hw
  · refine g_iconst (v := (0 : Int32)) C dL_law_31 (by decide) ?_
    exact hret _ _ _ _ _ _ (by omega) (by omega) hw dL_law_32
