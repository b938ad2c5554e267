set_option maxHeartbeats 4000000 in
set_option maxRecDepth 100000 in
theorem c_X12_firstBy (l : Launch) (D : va_G) (cy : Nat → ClassId) (A : Nat → Nat) {σ : St} {v1 : Int32} {v2 : Int32} {Φ : Int32 → St → Prop} (hw : wX12_firstBy σ v1 v2 Φ) : CtI l yX12_firstBy (.code yX12_firstBy cX12_firstBy 6 (some .int) :: gL) rm_X12_firstBy 0 0 [.ref (A 18), .int v1, .int v2] D cy A σ Φ := by
  refine ct_any (fun sz => va_Qi Φ (HE D cy A (gZ cy A σ sz)) (gZ cy A σ sz)) (by decide +kernel) rfl rfl [(0, .ref (A 18)), (1, .int v1), (2, .int v2)] rfl (Nat.le_of_ble_eq_true rfl) ?_
  intro κ hκl hnm C hK sz F
  subst hκl
  have J84 : ∀ (K6 : St → Int32 → Int32 → Int32 → Int32 → Prop) (_ : ∀ (σ : St) (v1 : Int32) (v2 : Int32) (v3 : Int32) (v4 : Int32), K6 σ v1 v2 v3 v4 → GW κ 0 0 (gW cy A σ) 6 [(0, .ref (A 18)), (1, .int v1), (2, .int v2), (3, .int v3), (4, .int v4)] []), ∀ (σ : St) (v1 : Int32) (v2 : Int32) (v4 : Int32) (s0 : Int32), wX12_firstBy_84 K6 Φ σ v1 v2 v4 s0 → GW κ 0 0 (gW cy A σ) 84 [(0, .ref (A 18)), (1, .int v1), (2, .int v2), (4, .int v4)] [.int s0] := by
    intro K6 hK6 σ v1 v2 v4 s0 hw
    unfold wX12_firstBy_84 at hw
    refine g_istore_n C [(3, .int s0), (0, .ref (A 18)), (1, .int v1), (2, .int v2), (4, .int v4)] F.2.2.2.1 rfl (by decide) rfl dX12_firstBy_84 ?_
    refine g_iinc (j := 4) C [(4, .int (v4 + 1)), (3, .int s0), (0, .ref (A 18)), (1, .int v1), (2, .int v2)] F.2.2.2.1 rfl rfl (by decide) rfl dX12_firstBy_85 ?_
    refine g_goto C 6 (by decide) dX12_firstBy_88 ?_
    refine g_eql (lv' := [(0, .ref (A 18)), (1, .int v1), (2, .int v2), (3, .int s0), (4, .int (v4 + 1))]) [2, 3, 4, 1, 0] rfl ?_
    exact hK6 σ v1 v2 s0 (v4 + 1) hw
  have J83 : ∀ (K6 : St → Int32 → Int32 → Int32 → Int32 → Prop) (_ : ∀ (σ : St) (v1 : Int32) (v2 : Int32) (v3 : Int32) (v4 : Int32), K6 σ v1 v2 v3 v4 → GW κ 0 0 (gW cy A σ) 6 [(0, .ref (A 18)), (1, .int v1), (2, .int v2), (3, .int v3), (4, .int v4)] []), ∀ (σ : St) (v1 : Int32) (v2 : Int32) (v3 : Int32) (v4 : Int32), wX12_firstBy_83 K6 Φ σ v1 v2 v3 v4 → GW κ 0 0 (gW cy A σ) 83 [(0, .ref (A 18)), (1, .int v1), (2, .int v2), (3, .int v3), (4, .int v4)] [] := by
    intro K6 hK6 σ v1 v2 v3 v4 hw
    unfold wX12_firstBy_83 at hw
    refine g_iload_n C 3 rfl rfl dX12_firstBy_83 ?_
    refine g_eql (lv' := [(0, .ref (A 18)), (1, .int v1), (2, .int v2), (4, .int v4)]) [0, 1, 2, 4] rfl ?_
    exact J84 _ hK6 σ v1 v2 v4 v3 hw
  have J73 : ∀ (K6 : St → Int32 → Int32 → Int32 → Int32 → Prop) (_ : ∀ (σ : St) (v1 : Int32) (v2 : Int32) (v3 : Int32) (v4 : Int32), K6 σ v1 v2 v3 v4 → GW κ 0 0 (gW cy A σ) 6 [(0, .ref (A 18)), (1, .int v1), (2, .int v2), (3, .int v3), (4, .int v4)] []), ∀ (σ : St) (v1 : Int32) (v2 : Int32) (v4 : Int32), wX12_firstBy_73 K6 Φ σ v1 v2 v4 → GW κ 0 0 (gW cy A σ) 73 [(0, .ref (A 18)), (1, .int v1), (2, .int v2), (4, .int v4)] [] := by
    intro K6 hK6 σ v1 v2 v4 hw
    unfold wX12_firstBy_73 at hw
    refine g_aload_n C 0 rfl rfl dX12_firstBy_73 ?_
    refine g_get C hK inX12 rfl 18 (ga_18 cy A _) 27 (by decide) (fun _ h => h) wt_612 rfl dX12_firstBy_74 ?_
    refine g_iload C 3 rfl dX12_firstBy_77 ?_
    refine g_iald C hK 26 2 (ga_26 cy A _) rfl hw.1 dX12_firstBy_79 ?_
    replace hw := hw.2
    refine g_goto C 84 (by decide) dX12_firstBy_80 ?_
    exact J84 _ hK6 σ v1 v2 v4 (σ.1 26 v4.toNatClampNeg) hw
  have J50 : ∀ (K6 : St → Int32 → Int32 → Int32 → Int32 → Prop) (_ : ∀ (σ : St) (v1 : Int32) (v2 : Int32) (v3 : Int32) (v4 : Int32), K6 σ v1 v2 v3 v4 → GW κ 0 0 (gW cy A σ) 6 [(0, .ref (A 18)), (1, .int v1), (2, .int v2), (3, .int v3), (4, .int v4)] []), ∀ (σ : St) (v1 : Int32) (v2 : Int32) (v3 : Int32) (v4 : Int32) (s0 : Int32), wX12_firstBy_50 K6 Φ σ v1 v2 v3 v4 s0 → GW κ 0 0 (gW cy A σ) 50 [(0, .ref (A 18)), (1, .int v1), (2, .int v2), (3, .int v3), (4, .int v4)] [.int s0] := by
    intro K6 hK6 σ v1 v2 v3 v4 s0 hw
    unfold wX12_firstBy_50 at hw
    refine g_istore C [(5, .int s0), (0, .ref (A 18)), (1, .int v1), (2, .int v2), (3, .int v3), (4, .int v4)] F.2.2.2.1 (by decide) rfl dX12_firstBy_50 ?_
    refine g_iload C 0 rfl dX12_firstBy_52 ?_
    refine g_if_eq C 83 (by decide) hw dX12_firstBy_54 (fun hw => ?_) (fun hw => ?_)
    · refine g_eql (lv' := [(0, .ref (A 18)), (1, .int v1), (2, .int v2), (3, .int v3), (4, .int v4)]) [1, 2, 3, 4, 5] rfl ?_
      exact J83 _ hK6 σ v1 v2 v3 v4 hw
    · refine g_iload_n C 4 rfl rfl dX12_firstBy_57 ?_
      refine g_iconst (v := (-1 : Int32)) C dX12_firstBy_58 (by decide) ?_
      refine g_icmp_eq C 73 (by decide) hw dX12_firstBy_59 (fun hw => ?_) (fun hw => ?_)
      · refine g_eql (lv' := [(0, .ref (A 18)), (1, .int v1), (2, .int v2), (4, .int v4)]) [1, 2, 3, 5] rfl ?_
        exact J73 _ hK6 σ v1 v2 v4 hw
      · refine g_aload_n C 1 rfl rfl dX12_firstBy_62 ?_
        refine g_get C hK inX12 rfl 18 (ga_18 cy A _) 27 (by decide) (fun _ h => h) wt_612 rfl dX12_firstBy_63 ?_
        refine g_iload C 5 rfl dX12_firstBy_66 ?_
        refine g_iald C hK 26 2 (ga_26 cy A _) rfl hw.1 dX12_firstBy_68 ?_
        replace hw := hw.2
        refine g_iload_n C 4 rfl rfl dX12_firstBy_69 ?_
        refine g_icmp_ge C 83 (by decide) hw dX12_firstBy_70 (fun hw => ?_) (fun hw => ?_)
        · refine g_eql (lv' := [(0, .ref (A 18)), (1, .int v1), (2, .int v2), (3, .int v3), (4, .int v4)]) [1, 2, 3, 4, 5] rfl ?_
          exact J83 _ hK6 σ v1 v2 v3 v4 hw
        · refine g_eql (lv' := [(0, .ref (A 18)), (1, .int v1), (2, .int v2), (4, .int v4)]) [1, 2, 3, 5] rfl ?_
          exact J73 _ hK6 σ v1 v2 v4 hw
  have J49 : ∀ (K6 : St → Int32 → Int32 → Int32 → Int32 → Prop) (_ : ∀ (σ : St) (v1 : Int32) (v2 : Int32) (v3 : Int32) (v4 : Int32), K6 σ v1 v2 v3 v4 → GW κ 0 0 (gW cy A σ) 6 [(0, .ref (A 18)), (1, .int v1), (2, .int v2), (3, .int v3), (4, .int v4)] []), ∀ (σ : St) (v1 : Int32) (v2 : Int32) (v3 : Int32) (v4 : Int32), wX12_firstBy_49 K6 Φ σ v1 v2 v3 v4 → GW κ 0 0 (gW cy A σ) 49 [(0, .ref (A 18)), (1, .int v1), (2, .int v2), (3, .int v3), (4, .int v4)] [] := by
    intro K6 hK6 σ v1 v2 v3 v4 hw
    unfold wX12_firstBy_49 at hw
    refine g_iconst (v := (0 : Int32)) C dX12_firstBy_49 (by decide) ?_
    exact J50 _ hK6 σ v1 v2 v3 v4 (0 : Int32) hw
  have J6 : ∀ (n : Nat) (σ : St) (v1 : Int32) (v2 : Int32) (v3 : Int32) (v4 : Int32), wX12_firstBy_6 Φ n σ v1 v2 v3 v4 → GW κ 0 0 (gW cy A σ) 6 [(0, .ref (A 18)), (1, .int v1), (2, .int v2), (3, .int v3), (4, .int v4)] [] := by
    intro n
    induction n with
    | zero => intro σ v1 v2 v3 v4 hw; exact hw.elim
    | succ n ih =>
      intro σ v1 v2 v3 v4 hw
      rw [wX12_firstBy_6] at hw
      refine g_iload C 4 rfl dX12_firstBy_6 ?_
      refine g_bipush (v := (40 : Int32)) C dX12_firstBy_8 (by decide) ?_
      refine g_icmp_gt C 91 (by decide) hw dX12_firstBy_10 (fun hw => ?_) (fun hw => ?_)
      · refine g_iload_n C 3 rfl rfl dX12_firstBy_91 ?_
        exact gq_I C F (by decide) (by decide) hw dX12_firstBy_92
      · refine g_aload_n C 0 rfl rfl dX12_firstBy_13 ?_
        refine g_get C hK inX12 rfl 18 (ga_18 cy A _) 27 (by decide) (fun _ h => h) wt_612 rfl dX12_firstBy_14 ?_
        refine g_iload C 4 rfl dX12_firstBy_17 ?_
        refine g_iald C hK 26 2 (ga_26 cy A _) rfl hw.1 dX12_firstBy_19 ?_
        replace hw := hw.2
        refine g_iconst (v := (-1 : Int32)) C dX12_firstBy_20 (by decide) ?_
        refine g_icmp_eq C 49 (by decide) hw dX12_firstBy_21 (fun hw => ?_) (fun hw => ?_)
        · exact J49 _ ih σ v1 v2 v3 v4 hw
        · refine g_aload_n C 0 rfl rfl dX12_firstBy_24 ?_
          refine g_iconst (v := (0 : Int32)) C dX12_firstBy_25 (by decide) ?_
          refine g_iload C 4 rfl dX12_firstBy_26 ?_
          refine g_iload_n C 2 rfl rfl dX12_firstBy_28 ?_
          refine g_iconst (v := (0 : Int32)) C dX12_firstBy_29 (by decide) ?_
          refine gc_I C (gr_V (As := [.int (0 : Int32), .int v4, .int v2, .int (0 : Int32)]) (rest := []) C hK 4 (gd_V wt_671 wt_672 wt_850 wt_8 wt_673) rfl rfl rfl ⟨rfl, hs_X12_floorBy⟩ ⟨⟨Nat.le_of_ble_eq_true rfl, Nat.le_of_ble_eq_true rfl⟩, Nat.le_of_ble_eq_true rfl, Nat.le_of_ble_eq_true rfl⟩ rfl 18 (ga_18 cy A _) rfl rfl (Nat.le_of_ble_eq_true rfl) dX12_firstBy_30 (c_X12_floorBy (q_l κ) (q_D κ) cy A hw)) (fun r2 σ1 hw => ?_)
          refine g_iload_n C 1 rfl rfl dX12_firstBy_33 ?_
          refine g_iload_n C 1 rfl rfl dX12_firstBy_34 ?_
          refine g_iload_n C 1 rfl rfl dX12_firstBy_35 ?_
          refine g_iconst (v := (2 : Int32)) C dX12_firstBy_36 (by decide) ?_
          refine g_idiv C hw.1 dX12_firstBy_37 ?_
          replace hw := hw.2
          refine g_iadd C dX12_firstBy_38 ?_
          refine gc_I C (gr_S (As := [.int r2, .int v1, .int (v1 + (v1 / (2 : Int32)))]) (rest := []) C hK 3 (gd_S wt_645 wt_646 wt_8 wt_647) rfl rfl rfl hs_X12_within ⟨⟨Nat.le_of_ble_eq_true rfl, Nat.le_of_ble_eq_true rfl⟩, Nat.le_of_ble_eq_true rfl, Nat.le_of_ble_eq_true rfl⟩ rfl rfl (Nat.le_of_ble_eq_true rfl) dX12_firstBy_39 (c_X12_within (q_l κ) (q_D κ) cy A hw)) (fun r4 σ3 hw => ?_)
          refine g_if_eq C 49 (by decide) hw dX12_firstBy_42 (fun hw => ?_) (fun hw => ?_)
          · exact J49 _ ih σ3 v1 v2 v3 v4 hw
          · refine g_iconst (v := (1 : Int32)) C dX12_firstBy_45 (by decide) ?_
            refine g_goto C 50 (by decide) dX12_firstBy_46 ?_
            exact J50 _ ih σ3 v1 v2 v3 v4 (1 : Int32) hw
  unfold wX12_firstBy at hw
  refine g_iconst (v := (-1 : Int32)) C dX12_firstBy_0 (by decide) ?_
  refine g_istore_n C [(3, .int (-1 : Int32)), (0, .ref (A 18)), (1, .int v1), (2, .int v2)] F.2.2.2.1 rfl (by decide) rfl dX12_firstBy_1 ?_
  refine g_bipush (v := (10 : Int32)) C dX12_firstBy_2 (by decide) ?_
  refine g_istore C [(4, .int (10 : Int32)), (3, .int (-1 : Int32)), (0, .ref (A 18)), (1, .int v1), (2, .int v2)] F.2.2.2.1 (by decide) rfl dX12_firstBy_4 ?_
  refine g_eql (lv' := [(0, .ref (A 18)), (1, .int v1), (2, .int v2), (3, .int (-1 : Int32)), (4, .int (10 : Int32))]) [2, 3, 4, 1, 0] rfl ?_
  obtain ⟨n0, hw⟩ := hw
  exact J6 n0 σ v1 v2 (-1 : Int32) (10 : Int32) hw
set_option maxHeartbeats 4000000 in
set_option maxRecDepth 100000 in
theorem c_X12_soonestNow (l : Launch) (D : va_G) (cy : Nat → ClassId) (A : Nat → Nat) {σ : St} {v1 : Int32} {v2 : Int32} {Φ : Int32 → St → Prop} (hw : wX12_soonestNow σ v1 v2 Φ) : CtI l yX12_soonestNow (.code yX12_soonestNow cX12_soonestNow 5 (some .int) :: gL) rm_X12_soonestNow 0 0 [.ref (A 18), .int v1, .int v2] D cy A σ Φ := by
  refine ct_any (fun sz => va_Qi Φ (HE D cy A (gZ cy A σ sz)) (gZ cy A σ sz)) (by decide +kernel) rfl rfl [(0, .ref (A 18)), (1, .int v1), (2, .int v2)] rfl (Nat.le_of_ble_eq_true rfl) ?_
  intro κ hκl hnm C hK sz F
  subst hκl
  have J36 : ∀ (n : Nat) (σ : St) (v1 : Int32) (v2 : Int32) (v3 : Int32), wX12_soonestNow_36 Φ n σ v1 v2 v3 → GW κ 0 0 (gW cy A σ) 36 [(0, .ref (A 18)), (1, .int v1), (2, .int v2), (3, .int v3)] [] := by
    intro n
    induction n with
    | zero => intro σ v1 v2 v3 hw; exact hw.elim
    | succ n ih =>
      intro σ v1 v2 v3 hw
      rw [wX12_soonestNow_36] at hw
      refine g_iload_n C 3 rfl rfl dX12_soonestNow_36 ?_
      refine g_bipush (v := (12 : Int32)) C dX12_soonestNow_37 (by decide) ?_
      refine g_icmp_gt C 98 (by decide) hw dX12_soonestNow_39 (fun hw => ?_) (fun hw => ?_)
      · refine g_iconst (v := (-1 : Int32)) C dX12_soonestNow_98 (by decide) ?_
        exact gq_I C F (by decide) (by decide) hw dX12_soonestNow_99
      · refine g_aload_n C 0 rfl rfl dX12_soonestNow_42 ?_
        refine g_iload_n C 1 rfl rfl dX12_soonestNow_43 ?_
        refine g_aload_n C 0 rfl rfl dX12_soonestNow_44 ?_
        refine g_get C hK inX12 rfl 18 (ga_18 cy A _) 8 (by decide) (fun _ h => h) wt_593 rfl dX12_soonestNow_45 ?_
        refine g_iload_n C 3 rfl rfl dX12_soonestNow_48 ?_
        refine g_iadd C dX12_soonestNow_49 ?_
        refine gc_I C (gr_V (As := [.int v1, .int ((σ.1 18 8) + v3)]) (rest := []) C hK 2 (gd_V wt_739 wt_740 wt_861 wt_8 wt_741) rfl rfl rfl ⟨rfl, hs_X12_firstBy⟩ ⟨⟨Nat.le_of_ble_eq_true rfl, Nat.le_of_ble_eq_true rfl⟩, Nat.le_of_ble_eq_true rfl, Nat.le_of_ble_eq_true rfl⟩ rfl 18 (ga_18 cy A _) rfl rfl (Nat.le_of_ble_eq_true rfl) dX12_soonestNow_50 (c_X12_firstBy (q_l κ) (q_D κ) cy A hw)) (fun r2 σ1 hw => ?_)
        refine g_istore C [(4, .int r2), (0, .ref (A 18)), (1, .int v1), (2, .int v2), (3, .int v3)] F.2.2.2.1 (by decide) rfl dX12_soonestNow_53 ?_
        refine g_iload C 0 rfl dX12_soonestNow_55 ?_
        refine g_iconst (v := (-1 : Int32)) C dX12_soonestNow_57 (by decide) ?_
        refine g_icmp_eq C 80 (by decide) hw dX12_soonestNow_58 (fun hw => ?_) (fun hw => ?_)
        · refine g_aload_n C 1 rfl rfl dX12_soonestNow_80 ?_
          refine g_aload_n C 1 rfl rfl dX12_soonestNow_81 ?_
          refine g_get C hK inX12 rfl 18 (ga_18 cy A _) 8 (by decide) (fun _ h => h) wt_593 rfl dX12_soonestNow_82 ?_
          refine g_iload_n C 4 rfl rfl dX12_soonestNow_85 ?_
          refine g_iadd C dX12_soonestNow_86 ?_
          refine g_iconst (v := (1 : Int32)) C dX12_soonestNow_87 (by decide) ?_
          refine g_iadd C dX12_soonestNow_88 ?_
          refine gc_V C (gr_V (As := [.int (((σ1.1 18 8) + v3) + (1 : Int32))]) (rest := []) C hK 1 (gd_V wt_742 wt_743 wt_862 wt_8 wt_744) rfl rfl rfl ⟨rfl, hs_X12_goLengths⟩ ⟨⟨Nat.le_of_ble_eq_true rfl, Nat.le_of_ble_eq_true rfl⟩, Nat.le_of_ble_eq_true rfl, Nat.le_of_ble_eq_true rfl⟩ rfl 18 (ga_18 cy A _) rfl rfl (Nat.le_of_ble_eq_true rfl) dX12_soonestNow_89 (c_X12_goLengths (q_l κ) (q_D κ) cy A hw)) (fun σ3 hw => ?_)
          refine g_iinc (j := 4) C [(3, .int (v3 + 1)), (4, .int r2), (0, .ref (A 18)), (1, .int v1), (2, .int v2)] F.2.2.2.1 rfl rfl (by decide) rfl dX12_soonestNow_92 ?_
          refine g_goto C 36 (by decide) dX12_soonestNow_95 ?_
          refine g_eql (lv' := [(0, .ref (A 18)), (1, .int v1), (2, .int v2), (3, .int (v3 + 1))]) [2, 3, 4, 0] rfl ?_
          exact ih σ3 v1 v2 (v3 + 1) hw
        · refine g_iload_n C 3 rfl rfl dX12_soonestNow_61 ?_
          refine g_if_ne C 69 (by decide) hw dX12_soonestNow_62 (fun hw => ?_) (fun hw => ?_)
          · refine g_iload_n C 4 rfl rfl dX12_soonestNow_69 ?_
            refine g_if_ne C 77 (by decide) hw dX12_soonestNow_70 (fun hw => ?_) (fun hw => ?_)
            · refine g_iload C 0 rfl dX12_soonestNow_77 ?_
              exact gq_I C F (by decide) (by decide) hw dX12_soonestNow_79
            · refine g_iconst (v := (-1 : Int32)) C dX12_soonestNow_73 (by decide) ?_
              refine g_goto C 79 (by decide) dX12_soonestNow_74 ?_
              exact gq_I C F (by decide) (by decide) hw dX12_soonestNow_79
          · refine g_iload_n C 4 rfl rfl dX12_soonestNow_65 ?_
            refine g_goto C 79 (by decide) dX12_soonestNow_66 ?_
            exact gq_I C F (by decide) (by decide) hw dX12_soonestNow_79
  have J27 : ∀ (K2 : St → Int32 → Int32 → Int32 → Prop) (_ : ∀ (σ : St) (v1 : Int32) (v2 : Int32) (v3 : Int32), K2 σ v1 v2 v3 → GW κ 0 0 (gW cy A σ) 2 [(0, .ref (A 18)), (1, .int v1), (2, .int v2), (3, .int v3)] []), ∀ (σ : St) (v1 : Int32) (v2 : Int32) (v3 : Int32) (s0 : Int32) (s1 : Int32), wX12_soonestNow_27 K2 Φ σ v1 v2 v3 s0 s1 → GW κ 0 0 (gW cy A σ) 27 [(0, .ref (A 18)), (1, .int v1), (2, .int v2), (3, .int v3)] [.int s0, .int s1, .ref (A 26)] := by
    intro K2 hK2 σ v1 v2 v3 s0 s1 hw
    unfold wX12_soonestNow_27 at hw
    refine g_iast C hK 26 2 (ga_26 cy A _) rfl hw.1 (gs_26 cy A _ _ _) dX12_soonestNow_27 ?_
    replace hw := hw.2
    refine g_iinc (j := 3) C [(3, .int (v3 + 1)), (0, .ref (A 18)), (1, .int v1), (2, .int v2)] F.2.2.2.1 rfl rfl (by decide) rfl dX12_soonestNow_28 ?_
    refine g_goto C 2 (by decide) dX12_soonestNow_31 ?_
    refine g_eql (lv' := [(0, .ref (A 18)), (1, .int v1), (2, .int v2), (3, .int (v3 + 1))]) [1, 2, 3, 0] rfl ?_
    exact hK2 (sV σ 26 s1.toNatClampNeg s0) v1 v2 (v3 + 1) hw
  have J2 : ∀ (n : Nat) (σ : St) (v1 : Int32) (v2 : Int32) (v3 : Int32), wX12_soonestNow_2 Φ n σ v1 v2 v3 → GW κ 0 0 (gW cy A σ) 2 [(0, .ref (A 18)), (1, .int v1), (2, .int v2), (3, .int v3)] [] := by
    intro n
    induction n with
    | zero => intro σ v1 v2 v3 hw; exact hw.elim
    | succ n ih =>
      intro σ v1 v2 v3 hw
      rw [wX12_soonestNow_2] at hw
      refine g_iload_n C 3 rfl rfl dX12_soonestNow_2 ?_
      refine g_bipush (v := (40 : Int32)) C dX12_soonestNow_3 (by decide) ?_
      refine g_icmp_gt C 34 (by decide) hw dX12_soonestNow_5 (fun hw => ?_) (fun hw => ?_)
      · refine g_iconst (v := (0 : Int32)) C dX12_soonestNow_34 (by decide) ?_
        refine g_istore_n C [(3, .int (0 : Int32)), (0, .ref (A 18)), (1, .int v1), (2, .int v2)] F.2.2.2.1 rfl (by decide) rfl dX12_soonestNow_35 ?_
        refine g_eql (lv' := [(0, .ref (A 18)), (1, .int v1), (2, .int v2), (3, .int (0 : Int32))]) [1, 2, 3, 0] rfl ?_
        obtain ⟨n0, hw⟩ := hw
        exact J36 n0 σ v1 v2 (0 : Int32) hw
      · refine g_aload_n C 0 rfl rfl dX12_soonestNow_8 ?_
        refine g_get C hK inX12 rfl 18 (ga_18 cy A _) 27 (by decide) (fun _ h => h) wt_612 rfl dX12_soonestNow_9 ?_
        refine g_iload_n C 3 rfl rfl dX12_soonestNow_12 ?_
        refine g_iload_n C 3 rfl rfl dX12_soonestNow_13 ?_
        refine g_aload_n C 0 rfl rfl dX12_soonestNow_14 ?_
        refine g_get C hK inX12 rfl 18 (ga_18 cy A _) 2 (by decide) (fun _ h => h) wt_587 rfl dX12_soonestNow_15 ?_
        refine g_icmp_ne C 26 (by decide) hw dX12_soonestNow_18 (fun hw => ?_) (fun hw => ?_)
        · refine g_iconst (v := (-1 : Int32)) C dX12_soonestNow_26 (by decide) ?_
          exact J27 _ ih σ v1 v2 v3 (-1 : Int32) v3 hw
        · refine g_bipush (v := (9 : Int32)) C dX12_soonestNow_21 (by decide) ?_
          refine g_goto C 27 (by decide) dX12_soonestNow_23 ?_
          exact J27 _ ih σ v1 v2 v3 (9 : Int32) v3 hw
  unfold wX12_soonestNow at hw
  refine g_iconst (v := (0 : Int32)) C dX12_soonestNow_0 (by decide) ?_
  refine g_istore_n C [(3, .int (0 : Int32)), (0, .ref (A 18)), (1, .int v1), (2, .int v2)] F.2.2.2.1 rfl (by decide) rfl dX12_soonestNow_1 ?_
  refine g_eql (lv' := [(0, .ref (A 18)), (1, .int v1), (2, .int v2), (3, .int (0 : Int32))]) [1, 2, 3, 0] rfl ?_
  obtain ⟨n0, hw⟩ := hw
  exact J2 n0 σ v1 v2 (0 : Int32) hw
set_option maxHeartbeats 4000000 in
set_option maxRecDepth 100000 in
theorem c_X12_soonest (l : Launch) (D : va_G) (cy : Nat → ClassId) (A : Nat → Nat) {σ : St} {v1 : Int32} {v2 : Int32} {Φ : Int32 → St → Prop} (hw : wX12_soonest σ v1 v2 Φ) : CtI l yX12_soonest (.code yX12_soonest cX12_soonest 3 (some .int) :: gL) rm_X12_soonest 0 0 [.ref (A 18), .int v1, .int v2] D cy A σ Φ := by
  refine ct_any (fun sz => va_Qi Φ (HE D cy A (gZ cy A σ sz)) (gZ cy A σ sz)) (by decide +kernel) rfl rfl [(0, .ref (A 18)), (1, .int v1), (2, .int v2)] rfl (Nat.le_of_ble_eq_true rfl) ?_
  intro κ hκl hnm C hK sz F
  subst hκl
  unfold wX12_soonest at hw
  refine g_iload_n C 1 rfl rfl dX12_soonest_0 ?_
  refine g_iconst (v := (1 : Int32)) C dX12_soonest_1 (by decide) ?_
  refine g_sipush (v := (9999 : Int32)) C dX12_soonest_2 (by decide) ?_
  refine gc_I C (gr_S (As := [.int v1, .int (1 : Int32), .int (9999 : Int32)]) (rest := []) C hK 3 (gd_S wt_645 wt_646 wt_8 wt_647) rfl rfl rfl hs_X12_within ⟨⟨Nat.le_of_ble_eq_true rfl, Nat.le_of_ble_eq_true rfl⟩, Nat.le_of_ble_eq_true rfl, Nat.le_of_ble_eq_true rfl⟩ rfl rfl (Nat.le_of_ble_eq_true rfl) dX12_soonest_5 (c_X12_within (q_l κ) (q_D κ) cy A hw)) (fun r2 σ1 hw => ?_)
  refine g_if_eq C 20 (by decide) hw dX12_soonest_8 (fun hw => ?_) (fun hw => ?_)
  · refine g_bipush (v := (-102 : Int32)) C dX12_soonest_20 (by decide) ?_
    exact gq_I C F (by decide) (by decide) hw dX12_soonest_22
  · refine g_iload_n C 2 rfl rfl dX12_soonest_11 ?_
    refine g_iconst (v := (0 : Int32)) C dX12_soonest_12 (by decide) ?_
    refine g_iconst (v := (1 : Int32)) C dX12_soonest_13 (by decide) ?_
    refine gc_I C (gr_S (As := [.int v2, .int (0 : Int32), .int (1 : Int32)]) (rest := []) C hK 3 (gd_S wt_645 wt_646 wt_8 wt_647) rfl rfl rfl hs_X12_within ⟨⟨Nat.le_of_ble_eq_true rfl, Nat.le_of_ble_eq_true rfl⟩, Nat.le_of_ble_eq_true rfl, Nat.le_of_ble_eq_true rfl⟩ rfl rfl (Nat.le_of_ble_eq_true rfl) dX12_soonest_14 (c_X12_within (q_l κ) (q_D κ) cy A hw)) (fun r4 σ3 hw => ?_)
    refine g_if_ne C 23 (by decide) hw dX12_soonest_17 (fun hw => ?_) (fun hw => ?_)
    · refine g_aload_n C 0 rfl rfl dX12_soonest_23 ?_
      refine g_get C hK inX12 rfl 18 (ga_18 cy A _) 0 (by decide) (fun _ h => h) wt_585 rfl dX12_soonest_24 ?_
      refine g_if_eq C 46 (by decide) hw dX12_soonest_27 (fun hw => ?_) (fun hw => ?_)
      · refine g_bipush (v := (-103 : Int32)) C dX12_soonest_46 (by decide) ?_
        exact gq_I C F (by decide) (by decide) hw dX12_soonest_48
      · refine g_aload_n C 0 rfl rfl dX12_soonest_30 ?_
        refine g_get C hK inX12 rfl 18 (ga_18 cy A _) 6 (by decide) (fun _ h => h) wt_591 rfl dX12_soonest_31 ?_
        refine g_if_ne C 46 (by decide) hw dX12_soonest_34 (fun hw => ?_) (fun hw => ?_)
        · refine g_bipush (v := (-103 : Int32)) C dX12_soonest_46 (by decide) ?_
          exact gq_I C F (by decide) (by decide) hw dX12_soonest_48
        · refine g_aload_n C 0 rfl rfl dX12_soonest_37 ?_
          refine g_iload_n C 1 rfl rfl dX12_soonest_38 ?_
          refine g_iload_n C 2 rfl rfl dX12_soonest_39 ?_
          refine gc_I C (gr_V (As := [.int v1, .int v2]) (rest := []) C hK 2 (gd_V wt_736 wt_737 wt_860 wt_8 wt_738) rfl rfl rfl ⟨rfl, hs_X12_soonestNow⟩ ⟨⟨Nat.le_of_ble_eq_true rfl, Nat.le_of_ble_eq_true rfl⟩, Nat.le_of_ble_eq_true rfl, Nat.le_of_ble_eq_true rfl⟩ rfl 18 (ga_18 cy A _) rfl rfl (Nat.le_of_ble_eq_true rfl) dX12_soonest_40 (c_X12_soonestNow (q_l κ) (q_D κ) cy A hw)) (fun r6 σ5 hw => ?_)
          refine g_goto C 48 (by decide) dX12_soonest_43 ?_
          exact gq_I C F (by decide) (by decide) hw dX12_soonest_48
    · refine g_bipush (v := (-102 : Int32)) C dX12_soonest_20 (by decide) ?_
      exact gq_I C F (by decide) (by decide) hw dX12_soonest_22
set_option maxHeartbeats 4000000 in
set_option maxRecDepth 100000 in
theorem c_X12_caughtNow (l : Launch) (D : va_G) (cy : Nat → ClassId) (A : Nat → Nat) {σ : St} {v1 : Int32} {Φ : Int32 → St → Prop} (hw : wX12_caughtNow σ v1 Φ) : CtI l yX12_caughtNow (.code yX12_caughtNow cX12_caughtNow 7 (some .int) :: gL) rm_X12_caughtNow 0 0 [.ref (A 18), .int v1] D cy A σ Φ := by
  refine ct_any (fun sz => va_Qi Φ (HE D cy A (gZ cy A σ sz)) (gZ cy A σ sz)) (by decide +kernel) rfl rfl [(0, .ref (A 18)), (1, .int v1)] rfl (Nat.le_of_ble_eq_true rfl) ?_
  intro κ hκl hnm C hK sz F
  subst hκl
  have J87 : ∀ (K31 : St → Int32 → Int32 → Int32 → Prop) (_ : ∀ (σ : St) (v2 : Int32) (v3 : Int32) (v4 : Int32), K31 σ v2 v3 v4 → GW κ 0 0 (gW cy A σ) 31 [(0, .ref (A 18)), (2, .int v2), (3, .int v3), (4, .int v4)] []), ∀ (σ : St) (v2 : Int32) (v3 : Int32) (v4 : Int32) (s0 : Int32), wX12_caughtNow_87 K31 Φ σ v2 v3 v4 s0 → GW κ 0 0 (gW cy A σ) 87 [(0, .ref (A 18)), (2, .int v2), (3, .int v3), (4, .int v4)] [.int s0] := by
    intro K31 hK31 σ v2 v3 v4 s0 hw
    unfold wX12_caughtNow_87 at hw
    refine g_istore C [(6, .int s0), (0, .ref (A 18)), (2, .int v2), (3, .int v3), (4, .int v4)] F.2.2.2.1 (by decide) rfl dX12_caughtNow_87 ?_
    refine g_iload C 0 rfl dX12_caughtNow_89 ?_
    refine g_iconst (v := (5 : Int32)) C dX12_caughtNow_91 (by decide) ?_
    refine g_icmp_gt C 98 (by decide) hw dX12_caughtNow_92 (fun hw => ?_) (fun hw => ?_)
    · refine g_iinc (j := 4) C [(4, .int (v4 + 1)), (6, .int s0), (0, .ref (A 18)), (2, .int v2), (3, .int v3)] F.2.2.2.1 rfl rfl (by decide) rfl dX12_caughtNow_98 ?_
      refine g_goto C 31 (by decide) dX12_caughtNow_101 ?_
      refine g_eql (lv' := [(0, .ref (A 18)), (2, .int v2), (3, .int v3), (4, .int (v4 + 1))]) [2, 3, 4, 0] rfl ?_
      exact hK31 σ v2 v3 (v4 + 1) hw
    · refine g_iload C 4 rfl dX12_caughtNow_95 ?_
      exact gq_I C F (by decide) (by decide) hw dX12_caughtNow_97
  have J31 : ∀ (n : Nat) (σ : St) (v2 : Int32) (v3 : Int32) (v4 : Int32), wX12_caughtNow_31 Φ n σ v2 v3 v4 → GW κ 0 0 (gW cy A σ) 31 [(0, .ref (A 18)), (2, .int v2), (3, .int v3), (4, .int v4)] [] := by
    intro n
    induction n with
    | zero => intro σ v2 v3 v4 hw; exact hw.elim
    | succ n ih =>
      intro σ v2 v3 v4 hw
      rw [wX12_caughtNow_31] at hw
      refine g_iload C 3 rfl dX12_caughtNow_31 ?_
      refine g_bipush (v := (99 : Int32)) C dX12_caughtNow_33 (by decide) ?_
      refine g_icmp_ge C 104 (by decide) hw dX12_caughtNow_35 (fun hw => ?_) (fun hw => ?_)
      · refine g_iconst (v := (-1 : Int32)) C dX12_caughtNow_104 (by decide) ?_
        exact gq_I C F (by decide) (by decide) hw dX12_caughtNow_105
      · refine g_aload_n C 0 rfl rfl dX12_caughtNow_38 ?_
        refine g_get C hK inX12 rfl 18 (ga_18 cy A _) 7 (by decide) (fun _ h => h) wt_592 rfl dX12_caughtNow_39 ?_
        refine g_bipush (v := (10 : Int32)) C dX12_caughtNow_42 (by decide) ?_
        refine g_iload_n C 1 rfl rfl dX12_caughtNow_44 ?_
        refine g_imul C dX12_caughtNow_45 ?_
        refine g_iload C 3 rfl dX12_caughtNow_46 ?_
        refine g_imul C dX12_caughtNow_48 ?_
        refine g_iadd C dX12_caughtNow_49 ?_
        refine g_sipush (v := (360 : Int32)) C dX12_caughtNow_50 (by decide) ?_
        refine g_irem C hw.1 dX12_caughtNow_53 ?_
        replace hw := hw.2
        refine g_istore C [(5, .int (((σ.1 18 7) + (((10 : Int32) * v2) * v4)) - ((σ.1 18 7) + (((10 : Int32) * v2) * v4)) / (360 : Int32) * (360 : Int32))), (0, .ref (A 18)), (2, .int v2), (3, .int v3), (4, .int v4)] F.2.2.2.1 (by decide) rfl dX12_caughtNow_54 ?_
        refine g_iload C 0 rfl dX12_caughtNow_56 ?_
        refine g_iload_n C 3 rfl rfl dX12_caughtNow_58 ?_
        refine g_isub C dX12_caughtNow_59 ?_
        refine gc_I C (gr_S (As := [.int ((((σ.1 18 7) + (((10 : Int32) * v2) * v4)) - ((σ.1 18 7) + (((10 : Int32) * v2) * v4)) / (360 : Int32) * (360 : Int32)) - v3)]) (rest := []) C hK 1 (gd_S wt_729 wt_730 wt_8 wt_731) rfl rfl rfl hs_X12_sized ⟨⟨Nat.le_of_ble_eq_true rfl, Nat.le_of_ble_eq_true rfl⟩, Nat.le_of_ble_eq_true rfl, Nat.le_of_ble_eq_true rfl⟩ rfl rfl (Nat.le_of_ble_eq_true rfl) dX12_caughtNow_60 (c_X12_sized (q_l κ) (q_D κ) cy A hw)) (fun r4 σ3 hw => ?_)
        refine g_istore C [(6, .int r4), (5, .int (((σ.1 18 7) + (((10 : Int32) * v2) * v4)) - ((σ.1 18 7) + (((10 : Int32) * v2) * v4)) / (360 : Int32) * (360 : Int32))), (0, .ref (A 18)), (2, .int v2), (3, .int v3), (4, .int v4)] F.2.2.2.1 (by decide) rfl dX12_caughtNow_63 ?_
        refine g_iload C 0 rfl dX12_caughtNow_65 ?_
        refine g_sipush (v := (360 : Int32)) C dX12_caughtNow_67 (by decide) ?_
        refine g_iload C 0 rfl dX12_caughtNow_70 ?_
        refine g_isub C dX12_caughtNow_72 ?_
        refine g_icmp_le C 85 (by decide) hw dX12_caughtNow_73 (fun hw => ?_) (fun hw => ?_)
        · refine g_iload C 0 rfl dX12_caughtNow_85 ?_
          refine g_eql (lv' := [(0, .ref (A 18)), (2, .int v2), (3, .int v3), (4, .int v4)]) [2, 3, 4, 5] rfl ?_
          exact J87 _ ih σ3 v2 v3 v4 r4 hw
        · refine g_sipush (v := (360 : Int32)) C dX12_caughtNow_76 (by decide) ?_
          refine g_iload C 0 rfl dX12_caughtNow_79 ?_
          refine g_isub C dX12_caughtNow_81 ?_
          refine g_goto C 87 (by decide) dX12_caughtNow_82 ?_
          refine g_eql (lv' := [(0, .ref (A 18)), (2, .int v2), (3, .int v3), (4, .int v4)]) [2, 3, 4, 5] rfl ?_
          exact J87 _ ih σ3 v2 v3 v4 ((360 : Int32) - r4) hw
  unfold wX12_caughtNow at hw
  refine g_aload_n C 0 rfl rfl dX12_caughtNow_0 ?_
  refine g_aload_n C 0 rfl rfl dX12_caughtNow_1 ?_
  refine g_get C hK inX12 rfl 18 (ga_18 cy A _) 2 (by decide) (fun _ h => h) wt_587 rfl dX12_caughtNow_2 ?_
  refine gc_I C (gr_V (As := [.int (σ.1 18 2)]) (rest := []) C hK 1 (gd_V wt_674 wt_675 wt_851 wt_8 wt_676) rfl rfl rfl ⟨rfl, hs_X12_turnsAt⟩ ⟨⟨Nat.le_of_ble_eq_true rfl, Nat.le_of_ble_eq_true rfl⟩, Nat.le_of_ble_eq_true rfl, Nat.le_of_ble_eq_true rfl⟩ rfl 18 (ga_18 cy A _) rfl rfl (Nat.le_of_ble_eq_true rfl) dX12_caughtNow_5 (c_X12_turnsAt (q_l κ) (q_D κ) cy A hw)) (fun r2 σ1 hw => ?_)
  refine g_istore_n C [(2, .int r2), (0, .ref (A 18)), (1, .int v1)] F.2.2.2.1 rfl (by decide) rfl dX12_caughtNow_8 ?_
  refine g_bipush (v := (90 : Int32)) C dX12_caughtNow_9 (by decide) ?_
  refine g_iload_n C 2 rfl rfl dX12_caughtNow_11 ?_
  refine g_iload_n C 0 rfl rfl dX12_caughtNow_12 ?_
  refine g_imul C dX12_caughtNow_13 ?_
  refine g_isub C dX12_caughtNow_14 ?_
  refine g_sipush (v := (360 : Int32)) C dX12_caughtNow_15 (by decide) ?_
  refine g_irem C hw.1 dX12_caughtNow_18 ?_
  replace hw := hw.2
  refine g_sipush (v := (360 : Int32)) C dX12_caughtNow_19 (by decide) ?_
  refine g_iadd C dX12_caughtNow_22 ?_
  refine g_sipush (v := (360 : Int32)) C dX12_caughtNow_23 (by decide) ?_
  refine g_irem C hw.1 dX12_caughtNow_26 ?_
  replace hw := hw.2
  refine g_istore_n C [(3, .int (((((90 : Int32) - (v1 * r2)) - ((90 : Int32) - (v1 * r2)) / (360 : Int32) * (360 : Int32)) + (360 : Int32)) - ((((90 : Int32) - (v1 * r2)) - ((90 : Int32) - (v1 * r2)) / (360 : Int32) * (360 : Int32)) + (360 : Int32)) / (360 : Int32) * (360 : Int32))), (2, .int r2), (0, .ref (A 18)), (1, .int v1)] F.2.2.2.1 rfl (by decide) rfl dX12_caughtNow_27 ?_
  refine g_iconst (v := (0 : Int32)) C dX12_caughtNow_28 (by decide) ?_
  refine g_istore C [(4, .int (0 : Int32)), (3, .int (((((90 : Int32) - (v1 * r2)) - ((90 : Int32) - (v1 * r2)) / (360 : Int32) * (360 : Int32)) + (360 : Int32)) - ((((90 : Int32) - (v1 * r2)) - ((90 : Int32) - (v1 * r2)) / (360 : Int32) * (360 : Int32)) + (360 : Int32)) / (360 : Int32) * (360 : Int32))), (2, .int r2), (0, .ref (A 18)), (1, .int v1)] F.2.2.2.1 (by decide) rfl dX12_caughtNow_29 ?_
  refine g_eql (lv' := [(0, .ref (A 18)), (2, .int r2), (3, .int (((((90 : Int32) - (v1 * r2)) - ((90 : Int32) - (v1 * r2)) / (360 : Int32) * (360 : Int32)) + (360 : Int32)) - ((((90 : Int32) - (v1 * r2)) - ((90 : Int32) - (v1 * r2)) / (360 : Int32) * (360 : Int32)) + (360 : Int32)) / (360 : Int32) * (360 : Int32))), (4, .int (0 : Int32))]) [3, 2, 1, 0] rfl ?_
  obtain ⟨n0, hw⟩ := hw
  exact J31 n0 σ1 r2 (((((90 : Int32) - (v1 * r2)) - ((90 : Int32) - (v1 * r2)) / (360 : Int32) * (360 : Int32)) + (360 : Int32)) - ((((90 : Int32) - (v1 * r2)) - ((90 : Int32) - (v1 * r2)) / (360 : Int32) * (360 : Int32)) + (360 : Int32)) / (360 : Int32) * (360 : Int32)) (0 : Int32) hw
set_option maxHeartbeats 4000000 in
set_option maxRecDepth 100000 in
theorem c_X12_caught (l : Launch) (D : va_G) (cy : Nat → ClassId) (A : Nat → Nat) {σ : St} {v1 : Int32} {Φ : Int32 → St → Prop} (hw : wX12_caught σ v1 Φ) : CtI l yX12_caught (.code yX12_caught cX12_caught 2 (some .int) :: gL) rm_X12_caught 0 0 [.ref (A 18), .int v1] D cy A σ Φ := by
  refine ct_any (fun sz => va_Qi Φ (HE D cy A (gZ cy A σ sz)) (gZ cy A σ sz)) (by decide +kernel) rfl rfl [(0, .ref (A 18)), (1, .int v1)] rfl (Nat.le_of_ble_eq_true rfl) ?_
  intro κ hκl hnm C hK sz F
  subst hκl
  unfold wX12_caught at hw
  refine g_iload_n C 1 rfl rfl dX12_caught_0 ?_
  refine g_iconst (v := (1 : Int32)) C dX12_caught_1 (by decide) ?_
  refine g_bipush (v := (99 : Int32)) C dX12_caught_2 (by decide) ?_
  refine gc_I C (gr_S (As := [.int v1, .int (1 : Int32), .int (99 : Int32)]) (rest := []) C hK 3 (gd_S wt_645 wt_646 wt_8 wt_647) rfl rfl rfl hs_X12_within ⟨⟨Nat.le_of_ble_eq_true rfl, Nat.le_of_ble_eq_true rfl⟩, Nat.le_of_ble_eq_true rfl, Nat.le_of_ble_eq_true rfl⟩ rfl rfl (Nat.le_of_ble_eq_true rfl) dX12_caught_4 (c_X12_within (q_l κ) (q_D κ) cy A hw)) (fun r2 σ1 hw => ?_)
  refine g_if_ne C 13 (by decide) hw dX12_caught_7 (fun hw => ?_) (fun hw => ?_)
  · refine g_aload_n C 0 rfl rfl dX12_caught_13 ?_
    refine g_get C hK inX12 rfl 18 (ga_18 cy A _) 0 (by decide) (fun _ h => h) wt_585 rfl dX12_caught_14 ?_
    refine g_if_eq C 35 (by decide) hw dX12_caught_17 (fun hw => ?_) (fun hw => ?_)
    · refine g_bipush (v := (-103 : Int32)) C dX12_caught_35 (by decide) ?_
      exact gq_I C F (by decide) (by decide) hw dX12_caught_37
    · refine g_aload_n C 0 rfl rfl dX12_caught_20 ?_
      refine g_get C hK inX12 rfl 18 (ga_18 cy A _) 6 (by decide) (fun _ h => h) wt_591 rfl dX12_caught_21 ?_
      refine g_if_ne C 35 (by decide) hw dX12_caught_24 (fun hw => ?_) (fun hw => ?_)
      · refine g_bipush (v := (-103 : Int32)) C dX12_caught_35 (by decide) ?_
        exact gq_I C F (by decide) (by decide) hw dX12_caught_37
      · refine g_aload_n C 0 rfl rfl dX12_caught_27 ?_
        refine g_iload_n C 1 rfl rfl dX12_caught_28 ?_
        refine gc_I C (gr_V (As := [.int v1]) (rest := []) C hK 1 (gd_V wt_752 wt_753 wt_863 wt_8 wt_754) rfl rfl rfl ⟨rfl, hs_X12_caughtNow⟩ ⟨⟨Nat.le_of_ble_eq_true rfl, Nat.le_of_ble_eq_true rfl⟩, Nat.le_of_ble_eq_true rfl, Nat.le_of_ble_eq_true rfl⟩ rfl 18 (ga_18 cy A _) rfl rfl (Nat.le_of_ble_eq_true rfl) dX12_caught_29 (c_X12_caughtNow (q_l κ) (q_D κ) cy A hw)) (fun r4 σ3 hw => ?_)
        refine g_goto C 37 (by decide) dX12_caught_32 ?_
        exact gq_I C F (by decide) (by decide) hw dX12_caught_37
  · refine g_bipush (v := (-102 : Int32)) C dX12_caught_10 (by decide) ?_
    exact gq_I C F (by decide) (by decide) hw dX12_caught_12
set_option maxHeartbeats 4000000 in
set_option maxRecDepth 100000 in
theorem c_X12_weighed (l : Launch) (D : va_G) (cy : Nat → ClassId) (A : Nat → Nat) {σ : St} {v1 : Int32} {v2 : Int32} {Φ : Int32 → St → Prop} (hw : wX12_weighed σ v1 v2 Φ) : CtI l yX12_weighed (.code yX12_weighed cX12_weighed 3 (some .int) :: gL) rm_X12_weighed 0 0 [.ref (A 18), .int v1, .int v2] D cy A σ Φ := by
  refine ct_any (fun sz => va_Qi Φ (HE D cy A (gZ cy A σ sz)) (gZ cy A σ sz)) (by decide +kernel) rfl rfl [(0, .ref (A 18)), (1, .int v1), (2, .int v2)] rfl (Nat.le_of_ble_eq_true rfl) ?_
  intro κ hκl hnm C hK sz F
  subst hκl
  unfold wX12_weighed at hw
  refine g_iload_n C 1 rfl rfl dX12_weighed_0 ?_
  refine gc_I C (gr_S (As := [.int v1]) (rest := []) C hK 1 (gd_S wt_759 wt_760 wt_8 wt_761) rfl rfl rfl hs_X12_isLength ⟨⟨Nat.le_of_ble_eq_true rfl, Nat.le_of_ble_eq_true rfl⟩, Nat.le_of_ble_eq_true rfl, Nat.le_of_ble_eq_true rfl⟩ rfl rfl (Nat.le_of_ble_eq_true rfl) dX12_weighed_1 (c_X12_isLength (q_l κ) (q_D κ) cy A hw)) (fun r2 σ1 hw => ?_)
  refine g_if_eq C 17 (by decide) hw dX12_weighed_4 (fun hw => ?_) (fun hw => ?_)
  · refine g_bipush (v := (-102 : Int32)) C dX12_weighed_17 (by decide) ?_
    exact gq_I C F (by decide) (by decide) hw dX12_weighed_19
  · refine g_iload_n C 2 rfl rfl dX12_weighed_7 ?_
    refine g_iconst (v := (0 : Int32)) C dX12_weighed_8 (by decide) ?_
    refine g_bipush (v := (99 : Int32)) C dX12_weighed_9 (by decide) ?_
    refine gc_I C (gr_S (As := [.int v2, .int (0 : Int32), .int (99 : Int32)]) (rest := []) C hK 3 (gd_S wt_645 wt_646 wt_8 wt_647) rfl rfl rfl hs_X12_within ⟨⟨Nat.le_of_ble_eq_true rfl, Nat.le_of_ble_eq_true rfl⟩, Nat.le_of_ble_eq_true rfl, Nat.le_of_ble_eq_true rfl⟩ rfl rfl (Nat.le_of_ble_eq_true rfl) dX12_weighed_11 (c_X12_within (q_l κ) (q_D κ) cy A hw)) (fun r4 σ3 hw => ?_)
    refine g_if_ne C 20 (by decide) hw dX12_weighed_14 (fun hw => ?_) (fun hw => ?_)
    · refine g_aload_n C 0 rfl rfl dX12_weighed_20 ?_
      refine g_get C hK inX12 rfl 18 (ga_18 cy A _) 0 (by decide) (fun _ h => h) wt_585 rfl dX12_weighed_21 ?_
      refine g_if_ne C 30 (by decide) hw dX12_weighed_24 (fun hw => ?_) (fun hw => ?_)
      · refine g_aload_n C 0 rfl rfl dX12_weighed_30 ?_
        refine g_get C hK inX12 rfl 18 (ga_18 cy A _) 14 (by decide) (fun _ h => h) wt_599 rfl dX12_weighed_31 ?_
        refine g_bipush (v := (6 : Int32)) C dX12_weighed_34 (by decide) ?_
        refine g_icmp_ne C 42 (by decide) hw dX12_weighed_36 (fun hw => ?_) (fun hw => ?_)
        · refine g_aload_n C 0 rfl rfl dX12_weighed_42 ?_
          refine g_get C hK inX12 rfl 18 (ga_18 cy A _) 15 (by decide) (fun _ h => h) wt_600 rfl dX12_weighed_43 ?_
          refine g_aload_n C 0 rfl rfl dX12_weighed_46 ?_
          refine g_get C hK inX12 rfl 18 (ga_18 cy A _) 14 (by decide) (fun _ h => h) wt_599 rfl dX12_weighed_47 ?_
          refine g_iload_n C 1 rfl rfl dX12_weighed_50 ?_
          refine g_iast C hK 23 2 (ga_23 cy A _) rfl hw.1 (gs_23 cy A _ _ _) dX12_weighed_51 ?_
          replace hw := hw.2
          refine g_aload_n C 0 rfl rfl dX12_weighed_52 ?_
          refine g_get C hK inX12 rfl 18 (ga_18 cy A _) 16 (by decide) (fun _ h => h) wt_601 rfl dX12_weighed_53 ?_
          refine g_aload_n C 0 rfl rfl dX12_weighed_56 ?_
          refine g_get C hK inX12 rfl 18 (ga_18 cy A _) 14 (by decide) (fun _ h => h) wt_599 rfl dX12_weighed_57 ?_
          refine g_iload_n C 2 rfl rfl dX12_weighed_60 ?_
          refine g_iast C hK 24 2 (ga_24 cy A _) rfl hw.1 (gs_24 cy A _ _ _) dX12_weighed_61 ?_
          replace hw := hw.2
          refine g_aload_n C 0 rfl rfl dX12_weighed_62 ?_
          refine g_dup C rfl dX12_weighed_63 ?_
          refine g_get C hK inX12 rfl 18 (ga_18 cy A _) 14 (by decide) (fun _ h => h) wt_599 rfl dX12_weighed_64 ?_
          refine g_iconst (v := (1 : Int32)) C dX12_weighed_67 (by decide) ?_
          refine g_iadd C dX12_weighed_68 ?_
          refine g_put (v := .int (((sV (sV σ3 23 (σ3.1 18 14).toNatClampNeg v1) 24 ((sV σ3 23 (σ3.1 18 14).toNatClampNeg v1).1 18 14).toNatClampNeg v2).1 18 14) + (1 : Int32))) C hK inX12 rfl tyX12 tyX12_ok nmX12 18 (ga_18 cy A _) 14 (by decide) (fun _ h => h) wt_599 rfl rfl rfl (Nat.le_of_ble_eq_true rfl) (gp_18_14 cy A _ _) dX12_weighed_69 ?_
          refine g_aload_n C 0 rfl rfl dX12_weighed_72 ?_
          refine g_get C hK inX12 rfl 18 (ga_18 cy A _) 14 (by decide) (fun _ h => h) wt_599 rfl dX12_weighed_73 ?_
          exact gq_I C F (by decide) (by decide) hw dX12_weighed_76
        · refine g_bipush (v := (-104 : Int32)) C dX12_weighed_39 (by decide) ?_
          exact gq_I C F (by decide) (by decide) hw dX12_weighed_41
      · refine g_bipush (v := (-103 : Int32)) C dX12_weighed_27 (by decide) ?_
        exact gq_I C F (by decide) (by decide) hw dX12_weighed_29
    · refine g_bipush (v := (-102 : Int32)) C dX12_weighed_17 (by decide) ?_
      exact gq_I C F (by decide) (by decide) hw dX12_weighed_19
set_option maxHeartbeats 4000000 in
set_option maxRecDepth 100000 in
theorem c_X12_forget (l : Launch) (D : va_G) (cy : Nat → ClassId) (A : Nat → Nat) {σ : St} {Φ : Int32 → St → Prop} (hw : wX12_forget σ Φ) : CtI l yX12_forget (.code yX12_forget cX12_forget 2 (some .int) :: gL) rm_X12_forget 0 0 [.ref (A 18)] D cy A σ Φ := by
  refine ct_any (fun sz => va_Qi Φ (HE D cy A (gZ cy A σ sz)) (gZ cy A σ sz)) (by decide +kernel) rfl rfl [(0, .ref (A 18))] rfl (Nat.le_of_ble_eq_true rfl) ?_
  intro κ hκl hnm C hK sz F
  subst hκl
  unfold wX12_forget at hw
  refine g_aload_n C 0 rfl rfl dX12_forget_0 ?_
  refine g_get C hK inX12 rfl 18 (ga_18 cy A _) 14 (by decide) (fun _ h => h) wt_599 rfl dX12_forget_1 ?_
  refine g_istore_n C [(1, .int (σ.1 18 14)), (0, .ref (A 18))] F.2.2.2.1 rfl (by decide) rfl dX12_forget_4 ?_
  refine g_aload_n C 1 rfl rfl dX12_forget_5 ?_
  refine g_iconst (v := (0 : Int32)) C dX12_forget_6 (by decide) ?_
  refine g_put (v := .int (0 : Int32)) C hK inX12 rfl tyX12 tyX12_ok nmX12 18 (ga_18 cy A _) 14 (by decide) (fun _ h => h) wt_599 rfl rfl rfl (Nat.le_of_ble_eq_true rfl) (gp_18_14 cy A _ _) dX12_forget_7 ?_
  refine g_iload_n C 0 rfl rfl dX12_forget_10 ?_
  exact gq_I C F (by decide) (by decide) hw dX12_forget_11
set_option maxHeartbeats 4000000 in
set_option maxRecDepth 100000 in
theorem c_X12_fitsNow (l : Launch) (D : va_G) (cy : Nat → ClassId) (A : Nat → Nat) {σ : St} {v1 : Int32} {Φ : Int32 → St → Prop} (hw : wX12_fitsNow σ v1 Φ) : CtI l yX12_fitsNow (.code yX12_fitsNow cX12_fitsNow 8 (some .int) :: gL) rm_X12_fitsNow 0 0 [.ref (A 18), .int v1] D cy A σ Φ := by
  refine ct_any (fun sz => va_Qi Φ (HE D cy A (gZ cy A σ sz)) (gZ cy A σ sz)) (by decide +kernel) rfl rfl [(0, .ref (A 18)), (1, .int v1)] rfl (Nat.le_of_ble_eq_true rfl) ?_
  intro κ hκl hnm C hK sz F
  subst hκl
  have J121 : ∀ (K10 : St → Int32 → Int32 → Int32 → Int32 → Int32 → Prop) (_ : ∀ (σ : St) (v1 : Int32) (v2 : Int32) (v3 : Int32) (v4 : Int32) (v5 : Int32), K10 σ v1 v2 v3 v4 v5 → GW κ 0 0 (gW cy A σ) 10 [(0, .ref (A 18)), (1, .int v1), (2, .int v2), (3, .int v3), (4, .int v4), (5, .int v5)] []), ∀ (σ : St) (v1 : Int32) (v2 : Int32) (v3 : Int32) (v5 : Int32) (s0 : Int32), wX12_fitsNow_121 K10 Φ σ v1 v2 v3 v5 s0 → GW κ 0 0 (gW cy A σ) 121 [(0, .ref (A 18)), (1, .int v1), (2, .int v2), (3, .int v3), (5, .int v5)] [.int s0] := by
    intro K10 hK10 σ v1 v2 v3 v5 s0 hw
    unfold wX12_fitsNow_121 at hw
    refine g_istore C [(4, .int s0), (0, .ref (A 18)), (1, .int v1), (2, .int v2), (3, .int v3), (5, .int v5)] F.2.2.2.1 (by decide) rfl dX12_fitsNow_121 ?_
    refine g_iinc (j := 5) C [(5, .int (v5 + 1)), (4, .int s0), (0, .ref (A 18)), (1, .int v1), (2, .int v2), (3, .int v3)] F.2.2.2.1 rfl rfl (by decide) rfl dX12_fitsNow_123 ?_
    refine g_goto C 10 (by decide) dX12_fitsNow_126 ?_
    refine g_eql (lv' := [(0, .ref (A 18)), (1, .int v1), (2, .int v2), (3, .int v3), (4, .int s0), (5, .int (v5 + 1))]) [2, 3, 4, 5, 1, 0] rfl ?_
    exact hK10 σ v1 v2 v3 s0 (v5 + 1) hw
  have J108 : ∀ (K10 : St → Int32 → Int32 → Int32 → Int32 → Int32 → Prop) (_ : ∀ (σ : St) (v1 : Int32) (v2 : Int32) (v3 : Int32) (v4 : Int32) (v5 : Int32), K10 σ v1 v2 v3 v4 v5 → GW κ 0 0 (gW cy A σ) 10 [(0, .ref (A 18)), (1, .int v1), (2, .int v2), (3, .int v3), (4, .int v4), (5, .int v5)] []), ∀ (σ : St) (v1 : Int32) (v2 : Int32) (v4 : Int32) (v5 : Int32) (v6 : Int32) (s0 : Int32), wX12_fitsNow_108 K10 Φ σ v1 v2 v4 v5 v6 s0 → GW κ 0 0 (gW cy A σ) 108 [(0, .ref (A 18)), (1, .int v1), (2, .int v2), (4, .int v4), (5, .int v5), (6, .int v6)] [.int s0] := by
    intro K10 hK10 σ v1 v2 v4 v5 v6 s0 hw
    unfold wX12_fitsNow_108 at hw
    refine g_istore_n C [(3, .int s0), (0, .ref (A 18)), (1, .int v1), (2, .int v2), (4, .int v4), (5, .int v5), (6, .int v6)] F.2.2.2.1 rfl (by decide) rfl dX12_fitsNow_108 ?_
    refine g_iload C 6 rfl dX12_fitsNow_109 ?_
    refine g_if_eq C 119 (by decide) hw dX12_fitsNow_111 (fun hw => ?_) (fun hw => ?_)
    · refine g_iload C 4 rfl dX12_fitsNow_119 ?_
      refine g_eql (lv' := [(0, .ref (A 18)), (1, .int v1), (2, .int v2), (3, .int s0), (5, .int v5)]) [1, 2, 3, 0, 5] rfl ?_
      exact J121 _ hK10 σ v1 v2 s0 v5 v4 hw
    · refine g_iload C 5 rfl dX12_fitsNow_114 ?_
      refine g_goto C 121 (by decide) dX12_fitsNow_116 ?_
      refine g_eql (lv' := [(0, .ref (A 18)), (1, .int v1), (2, .int v2), (3, .int s0), (5, .int v5)]) [1, 2, 3, 0, 5] rfl ?_
      exact J121 _ hK10 σ v1 v2 s0 v5 v5 hw
  have J107 : ∀ (K10 : St → Int32 → Int32 → Int32 → Int32 → Int32 → Prop) (_ : ∀ (σ : St) (v1 : Int32) (v2 : Int32) (v3 : Int32) (v4 : Int32) (v5 : Int32), K10 σ v1 v2 v3 v4 v5 → GW κ 0 0 (gW cy A σ) 10 [(0, .ref (A 18)), (1, .int v1), (2, .int v2), (3, .int v3), (4, .int v4), (5, .int v5)] []), ∀ (σ : St) (v1 : Int32) (v2 : Int32) (v3 : Int32) (v4 : Int32) (v5 : Int32) (v6 : Int32), wX12_fitsNow_107 K10 Φ σ v1 v2 v3 v4 v5 v6 → GW κ 0 0 (gW cy A σ) 107 [(0, .ref (A 18)), (1, .int v1), (2, .int v2), (3, .int v3), (4, .int v4), (5, .int v5), (6, .int v6)] [] := by
    intro K10 hK10 σ v1 v2 v3 v4 v5 v6 hw
    unfold wX12_fitsNow_107 at hw
    refine g_iload_n C 3 rfl rfl dX12_fitsNow_107 ?_
    refine g_eql (lv' := [(0, .ref (A 18)), (1, .int v1), (2, .int v2), (4, .int v4), (5, .int v5), (6, .int v6)]) [0, 1, 2, 4, 5, 6] rfl ?_
    exact J108 _ hK10 σ v1 v2 v4 v5 v6 v3 hw
  have J90 : ∀ (K10 : St → Int32 → Int32 → Int32 → Int32 → Int32 → Prop) (_ : ∀ (σ : St) (v1 : Int32) (v2 : Int32) (v3 : Int32) (v4 : Int32) (v5 : Int32), K10 σ v1 v2 v3 v4 v5 → GW κ 0 0 (gW cy A σ) 10 [(0, .ref (A 18)), (1, .int v1), (2, .int v2), (3, .int v3), (4, .int v4), (5, .int v5)] []), ∀ (σ : St) (v1 : Int32) (v3 : Int32) (v4 : Int32) (v5 : Int32) (v6 : Int32) (s0 : Int32) (s1 : Int32), wX12_fitsNow_90 K10 Φ σ v1 v3 v4 v5 v6 s0 s1 → GW κ 0 0 (gW cy A σ) 90 [(0, .ref (A 18)), (1, .int v1), (3, .int v3), (4, .int v4), (5, .int v5), (6, .int v6)] [.int s0, .int s1] := by
    intro K10 hK10 σ v1 v3 v4 v5 v6 s0 s1 hw
    unfold wX12_fitsNow_90 at hw
    refine g_iadd C dX12_fitsNow_90 ?_
    refine g_istore_n C [(2, .int (s1 + s0)), (0, .ref (A 18)), (1, .int v1), (3, .int v3), (4, .int v4), (5, .int v5), (6, .int v6)] F.2.2.2.1 rfl (by decide) rfl dX12_fitsNow_91 ?_
    refine g_iload C 6 rfl dX12_fitsNow_92 ?_
    refine g_if_eq C 107 (by decide) hw dX12_fitsNow_94 (fun hw => ?_) (fun hw => ?_)
    · refine g_eql (lv' := [(0, .ref (A 18)), (1, .int v1), (2, .int (s1 + s0)), (3, .int v3), (4, .int v4), (5, .int v5), (6, .int v6)]) [1, 2, 0, 3, 4, 5, 6] rfl ?_
      exact J107 _ hK10 σ v1 (s1 + s0) v3 v4 v5 v6 hw
    · refine g_iload_n C 3 rfl rfl dX12_fitsNow_97 ?_
      refine g_iconst (v := (-1 : Int32)) C dX12_fitsNow_98 (by decide) ?_
      refine g_icmp_ne C 107 (by decide) hw dX12_fitsNow_99 (fun hw => ?_) (fun hw => ?_)
      · refine g_eql (lv' := [(0, .ref (A 18)), (1, .int v1), (2, .int (s1 + s0)), (3, .int v3), (4, .int v4), (5, .int v5), (6, .int v6)]) [1, 2, 0, 3, 4, 5, 6] rfl ?_
        exact J107 _ hK10 σ v1 (s1 + s0) v3 v4 v5 v6 hw
      · refine g_iload C 5 rfl dX12_fitsNow_102 ?_
        refine g_goto C 108 (by decide) dX12_fitsNow_104 ?_
        refine g_eql (lv' := [(0, .ref (A 18)), (1, .int v1), (2, .int (s1 + s0)), (4, .int v4), (5, .int v5), (6, .int v6)]) [1, 2, 0, 4, 5, 6] rfl ?_
        exact J108 _ hK10 σ v1 (s1 + s0) v4 v5 v6 v5 hw
  have J71 : ∀ (K10 : St → Int32 → Int32 → Int32 → Int32 → Int32 → Prop) (_ : ∀ (σ : St) (v1 : Int32) (v2 : Int32) (v3 : Int32) (v4 : Int32) (v5 : Int32), K10 σ v1 v2 v3 v4 v5 → GW κ 0 0 (gW cy A σ) 10 [(0, .ref (A 18)), (1, .int v1), (2, .int v2), (3, .int v3), (4, .int v4), (5, .int v5)] [])  (K24 : St → Int32 → Int32 → Int32 → Int32 → Int32 → Int32 → Int32 → Prop) (_ : ∀ (σ : St) (v1 : Int32) (v2 : Int32) (v3 : Int32) (v4 : Int32) (v5 : Int32) (v6 : Int32) (v7 : Int32), K24 σ v1 v2 v3 v4 v5 v6 v7 → GW κ 0 0 (gW cy A σ) 24 [(0, .ref (A 18)), (1, .int v1), (2, .int v2), (3, .int v3), (4, .int v4), (5, .int v5), (6, .int v6), (7, .int v7)] []), ∀ (σ : St) (v1 : Int32) (v2 : Int32) (v3 : Int32) (v4 : Int32) (v5 : Int32) (v7 : Int32) (s0 : Int32), wX12_fitsNow_71 K10 K24 Φ σ v1 v2 v3 v4 v5 v7 s0 → GW κ 0 0 (gW cy A σ) 71 [(0, .ref (A 18)), (1, .int v1), (2, .int v2), (3, .int v3), (4, .int v4), (5, .int v5), (7, .int v7)] [.int s0] := by
    intro K10 hK10 K24 hK24 σ v1 v2 v3 v4 v5 v7 s0 hw
    unfold wX12_fitsNow_71 at hw
    refine g_istore C [(6, .int s0), (0, .ref (A 18)), (1, .int v1), (2, .int v2), (3, .int v3), (4, .int v4), (5, .int v5), (7, .int v7)] F.2.2.2.1 (by decide) rfl dX12_fitsNow_71 ?_
    refine g_iinc (j := 7) C [(7, .int (v7 + 1)), (6, .int s0), (0, .ref (A 18)), (1, .int v1), (2, .int v2), (3, .int v3), (4, .int v4), (5, .int v5)] F.2.2.2.1 rfl rfl (by decide) rfl dX12_fitsNow_73 ?_
    refine g_goto C 24 (by decide) dX12_fitsNow_76 ?_
    refine g_eql (lv' := [(0, .ref (A 18)), (1, .int v1), (2, .int v2), (3, .int v3), (4, .int v4), (5, .int v5), (6, .int s0), (7, .int (v7 + 1))]) [2, 3, 4, 5, 6, 7, 1, 0] rfl ?_
    exact hK24 σ v1 v2 v3 v4 v5 s0 (v7 + 1) hw
  have J70 : ∀ (K10 : St → Int32 → Int32 → Int32 → Int32 → Int32 → Prop) (_ : ∀ (σ : St) (v1 : Int32) (v2 : Int32) (v3 : Int32) (v4 : Int32) (v5 : Int32), K10 σ v1 v2 v3 v4 v5 → GW κ 0 0 (gW cy A σ) 10 [(0, .ref (A 18)), (1, .int v1), (2, .int v2), (3, .int v3), (4, .int v4), (5, .int v5)] [])  (K24 : St → Int32 → Int32 → Int32 → Int32 → Int32 → Int32 → Int32 → Prop) (_ : ∀ (σ : St) (v1 : Int32) (v2 : Int32) (v3 : Int32) (v4 : Int32) (v5 : Int32) (v6 : Int32) (v7 : Int32), K24 σ v1 v2 v3 v4 v5 v6 v7 → GW κ 0 0 (gW cy A σ) 24 [(0, .ref (A 18)), (1, .int v1), (2, .int v2), (3, .int v3), (4, .int v4), (5, .int v5), (6, .int v6), (7, .int v7)] []), ∀ (σ : St) (v1 : Int32) (v2 : Int32) (v3 : Int32) (v4 : Int32) (v5 : Int32) (v7 : Int32), wX12_fitsNow_70 K10 K24 Φ σ v1 v2 v3 v4 v5 v7 → GW κ 0 0 (gW cy A σ) 70 [(0, .ref (A 18)), (1, .int v1), (2, .int v2), (3, .int v3), (4, .int v4), (5, .int v5), (7, .int v7)] [] := by
    intro K10 hK10 K24 hK24 σ v1 v2 v3 v4 v5 v7 hw
    unfold wX12_fitsNow_70 at hw
    refine g_iconst (v := (0 : Int32)) C dX12_fitsNow_70 (by decide) ?_
    exact J71 _ hK10 _ hK24 σ v1 v2 v3 v4 v5 v7 (0 : Int32) hw
  have J24 : ∀ (K10 : St → Int32 → Int32 → Int32 → Int32 → Int32 → Prop) (_ : ∀ (σ : St) (v1 : Int32) (v2 : Int32) (v3 : Int32) (v4 : Int32) (v5 : Int32), K10 σ v1 v2 v3 v4 v5 → GW κ 0 0 (gW cy A σ) 10 [(0, .ref (A 18)), (1, .int v1), (2, .int v2), (3, .int v3), (4, .int v4), (5, .int v5)] []), ∀ (n : Nat) (σ : St) (v1 : Int32) (v2 : Int32) (v3 : Int32) (v4 : Int32) (v5 : Int32) (v6 : Int32) (v7 : Int32), wX12_fitsNow_24 K10 Φ n σ v1 v2 v3 v4 v5 v6 v7 → GW κ 0 0 (gW cy A σ) 24 [(0, .ref (A 18)), (1, .int v1), (2, .int v2), (3, .int v3), (4, .int v4), (5, .int v5), (6, .int v6), (7, .int v7)] [] := by
    intro K10 hK10 n
    induction n with
    | zero => intro σ v1 v2 v3 v4 v5 v6 v7 hw; exact hw.elim
    | succ n ih =>
      intro σ v1 v2 v3 v4 v5 v6 v7 hw
      rw [wX12_fitsNow_24] at hw
      refine g_iload C 7 rfl dX12_fitsNow_24 ?_
      refine g_aload_n C 0 rfl rfl dX12_fitsNow_26 ?_
      refine g_get C hK inX12 rfl 18 (ga_18 cy A _) 14 (by decide) (fun _ h => h) wt_599 rfl dX12_fitsNow_27 ?_
      refine g_icmp_ge C 79 (by decide) hw dX12_fitsNow_30 (fun hw => ?_) (fun hw => ?_)
      · refine g_iload_n C 2 rfl rfl dX12_fitsNow_79 ?_
        refine g_iload C 6 rfl dX12_fitsNow_80 ?_
        refine g_if_eq C 89 (by decide) hw dX12_fitsNow_82 (fun hw => ?_) (fun hw => ?_)
        · refine g_iconst (v := (0 : Int32)) C dX12_fitsNow_89 (by decide) ?_
          refine g_eql (lv' := [(0, .ref (A 18)), (1, .int v1), (3, .int v3), (4, .int v4), (5, .int v5), (6, .int v6)]) [0, 1, 3, 4, 5, 6] rfl ?_
          exact J90 _ hK10 σ v1 v3 v4 v5 v6 (0 : Int32) v2 hw
        · refine g_iconst (v := (1 : Int32)) C dX12_fitsNow_85 (by decide) ?_
          refine g_goto C 90 (by decide) dX12_fitsNow_86 ?_
          refine g_eql (lv' := [(0, .ref (A 18)), (1, .int v1), (3, .int v3), (4, .int v4), (5, .int v5), (6, .int v6)]) [0, 1, 3, 4, 5, 6] rfl ?_
          exact J90 _ hK10 σ v1 v3 v4 v5 v6 (1 : Int32) v2 hw
      · refine g_iload C 6 rfl dX12_fitsNow_33 ?_
        refine g_if_eq C 70 (by decide) hw dX12_fitsNow_35 (fun hw => ?_) (fun hw => ?_)
        · refine g_eql (lv' := [(0, .ref (A 18)), (1, .int v1), (2, .int v2), (3, .int v3), (4, .int v4), (5, .int v5), (7, .int v7)]) [0, 1, 2, 3, 4, 5, 7] rfl ?_
          exact J70 _ hK10 _ ih σ v1 v2 v3 v4 v5 v7 hw
        · refine g_iload C 5 rfl dX12_fitsNow_38 ?_
          refine g_aload_n C 0 rfl rfl dX12_fitsNow_40 ?_
          refine g_get C hK inX12 rfl 18 (ga_18 cy A _) 15 (by decide) (fun _ h => h) wt_600 rfl dX12_fitsNow_41 ?_
          refine g_iload C 7 rfl dX12_fitsNow_44 ?_
          refine g_iald C hK 23 2 (ga_23 cy A _) rfl hw.1 dX12_fitsNow_46 ?_
          replace hw := hw.2
          refine g_aload_n C 0 rfl rfl dX12_fitsNow_47 ?_
          refine g_get C hK inX12 rfl 18 (ga_18 cy A _) 15 (by decide) (fun _ h => h) wt_600 rfl dX12_fitsNow_48 ?_
          refine g_iload C 7 rfl dX12_fitsNow_51 ?_
          refine g_iald C hK 23 2 (ga_23 cy A _) rfl hw.1 dX12_fitsNow_53 ?_
          replace hw := hw.2
          refine g_imul C dX12_fitsNow_54 ?_
          refine g_idiv C hw.1 dX12_fitsNow_55 ?_
          replace hw := hw.2
          refine g_aload_n C 0 rfl rfl dX12_fitsNow_56 ?_
          refine g_get C hK inX12 rfl 18 (ga_18 cy A _) 16 (by decide) (fun _ h => h) wt_601 rfl dX12_fitsNow_57 ?_
          refine g_iload C 7 rfl dX12_fitsNow_60 ?_
          refine g_iald C hK 24 2 (ga_24 cy A _) rfl hw.1 dX12_fitsNow_62 ?_
          replace hw := hw.2
          refine g_icmp_ne C 70 (by decide) hw dX12_fitsNow_63 (fun hw => ?_) (fun hw => ?_)
          · refine g_eql (lv' := [(0, .ref (A 18)), (1, .int v1), (2, .int v2), (3, .int v3), (4, .int v4), (5, .int v5), (7, .int v7)]) [0, 1, 2, 3, 4, 5, 7] rfl ?_
            exact J70 _ hK10 _ ih σ v1 v2 v3 v4 v5 v7 hw
          · refine g_iconst (v := (1 : Int32)) C dX12_fitsNow_66 (by decide) ?_
            refine g_goto C 71 (by decide) dX12_fitsNow_67 ?_
            refine g_eql (lv' := [(0, .ref (A 18)), (1, .int v1), (2, .int v2), (3, .int v3), (4, .int v4), (5, .int v5), (7, .int v7)]) [0, 1, 2, 3, 4, 5, 7] rfl ?_
            exact J71 _ hK10 _ ih σ v1 v2 v3 v4 v5 v7 (1 : Int32) hw
  have J10 : ∀ (n : Nat) (σ : St) (v1 : Int32) (v2 : Int32) (v3 : Int32) (v4 : Int32) (v5 : Int32), wX12_fitsNow_10 Φ n σ v1 v2 v3 v4 v5 → GW κ 0 0 (gW cy A σ) 10 [(0, .ref (A 18)), (1, .int v1), (2, .int v2), (3, .int v3), (4, .int v4), (5, .int v5)] [] := by
    intro n
    induction n with
    | zero => intro σ v1 v2 v3 v4 v5 hw; exact hw.elim
    | succ n ih =>
      intro σ v1 v2 v3 v4 v5 hw
      rw [wX12_fitsNow_10] at hw
      refine g_iload C 5 rfl dX12_fitsNow_10 ?_
      refine g_sipush (v := (14400 : Int32)) C dX12_fitsNow_12 (by decide) ?_
      refine g_icmp_gt C 129 (by decide) hw dX12_fitsNow_15 (fun hw => ?_) (fun hw => ?_)
      · refine g_iload_n C 1 rfl rfl dX12_fitsNow_129 ?_
        refine g_if_ne C 137 (by decide) hw dX12_fitsNow_130 (fun hw => ?_) (fun hw => ?_)
        · refine g_iload_n C 1 rfl rfl dX12_fitsNow_137 ?_
          refine g_iconst (v := (1 : Int32)) C dX12_fitsNow_138 (by decide) ?_
          refine g_icmp_ne C 146 (by decide) hw dX12_fitsNow_139 (fun hw => ?_) (fun hw => ?_)
          · refine g_iload C 4 rfl dX12_fitsNow_146 ?_
            exact gq_I C F (by decide) (by decide) hw dX12_fitsNow_148
          · refine g_iload_n C 3 rfl rfl dX12_fitsNow_142 ?_
            refine g_goto C 148 (by decide) dX12_fitsNow_143 ?_
            exact gq_I C F (by decide) (by decide) hw dX12_fitsNow_148
        · refine g_iload_n C 2 rfl rfl dX12_fitsNow_133 ?_
          refine g_goto C 148 (by decide) dX12_fitsNow_134 ?_
          exact gq_I C F (by decide) (by decide) hw dX12_fitsNow_148
      · refine g_iconst (v := (1 : Int32)) C dX12_fitsNow_18 (by decide) ?_
        refine g_istore C [(6, .int (1 : Int32)), (0, .ref (A 18)), (1, .int v1), (2, .int v2), (3, .int v3), (4, .int v4), (5, .int v5)] F.2.2.2.1 (by decide) rfl dX12_fitsNow_19 ?_
        refine g_iconst (v := (0 : Int32)) C dX12_fitsNow_21 (by decide) ?_
        refine g_istore C [(7, .int (0 : Int32)), (6, .int (1 : Int32)), (0, .ref (A 18)), (1, .int v1), (2, .int v2), (3, .int v3), (4, .int v4), (5, .int v5)] F.2.2.2.1 (by decide) rfl dX12_fitsNow_22 ?_
        refine g_eql (lv' := [(0, .ref (A 18)), (1, .int v1), (2, .int v2), (3, .int v3), (4, .int v4), (5, .int v5), (6, .int (1 : Int32)), (7, .int (0 : Int32))]) [2, 3, 4, 5, 6, 7, 1, 0] rfl ?_
        obtain ⟨n0, hw⟩ := hw
        exact J24 _ ih n0 σ v1 v2 v3 v4 v5 (1 : Int32) (0 : Int32) hw
  unfold wX12_fitsNow at hw
  refine g_iconst (v := (0 : Int32)) C dX12_fitsNow_0 (by decide) ?_
  refine g_istore_n C [(2, .int (0 : Int32)), (0, .ref (A 18)), (1, .int v1)] F.2.2.2.1 rfl (by decide) rfl dX12_fitsNow_1 ?_
  refine g_iconst (v := (-1 : Int32)) C dX12_fitsNow_2 (by decide) ?_
  refine g_istore_n C [(3, .int (-1 : Int32)), (2, .int (0 : Int32)), (0, .ref (A 18)), (1, .int v1)] F.2.2.2.1 rfl (by decide) rfl dX12_fitsNow_3 ?_
  refine g_iconst (v := (-1 : Int32)) C dX12_fitsNow_4 (by decide) ?_
  refine g_istore C [(4, .int (-1 : Int32)), (3, .int (-1 : Int32)), (2, .int (0 : Int32)), (0, .ref (A 18)), (1, .int v1)] F.2.2.2.1 (by decide) rfl dX12_fitsNow_5 ?_
  refine g_iconst (v := (1 : Int32)) C dX12_fitsNow_7 (by decide) ?_
  refine g_istore C [(5, .int (1 : Int32)), (4, .int (-1 : Int32)), (3, .int (-1 : Int32)), (2, .int (0 : Int32)), (0, .ref (A 18)), (1, .int v1)] F.2.2.2.1 (by decide) rfl dX12_fitsNow_8 ?_
  refine g_eql (lv' := [(0, .ref (A 18)), (1, .int v1), (2, .int (0 : Int32)), (3, .int (-1 : Int32)), (4, .int (-1 : Int32)), (5, .int (1 : Int32))]) [4, 5, 3, 2, 1, 0] rfl ?_
  obtain ⟨n0, hw⟩ := hw
  exact J10 n0 σ v1 (0 : Int32) (-1 : Int32) (-1 : Int32) (1 : Int32) hw
set_option maxHeartbeats 4000000 in
set_option maxRecDepth 100000 in
theorem c_X12_fits (l : Launch) (D : va_G) (cy : Nat → ClassId) (A : Nat → Nat) {σ : St} {v1 : Int32} {Φ : Int32 → St → Prop} (hw : wX12_fits σ v1 Φ) : CtI l yX12_fits (.code yX12_fits cX12_fits 2 (some .int) :: gL) rm_X12_fits 0 0 [.ref (A 18), .int v1] D cy A σ Φ := by
  refine ct_any (fun sz => va_Qi Φ (HE D cy A (gZ cy A σ sz)) (gZ cy A σ sz)) (by decide +kernel) rfl rfl [(0, .ref (A 18)), (1, .int v1)] rfl (Nat.le_of_ble_eq_true rfl) ?_
  intro κ hκl hnm C hK sz F
  subst hκl
  unfold wX12_fits at hw
  refine g_iload_n C 1 rfl rfl dX12_fits_0 ?_
  refine g_iconst (v := (0 : Int32)) C dX12_fits_1 (by decide) ?_
  refine g_iconst (v := (2 : Int32)) C dX12_fits_2 (by decide) ?_
  refine gc_I C (gr_S (As := [.int v1, .int (0 : Int32), .int (2 : Int32)]) (rest := []) C hK 3 (gd_S wt_645 wt_646 wt_8 wt_647) rfl rfl rfl hs_X12_within ⟨⟨Nat.le_of_ble_eq_true rfl, Nat.le_of_ble_eq_true rfl⟩, Nat.le_of_ble_eq_true rfl, Nat.le_of_ble_eq_true rfl⟩ rfl rfl (Nat.le_of_ble_eq_true rfl) dX12_fits_3 (c_X12_within (q_l κ) (q_D κ) cy A hw)) (fun r2 σ1 hw => ?_)
  refine g_if_eq C 17 (by decide) hw dX12_fits_6 (fun hw => ?_) (fun hw => ?_)
  · refine g_bipush (v := (-102 : Int32)) C dX12_fits_17 (by decide) ?_
    exact gq_I C F (by decide) (by decide) hw dX12_fits_19
  · refine g_aload_n C 0 rfl rfl dX12_fits_9 ?_
    refine g_iload_n C 1 rfl rfl dX12_fits_10 ?_
    refine gc_I C (gr_V (As := [.int v1]) (rest := []) C hK 1 (gd_V wt_770 wt_771 wt_864 wt_8 wt_772) rfl rfl rfl ⟨rfl, hs_X12_fitsNow⟩ ⟨⟨Nat.le_of_ble_eq_true rfl, Nat.le_of_ble_eq_true rfl⟩, Nat.le_of_ble_eq_true rfl, Nat.le_of_ble_eq_true rfl⟩ rfl 18 (ga_18 cy A _) rfl rfl (Nat.le_of_ble_eq_true rfl) dX12_fits_11 (c_X12_fitsNow (q_l κ) (q_D κ) cy A hw)) (fun r4 σ3 hw => ?_)
    refine g_goto C 19 (by decide) dX12_fits_14 ?_
    exact gq_I C F (by decide) (by decide) hw dX12_fits_19
set_option maxHeartbeats 4000000 in
set_option maxRecDepth 100000 in
theorem c_X12_lowest (l : Launch) (D : va_G) (cy : Nat → ClassId) (A : Nat → Nat) {σ : St} {v0 : Int64} {v2 : Int64} {v4 : Int32} {Φ : Int64 → St → Prop} (hw : wX12_lowest σ v0 v2 v4 Φ) : CtL l yX12_lowest (.code yX12_lowest cX12_lowest 11 (some .long) :: gL) rm_X12_lowest 0 0 [.long v0, .long v2, .int v4] D cy A σ Φ := by
  refine ct_any (fun sz => va_Ql Φ (HE D cy A (gZ cy A σ sz)) (gZ cy A σ sz)) (by decide +kernel) rfl rfl [(0, .long v0), (2, .long v2), (4, .int v4)] rfl (Nat.le_of_ble_eq_true rfl) ?_
  intro κ hκl hnm C hK sz F
  subst hκl
  have J6 : ∀ (n : Nat) (σ : St) (v0 : Int64) (v2 : Int64) (v4 : Int32) (v5 : Int64) (v7 : Int64), wX12_lowest_6 Φ n σ v0 v2 v4 v5 v7 → GW κ 0 0 (gW cy A σ) 6 [(0, .long v0), (2, .long v2), (4, .int v4), (5, .long v5), (7, .long v7)] [] := by
    intro n
    induction n with
    | zero => intro σ v0 v2 v4 v5 v7 hw; exact hw.elim
    | succ n ih =>
      intro σ v0 v2 v4 v5 v7 hw
      rw [wX12_lowest_6] at hw
      refine g_lload C 4 rfl dX12_lowest_6 ?_
      refine g_lconst (v := (0 : Int64)) C dX12_lowest_8 (by decide) ?_
      refine g_lcmp C dX12_lowest_9 ?_
      refine g_if_eq C 31 (by decide) hw dX12_lowest_10 (fun hw => ?_) (fun hw => ?_)
      · refine g_iload C 2 rfl dX12_lowest_31 ?_
        refine g_if_ne C 43 (by decide) hw dX12_lowest_33 (fun hw => ?_) (fun hw => ?_)
        · refine g_lload_n C 1 rfl rfl dX12_lowest_43 ?_
          refine g_lload C 3 rfl dX12_lowest_44 ?_
          refine g_ldiv C hw.1 dX12_lowest_46 ?_
          replace hw := hw.2
          exact gq_L C F (by decide) (by decide) hw dX12_lowest_47
        · refine g_lload_n C 0 rfl rfl dX12_lowest_36 ?_
          refine g_lload C 3 rfl dX12_lowest_37 ?_
          refine g_ldiv C hw.1 dX12_lowest_39 ?_
          replace hw := hw.2
          refine g_goto C 47 (by decide) dX12_lowest_40 ?_
          exact gq_L C F (by decide) (by decide) hw dX12_lowest_47
      · refine g_lload C 3 rfl dX12_lowest_13 ?_
        refine g_lload C 4 rfl dX12_lowest_15 ?_
        refine g_lrem C hw.1 dX12_lowest_17 ?_
        replace hw := hw.2
        refine g_lstore C [(9, .long (v5 - v5 / v7 * v7)), (0, .long v0), (2, .long v2), (4, .int v4), (5, .long v5), (7, .long v7)] F.2.2.2.1 (by decide) rfl dX12_lowest_18 ?_
        refine g_lload C 5 rfl dX12_lowest_20 ?_
        refine g_lstore C [(5, .long v7), (9, .long (v5 - v5 / v7 * v7)), (0, .long v0), (2, .long v2), (4, .int v4), (7, .long v7)] F.2.2.2.1 (by decide) rfl dX12_lowest_22 ?_
        refine g_lload C 1 rfl dX12_lowest_24 ?_
        refine g_lstore C [(7, .long (v5 - v5 / v7 * v7)), (5, .long v7), (9, .long (v5 - v5 / v7 * v7)), (0, .long v0), (2, .long v2), (4, .int v4)] F.2.2.2.1 (by decide) rfl dX12_lowest_26 ?_
        refine g_goto C 6 (by decide) dX12_lowest_28 ?_
        refine g_eql (lv' := [(0, .long v0), (2, .long v2), (4, .int v4), (5, .long v7), (7, .long (v5 - v5 / v7 * v7))]) [3, 4, 5, 1, 0] rfl ?_
        exact ih σ v0 v2 v4 v7 (v5 - v5 / v7 * v7) hw
  unfold wX12_lowest at hw
  refine g_lload_n C 0 rfl rfl dX12_lowest_0 ?_
  refine g_lstore C [(5, .long v0), (0, .long v0), (2, .long v2), (4, .int v4)] F.2.2.2.1 (by decide) rfl dX12_lowest_1 ?_
  refine g_lload_n C 2 rfl rfl dX12_lowest_3 ?_
  refine g_lstore C [(7, .long v2), (5, .long v0), (0, .long v0), (2, .long v2), (4, .int v4)] F.2.2.2.1 (by decide) rfl dX12_lowest_4 ?_
  refine g_eql (lv' := [(0, .long v0), (2, .long v2), (4, .int v4), (5, .long v0), (7, .long v2)]) [2, 3, 4, 1, 0] rfl ?_
  obtain ⟨n0, hw⟩ := hw
  exact J6 n0 σ v0 v2 v4 v0 v2 hw
set_option maxHeartbeats 4000000 in
set_option maxRecDepth 100000 in
theorem c_X12_breaksBy (l : Launch) (D : va_G) (cy : Nat → ClassId) (A : Nat → Nat) {σ : St} {Φ : Int32 → St → Prop} (hw : wX12_breaksBy σ Φ) : CtI l yX12_breaksBy (.code yX12_breaksBy cX12_breaksBy 4 (some .int) :: gL) rm_X12_breaksBy 0 0 [.ref (A 18)] D cy A σ Φ := by
  refine ct_any (fun sz => va_Qi Φ (HE D cy A (gZ cy A σ sz)) (gZ cy A σ sz)) (by decide +kernel) rfl rfl [(0, .ref (A 18))] rfl (Nat.le_of_ble_eq_true rfl) ?_
  intro κ hκl hnm C hK sz F
  subst hκl
  unfold wX12_breaksBy at hw
  refine g_aload_n C 0 rfl rfl dX12_breaksBy_0 ?_
  refine g_aload_n C 0 rfl rfl dX12_breaksBy_1 ?_
  refine g_get C hK inX12 rfl 18 (ga_18 cy A _) 2 (by decide) (fun _ h => h) wt_587 rfl dX12_breaksBy_2 ?_
  refine g_aload_n C 0 rfl rfl dX12_breaksBy_5 ?_
  refine g_get C hK inX12 rfl 18 (ga_18 cy A _) 8 (by decide) (fun _ h => h) wt_593 rfl dX12_breaksBy_6 ?_
  refine gc_I C (gr_V (As := [.int (σ.1 18 2), .int (σ.1 18 8)]) (rest := []) C hK 2 (gd_V wt_715 wt_716 wt_857 wt_8 wt_717) rfl rfl rfl ⟨rfl, hs_X12_strainAt⟩ ⟨⟨Nat.le_of_ble_eq_true rfl, Nat.le_of_ble_eq_true rfl⟩, Nat.le_of_ble_eq_true rfl, Nat.le_of_ble_eq_true rfl⟩ rfl 18 (ga_18 cy A _) rfl rfl (Nat.le_of_ble_eq_true rfl) dX12_breaksBy_9 (c_X12_strainAt (q_l κ) (q_D κ) cy A hw)) (fun r2 σ1 hw => ?_)
  refine g_istore_n C [(1, .int r2), (0, .ref (A 18))] F.2.2.2.1 rfl (by decide) rfl dX12_breaksBy_12 ?_
  refine g_aload_n C 1 rfl rfl dX12_breaksBy_13 ?_
  refine g_get C hK inX12 rfl 18 (ga_18 cy A _) 5 (by decide) (fun _ h => h) wt_590 rfl dX12_breaksBy_14 ?_
  refine g_if_ne C 35 (by decide) hw dX12_breaksBy_17 (fun hw => ?_) (fun hw => ?_)
  · refine g_ldc2 (v := (100 : Int64)) C dX12_breaksBy_35 wt_784 ?_
    refine g_iload_n C 0 rfl rfl dX12_breaksBy_38 ?_
    refine g_i2l C dX12_breaksBy_39 ?_
    refine g_lmul C dX12_breaksBy_40 ?_
    refine g_aload_n C 1 rfl rfl dX12_breaksBy_41 ?_
    refine g_get C hK inX12 rfl 18 (ga_18 cy A _) 4 (by decide) (fun _ h => h) wt_589 rfl dX12_breaksBy_42 ?_
    refine g_i2l C dX12_breaksBy_45 ?_
    refine g_ldiv C hw.1 dX12_breaksBy_46 ?_
    replace hw := hw.2
    refine g_lstore_n C [(2, .long (((100 : Int64) * r2.toInt64) / (σ1.1 18 4).toInt64)), (1, .int r2), (0, .ref (A 18))] F.2.2.2.1 rfl (by decide) rfl dX12_breaksBy_47 ?_
    refine g_lload_n C 0 rfl rfl dX12_breaksBy_48 ?_
    refine g_ldc2 (v := (100 : Int64)) C dX12_breaksBy_49 wt_784 ?_
    refine g_lcmp C dX12_breaksBy_52 ?_
    refine g_if_le C 61 (by decide) hw dX12_breaksBy_53 (fun hw => ?_) (fun hw => ?_)
    · refine g_lload_n C 0 rfl rfl dX12_breaksBy_61 ?_
      refine g_l2i C dX12_breaksBy_62 ?_
      exact gq_I C F (by decide) (by decide) hw dX12_breaksBy_63
    · refine g_bipush (v := (100 : Int32)) C dX12_breaksBy_56 (by decide) ?_
      refine g_goto C 63 (by decide) dX12_breaksBy_58 ?_
      exact gq_I C F (by decide) (by decide) hw dX12_breaksBy_63
  · refine g_iload_n C 0 rfl rfl dX12_breaksBy_20 ?_
    refine g_aload_n C 1 rfl rfl dX12_breaksBy_21 ?_
    refine g_get C hK inX12 rfl 18 (ga_18 cy A _) 4 (by decide) (fun _ h => h) wt_589 rfl dX12_breaksBy_22 ?_
    refine g_icmp_le C 33 (by decide) hw dX12_breaksBy_25 (fun hw => ?_) (fun hw => ?_)
    · refine g_iconst (v := (0 : Int32)) C dX12_breaksBy_33 (by decide) ?_
      exact gq_I C F (by decide) (by decide) hw dX12_breaksBy_34
    · refine g_bipush (v := (100 : Int32)) C dX12_breaksBy_28 (by decide) ?_
      refine g_goto C 34 (by decide) dX12_breaksBy_30 ?_
      exact gq_I C F (by decide) (by decide) hw dX12_breaksBy_34
set_option maxHeartbeats 4000000 in
set_option maxRecDepth 100000 in
theorem c_X12_lastsNow (l : Launch) (D : va_G) (cy : Nat → ClassId) (A : Nat → Nat) {σ : St} {v1 : Int32} {v2 : Int32} {Φ : Int64 → St → Prop} (hw : wX12_lastsNow σ v1 v2 Φ) : CtL l yX12_lastsNow (.code yX12_lastsNow cX12_lastsNow 8 (some .long) :: gL) rm_X12_lastsNow 0 0 [.ref (A 18), .int v1, .int v2] D cy A σ Φ := by
  refine ct_any (fun sz => va_Ql Φ (HE D cy A (gZ cy A σ sz)) (gZ cy A σ sz)) (by decide +kernel) rfl rfl [(0, .ref (A 18)), (1, .int v1), (2, .int v2)] rfl (Nat.le_of_ble_eq_true rfl) ?_
  intro κ hκl hnm C hK sz F
  subst hκl
  have J8 : ∀ (n : Nat) (σ : St) (v1 : Int32) (v2 : Int32) (v3 : Int64) (v5 : Int64) (v7 : Int32), wX12_lastsNow_8 Φ n σ v1 v2 v3 v5 v7 → GW κ 0 0 (gW cy A σ) 8 [(0, .ref (A 18)), (1, .int v1), (2, .int v2), (3, .long v3), (5, .long v5), (7, .int v7)] [] := by
    intro n
    induction n with
    | zero => intro σ v1 v2 v3 v5 v7 hw; exact hw.elim
    | succ n ih =>
      intro σ v1 v2 v3 v5 v7 hw
      rw [wX12_lastsNow_8] at hw
      refine g_iload C 5 rfl dX12_lastsNow_8 ?_
      refine g_iload_n C 1 rfl rfl dX12_lastsNow_10 ?_
      refine g_icmp_ge C 39 (by decide) hw dX12_lastsNow_11 (fun hw => ?_) (fun hw => ?_)
      · refine g_lload_n C 3 rfl rfl dX12_lastsNow_39 ?_
        refine g_lload C 4 rfl dX12_lastsNow_40 ?_
        refine g_iload_n C 2 rfl rfl dX12_lastsNow_42 ?_
        refine gc_L C (gr_S (As := [.long v3, .long v5, .int v2]) (rest := []) C hK 3 (gd_S wt_785 wt_786 wt_8 wt_787) rfl rfl rfl hs_X12_lowest ⟨⟨Nat.le_of_ble_eq_true rfl, Nat.le_of_ble_eq_true rfl⟩, Nat.le_of_ble_eq_true rfl, Nat.le_of_ble_eq_true rfl⟩ rfl rfl (Nat.le_of_ble_eq_true rfl) dX12_lastsNow_43 (c_X12_lowest (q_l κ) (q_D κ) cy A hw)) (fun r2 σ1 hw => ?_)
        exact gq_L C F (by decide) (by decide) hw dX12_lastsNow_46
      · refine g_lload_n C 3 rfl rfl dX12_lastsNow_14 ?_
        refine g_bipush (v := (100 : Int32)) C dX12_lastsNow_15 (by decide) ?_
        refine g_aload_n C 0 rfl rfl dX12_lastsNow_17 ?_
        refine gc_I C (gr_V (As := []) (rest := [.int (100 : Int32), .long v3]) C hK 0 (gd_V wt_781 wt_782 wt_866 wt_8 wt_783) rfl rfl rfl ⟨rfl, hs_X12_breaksBy⟩ ⟨⟨Nat.le_of_ble_eq_true rfl, Nat.le_of_ble_eq_true rfl⟩, Nat.le_of_ble_eq_true rfl, Nat.le_of_ble_eq_true rfl⟩ rfl 18 (ga_18 cy A _) rfl rfl (Nat.le_of_ble_eq_true rfl) dX12_lastsNow_18 (c_X12_breaksBy (q_l κ) (q_D κ) cy A hw)) (fun r4 σ3 hw => ?_)
        refine g_isub C dX12_lastsNow_21 ?_
        refine g_i2l C dX12_lastsNow_22 ?_
        refine g_lmul C dX12_lastsNow_23 ?_
        refine g_lstore_n C [(3, .long (v3 * ((100 : Int32) - r4).toInt64)), (0, .ref (A 18)), (1, .int v1), (2, .int v2), (5, .long v5), (7, .int v7)] F.2.2.2.1 rfl (by decide) rfl dX12_lastsNow_24 ?_
        refine g_lload C 4 rfl dX12_lastsNow_25 ?_
        refine g_ldc2 (v := (100 : Int64)) C dX12_lastsNow_27 wt_784 ?_
        refine g_lmul C dX12_lastsNow_30 ?_
        refine g_lstore C [(5, .long (v5 * (100 : Int64))), (3, .long (v3 * ((100 : Int32) - r4).toInt64)), (0, .ref (A 18)), (1, .int v1), (2, .int v2), (7, .int v7)] F.2.2.2.1 (by decide) rfl dX12_lastsNow_31 ?_
        refine g_iinc (j := 5) C [(7, .int (v7 + 1)), (5, .long (v5 * (100 : Int64))), (3, .long (v3 * ((100 : Int32) - r4).toInt64)), (0, .ref (A 18)), (1, .int v1), (2, .int v2)] F.2.2.2.1 rfl rfl (by decide) rfl dX12_lastsNow_33 ?_
        refine g_goto C 8 (by decide) dX12_lastsNow_36 ?_
        refine g_eql (lv' := [(0, .ref (A 18)), (1, .int v1), (2, .int v2), (3, .long (v3 * ((100 : Int32) - r4).toInt64)), (5, .long (v5 * (100 : Int64))), (7, .int (v7 + 1))]) [3, 4, 5, 2, 1, 0] rfl ?_
        exact ih σ3 v1 v2 (v3 * ((100 : Int32) - r4).toInt64) (v5 * (100 : Int64)) (v7 + 1) hw
  unfold wX12_lastsNow at hw
  refine g_lconst (v := (1 : Int64)) C dX12_lastsNow_0 (by decide) ?_
  refine g_lstore_n C [(3, .long (1 : Int64)), (0, .ref (A 18)), (1, .int v1), (2, .int v2)] F.2.2.2.1 rfl (by decide) rfl dX12_lastsNow_1 ?_
  refine g_lconst (v := (1 : Int64)) C dX12_lastsNow_2 (by decide) ?_
  refine g_lstore C [(5, .long (1 : Int64)), (3, .long (1 : Int64)), (0, .ref (A 18)), (1, .int v1), (2, .int v2)] F.2.2.2.1 (by decide) rfl dX12_lastsNow_3 ?_
  refine g_iconst (v := (0 : Int32)) C dX12_lastsNow_5 (by decide) ?_
  refine g_istore C [(7, .int (0 : Int32)), (5, .long (1 : Int64)), (3, .long (1 : Int64)), (0, .ref (A 18)), (1, .int v1), (2, .int v2)] F.2.2.2.1 (by decide) rfl dX12_lastsNow_6 ?_
  refine g_eql (lv' := [(0, .ref (A 18)), (1, .int v1), (2, .int v2), (3, .long (1 : Int64)), (5, .long (1 : Int64)), (7, .int (0 : Int32))]) [3, 4, 5, 2, 1, 0] rfl ?_
  obtain ⟨n0, hw⟩ := hw
  exact J8 n0 σ v1 v2 (1 : Int64) (1 : Int64) (0 : Int32) hw
