/-! PURE PART E: the invariant; told -/
/-- the class and the law's row tell the same -/
def PI (σ : St) (nt hh s b p : Nat) : Prop :=
  σ.1 1 1 = 0 ∧ WN σ s b p ∧ (σ.1 18 0 = σ.1 3 0 ∧ σ.1 18 1 = nI s ∧ σ.1 18 2 = nI b ∧ σ.1 18 3 = σ.1 3 5 ∧ σ.1 18 4 = nI p ∧ σ.1 18 5 = nI hh ∧ σ.1 18 6 = σ.1 3 6 ∧ σ.1 18 7 = nI nt) ∧ Rdy σ nt hh ∧ (∀ i, i < nt → rP (σ.1 18) i = 0 ∨ rP (σ.1 18) i = 1) ∧ (∀ i i', i < nt → i' < nt → σ.2.2.1 i = σ.2.2.1 i' → i = i')
theorem sm_pi {σ τ : St} {nt hh s b p : Nat} (h : Sim σ τ) (hI : PI σ nt hh s b p) : PI τ nt hh s b p := by
  obtain ⟨h1, h2, h3, h4, h5, h6⟩ := hI
  have e1 : τ.1 1 = σ.1 1 := h.1 1 (by omega) (by omega)
  have e3 : τ.1 3 = σ.1 3 := h.1 3 (by omega) (by omega)
  have e18 : τ.1 18 = σ.1 18 := h.1 18 (by omega) (by omega)
  refine ⟨by rw [e1]; exact h1, sm_wn h h2, by rw [e3, e18]; exact h3, sm_rdy h h4, by rw [e18]; exact h5, by rw [h.2]; exact h6⟩
theorem ct0 (V : Nat → Nat → Int32) (nt hh : Nat) : countR V nt hh 0 = V 3 0 := by simp [countR]
theorem ct1 (V : Nat → Nat → Int32) (nt hh : Nat) : countR V nt hh 1 = turnsS (V 3 1) (V 3 0) := by simp [countR]
theorem ct2 (V : Nat → Nat → Int32) (nt hh : Nat) : countR V nt hh 2 = V 3 1 := by simp [countR]
theorem ct3 (V : Nat → Nat → Int32) (nt hh : Nat) : countR V nt hh 3 = cab2 V (nI hh) noM nt (strainS (V 3 1) (V 3 0)) := by simp [countR]
theorem ct4 (V : Nat → Nat → Int32) (nt hh : Nat) : countR V nt hh 4 = V 3 2 := by simp [countR]
theorem ct5 (V : Nat → Nat → Int32) (nt hh : Nat) : countR V nt hh 5 = V 3 5 := by simp [countR]
theorem ct6 (V : Nat → Nat → Int32) (nt hh : Nat) : countR V nt hh 6 = V 3 3 := by simp [countR]
theorem ct7 (V : Nat → Nat → Int32) (nt hh : Nat) : countR V nt hh 7 = V 3 4 := by simp [countR]
theorem ct8 (V : Nat → Nat → Int32) (nt hh : Nat) : countR V nt hh 8 = V 3 6 := by simp [countR]
theorem ct9 (V : Nat → Nat → Int32) (nt hh : Nat) : countR V nt hh 9 = V 4 2 := by simp [countR]
theorem sz_tot {P : Nat → Int32} : ∀ {n : Nat}, (∀ i, i < n → P i = 0 ∨ P i = 1) → nI n - szS P 0 n = szS P 1 n
  | 0, _ => by
    show nI 0 - (0 : Int32) = 0
    decide
  | n + 1, h => by
    have ih := sz_tot (P := P) (n := n) (fun i hi => h i (by omega))
    rw [szS, szS, ← nI_1]
    rcases h n (by omega) with e | e
    · rw [if_pos e, if_neg (by rw [e]; decide)]
      rw [← ih]
      grind
    · rw [if_neg (by rw [e]; decide), if_pos e]
      rw [← ih]
      grind
set_option maxHeartbeats 4000000 in
theorem l_told {σ : St} {nt hh s b p : Nat} {Φ : Int32 → St → Prop} (hI : PI σ nt hh s b p) (hp : Φ 1 σ) : wL_told σ 18 Φ := by
  obtain ⟨hpg, hW, ⟨r0, r1, r2, r3, r4, r5, r6, r7⟩, hR, hP, -⟩ := hI
  have hR' := hR
  obtain ⟨hT, hB, h4⟩ := hR'
  have hn := hT.1
  have hW' := hW
  obtain ⟨g1, g2, g3, g4, g5, g7, g8, q5, q6⟩ := hW'
  have l0 := wn_pos hW
  have hl : 10 ≤ σ.1 18 0 ∧ σ.1 18 0 ≤ 40 := by rw [r0]; exact g1
  have hBr : TB (fun _ => σ.1 18) nt hh := hB
  -- the cabins
  have hC : ∀ (c : Int32) (n : Nat) (v3 v4 : Int32), (c = 0 ∨ c = 1) → v3 = szS (rP (σ.1 18)) 0 nt → wL_told_281 18 Φ n σ 1 v3 (c + 1) → ((2 : Int32) ≤ c → False) → wL_told_281 18 Φ (n + 1) σ 1 v3 c := by
    intro c n v3 v4 hc hv3 hnx h2
    rw [wL_told_281, if_neg (fun z => h2 z), if_neg (by decide)]
    have hc1 : 0 ≤ c ∧ c ≤ 1 := by rcases hc with rfl | rfl <;> decide
    refine x_cabin hR hc1 (by decide) l0 ?_
    refine l_cabin (r := σ.1 18) ra_rfl hn r7 r5 hP ?_
    rw [if_pos (show cabR σ.1 nt hh c 0 = cabQ (σ.1 18) c (nI hh) nt by simp [cabR])]
    refine x_cabin hR hc1 (by decide) l0 ⟨vi 0 (by omega), ?_⟩
    rw [cl0]
    refine l_arm (r := σ.1 18) (hh := hh) ra_rfl hn r7 r5 hP hBr hl ?_
    rw [if_pos (show cabR σ.1 nt hh c 1 = armS c (σ.1 18 0) (cabQ (σ.1 18) 0 (nI hh) nt) (cabQ (σ.1 18) 1 (nI hh) nt) by rw [r0]; simp [cabR])]
    refine x_cabin hR hc1 (by decide) l0 ⟨vi 0 (by omega), ?_⟩
    refine l_floor (r := σ.1 18) (hh := hh) ra_rfl hn r7 r5 hP hBr r1 hl ?_
    rw [if_pos (show cabR σ.1 nt hh c 2 = floorS (nI s) c (σ.1 18 0) (cabQ (σ.1 18) 0 (nI hh) nt) (cabQ (σ.1 18) 1 (nI hh) nt) by rw [r0, ← g2]; simp [cabR])]
    refine x_cabin hR hc1 (by decide) l0 ?_
    have e3 : cabR σ.1 nt hh c 3 = szS (rP (σ.1 18)) c nt := by simp [cabR]
    have fin : ∀ s0 : Int32, szS (rP (σ.1 18)) c nt = s0 → wL_told_373 18 (wL_told_281 18 Φ n) Φ σ v3 c s0 (cabR σ.1 nt hh c 3) := by
      intro s0 hs
      unfold wL_told_373 wL_told_381
      rw [e3, if_pos hs]
      exact hnx
    rcases hc with rfl | rfl
    · rw [if_pos rfl]
      exact fin _ hv3.symm
    · rw [if_neg (by decide), cl7, r7, hv3]
      refine ⟨vi 7 (by omega), ?_⟩
      have := fin _ (sz_tot (n := nt) hP).symm
      rw [hv3] at this
      exact this
  have hCC : ∀ v3 : Int32, v3 = szS (rP (σ.1 18)) 0 nt → ∃ n0, wL_told_281 18 Φ n0 σ 1 v3 0 := by
    intro v3 hv3
    refine ⟨3, hC 0 2 v3 0 (Or.inl rfl) hv3 (hC 1 1 v3 0 (Or.inr rfl) hv3 ?_ (by decide)) (by decide)⟩
    rw [wL_told_281, if_pos (by decide)]
    exact ⟨by decide, hp⟩
  -- the THINGS
  have hL : ∀ m i, i + m = nt → wL_told_136 18 Φ (m + 1) σ 1 (szS (rP (σ.1 18)) 0 i) (nI i) := by
    intro m
    induction m with
    | zero =>
      intro i hi
      have : i = nt := by omega
      subst this
      rw [wL_told_136, cl7, r7, if_pos (nI_le (Nat.le_refl _) (by omega))]
      exact ⟨vi 7 (by omega), hCC _ rfl⟩
    | succ m ih =>
      intro i hi
      have ih' := ih (i + 1) (by omega)
      rw [wL_told_136, cl7, r7, if_neg (nI_ge (by omega) (by omega)), ix10, nI_clamp (show 10 + 4 * i < 2 ^ 31 by omega)]
      refine ⟨vi 7 (by omega), vi _ (by omega), ?_⟩
      have key : ∀ s0 s1 : Int32, s1 + s0 = szS (rP (σ.1 18)) 0 (i + 1) → wL_told_163 18 (wL_told_136 18 Φ (m + 1)) Φ σ 1 (nI i) s0 s1 := by
        intro s0 s1 hs
        unfold wL_told_163
        rw [if_neg (by decide), hs, ix8, ix9, ix10, ix11, nI_clamp (show 8 + 4 * i < 2 ^ 31 by omega)]
        refine x_about hR (by omega) (by decide) ⟨vi _ (by omega), ?_⟩
        rw [if_pos (show aboutR σ.1 hh i 0 = σ.1 18 (8 + 4 * i) by simp [aboutR])]
        refine x_about hR (by omega) (by decide) ⟨vi _ (by omega), ?_⟩
        rw [nI_clamp (show 9 + 4 * i < 2 ^ 31 by omega), if_pos (show aboutR σ.1 hh i 1 = σ.1 18 (9 + 4 * i) by simp [aboutR])]
        refine x_about hR (by omega) (by decide) ⟨vi _ (by omega), ?_⟩
        rw [nI_clamp (show 10 + 4 * i < 2 ^ 31 by omega), if_pos (show aboutR σ.1 hh i 2 = σ.1 18 (10 + 4 * i) by simp [aboutR])]
        refine x_about hR (by omega) (by decide) ?_
        refine l_weighs (r := σ.1 18) ra_rfl (by omega) r5 ?_
        rw [if_pos (show aboutR σ.1 hh i 3 = wgQ (σ.1 18) (nI hh) i by simp [aboutR])]
        refine x_about hR (by omega) (by decide) ⟨vi 5 (by omega), vi _ (by omega), ?_⟩
        rw [nI_clamp (show 11 + 4 * i < 2 ^ 31 by omega), cl5, r5, if_pos (show aboutR σ.1 hh i 4 = nI hh - σ.1 18 (11 + 4 * i) by simp [aboutR])]
        unfold wL_told_271
        rw [nI_1]
        exact ih'
      by_cases hc : σ.1 18 (10 + 4 * i) = 0
      · rw [if_pos hc]
        exact key 1 _ (by rw [szS, if_pos (show rP (σ.1 18) i = 0 from hc)])
      · rw [if_neg hc]
        exact key 0 _ (by rw [szS, if_neg (show ¬ rP (σ.1 18) i = 0 from hc), Int32.add_zero])
  unfold wL_told
  refine x_count hR q5 q6 ⟨vi 0 (by omega), ?_⟩
  rw [cl0, cl1, cl2, cl3, cl4, cl5, cl6, cl7, if_pos (show countR σ.1 nt hh 0 = σ.1 18 0 by rw [ct0, r0])]
  refine x_count hR q5 q6 ⟨vi 0 (by omega), ?_⟩
  refine l_turns r1 hl ?_
  rw [if_pos (show countR σ.1 nt hh 1 = turnsS (nI s) (σ.1 18 0) by rw [ct1, g2, r0])]
  refine x_count hR q5 q6 ⟨vi 1 (by omega), ?_⟩
  rw [if_pos (show countR σ.1 nt hh 2 = σ.1 18 1 by rw [ct2, g2, r1])]
  refine x_count hR q5 q6 ⟨vi 0 (by omega), ?_⟩
  refine l_strain (r := σ.1 18) (hh := hh) ra_rfl hn r7 r5 hP hBr r1 hl ?_
  rw [if_pos (show countR σ.1 nt hh 3 = strainS (nI s) (σ.1 18 0) (cabQ (σ.1 18) 0 (nI hh) nt) (cabQ (σ.1 18) 1 (nI hh) nt) by rw [ct3, g2, r0])]
  refine x_count hR q5 q6 ⟨vi 2 (by omega), ?_⟩
  rw [if_pos (show countR σ.1 nt hh 4 = σ.1 18 2 by rw [ct4, g4, r2])]
  refine x_count hR q5 q6 ⟨vi 3 (by omega), ?_⟩
  rw [if_pos (show countR σ.1 nt hh 5 = σ.1 18 3 by rw [ct5, r3])]
  refine x_count hR q5 q6 ⟨vi 4 (by omega), ?_⟩
  rw [if_pos (show countR σ.1 nt hh 6 = σ.1 18 4 by rw [ct6, g7, r4])]
  refine x_count hR q5 q6 ⟨vi 5 (by omega), ?_⟩
  rw [if_pos (show countR σ.1 nt hh 7 = σ.1 18 5 by rw [ct7, h4, r5])]
  refine x_count hR q5 q6 ⟨vi 6 (by omega), ?_⟩
  rw [if_pos (show countR σ.1 nt hh 8 = σ.1 18 6 by rw [ct8, r6])]
  refine x_count hR q5 q6 ⟨vi 7 (by omega), ?_⟩
  rw [if_pos (show countR σ.1 nt hh 9 = σ.1 18 7 by rw [ct9, hT.2.1, r7])]
  unfold wL_told_130
  exact ⟨nt + 1, hL nt 0 (by omega)⟩
