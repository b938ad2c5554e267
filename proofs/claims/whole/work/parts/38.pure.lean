/-! PURE PART 9: image and restore, the two sides -/
def cpC (σ : St) (k k2 : Nat) : St := sV (sV (sV (sV (sV (sV (sV σ k 0 (σ.1 k2 0)) k 1 (σ.1 k2 1)) k 2 (σ.1 k2 2)) k 3 (σ.1 k2 3)) k 4 (σ.1 k2 4)) k 5 (σ.1 k2 5)) k 6 (σ.1 k2 6)
theorem i_become17 {σ : St} {Φ : St → Prop} (h5 : σ.1 3 5 = 0 ∨ σ.1 3 5 = 1) (h6 : σ.1 3 6 = 0 ∨ σ.1 3 6 = 1) (hp : Φ (cpC σ 17 3)) : wX0_becomeLike σ 17 3 Φ := ⟨h5, h6, hp⟩
theorem i_become3 {σ : St} {Φ : St → Prop} (h5 : σ.1 17 5 = 0 ∨ σ.1 17 5 = 1) (h6 : σ.1 17 6 = 0 ∨ σ.1 17 6 = 1) (hp : Φ (cpC σ 3 17)) : wX0_becomeLike σ 3 17 Φ := ⟨h5, h6, hp⟩
theorem i_become16 {σ : St} {Φ : St → Prop} (h5 : σ.1 3 5 = 0 ∨ σ.1 3 5 = 1) (h6 : σ.1 3 6 = 0 ∨ σ.1 3 6 = 1) (hp : Φ (cpC σ 16 3)) : wX0_becomeLike σ 16 3 Φ := ⟨h5, h6, hp⟩
theorem i_at2 {σ : St} {nt : Nat} (hn : nt ≤ 6) (h2 : σ.1 4 2 = nI nt) {i a : Nat} (hi : i < nt) (ha : σ.2.2.1 i = some a) {Φ : Option Nat → St → Prop} (hp : Φ (some a) σ) : wX6_at σ (nI i) Φ := by
  unfold wX6_at
  rw [if_neg (nI_pos (by omega)), h2, if_neg (nI_ge hi (by omega)), if_neg (show ¬ (6 : Int32) ≤ nI i from nI_ge (b := 6) (by omega) (by omega)), nI_clamp (by omega), ha]
  exact ⟨vp_in_nI (by omega) (by omega), hp⟩
theorem i_at2No {σ : St} {nt : Nat} (h2 : σ.1 4 2 = nI nt) {v : Int32} (hv : v < 0 ∨ nI nt ≤ v) {Φ : Option Nat → St → Prop} (hp : Φ none σ) : wX6_at σ v Φ := by
  unfold wX6_at
  by_cases h1 : v < 0
  · rw [if_pos h1]; exact hp
  · rw [if_neg h1, h2, if_pos (by rcases hv with q | q; exact absurd q h1; exact q)]; exact hp
def goP (σ : St) (ks i : Nat) (T : Nat → Nat → Int32) : Prop := (∀ a, T a 0 = σ.2.2.2.2.2 a 0 ∧ T a 1 = σ.2.2.2.2.2 a 1) ∧ ∀ i', i' < i → i' < ks → ∀ a, σ.2.2.1 i' = some a → T a 2 = σ.1 6 i'
theorem i_goB {σ : St} {ks : Nat} {Φ : St → Prop} (hk : ks ≤ 6) (hs : σ.1 4 2 = nI ks) (hr : ∀ i, i < ks → ∃ a, σ.2.2.1 i = some a ∧ isT σ a) (hinj : ∀ i i', i < ks → i' < ks → σ.2.2.1 i = σ.2.2.1 i' → i = i')
    (hp : ∀ T, goP σ ks 6 T → Φ (σ.1, σ.2.1, σ.2.2.1, σ.2.2.2.1, σ.2.2.2.2.1, T)) : ∃ n0, wX6_goBack_10 Φ n0 σ 0 := by
  have key : ∀ m i, i + m = 6 → ∀ T, goP σ ks i T → wX6_goBack_10 Φ (m + 1) (σ.1, σ.2.1, σ.2.2.1, σ.2.2.2.1, σ.2.2.2.2.1, T) (nI i) := by
    intro m
    induction m with
    | zero =>
      intro i hi T hT
      have : i = 6 := by omega
      subst this
      rw [wX6_goBack_10, if_pos (show (6 : Int32) ≤ nI 6 by decide)]
      exact hp T hT
    | succ m ih =>
      intro i hi T hT
      rw [wX6_goBack_10, if_neg (show ¬ (6 : Int32) ≤ nI i from nI_ge (b := 6) (by omega) (by omega))]
      by_cases hlt : i < ks
      · obtain ⟨a, ha, hX⟩ := hr i hlt
        refine i_at2 (σ := (σ.1, σ.2.1, σ.2.2.1, σ.2.2.2.1, σ.2.2.2.2.1, T)) hk hs hlt ha ?_
        refine ⟨(fun e => by cases e), fun b e => ?_⟩
        cases e
        refine ⟨vp_in_nI (by omega) (by omega), hX, ?_⟩
        unfold wX6_goBack_39
        rw [nI_clamp (by omega), nI_1]
        refine ih (i + 1) (by omega) (up2 T a 2 (σ.1 6 i)) ⟨fun c => ?_, fun i' hi' hk' c hc => ?_⟩
        · have := hT.1 c
          by_cases q : c = a
          · subst q; simpa [up2, va_up] using this
          · simpa [up2, va_up, q] using this
        · by_cases q : i' = i
          · subst q
            rw [ha] at hc
            cases hc
            simp [up2, va_up]
          · have q2 : c ≠ a := fun z => q (hinj i' i hk' hlt (Eq.trans hc (by rw [z]; exact Eq.symm ha)))
            simpa [up2, va_up, q2] using hT.2 i' (by omega) hk' c hc
      · refine i_at2No (σ := (σ.1, σ.2.1, σ.2.2.1, σ.2.2.2.1, σ.2.2.2.2.1, T)) hs (Or.inr (nI_le (by omega) (by omega))) ?_
        refine ⟨fun _ => ?_, (fun b e => by cases e)⟩
        unfold wX6_goBack_39
        rw [nI_1]
        exact ih (i + 1) (by omega) T ⟨hT.1, fun i' hi' hk' => hT.2 i' (by omega) hk'⟩
  exact ⟨7, key 6 0 (by omega) σ.2.2.2.2.2 ⟨fun a => ⟨rfl, rfl⟩, fun i' hi' => by omega⟩⟩
def kpM (σ : St) : St := sV (sV (sV (sV (sV (sV (sV σ 18 30 1) 18 31 (σ.1 18 1)) 18 32 (σ.1 18 2)) 18 33 (σ.1 18 7)) 18 34 (σ.1 18 8)) 18 35 (σ.1 18 6)) 18 36 (σ.1 18 9)
theorem m_image {σ : St} {Φ : Int32 → St → Prop} (h0 : σ.1 18 0 = 1) (h6 : σ.1 18 6 = 0 ∨ σ.1 18 6 = 1) (hp : Φ (σ.1 18 8) (rowW (rowW (kpM σ).1 28 6 (σ.1 21)) 29 6 (σ.1 22), σ.2)) : wX12_image σ Φ := by
  unfold wX12_image
  rw [h0, if_neg (by decide)]
  exact ⟨by decide, h6, i_keepM (σ := kpM σ) hp⟩
theorem st_image {j : Nat} {σ : St} {a1 a2 a3 : Int32} (hj : j < 512) (h : InvX j σ) : wL_18 σ a1 a2 a3 (InvX (j + 1)) := by
  have hn := inv_next h Sim.rfl'
  obtain ⟨np, nt, nk, w, hh, h1, h2, h3, h4, h5, h6⟩ := h
  have hR := inv_rdy (by omega) h2 h4
  obtain ⟨q5, q6, -, -, e6, -⟩ := inv_eqs h1 h2 h3 h5
  obtain ⟨hT, hM, hB, x4, x8, hl2, hs2, hL⟩ := hR
  unfold wL_18 wX11_image
  rw [e_isThere]
  rcases inv_wire h2 with ⟨e0, e1⟩ | ⟨e0, e1⟩
  · rw [if_neg e1, if_pos rfl]
    unfold wX12_image
    dsimp only
    rw [if_pos e0]
    exact fin_ok rfl hn
  · rw [if_pos e1, if_neg (by decide)]
    refine i_become17 q5 q6 (i_keep (nt := nt) hT ⟨by decide, ?_⟩)
    refine m_image e0 (show σ.1 18 6 = 0 ∨ σ.1 18 6 = 1 by rw [e6]; exact q6) ?_
    · refine fin_ok (show σ.1 3 4 = σ.1 18 8 from x4.trans x8.symm) ?_
      obtain ⟨⟨b1, b2, b3, b4, b5, b6, b7⟩, d1, d2, d3, d4, d5⟩ := h2
      rcases d5 with ⟨z, -⟩ | ⟨g0, g1, s, b, p, g2, g3, g4, g5, g6, g7, g8⟩
      · exact absurd (Eq.trans (Eq.symm z) e0) (by decide)
      unfold InvX
      refine ⟨np, nt, nk, w, hh, h1, ⟨⟨b1, b2, b3, b4, b5, b6, b7⟩, d1, by omega, d3, d4, Or.inr ⟨g0, g1, s, b, p, g2, g3, g4, g5, g6, g7, g8⟩⟩, h3.mono, h4, h5, Or.inr ⟨rfl, rfl, h3.2.1, g0, ⟨b1, rfl, rfl, b4, b5, rfl, b7⟩, d4, g1, p, hh, nt, g7, g8, d1, by omega, rfl, hM, Nat.le_refl _, fun i hi => ?_⟩⟩
      have hn6 := hT.1
      have hi6 : i < 6 := by omega
      have z := h4.2.2.2.2.2.2.1 i hi
      have z' : σ.1 21 i = 0 ∨ σ.1 21 i = 1 := z
      obtain ⟨w', c', f1, f2, f3, f4⟩ := h4.2.2.2.2.2.1 i hi
      have f3' : σ.1 22 i = nI c' := f3
      refine ⟨?_, ?_, ?_, c', ?_, f4⟩
      · simp [cl, scr, rowW, sV, up2, va_up, hi6, hi, cpC, kpM]
      · simpa [cl, scr, rowW, sV, up2, va_up, hi6, hi, cpC, kpM] using z'
      · simp [cl, scr, rowW, sV, up2, va_up, hi6, hi, cpC, kpM]
      · simpa [cl, scr, rowW, sV, up2, va_up, hi6, hi, cpC, kpM] using f3'
