/-! PURE PART 7: a new thing -/
theorem sw4' {v : Int32} (h : 0 ≤ v ∧ v ≤ 4) : ∃ tk, KD tk v := by
  rcases sw4 h with rfl | rfl | rfl | rfl | rfl
  · exact ⟨9, Or.inl ⟨rfl, rfl⟩⟩
  · exact ⟨1, Or.inr (Or.inl ⟨rfl, rfl⟩)⟩
  · exact ⟨3, Or.inr (Or.inr (Or.inl ⟨rfl, rfl⟩))⟩
  · exact ⟨5, Or.inr (Or.inr (Or.inr (Or.inl ⟨rfl, rfl⟩)))⟩
  · exact ⟨4, Or.inr (Or.inr (Or.inr (Or.inr ⟨rfl, rfl⟩)))⟩
theorem isT_sN {σ : St} {b tk : Nat} {kv : Int32} (h : KD tk kv) : isT (sN σ b tk) b := by
  refine ⟨List.mem_append_right _ (List.mem_singleton.mpr rfl), ?_⟩
  have e : (sN σ b tk).2.2.2.2.1 b = tk := by simp [sN, va_up]
  rw [e]
  rcases h with ⟨e, -⟩ | ⟨e, -⟩ | ⟨e, -⟩ | ⟨e, -⟩ | ⟨e, -⟩ <;> simp [e]
abbrev nT (σ : St) (b tk : Nat) (v1 v2 v3 : Int32) : St := sT (sT (sT (sN σ b tk) b 0 v1) b 2 v2) b 1 v3
theorem i_init9 {σ : St} {b tk : Nat} {kv v1 v2 v3 : Int32} {Φ : St → Prop} (hk : KD tk kv) (hp : Φ (nT σ b tk v1 v2 v3)) : wX9_init (sN σ b tk) b v1 v2 v3 Φ := by
  unfold wX9_init
  have q : isT (sN σ b tk) b := isT_sN hk
  exact ⟨q, q, q, hp⟩
theorem i_newThing {σ : St} {kv v1 v2 v3 : Int32} {Φ : Option Nat → St → Prop} (hv : 0 ≤ kv ∧ kv ≤ 4) (hp : ∀ b tk, b ∉ σ.2.2.2.1 → KD tk kv → Φ (some b) (nT σ b tk v1 v2 v3)) : wX11_newThing σ kv v1 v2 v3 Φ := by
  unfold wX11_newThing
  refine ⟨?_, ?_, ?_, ?_, ?_⟩
  · rintro rfl b hb
    have k : KD 1 1 := Or.inr (Or.inl ⟨rfl, rfl⟩)
    exact i_init9 k (hp b 1 hb k)
  · rintro rfl b hb
    have k : KD 3 2 := Or.inr (Or.inr (Or.inl ⟨rfl, rfl⟩))
    exact i_init9 k (hp b 3 hb k)
  · rintro rfl b hb
    have k : KD 5 3 := Or.inr (Or.inr (Or.inr (Or.inl ⟨rfl, rfl⟩)))
    exact i_init9 k (hp b 5 hb k)
  · rintro rfl b hb
    have k : KD 4 4 := Or.inr (Or.inr (Or.inr (Or.inr ⟨rfl, rfl⟩)))
    exact i_init9 k (hp b 4 hb k)
  · intro e b hb
    have z : kv = 0 := by
      rcases sw4 hv with rfl | rfl | rfl | rfl | rfl
      · rfl
      all_goals exact absurd e (by decide)
    have k : KD 9 kv := Or.inl ⟨rfl, z⟩
    exact i_init9 k (hp b 9 hb k)
theorem st_thing {j : Nat} {σ : St} {a1 a2 a3 : Int32} (hj : j < 512) (h : InvX j σ) : wL_5 σ a1 a2 a3 (InvX (j + 1)) := by
  have hn := inv_next h Sim.rfl'
  obtain ⟨np, nt, nk, w, hh, h1, h2, h3, h4, h5, h6⟩ := h
  have hR := inv_rdy (by omega) h2 h4
  obtain ⟨hT, hM, hB, x4, x8, hl2, hs2, hL⟩ := hR
  have hn6 := hT.1
  unfold wL_5 wX11_thing
  rw [e_isCabin]
  by_cases hc : 0 ≤ a3 ∧ a3 ≤ 1
  · rw [if_pos hc, if_neg (by decide), e_isKind]
    by_cases hk : 0 ≤ a1 ∧ a1 ≤ 4
    · rw [if_pos hk, if_neg (by decide)]
      by_cases hw : 1 ≤ a2 ∧ a2 ≤ 20
      · rw [if_neg (show ¬ a2 < 1 by grind), if_pos hw.2, e_isThere]
        rcases inv_wire h2 with ⟨e0, e1⟩ | ⟨e0, e1⟩
        · rw [if_neg e1, if_pos rfl]
          unfold wX12_thing
          dsimp only
          rw [e_within, if_pos hc, if_neg (by decide), e_within, if_pos hk, if_neg (by decide), e_within, if_pos hw, if_neg (by decide), if_pos e0]
          exact fin_ok rfl hn
        · rw [if_pos e1, if_neg (by decide)]
          unfold wX6_isFull
          rw [hT.2.1]
          by_cases hf : nt = 6
          · subst hf
            rw [if_neg (show ¬ nI 6 < 6 by decide)]
            refine ⟨by decide, ?_⟩
            dsimp only
            rw [if_neg (by decide)]
            unfold wX12_thing
            dsimp only
            rw [e_within, if_pos hc, if_neg (by decide), e_within, if_pos hk, if_neg (by decide), e_within, if_pos hw, if_neg (by decide), e0, if_neg (by decide), hM, if_pos (show nI 6 = 6 from rfl)]
            exact fin_ok rfl hn
          · rw [if_pos (show nI nt < 6 from nI_lt (b := 6) (by omega) (by omega))]
            refine ⟨by decide, ?_⟩
            dsimp only
            rw [if_pos rfl]
            refine i_newThing hk (fun b tk hb hkd => ⟨b, rfl, ?_⟩)
            have hin : vp_in (nI nt) 6 := vp_in_nI (by omega) (by omega)
            obtain ⟨τ, hτ⟩ : ∃ τ, τ = nT σ b tk a2 a3 (σ.1 3 4) := ⟨_, rfl⟩
            rw [← hτ]
            have t1 : τ.1 = σ.1 := by rw [hτ]; rfl
            have tT : isT τ b := by rw [hτ]; exact isT_sN hkd
            unfold wX6_put
            rw [t1, hT.2.1, if_neg (nI_pos (by omega)), if_pos (show nI nt < 6 from nI_lt (b := 6) (by omega) (by omega)), nI_clamp (by omega)]
            refine ⟨tT, hin, ?_⟩
            rw [show (sH τ nt (some b)).1 4 2 = nI nt by rw [show (sH τ nt (some b)).1 = τ.1 from rfl, t1]; exact hT.2.1, nI_1]
            rw [show (sV (sH τ nt (some b)) 4 2 (nI (nt + 1))).1 4 2 - 1 = nI nt from Eq.trans (nI_sub (a := nt + 1) (b := 1) (by omega)) rfl]
            obtain ⟨μ, hμ⟩ : ∃ μ, μ = sV (sH τ nt (some b)) 4 2 (nI (nt + 1)) := ⟨_, rfl⟩
            rw [← hμ]
            have m0 : μ.1 18 0 = 1 := by rw [hμ]; show τ.1 18 0 = 1; rw [t1]; exact e0
            have m9 : μ.1 18 9 = nI nt := by rw [hμ]; show τ.1 18 9 = nI nt; rw [t1]; exact hM
            have m8 : μ.1 18 8 = nI hh := by rw [hμ]; show τ.1 18 8 = nI hh; rw [t1]; exact x8
            unfold wX12_thing
            rw [e_within, if_pos hc, if_neg (by decide), e_within, if_pos hk, if_neg (by decide), e_within, if_pos hw, if_neg (by decide), m0, if_neg (by decide), m9, if_neg (show ¬ nI nt = 6 from fun q => hf ((nI_eq (by omega) (by omega)).mp (q : nI nt = nI 6))), nI_clamp (by omega)]
            rw [show (sV μ 19 nt a1).1 18 9 = nI nt from m9, nI_clamp (by omega)]
            rw [show (sV (sV μ 19 nt a1) 20 nt a2).1 18 9 = nI nt from m9, nI_clamp (by omega)]
            rw [show (sV (sV (sV μ 19 nt a1) 20 nt a2) 21 nt a3).1 18 9 = nI nt from m9, show (sV (sV (sV μ 19 nt a1) 20 nt a2) 21 nt a3).1 18 8 = nI hh from m8, nI_clamp (by omega)]
            rw [show (sV (sV (sV (sV μ 19 nt a1) 20 nt a2) 21 nt a3) 22 nt (nI hh)).1 18 9 = nI nt from m9, nI_1]
            refine ⟨hin, hin, hin, hin, ?_⟩
            refine fin_ok (Eq.symm (Eq.trans (nI_sub (a := nt + 1) (b := 1) (by omega)) rfl)) ?_
            unfold InvX
            rw [cl_sV rfl, cl_sV rfl, cl_sV rfl, cl_sV rfl, cl_sV rfl, hμ, cl_sV rfl, show (sH τ nt (some b)).1 = σ.1 from t1]
            obtain ⟨c1, c2, c3, c4, c5, c6, c7, c8⟩ := h4
            have hrow : ∀ i, i < nt → ∃ a, σ.2.2.1 i = some a ∧ a ∈ σ.2.2.2.1 := fun i hi => by
              obtain ⟨a, d1, d2, -⟩ := c5 i hi
              exact ⟨a, d1, d2⟩
            refine ⟨np, nt + 1, nk, w, hh, h1, h2.mono, h3.mono, ⟨by omega, rfl, rfl, fun _ => e0, fun i hi => ?_, fun i hi => ?_, fun i hi => ?_, fun i i' hi hi' hr => ?_⟩, h5, ?_⟩
            · by_cases hi2 : i = nt
              · subst hi2
                refine ⟨b, ?_, ?_, ?_, ?_, ?_, ?_⟩
                · simp [sV, sH, va_up]
                · rw [hτ]; exact List.mem_append_right _ (List.mem_singleton.mpr rfl)
                · rw [hτ]; simpa [sV, sH, sT, sN, va_up, up2] using hkd
                · rw [hτ]; simp [sV, sH, sT, sN, va_up, up2]
                · rw [hτ]; simp [sV, sH, sT, sN, va_up, up2, x4]
                · rw [hτ]; simp [sV, sH, sT, sN, va_up, up2]
              · obtain ⟨a, d1, d2, d3, d4, d5, d6⟩ := c5 i (by omega)
                have hab : a ≠ b := fun q => hb (q ▸ d2)
                refine ⟨a, ?_, ?_, ?_, ?_, ?_, ?_⟩
                · rw [hτ]; simpa [sV, sH, sT, sN, va_up, up2, hi2] using d1
                · rw [hτ]; exact List.mem_append_left _ d2
                · rw [hτ]; simpa [sV, sH, sT, sN, va_up, up2, hi2, hab] using d3
                · rw [hτ]; simpa [sV, sH, sT, sN, va_up, up2, hi2, hab] using d4
                · rw [hτ]; simpa [sV, sH, sT, sN, va_up, up2, hi2, hab] using d5
                · rw [hτ]; simpa [sV, sH, sT, sN, va_up, up2, hi2, hab] using d6
            · by_cases hi2 : i = nt
              · subst hi2
                obtain ⟨q, r1, r2, r3⟩ := bound_nat (lo := 1) (hi := 20) hw.1 hw.2 (by omega) (by omega)
                exact ⟨q, hh, by simp [va_up, up2, r1], r3, by simp [va_up, up2], Nat.le_refl _⟩
              · obtain ⟨q, c, r1, r2, r3, r4⟩ := c6 i (by omega)
                exact ⟨q, c, by simpa [va_up, up2, hi2] using r1, r2, by simpa [va_up, up2, hi2] using r3, r4⟩
            · by_cases hi2 : i = nt
              · subst hi2
                have z : a3 = 0 ∨ a3 = 1 := by grind
                simpa [va_up, up2] using z
              · simpa [va_up, up2, hi2] using c7 i (by omega)
            · have key : ∀ i, i < nt → σ.2.2.1 i ≠ some b := fun i hi q => by
                obtain ⟨a, d1, d2⟩ := hrow i hi
                rw [d1] at q
                exact hb (Option.some.inj q ▸ d2)
              have hr' : va_up σ.2.2.1 nt (some b) i = va_up σ.2.2.1 nt (some b) i' := by
                rw [hτ] at hr
                exact hr
              unfold va_up at hr'
              by_cases hi2 : i = nt <;> by_cases hi3 : i' = nt
              · omega
              · rw [if_pos hi2, if_neg hi3] at hr'
                exact absurd (Eq.symm hr') (key i' (by omega))
              · rw [if_neg hi2, if_pos hi3] at hr'
                exact absurd hr' (key i (by omega))
              · rw [if_neg hi2, if_neg hi3] at hr'
                exact c8 i i' (by omega) (by omega) hr'
            · rcases h6.mono with q | ⟨k1, k2, k3, k4, k5, k6, k7, p, kh, ks, g1, g2, g3, g4, g5, g6, g7, g8⟩
              · exact Or.inl q
              · refine Or.inr ⟨k1, k2, k3, k4, k5, k6, k7, p, kh, ks, g1, g2, g3, g4, g5, g6, by omega, fun i hi => ?_⟩
                have hi2 : i ≠ nt := by omega
                simpa [va_up, up2, hi2] using g8 i hi
      · have m : wX12_thing σ a1 a2 a3 (fun r2 σ2 => if (-102 : Int32) = r2 then InvX (j + 1) σ2 else False) := by
          unfold wX12_thing
          rw [e_within, if_pos hc, if_neg (by decide), e_within, if_pos hk, if_neg (by decide), e_within, if_neg hw, if_pos rfl]
          exact fin_ok rfl hn
        by_cases q : a2 < 1
        · rw [if_pos q]; exact m
        · rw [if_neg q, if_neg (show ¬ a2 ≤ 20 by grind)]; exact m
    · rw [if_neg hk, if_pos rfl]
      unfold wX12_thing
      dsimp only
      rw [e_within, if_pos hc, if_neg (by decide), e_within, if_neg hk, if_pos rfl]
      exact fin_ok rfl hn
  · rw [if_neg hc, if_pos rfl]
    unfold wX12_thing
    dsimp only
    rw [e_within, if_neg hc, if_pos rfl]
    exact fin_ok rfl hn
