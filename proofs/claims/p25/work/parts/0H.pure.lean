/-! PURE PART H: the law's thing -/
theorem isT_sN {σ : St} {b tk : Nat} {kv : Int32} (h : KD tk kv) : isT (sN σ b tk) b := by
  refine ⟨List.mem_append_right _ (List.mem_singleton.mpr rfl), ?_⟩
  have e : (sN σ b tk).2.2.2.2.1 b = tk := by simp [sN, va_up]
  rw [e]
  rcases h with ⟨e, -⟩ | ⟨e, -⟩ | ⟨e, -⟩ | ⟨e, -⟩ | ⟨e, -⟩ <;> simp [e]
abbrev nT (σ : St) (b tk : Nat) (v1 v2 v3 : Int32) : St := sT (sT (sT (sN σ b tk) b 0 v1) b 2 v2) b 1 v3
theorem i_init9 {σ : St} {b tk : Nat} {kv v1 v2 v3 : Int32} {Φ : St → Prop} (hk : KD tk kv) (hp : Φ (nT σ b tk v1 v2 v3)) : wX9_init (sN σ b tk) b v1 v2 v3 Φ := by
  unfold wX9_init
  have q : isT (sN σ b tk) b := isT_sN hk
  exact ⟨q, q, q, hp⟩
theorem i_newThing {σ : St} {kv v1 v2 v3 : Int32} {Φ : Option Nat → St → Prop} (hv : 0 ≤ kv ∧ kv ≤ 4) (hp : ∀ b tk, b ∉ σ.2.2.2.1 → KD tk kv → Φ (some b) (nT σ b tk v1 v2 v3)) : wX11_newThing σ kv v1 v2 v3 Φ := by
  unfold wX11_newThing
  refine ⟨?_, ?_, ?_, ?_, ?_⟩
  · rintro rfl b hb
    have k : KD 1 1 := Or.inr (Or.inl ⟨rfl, rfl⟩)
    exact i_init9 k (hp b 1 hb k)
  · rintro rfl b hb
    have k : KD 3 2 := Or.inr (Or.inr (Or.inl ⟨rfl, rfl⟩))
    exact i_init9 k (hp b 3 hb k)
  · rintro rfl b hb
    have k : KD 5 3 := Or.inr (Or.inr (Or.inr (Or.inl ⟨rfl, rfl⟩)))
    exact i_init9 k (hp b 5 hb k)
  · rintro rfl b hb
    have k : KD 4 4 := Or.inr (Or.inr (Or.inr (Or.inr ⟨rfl, rfl⟩)))
    exact i_init9 k (hp b 4 hb k)
  · intro e b hb
    have z : kv = 0 := by
      rcases sw4 hv with rfl | rfl | rfl | rfl | rfl
      · rfl
      all_goals exact absurd e (by decide)
    have k : KD 9 kv := Or.inl ⟨rfl, z⟩
    exact i_init9 k (hp b 9 hb k)
theorem x_thing {σ : St} {nt hh : Nat} {kv wv pv : Int32} {Φ : Int32 → St → Prop} (hk : 0 ≤ kv ∧ kv ≤ 4) (hw : 1 ≤ wv ∧ wv ≤ 20) (hc : 0 ≤ pv ∧ pv ≤ 1) (h0 : 0 < σ.1 3 0) (h42 : σ.1 4 2 = nI nt) (hf : nt < 6) (h34 : σ.1 3 4 = nI hh) (hp : ∀ b tk, b ∉ σ.2.2.2.1 → KD tk kv → Φ (nI nt) (sV (sH (nT σ b tk wv pv (nI hh)) nt (some b)) 4 2 (nI (nt + 1)))) : wX11_thing σ kv wv pv Φ := by
  unfold wX11_thing
  rw [e_isCabin, if_pos hc, if_neg (by decide), e_isKind, if_pos hk, if_neg (by decide), if_neg (show ¬ wv < 1 by grind), if_pos hw.2, e_isThere, if_pos h0, if_neg (by decide)]
  unfold wX6_isFull
  rw [h42, if_pos (show nI nt < 6 from nI_lt (b := 6) (by omega) (by omega))]
  refine ⟨by decide, ?_⟩
  dsimp only
  rw [if_pos rfl, h34]
  refine i_newThing hk (fun b tk hb hkd => ⟨b, rfl, ?_⟩)
  have hin : vp_in (nI nt) 6 := vp_in_nI (by omega) (by omega)
  have hp' := hp b tk hb hkd
  obtain ⟨τ, hτ⟩ : ∃ τ, τ = nT σ b tk wv pv (nI hh) := ⟨_, rfl⟩
  rw [← hτ] at hp' ⊢
  have t1 : τ.1 = σ.1 := by rw [hτ]; rfl
  have tT : isT τ b := by rw [hτ]; exact isT_sN hkd
  unfold wX6_put
  rw [t1, h42, if_neg (nI_pos (by omega)), if_pos (show nI nt < 6 from nI_lt (b := 6) (by omega) (by omega)), nI_clamp (by omega)]
  refine ⟨tT, hin, ?_⟩
  rw [show (sH τ nt (some b)).1 4 2 = nI nt by rw [show (sH τ nt (some b)).1 = τ.1 from rfl, t1]; exact h42, nI_1]
  rw [show (sV (sH τ nt (some b)) 4 2 (nI (nt + 1))).1 4 2 - 1 = nI nt from Eq.trans (nI_sub (a := nt + 1) (b := 1) (by omega)) rfl]
  exact hp'
set_option maxHeartbeats 4000000 in
theorem l_thing {σ : St} {nt hh s b p x : Nat} {Φ : Int32 → St → Prop} (hI : PI σ nt hh s b p) (hnt : nt < 6) (hx : x < 2 ^ 31) (hp : ∀ τ, PI τ (nt + 1) hh s b p → Φ 1 τ) : wL_thing σ (nI x) 18 Φ := by
  obtain ⟨hpg, hW, ⟨r0, r1, r2, r3, r4, r5, r6, r7⟩, ⟨hT, hB, h34⟩, hP, hinj⟩ := hI
  have l0 := wn_pos hW
  have a1 : nI x - nI x / 5 * 5 = nI (x % 5) := pk_rem (d := 5) hx (by omega) (by omega)
  have a2 : nI x / 8 = nI (x / 8) := pk_div (d := 8) hx (by omega) (by omega)
  have a3 : nI (x / 8) - nI (x / 8) / 20 * 20 = nI (x / 8 % 20) := pk_rem (d := 20) (by omega) (by omega) (by omega)
  have a4 : nI x / 256 = nI (x / 256) := pk_div (d := 256) hx (by omega) (by omega)
  have a5 : nI (x / 256) - nI (x / 256) / 2 * 2 = nI (x / 256 % 2) := pk_rem (d := 2) (by omega) (by omega) (by omega)
  have a6 : (1 : Int32) + nI (x / 8 % 20) = nI (1 + x / 8 % 20) := nI_add 1 _
  obtain ⟨kv, hkv⟩ : ∃ kv, kv = nI (x % 5) := ⟨_, rfl⟩
  obtain ⟨wn, hwn⟩ : ∃ wn, wn = 1 + x / 8 % 20 := ⟨_, rfl⟩
  obtain ⟨pv, hpv⟩ : ∃ pv, pv = nI (x / 256 % 2) := ⟨_, rfl⟩
  have hk : 0 ≤ kv ∧ kv ≤ 4 := by rw [hkv]; exact ⟨nI_pos' (by omega), nI_le (b := 4) (by omega) (by omega)⟩
  have hw : 1 ≤ nI wn ∧ nI wn ≤ 20 := ⟨nI_le (a := 1) (by omega) (by omega), nI_le (b := 20) (by omega) (by omega)⟩
  have hc : 0 ≤ pv ∧ pv ≤ 1 := by rw [hpv]; exact ⟨nI_pos' (by omega), nI_le (b := 1) (by omega) (by omega)⟩
  obtain ⟨j, hj⟩ : ∃ j, j = 8 + 4 * nt := ⟨_, rfl⟩
  have e0 : (8 : Int32) + 4 * nI nt = nI j := by rw [ix8, hj]
  have e1 : nI j + 1 = nI (j + 1) := nI_1 _
  have e2 : nI j + 2 = nI (j + 2) := nI_add j 2
  have e3 : nI j + 3 = nI (j + 3) := nI_add j 3
  have k0 : (nI j).toNatClampNeg = j := nI_clamp (by omega)
  have k1 : (nI (j + 1)).toNatClampNeg = j + 1 := nI_clamp (by omega)
  have k2 : (nI (j + 2)).toNatClampNeg = j + 2 := nI_clamp (by omega)
  have k3 : (nI (j + 3)).toNatClampNeg = j + 3 := nI_clamp (by omega)
  have f5 : (sV (sV (sV σ 18 j kv) 18 (j + 1) (nI wn)) 18 (j + 2) pv).1 18 5 = nI hh := by rw [sv_o (by omega), sv_o (by omega), sv_o (by omega)]; exact r5
  have f7 : (sV (sV (sV (sV σ 18 j kv) 18 (j + 1) (nI wn)) 18 (j + 2) pv) 18 (j + 3) (nI hh)).1 18 7 = nI nt := by rw [sv_o (by omega), sv_o (by omega), sv_o (by omega), sv_o (by omega)]; exact r7
  unfold wL_thing
  rw [cl7, cl5, r7, e0, e1, e2, e3, k0, k1, k2, k3, a1, a2, a3, a4, a5, a6, ← hkv, ← hwn, ← hpv, f5, f7, nI_1 nt]
  obtain ⟨ν, hν⟩ : ∃ ν, ν = sV (sV (sV (sV (sV σ 18 j kv) 18 (j + 1) (nI wn)) 18 (j + 2) pv) 18 (j + 3) (nI hh)) 18 7 (nI (nt + 1)) := ⟨_, rfl⟩
  rw [← hν]
  have g0 : ν.1 18 j = kv := by rw [hν, sv_o (by omega), sv_o (by omega), sv_o (by omega), sv_o (by omega), sv_s]
  have g1 : ν.1 18 (j + 1) = nI wn := by rw [hν, sv_o (by omega), sv_o (by omega), sv_o (by omega), sv_s]
  have g2 : ν.1 18 (j + 2) = pv := by rw [hν, sv_o (by omega), sv_o (by omega), sv_s]
  have g3 : ν.1 18 (j + 3) = nI hh := by rw [hν, sv_o (by omega), sv_s]
  have g7 : ν.1 18 7 = nI (nt + 1) := by rw [hν, sv_s]
  have gO : ∀ k, k < j → k ≠ 7 → ν.1 18 k = σ.1 18 k := fun k h1 h2 => by rw [hν, sv_o (by omega), sv_o (by omega), sv_o (by omega), sv_o (by omega), sv_o (by omega)]
  have gX : ∀ k, k ≠ 18 → ν.1 k = σ.1 k := fun k h1 => by
    rw [hν]
    simp [sV, up2, va_up, h1]
  have gR : ν.2 = σ.2 := by rw [hν]; rfl
  clear hν f5 f7
  rw [g1, g2]
  refine ⟨vi 7 (by omega), by decide, vi j (by omega), by decide, by decide, vi _ (by omega), by decide, by decide, vi _ (by omega), vi 5 (by omega), vi _ (by omega), vi 7 (by omega), vi 7 (by omega), by decide, vi _ (by omega), vi _ (by omega), ?_⟩
  refine x_thing (hh := hh) (nt := nt) hk hw hc (by rw [gX 3 (by omega)]; exact l0) (by rw [gX 4 (by omega)]; exact hT.2.1) hnt (by rw [gX 3 (by omega)]; exact h34) (fun b9 tk hb hkd => ⟨vi 7 (by omega), ?_⟩)
  obtain ⟨τ, hτ⟩ : ∃ τ, τ = sV (sH (nT ν b9 tk (nI wn) pv (nI hh)) nt (some b9)) 4 2 (nI (nt + 1)) := ⟨_, rfl⟩
  rw [← hτ]
  have t18 : τ.1 18 = ν.1 18 := by rw [hτ]; rfl
  have t1 : τ.1 1 = σ.1 1 := by rw [← gX 1 (by omega), hτ]; rfl
  have t3 : τ.1 3 = σ.1 3 := by rw [← gX 3 (by omega), hτ]; rfl
  have t4 : τ.1 4 2 = nI (nt + 1) := by rw [hτ]; rfl
  rw [t18, g7, if_pos (show nI nt = nI (nt + 1) - 1 from Eq.symm (Eq.trans (nI_sub (a := nt + 1) (b := 1) (by omega)) rfl))]
  refine ⟨by decide, hp τ ⟨by rw [t1]; exact hpg, ?_, ?_, ⟨⟨by omega, t4, fun i hi => ?_⟩, ⟨by omega, hB.2.1, fun i hi => ?_⟩, by rw [t3]; exact h34⟩, fun i hi => ?_, fun i i' hi hi' hr => ?_⟩⟩
  · unfold WN
    rw [t3]
    exact hW
  · rw [t18, t3, gO 0 (by omega) (by omega), gO 1 (by omega) (by omega), gO 2 (by omega) (by omega), gO 3 (by omega) (by omega), gO 4 (by omega) (by omega), gO 5 (by omega) (by omega), gO 6 (by omega) (by omega), g7]
    exact ⟨r0, r1, r2, r3, r4, r5, r6, rfl⟩
  · by_cases hi2 : i = nt
    · refine ⟨b9, ?_, ?_, ?_, ?_, ?_, ?_⟩
      · rw [hi2, hτ]; simp [sV, sH, va_up]
      · rw [hτ]; exact List.mem_append_right _ (List.mem_singleton.mpr rfl)
      · rw [t18, show rK (ν.1 18) i = kv by rw [hi2, ← g0, hj], hτ]; simpa [sV, sH, sT, sN, va_up, up2] using hkd
      · rw [t18, show rW (ν.1 18) i = nI wn by rw [hi2, ← g1, hj, Nat.add_right_comm 8 (4 * nt) 1], hτ]; simp [sV, sH, sT, sN, va_up, up2]
      · rw [t18, show rM (ν.1 18) i = nI hh by rw [hi2, ← g3, hj, Nat.add_right_comm 8 (4 * nt) 3], hτ]; simp [sV, sH, sT, sN, va_up, up2]
      · rw [t18, show rP (ν.1 18) i = pv by rw [hi2, ← g2, hj, Nat.add_right_comm 8 (4 * nt) 2], hτ]; simp [sV, sH, sT, sN, va_up, up2]
    · obtain ⟨a, ha, d2, d3, d4, d5, d6⟩ := hT.2.2 i (by omega)
      have hab : a ≠ b9 := fun q => hb (by rw [gR]; exact q ▸ d2)
      have q0 : rK (ν.1 18) i = rK (σ.1 18) i := gO _ (by omega) (by omega)
      have q1 : rW (ν.1 18) i = rW (σ.1 18) i := gO _ (by omega) (by omega)
      have q2 : rP (ν.1 18) i = rP (σ.1 18) i := gO _ (by omega) (by omega)
      have q3 : rM (ν.1 18) i = rM (σ.1 18) i := gO _ (by omega) (by omega)
      refine ⟨a, ?_, ?_, ?_, ?_, ?_, ?_⟩
      · rw [hτ]; simpa [sV, sH, sT, sN, va_up, up2, hi2, gR] using ha
      · rw [hτ]; exact List.mem_append_left _ (by rw [gR]; exact d2)
      · rw [t18, q0, hτ]; simpa [sV, sH, sT, sN, va_up, up2, hi2, hab, gR] using d3
      · rw [t18, q1, hτ]; simpa [sV, sH, sT, sN, va_up, up2, hi2, hab, gR] using d4
      · rw [t18, q3, hτ]; simpa [sV, sH, sT, sN, va_up, up2, hi2, hab, gR] using d5
      · rw [t18, q2, hτ]; simpa [sV, sH, sT, sN, va_up, up2, hi2, hab, gR] using d6
  · rw [t18]
    by_cases hi2 : i = nt
    · exact ⟨wn, hh, by rw [hi2, ← g1, hj, Nat.add_right_comm 8 (4 * nt) 1], by omega, by rw [hi2, ← g3, hj, Nat.add_right_comm 8 (4 * nt) 3], Nat.le_refl _⟩
    · obtain ⟨w, c, u1, u2, u3, u4⟩ := hB.2.2 i (by omega)
      exact ⟨w, c, (gO _ (by omega) (by omega)).trans u1, u2, (gO _ (by omega) (by omega)).trans u3, u4⟩
  · rw [t18]
    by_cases hi2 : i = nt
    · rw [show rP (ν.1 18) i = pv by rw [hi2, ← g2, hj, Nat.add_right_comm 8 (4 * nt) 2]]
      grind
    · rw [show rP (ν.1 18) i = rP (σ.1 18) i from gO _ (by omega) (by omega)]
      exact hP i (by omega)
  · have key : ∀ i, i < nt → σ.2.2.1 i ≠ some b9 := fun i hi q => by
      obtain ⟨a, d1, d2, -⟩ := hT.2.2 i hi
      rw [d1] at q
      exact hb (by rw [gR]; exact Option.some.inj q ▸ d2)
    have hr' : va_up σ.2.2.1 nt (some b9) i = va_up σ.2.2.1 nt (some b9) i' := by
      rw [hτ] at hr
      rw [← gR]
      exact hr
    unfold va_up at hr'
    by_cases hi2 : i = nt <;> by_cases hi3 : i' = nt
    · omega
    · rw [if_pos hi2, if_neg hi3] at hr'
      exact absurd (Eq.symm hr') (key i' (by omega))
    · rw [if_neg hi2, if_pos hi3] at hr'
      exact absurd hr' (key i (by omega))
    · rw [if_neg hi2, if_neg hi3] at hr'
      exact hinj i i' (by omega) (by omega) hr'
