/-! PURE PART K: the law's acts, its loops, the law -/
theorem cell_nat (xs : Nat → Int32) (L : Nat) (k : Int32) : ∃ x, x < 2 ^ 31 ∧ cellV xs L k = nI x := by
  obtain ⟨j, j1, j2⟩ := pk_andE (if nI L ≤ k then 7919 * k + 13 else xs k.toNatClampNeg) (m := 2147483647) 31 (by decide)
  exact ⟨j, j1, j2⟩
theorem sv_id (σ : St) (q b : Nat) : sV σ q b (σ.1 q b) = σ := by
  have e : up2 σ.1 q b (σ.1 q b) = σ.1 := by
    funext i j
    unfold up2 va_up
    by_cases h : i = q
    · subst h
      by_cases h2 : j = b
      · subst h2; simp
      · simp [h2]
    · simp [h]
  unfold sV
  rw [e]
/-- what comes behind an act -/
def KN (K80 : St → Nat → Int32 → Prop) (kk hh tt : Nat) : Prop := ∀ τ nt' hh' s' b' p' kk', PI τ nt' hh' s' b' p' → hh' ≤ hh + 1 → kk' ≤ kk + 1 → K80 τ kk' (nI (tt + 1))
theorem l_rest {K80 : St → Nat → Int32 → Prop} {L : Nat} {xs : Nat → Int32} {σ : St} {kk kk' hh tt x nt' hh' s' b' p' : Nat} (hL : L < 2 ^ 31) (hK : KN K80 kk hh tt) (hh6 : hh ≤ 500) (hx : x < 2 ^ 31) (htt : tt < 44) (hI : PI σ nt' hh' s' b' p') (h1 : hh' ≤ hh + 1) (h2 : kk' ≤ kk + 1) : wL_law_416 K80 L xs σ kk' (nI tt) (nI x) :=
  l_416 hI hx (l_649 hL hI (by omega) hx htt (fun τ hτ => hK τ _ _ _ _ _ _ hτ h1 h2))
set_option maxHeartbeats 4000000 in
theorem l_hourA {K80 : St → Nat → Int32 → Prop} {L : Nat} {xs : Nat → Int32} {σ : St} {kk nt hh s b p tt x : Nat} {d : Int32} (hL : L < 2 ^ 31) (hK : KN K80 kk hh tt) (hh6 : hh ≤ 500) (hx : x < 2 ^ 31) (htt : tt < 44) (hI : PI σ nt hh s b p) (hd : -3 ≤ d ∧ d ≤ 3) : wL_law_165 K80 L xs σ kk (nI tt) (nI x) d := by
  have hI' := hI
  obtain ⟨hpg, hW, ⟨r0, r1, r2, r3, r4, r5, r6, r7⟩, ⟨hT, hB, h34⟩, hP, hinj⟩ := hI'
  have hn6 := hT.1
  have no : ¬ (σ.1 3 6 = 0 ∧ 10 ≤ σ.1 3 0 - d ∧ σ.1 3 0 - d ≤ 40) → wL_law_201 K80 L xs σ kk (nI tt) (nI x) d 0 := by
    intro h
    unfold wL_law_201
    refine x_hourS hd h ?_
    rw [if_pos rfl]
    unfold wL_law_225
    rw [if_pos rfl]
    exact l_rest hL hK hh6 hx htt hI (by omega) (by omega)
  unfold wL_law_165 wL_law_200
  rw [cl6, cl0, r6, r0]
  refine ⟨vi 6 (by omega), ?_⟩
  by_cases z : σ.1 3 6 = 0
  · rw [if_pos z]
    refine ⟨vi 0 (by omega), ?_⟩
    by_cases z1 : σ.1 3 0 - d ≤ 9
    · rw [if_pos z1]
      exact no (fun q => by have := q.2.1; grind)
    · rw [if_neg z1]
      refine ⟨vi 0 (by omega), ?_⟩
      by_cases z2 : 41 ≤ σ.1 3 0 - d
      · rw [if_pos z2]
        exact no (fun q => by have := q.2.2; grind)
      · rw [if_neg z2]
        have hl : 10 ≤ σ.1 3 0 - d ∧ σ.1 3 0 - d ≤ 40 := by
          constructor <;> grind
        obtain ⟨t, t1, t2⟩ := turns_nat (s := s) hW.2.2.1 hl
        obtain ⟨l, hle⟩ : ∃ l, l = σ.1 3 0 - d := ⟨_, rfl⟩
        obtain ⟨br, hbr⟩ : ∃ br, br = brS σ.1 nt (hh + 1) (nI s) l (nI b) := ⟨_, rfl⟩
        have hB1 : TB σ.1 nt (hh + 1) := hB.up (by omega) (by omega)
        unfold wL_law_201
        refine x_hour (nt := nt) (hh := hh) (s := s) (b := b) (p := p) (t := t) (br := br) h34 hB1 hT hW hd z hl t1 t2 (by rw [hbr, hle]) ?_
        rw [if_neg (by decide), ← hle]
        rw [← hle] at t1 hl
        obtain ⟨μ, hμ⟩ : ∃ μ, μ = sV (sV (sV (sV σ 3 0 l) 3 4 (nI (hh + 1))) 3 3 (nI (placeN p t))) 3 6 br := ⟨_, rfl⟩
        rw [← hμ]
        have m18 : μ.1 18 = σ.1 18 := by rw [hμ]; rfl
        refine l_hour18 (σ := μ) (r := σ.1 18) (nt := nt) (hh := hh) (s := s) (b := b) (p := p) (t := t) (l := l) (br := br) (by rw [m18]; exact ra_rfl) hn6 (by rw [m18]; exact r7) hP hB1 (by rw [m18, r0, hle]) hl (by rw [m18]; exact r1) (by rw [m18]; exact r2) (by rw [m18]; exact r4) hW.2.2.2.2.2.2.1 (by rw [m18]; exact r5) t1 t2 (by rw [hbr]; rfl) ?_
        unfold wL_law_225
        rw [if_pos rfl]
        obtain ⟨τ, hτ⟩ : ∃ τ, τ = sV (sV (sV (sV μ 18 0 l) 18 5 (nI (hh + 1))) 18 4 (nI (placeN p t))) 18 6 br := ⟨_, rfl⟩
        rw [← hτ]
        have hRA : RA (σ.1 18) (τ.1 18) := by
          rw [hτ]
          exact ra_sV (ra_sV (ra_sV (ra_sV (by rw [m18]; exact ra_rfl) (by omega)) (by omega)) (by omega)) (by omega)
        have t22 : τ.2.2 = σ.2.2 := by rw [hτ, hμ]; rfl
        have x1 : τ.1 1 1 = 0 := by rw [hτ, hμ]; exact hpg
        have x30 : τ.1 3 0 = l := by rw [hτ, hμ]; rfl
        have x31 : τ.1 3 1 = nI s := by rw [hτ, hμ]; exact hW.2.1
        have x32 : τ.1 3 2 = nI b := by rw [hτ, hμ]; exact hW.2.2.2.1
        have x33 : τ.1 3 3 = nI (placeN p t) := by rw [hτ, hμ]; rfl
        have x34 : τ.1 3 4 = nI (hh + 1) := by rw [hτ, hμ]; rfl
        have x35 : τ.1 3 5 = σ.1 3 5 := by rw [hτ, hμ]; rfl
        have x36 : τ.1 3 6 = br := by rw [hτ, hμ]; rfl
        have x42 : τ.1 4 2 = nI nt := by rw [hτ, hμ]; exact hT.2.1
        have y0 : τ.1 18 0 = l := by rw [hτ]; rfl
        have y1 : τ.1 18 1 = nI s := by rw [hτ, hμ]; exact r1
        have y2 : τ.1 18 2 = nI b := by rw [hτ, hμ]; exact r2
        have y3 : τ.1 18 3 = σ.1 3 5 := by rw [hτ, hμ]; exact r3
        have y4 : τ.1 18 4 = nI (placeN p t) := by rw [hτ]; rfl
        have y5 : τ.1 18 5 = nI (hh + 1) := by rw [hτ]; rfl
        have y6 : τ.1 18 6 = br := by rw [hτ]; rfl
        have y7 : τ.1 18 7 = nI nt := by rw [hτ, hμ]; exact r7
        refine l_rest hL hK hh6 hx htt (nt' := nt) (hh' := hh + 1) (s' := s) (b' := b) (p' := placeN p t) ⟨x1, ⟨by rw [x30]; exact hl, x31, hW.2.2.1, x32, hW.2.2.2.2.1, x33, Nat.mod_lt _ (by omega), by rw [x35]; exact hW.2.2.2.2.2.2.2.1, by rw [x36, hbr]; exact br01 _ _ _ _ _ _⟩, ⟨y0.trans x30.symm, y1, y2, y3.trans x35.symm, y4, y5, y6.trans x36.symm, y7⟩, ⟨⟨hn6, x42, fun i hi => ?_⟩, ra_tb hRA hB1, x34⟩, fun i hi => ?_, ?_⟩ (by omega) (by omega)
        · obtain ⟨a, ha, d2, d3, d4, d5, d6⟩ := hT.2.2 i hi
          refine ⟨a, by rw [t22]; exact ha, ?_⟩
          unfold TXr
          rw [t22, show rK (τ.1 18) i = rK (σ.1 18) i from hRA _ (by omega) (by omega), show rW (τ.1 18) i = rW (σ.1 18) i from hRA _ (by omega) (by omega), show rM (τ.1 18) i = rM (σ.1 18) i from hRA _ (by omega) (by omega), show rP (τ.1 18) i = rP (σ.1 18) i from hRA _ (by omega) (by omega)]
          exact ⟨d2, d3, d4, d5, d6⟩
        · rw [show rP (τ.1 18) i = rP (σ.1 18) i from hRA _ (by omega) (by omega)]
          exact hP i hi
        · rw [t22]
          exact hinj
  · rw [if_neg z]
    exact no (fun q => z q.1)
set_option maxHeartbeats 4000000 in
theorem l_carryA {K80 : St → Nat → Int32 → Prop} {L : Nat} {xs : Nat → Int32} {σ : St} {kk nt hh s b p tt x i : Nat} {mv : Int32} (hL : L < 2 ^ 31) (hK : KN K80 kk hh tt) (hh6 : hh ≤ 500) (hx : x < 2 ^ 31) (htt : tt < 44) (hI : PI σ nt hh s b p) (hi : i < nt)
    (hmv : (mv = 1 ∧ σ.1 3 6 = 0 ∧ ¬ (rK (σ.1 18) i = 2 ∧ 2 < turnsS (σ.1 3 1) (σ.1 3 0))) ∨ (mv = 0 ∧ ¬ (σ.1 3 6 = 0 ∧ ¬ (rK (σ.1 18) i = 2 ∧ 2 < turnsS (σ.1 3 1) (σ.1 3 0))))) : wL_law_283 K80 L xs σ kk (nI tt) (nI x) (nI i) mv := by
  have hI' := hI
  obtain ⟨hpg, hW, ⟨r0, r1, r2, r3, r4, r5, r6, r7⟩, ⟨hT, hB, h34⟩, hP, hinj⟩ := hI'
  have hn6 := hT.1
  have l0 := wn_pos hW
  obtain ⟨a, ha, d2, d3, d4, d5, d6⟩ := hT.2.2 i hi
  have kc : (nI (10 + 4 * i)).toNatClampNeg = 10 + 4 * i := nI_clamp (by omega)
  unfold wL_law_283 wL_law_321
  rw [ix10, kc]
  rcases hmv with ⟨rfl, hy⟩ | ⟨rfl, hno⟩
  · rw [if_neg (by decide)]
    refine ⟨vi _ (by omega), vi _ (by omega), ?_⟩
    refine x_carry (σ := sV σ 18 (10 + 4 * i) (1 - σ.1 18 (10 + 4 * i))) (nt := nt) (kv := rK (σ.1 18) i) (pl := rP (σ.1 18) i) hn6 hT.2.1 hi ha d2 d3 d6 l0 (fun _ => ?_) (fun q => absurd hy q)
    rw [if_neg (by decide)]
    refine ⟨vi _ (by omega), ?_⟩
    obtain ⟨τ, hτ⟩ : ∃ τ, τ = sT (sV σ 18 (10 + 4 * i) (1 - σ.1 18 (10 + 4 * i))) a 2 (1 - rP (σ.1 18) i) := ⟨_, rfl⟩
    rw [← hτ]
    have t18 : τ.1 18 = (sV σ 18 (10 + 4 * i) (1 - σ.1 18 (10 + 4 * i))).1 18 := by rw [hτ]; rfl
    have tP : τ.1 18 (10 + 4 * i) = 1 - rP (σ.1 18) i := by rw [t18, sv_s]
    have tO : ∀ k, k ≠ 10 + 4 * i → τ.1 18 k = σ.1 18 k := fun k hk => by rw [t18, sv_o hk]
    have tX : ∀ k, k ≠ 18 → τ.1 k = σ.1 k := fun k hk => by
      rw [hτ]
      simp [sT, sV, up2, va_up, hk]
    unfold wL_law_347
    rw [if_pos tP.symm]
    refine l_rest hL hK hh6 hx htt (nt' := nt) (hh' := hh) (s' := s) (b' := b) (p' := p) ⟨by rw [tX 1 (by omega)]; exact hpg, ?_, ?_, ⟨⟨hn6, by rw [tX 4 (by omega)]; exact hT.2.1, fun i' hi' => ?_⟩, ⟨hn6, hB.2.1, fun i' hi' => ?_⟩, by rw [tX 3 (by omega)]; exact h34⟩, fun i' hi' => ?_, ?_⟩ (by omega) (by omega)
    · unfold WN
      rw [tX 3 (by omega)]
      exact hW
    · rw [tX 3 (by omega), tO 0 (by omega), tO 1 (by omega), tO 2 (by omega), tO 3 (by omega), tO 4 (by omega), tO 5 (by omega), tO 6 (by omega), tO 7 (by omega)]
      exact ⟨r0, r1, r2, r3, r4, r5, r6, r7⟩
    · obtain ⟨c, hc, f2, f3, f4, f5, f6⟩ := hT.2.2 i' hi'
      refine ⟨c, by rw [hτ]; exact hc, by rw [hτ]; exact f2, ?_, ?_, ?_, ?_⟩
      · rw [show rK (τ.1 18) i' = rK (σ.1 18) i' from tO _ (by omega), hτ]; exact f3
      · rw [show rW (τ.1 18) i' = rW (σ.1 18) i' from tO _ (by omega), hτ]
        by_cases hca : c = a
        · subst hca; simpa [sT, sV, up2, va_up] using f4
        · simpa [sT, sV, up2, va_up, hca] using f4
      · rw [show rM (τ.1 18) i' = rM (σ.1 18) i' from tO _ (by omega), hτ]
        by_cases hca : c = a
        · subst hca; simpa [sT, sV, up2, va_up] using f5
        · simpa [sT, sV, up2, va_up, hca] using f5
      · by_cases hii : i' = i
        · have hca : c = a := Option.some.inj (hc.symm.trans (by rw [hii]; exact ha))
          rw [hii, show rP (τ.1 18) i = 1 - rP (σ.1 18) i from tP, hτ, hca]
          simp [sT, sV, up2, va_up]
        · have hca : c ≠ a := fun q => hii (hinj i' i hi' hi (hc.trans (by rw [q]; exact ha.symm)))
          rw [show rP (τ.1 18) i' = rP (σ.1 18) i' from tO _ (by omega), hτ]
          simpa [sT, sV, up2, va_up, hca] using f6
    · obtain ⟨w, c, u1, u2, u3, u4⟩ := hB.2.2 i' hi'
      exact ⟨w, c, (tO _ (by omega)).trans u1, u2, (tO _ (by omega)).trans u3, u4⟩
    · by_cases hii : i' = i
      · rw [hii, show rP (τ.1 18) i = 1 - rP (σ.1 18) i from tP]
        rcases hP i hi with q | q <;> rw [q] <;> decide
      · rw [show rP (τ.1 18) i' = rP (σ.1 18) i' from tO _ (by omega)]
        exact hP i' hi'
    · rw [hτ]
      exact hinj
  · rw [if_pos rfl, sv_id]
    refine ⟨vi _ (by omega), vi _ (by omega), ?_⟩
    refine x_carry (σ := σ) (nt := nt) (kv := rK (σ.1 18) i) (pl := rP (σ.1 18) i) hn6 hT.2.1 hi ha d2 d3 d6 l0 (fun q => absurd q hno) (fun _ => ?_)
    rw [if_pos rfl]
    unfold wL_law_347
    rw [if_pos rfl]
    exact l_rest hL hK hh6 hx htt hI (by omega) (by omega)
theorem l_355 {K80 : St → Nat → Int32 → Prop} {L : Nat} {xs : Nat → Int32} {σ : St} {kk nt hh s b p tt x : Nat} {v7 : Int32} (hL : L < 2 ^ 31) (hK : KN K80 kk hh tt) (hkk : kk < 600) (hh6 : hh ≤ 500) (hx : x < 2 ^ 31) (htt : tt < 44) (hI : PI σ nt hh s b p) : wL_law_355 K80 L xs σ kk (nI tt) (nI x) v7 := by
  have hI' := hI
  obtain ⟨hpg, hW, ⟨r0, r1, r2, r3, r4, r5, r6, r7⟩, ⟨hT, hB, h34⟩, hP, hinj⟩ := hI'
  have hn6 := hT.1
  have a1 : nI x / 16 = nI (x / 16) := pk_div (d := 16) hx (by omega) (by omega)
  have h386 : wL_law_386 K80 L xs σ kk (nI tt) (nI x) v7 := by
    have h0 : wL_law_416 K80 L xs σ kk (nI tt) (nI x) := l_rest hL hK hh6 hx htt hI (by omega) (by omega)
    unfold wL_law_386
    refine ⟨vi 6 (by omega), ?_⟩
    by_cases z1 : σ.1 18 (6 : Int32).toNatClampNeg = 1
    · rw [if_pos z1]
      by_cases z2 : v7 = 15
      · rw [if_pos z2, a1]
        refine ⟨by decide, l_wire (nt := nt) (by omega) hpg hn6 hT.2.1 (fun τ s' b' p' hτ => ?_)⟩
        rw [if_neg (by decide)]
        exact l_rest hL hK hh6 hx htt hτ (by omega) (by omega)
      · rw [if_neg z2]
        exact h0
    · rw [if_neg z1]
      exact h0
  unfold wL_law_355
  by_cases z : v7 = 14
  · rw [if_pos z, cl7, r7]
    refine ⟨vi 7 (by omega), ?_⟩
    by_cases h6 : nt = 6
    · rw [if_pos (show (6 : Int32) ≤ nI nt by rw [h6]; decide)]
      exact h386
    · rw [if_neg (show ¬ (6 : Int32) ≤ nI nt from nI_ge (b := 6) (by omega) (by omega)), a1]
      refine ⟨by decide, hkk, l_thing hI (by omega) (by omega) (fun τ hτ => ?_)⟩
      rw [if_neg (by decide)]
      exact l_rest hL hK hh6 hx htt hτ (by omega) (by omega)
  · rw [if_neg z]
    exact h386
theorem l_126 {K80 : St → Nat → Int32 → Prop} {L : Nat} {xs : Nat → Int32} {σ : St} {kk nt hh s b p tt x k : Nat} {v7 : Int32} (hL : L < 2 ^ 31) (hK : KN K80 kk hh tt) (hkk : kk < 600) (hh6 : hh ≤ 500) (hx : x < 2 ^ 31) (htt : tt < 44) (hI : PI σ nt hh s b p) (hk : nt = 0 ∨ k < nt) : wL_law_126 K80 L xs σ kk (nI tt) (nI x) v7 (nI k) := by
  have hI' := hI
  obtain ⟨hpg, hW, ⟨r0, r1, r2, r3, r4, r5, r6, r7⟩, ⟨hT, hB, h34⟩, hP, hinj⟩ := hI'
  have hn6 := hT.1
  have g2 := hW.2.1
  unfold wL_law_126
  by_cases z9 : (9 : Int32) ≤ v7
  · rw [if_pos z9]
    by_cases z14 : (14 : Int32) ≤ v7
    · rw [if_pos z14]
      exact l_355 hL hK hkk hh6 hx htt hI
    · rw [if_neg z14, cl7, cl6, cl0, r7, r6, r0]
      refine ⟨vi 7 (by omega), ?_⟩
      by_cases z0 : nt = 0
      · rw [if_pos (show nI nt ≤ 0 by rw [z0]; decide)]
        exact l_355 hL hK hkk hh6 hx htt hI
      · have hk' : k < nt := hk.resolve_left z0
        rw [if_neg (show ¬ nI nt ≤ 0 from nI_ge (a := 0) (by omega) (by omega)), ix8, nI_clamp (show 8 + 4 * k < 2 ^ 31 by omega)]
        refine ⟨vi 6 (by omega), ?_⟩
        unfold wL_law_282 wL_law_278
        by_cases z6 : σ.1 3 6 = 0
        · rw [if_pos z6]
          refine ⟨vi _ (by omega), ?_⟩
          by_cases z2 : σ.1 18 (8 + 4 * k) = 2
          · rw [if_pos z2]
            refine ⟨vi 0 (by omega), l_turns r1 hW.1 ?_⟩
            by_cases zt : (3 : Int32) ≤ turnsS (nI s) (σ.1 3 0)
            · rw [if_pos zt]
              exact l_carryA hL hK hh6 hx htt hI hk' (Or.inr ⟨rfl, fun q => q.2 ⟨z2, by rw [g2]; grind⟩⟩)
            · rw [if_neg zt]
              exact l_carryA hL hK hh6 hx htt hI hk' (Or.inl ⟨rfl, z6, fun q => by have := q.2; rw [g2] at this; grind⟩)
          · rw [if_neg z2]
            exact l_carryA hL hK hh6 hx htt hI hk' (Or.inl ⟨rfl, z6, fun q => z2 q.1⟩)
        · rw [if_neg z6]
          exact l_carryA hL hK hh6 hx htt hI hk' (Or.inr ⟨rfl, fun q => z6 q.1⟩)
  · rw [if_neg z9]
    have a1 : nI x / 128 = nI (x / 128) := pk_div (d := 128) hx (by omega) (by omega)
    have a2 : nI (x / 128) - nI (x / 128) / 7 * 7 = nI (x / 128 % 7) := pk_rem (d := 7) (by omega) (by omega) (by omega)
    refine ⟨by decide, by decide, by decide, by decide, ?_⟩
    rw [a1, a2]
    have hd : ∀ n, n < 7 → -3 ≤ nI n - 3 ∧ nI n - 3 ≤ 3 := by decide +kernel
    split
    · exact l_hourA hL hK hh6 hx htt hI (by decide)
    · exact l_hourA hL hK hh6 hx htt hI (hd _ (Nat.mod_lt _ (by omega)))
theorem l_end {L : Nat} {xs : Nat → Int32} {σ : St} {kk nt hh s b p n : Nat} (hI : PI σ nt hh s b p) : wL_law_80 L xs (n + 1) σ kk (nI 44) := by
  obtain ⟨hpg, hW, ⟨r0, r1, r2, r3, r4, r5, r6, r7⟩, ⟨hT, hB, h34⟩, hP, hinj⟩ := hI
  have hn6 := hT.1
  rw [wL_law_80, if_pos (show (44 : Int32) ≤ nI 44 by decide)]
  refine x_cabinU (by decide) ?_
  rw [if_pos rfl]
  refine x_cabinO (by decide) (by decide) ?_
  rw [if_pos rfl, cl7, r7]
  refine ⟨vi 7 (by omega), x_aboutU hT (Or.inr (nI_le (Nat.le_refl _) (by omega))) ?_⟩
  rw [if_pos rfl, r7]
  refine ⟨vi 7 (by omega), x_asU hT (Or.inr (nI_le (Nat.le_refl _) (by omega))) ?_⟩
  rw [if_pos rfl]
  refine x_carryU hT (Or.inr (show nI nt ≤ 6 from nI_le (b := 6) (by omega) (by omega))) ?_
  rw [if_pos rfl]
  refine x_hourO (Or.inr (by decide)) ?_
  rw [if_pos rfl]
  refine x_hourO (Or.inl (by decide)) ?_
  rw [if_pos rfl]
  refine x_caughtO (Or.inl (by decide)) ?_
  rw [if_pos rfl]
  refine x_caughtO (Or.inr (by decide)) ?_
  rw [if_pos rfl]
  refine x_whirlsO (Or.inl (by decide)) ?_
  rw [if_pos rfl]
  refine x_whirlsO (Or.inr (Or.inl (by decide))) ?_
  rw [if_pos rfl]
  refine x_whirlsO (Or.inr (Or.inr (Or.inl (by decide)))) ?_
  rw [if_pos rfl]
  refine x_whirlsO (Or.inr (Or.inr (Or.inr (Or.inr (by decide))))) ?_
  rw [if_pos rfl, r7]
  refine ⟨vi 7 (by omega), ?_⟩
  by_cases z : nt = 0
  · rw [if_pos (by rw [z]; rfl)]
  · rw [if_neg (show ¬ nI nt = 0 from fun q => z ((nI_eq (b := 0) (by omega) (by omega)).mp q))]
    refine x_aboutO (i := 0) hT (by omega) ?_
    rw [if_pos rfl]
    refine x_asO (i := 0) hT (by omega) ?_
    rw [if_pos rfl]
set_option maxHeartbeats 4000000 in
theorem l_80 {L : Nat} {xs : Nat → Int32} (hL : L < 2 ^ 31) : ∀ m tt, tt + m = 44 → ∀ σ nt hh s b p kk, PI σ nt hh s b p → hh ≤ tt → kk ≤ 5 + tt → wL_law_80 L xs (m + 1) σ kk (nI tt) := by
  intro m
  induction m with
  | zero =>
    intro tt ht σ nt hh s b p kk hI _ _
    have : tt = 44 := by omega
    subst this
    exact l_end hI
  | succ m ih =>
    intro tt ht σ nt hh s b p kk hI hh1 hk1
    have hI' := hI
    obtain ⟨hpg, hW, ⟨r0, r1, r2, r3, r4, r5, r6, r7⟩, ⟨hT, hB, h34⟩, hP, hinj⟩ := hI'
    have hn6 := hT.1
    obtain ⟨x, hx, hc⟩ := cell_nat xs L (8 + nI tt)
    have hK : KN (wL_law_80 L xs (m + 1)) kk hh tt := fun τ nt' hh' s' b' p' kk' hτ h1 h2 => ih (tt + 1) (by omega) τ nt' hh' s' b' p' kk' hτ (by omega) (by omega)
    rw [wL_law_80, if_neg (show ¬ (44 : Int32) ≤ nI tt from nI_ge (b := 44) (by omega) (by omega)), hc, cl7, r7]
    have a1 : nI x / 16 = nI (x / 16) := pk_div (d := 16) hx (by omega) (by omega)
    refine ⟨by rw [show (8 : Int32) + nI tt = nI (8 + tt) from nI_add 8 _]; exact nI_pos (by omega), by decide, vi 7 (by omega), ?_⟩
    by_cases z : nt = 0
    · rw [if_pos (by rw [z]; rfl)]
      exact l_126 (k := 0) hL hK (by omega) (by omega) hx (by omega) hI (Or.inl z)
    · have hz : ¬ nI nt = 0 := fun q => z ((nI_eq (b := 0) (by omega) (by omega)).mp q)
      rw [if_neg hz, a1, show nI (x / 16) - nI (x / 16) / nI nt * nI nt = nI (x / 16 % nt) from pk_rem (by omega) (by omega) (by omega)]
      exact ⟨by decide, vi 7 (by omega), hz, l_126 hL hK (by omega) (by omega) hx (by omega) hI (Or.inr (Nat.mod_lt _ (by omega)))⟩
theorem l_46 {L : Nat} {xs : Nat → Int32} (hL : L < 2 ^ 31) {f : Nat} (hf : f ≤ 5) : ∀ m t, t + m = f → ∀ σ s b p, PI σ t 0 s b p → wL_law_46 L xs (m + 1) σ t (nI f) (nI t) := by
  intro m
  induction m with
  | zero =>
    intro t ht σ s b p hI
    have : t = f := by omega
    subst this
    rw [wL_law_46, if_pos (nI_le (Nat.le_refl _) (by omega))]
    exact ⟨45, l_80 hL 44 0 (by omega) σ t 0 s b p t hI (by omega) (by omega)⟩
  | succ m ih =>
    intro t ht σ s b p hI
    obtain ⟨x, hx, hc⟩ := cell_nat xs L (2 + nI t)
    rw [wL_law_46, if_neg (nI_ge (by omega) (by omega)), hc]
    refine ⟨by rw [show (2 : Int32) + nI t = nI (2 + t) from nI_add 2 _]; exact nI_pos (by omega), by omega, l_thing hI (by omega) hx (fun τ hτ => ?_)⟩
    rw [if_neg (by decide), nI_1]
    exact ih (t + 1) (by omega) τ s b p hτ
theorem law_true {L : Nat} {xs : Nat → Int32} (hL : L < 2 ^ 31) {σ : St} (h1 : σ.1 1 1 = 0) (h2 : σ.1 4 2 = 0) : wL_law L xs σ 0 := by
  obtain ⟨x, hx, hc⟩ := cell_nat xs L 0
  obtain ⟨y, hy, hd⟩ := cell_nat xs L 1
  unfold wL_law
  rw [hc, hd]
  refine ⟨by decide, l_wire (nt := 0) hx h1 (by omega) h2 (fun τ s b p hτ => ?_)⟩
  rw [if_neg (by decide)]
  refine ⟨by decide, by decide, ?_⟩
  have a1 : nI y - nI y / 6 * 6 = nI (y % 6) := pk_rem (d := 6) hy (by omega) (by omega)
  rw [a1]
  exact ⟨y % 6 + 1, l_46 hL (by omega) (y % 6) 0 (by omega) τ s b p hτ⟩
