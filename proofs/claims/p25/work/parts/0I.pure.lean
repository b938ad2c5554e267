/-! PURE PART I: caught; the kinds that a THING is of -/
theorem neg_div {d : Nat} (hd : d < 2 ^ 30) : (nI 0 - nI d) / 360 = nI 0 - nI (d / 360) := by
  apply Int32.toInt_inj.mp
  have e0 : (360 : Int32).toInt = 360 := by decide
  rw [Jvm.Kit.i32_div (by rw [e0]; omega), pk_sub_toInt (by omega) hd, pk_sub_toInt (by omega) (by omega), e0]
  rw [show ((0 : Nat) : Int) - (d : Int) = -(d : Int) by omega, Int.neg_tdiv, Int.tdiv_eq_ediv_of_nonneg (by omega)]
  omega
theorem neg_rem {d : Nat} (hd : d < 2 ^ 30) : (nI 0 - nI d) - (nI 0 - nI d) / 360 * 360 = nI 0 - nI (d % 360) := by
  rw [neg_div hd]
  have h := pk_rem (a := d) (d := 360) (by omega) (by omega) (by omega)
  rw [pk_div (by omega) (by omega) (by omega)] at h
  rw [← h, show nI 360 = (360 : Int32) from rfl, show nI 0 = (0 : Int32) from rfl]
  grind
theorem e_fmodN {σ : St} {d : Nat} (h0 : 0 < d) (hd : d < 2 ^ 30) (Φ : Int32 → St → Prop) : wJ9_floorMod_7cf53 σ (nI 0 - nI d) 360 Φ = Φ (nI ((360 - d % 360) % 360)) σ := by
  unfold wJ9_floorMod_7cf53
  have hn : ¬ 0 ≤ nI 0 - nI d := by
    have := pk_sneg hd h0
    grind
  rw [if_neg (fun q => hn ((xor_sgn _).mp q)), neg_rem hd]
  simp only [nz360, true_and]
  have hlt : d % 360 < 360 := Nat.mod_lt _ (by omega)
  by_cases z : d % 360 = 0
  · rw [z, if_pos (by decide)]
    rfl
  · have hz : ¬ nI 0 - nI (d % 360) = 0 := by
      have := pk_sneg (a := 0) (b := d % 360) (by omega) (by omega)
      grind
    rw [if_neg hz]
    have e : nI 0 - nI (d % 360) + 360 = nI ((360 - d % 360) % 360) := by
      rw [Nat.mod_eq_of_lt (show 360 - d % 360 < 360 by omega), ← nI_sub (by omega), show nI 360 = (360 : Int32) from rfl, show nI 0 = (0 : Int32) from rfl]
      grind
    rw [e]
def cqN (q : Nat) : Nat := if q ≤ 90 then 90 - q else (360 - (q - 90) % 360) % 360
theorem cq_lt (q : Nat) : cqN q < 360 := by
  unfold cqN
  split
  · omega
  · exact Nat.mod_lt _ (by omega)
theorem sub90 {q : Nat} (h : 90 < q) : (90 : Int32) - nI q = nI 0 - nI (q - 90) := by
  rw [← nI_sub (show 90 ≤ q by omega), show nI 90 = (90 : Int32) from rfl, show nI 0 = (0 : Int32) from rfl]
  grind
theorem x_c {σ : St} {q : Nat} {Φ : Int32 → St → Prop} (hq : q < 2 ^ 29) (hp : Φ (nI (cqN q)) σ) : wJ9_floorMod_7cf53 σ (90 - nI q) 360 Φ := by
  unfold cqN at hp
  by_cases h : q ≤ 90
  · rw [if_pos h] at hp
    rw [show (90 : Int32) = nI 90 from rfl, nI_sub h, e_fmodP (by omega), Nat.mod_eq_of_lt (by omega)]
    exact hp
  · rw [if_neg h] at hp
    rw [sub90 (by omega), e_fmodN (by omega) (by omega)]
    exact hp
theorem m_c {q : Nat} (hq : q < 2 ^ 29) : (90 - nI q) - (90 - nI q) / 360 * 360 + 360 - ((90 - nI q) - (90 - nI q) / 360 * 360 + 360) / 360 * 360 = nI (cqN q) := by
  unfold cqN
  by_cases h : q ≤ 90
  · rw [if_pos h, show (90 : Int32) = nI 90 from rfl, nI_sub h, show (360 : Int32) = nI 360 from rfl, pk_rem (by omega) (by omega) (by omega), nI_add, pk_rem (by omega) (by omega) (by omega)]
    congr 1
    omega
  · have hlt : (q - 90) % 360 < 360 := Nat.mod_lt _ (by omega)
    have e : nI 0 - nI ((q - 90) % 360) + 360 = nI (360 - (q - 90) % 360) := by
      rw [← nI_sub (by omega), show nI 360 = (360 : Int32) from rfl, show nI 0 = (0 : Int32) from rfl]
      grind
    rw [if_neg h, sub90 (by omega), neg_rem (by omega), e, show (360 : Int32) = nI 360 from rfl, pk_rem (by omega) (by omega) (by omega)]
def apN (p c : Nat) : Nat := if c ≤ p then (if p - c ≤ 360 - (p - c) then p - c else 360 - (p - c)) else (if c - p ≤ 360 - (c - p) then c - p else 360 - (c - p))
theorem ap_le (p c : Nat) (hp : p < 360) (hc : c < 360) : apN p c ≤ 360 := by
  unfold apN
  split <;> split <;> omega
theorem x_apart {σ : St} {p c : Nat} {Φ : Int32 → St → Prop} (hp : p < 360) (hc : c < 360) (h : Φ (nI (apN p c)) σ) : wX11_apartOnCircle σ (nI p) (nI c) Φ := by
  unfold wX11_apartOnCircle
  unfold apN at h
  by_cases q : c ≤ p
  · rw [if_pos q] at h
    rw [nI_sub q, e_fmodP (by omega), Nat.mod_eq_of_lt (by omega), e_min, show (360 : Int32) = nI 360 from rfl, nI_sub (by omega)]
    by_cases z : p - c ≤ 360 - (p - c)
    · rw [if_pos z] at h
      rw [if_neg (nI_nlt z (by omega))]
      exact h
    · rw [if_neg z] at h
      rw [if_pos (nI_lt (by omega) (by omega))]
      exact h
  · rw [if_neg q] at h
    have e : nI p - nI c = nI 0 - nI (c - p) := by
      rw [← nI_sub (show p ≤ c by omega), show nI 0 = (0 : Int32) from rfl]
      grind
    rw [e, e_fmodN (by omega) (by omega), Nat.mod_eq_of_lt (show c - p < 360 by omega), Nat.mod_eq_of_lt (show 360 - (c - p) < 360 by omega), e_min, show (360 : Int32) = nI 360 from rfl, nI_sub (by omega), show 360 - (360 - (c - p)) = c - p by omega]
    by_cases z : c - p ≤ 360 - (c - p)
    · rw [if_pos z] at h
      by_cases y : c - p < 360 - (c - p)
      · rw [if_pos (nI_lt y (by omega))]
        exact h
      · rw [if_neg (nI_nlt (by omega) (by omega)), show 360 - (c - p) = c - p by omega]
        exact h
    · rw [if_neg z] at h
      rw [if_neg (nI_nlt (by omega) (by omega))]
      exact h
def ctR (p t c : Nat) : Nat → Nat → Int32
  | 0, _ => -1
  | n + 1, w => if 5 < apN (placeN p (w * t)) c then ctR p t c n (w + 1) else nI w
theorem x_caughtL {σ : St} {p t c : Nat} {Φ : Int32 → St → Prop} (hp : σ.1 3 3 = nI p) (hp2 : p < 360) (ht : turnsS (σ.1 3 1) (σ.1 3 0) = nI t) (ht2 : t ≤ 144) (hc : c < 360) : ∀ m w, w + m = 99 → Φ (ctR p t c m w) σ → wX11_caught_51 Φ (m + 1) σ (nI c) (nI w) := by
  intro m
  induction m with
  | zero =>
    intro w hw h
    have : w = 99 := by omega
    subst this
    rw [wX11_caught_51, if_pos (show (98 : Int32) < nI 99 by decide)]
    exact h
  | succ m ih =>
    intro w hw h
    rw [wX11_caught_51, if_neg (show ¬ (98 : Int32) < nI w from nI_nlt (b := w) (a := 98) (by omega) (by omega))]
    refine i_place hp hp2 ht ht2 (by omega) ?_
    have hpl : placeN p (w * t) < 360 := Nat.mod_lt _ (by omega)
    refine x_apart hpl hc ?_
    have hap := ap_le _ _ hpl hc
    rw [ctR] at h
    by_cases q : 5 < apN (placeN p (w * t)) c
    · rw [if_pos (show (5 : Int32) < nI _ from nI_lt (a := 5) q (by omega)), nI_1]
      rw [if_pos q] at h
      exact ih (w + 1) (by omega) h
    · rw [if_neg (show ¬ (5 : Int32) < nI _ from nI_nlt (a := 5) (by omega) (by omega))]
      rw [if_neg q] at h
      exact h
theorem x_caught {σ : St} {s b p k t : Nat} {Φ : Int32 → St → Prop} (hW : WN σ s b p) (hbr : σ.1 3 6 = 0) (k1 : 1 ≤ k) (k2 : k ≤ 99) (ht : turnsS (nI s) (σ.1 3 0) = nI t) (ht2 : t ≤ 144) (hp : Φ (ctR p t (cqN (k * t)) 99 0) σ) : wX11_caught σ (nI k) Φ := by
  have l0 := wn_pos hW
  obtain ⟨g1, g2, g3, g4, g5, g7, g8, q5, q6⟩ := hW
  unfold wX11_caught
  have c1 : 1 ≤ nI k := nI_le (a := 1) k1 (by omega)
  have ht' : turnsS (σ.1 3 1) (σ.1 3 0) = nI t := by rw [g2]; exact ht
  have hb : k * t ≤ 99 * 144 := Nat.mul_le_mul k2 ht2
  rw [if_neg (show ¬ nI k < 1 by grind), if_pos (show nI k ≤ 99 from nI_le (b := 99) k2 (by omega)), e_isWhole, if_pos (show 0 < σ.1 3 0 ∧ σ.1 3 6 = 0 from ⟨l0, hbr⟩), if_neg (by decide), e_turnsNow, ht', nI_mul]
  exact x_c (by omega) ⟨100, x_caughtL g7 g8 ht' ht2 (cq_lt _) 99 0 (by omega) hp⟩
theorem x_caughtS {σ : St} {k : Nat} {Φ : Int32 → St → Prop} (hbr : ¬ σ.1 3 6 = 0) (k1 : 1 ≤ k) (k2 : k ≤ 99) (hp : Φ (-103) σ) : wX11_caught σ (nI k) Φ := by
  unfold wX11_caught
  have c1 : 1 ≤ nI k := nI_le (a := 1) k1 (by omega)
  rw [if_neg (show ¬ nI k < 1 by grind), if_pos (show nI k ≤ 99 from nI_le (b := 99) k2 (by omega)), e_isWhole, if_neg (show ¬ (0 < σ.1 3 0 ∧ σ.1 3 6 = 0) from fun q => hbr q.2), if_pos rfl]
  exact hp
/-! the law's own search -/
def fmN (x c : Nat) : Nat := (x + 360 - c) % 360
theorem m_ap {x c : Nat} (hx : x < 2 ^ 29) (hc : c < 360) : (nI x - nI c - (nI x - nI c) / 360 * 360) + 360 - ((nI x - nI c - (nI x - nI c) / 360 * 360) + 360) / 360 * 360 = nI (fmN x c) := by
  unfold fmN
  by_cases h : c ≤ x
  · have e1 : nI (x - c) - nI (x - c) / 360 * 360 = nI ((x - c) % 360) := pk_rem (d := 360) (by omega) (by omega) (by omega)
    have e2 : nI ((x - c) % 360) + 360 = nI ((x - c) % 360 + 360) := nI_add _ 360
    have e3 : nI ((x - c) % 360 + 360) - nI ((x - c) % 360 + 360) / 360 * 360 = nI (((x - c) % 360 + 360) % 360) := pk_rem (d := 360) (by omega) (by omega) (by omega)
    rw [nI_sub h, e1, e2, e3]
    congr 1
    omega
  · have e0 : nI x - nI c = nI 0 - nI (c - x) := by
      rw [← nI_sub (show x ≤ c by omega), show nI 0 = (0 : Int32) from rfl]
      grind
    have e2 : nI 0 - nI ((c - x) % 360) + 360 = nI (360 - (c - x) % 360) := by
      rw [← nI_sub (by omega), show nI 360 = (360 : Int32) from rfl, show nI 0 = (0 : Int32) from rfl]
      grind
    have e3 : nI (360 - (c - x) % 360) - nI (360 - (c - x) % 360) / 360 * 360 = nI ((360 - (c - x) % 360) % 360) := pk_rem (d := 360) (by omega) (by omega) (by omega)
    rw [e0, neg_rem (by omega), e2, e3]
    congr 1
    omega
theorem fm_lt (x c : Nat) : fmN x c < 360 := Nat.mod_lt _ (by omega)
theorem ap_fm {p ht c : Nat} (hc : c < 360) : (fmN (p + ht * 10) c < 6 ∨ 354 < fmN (p + ht * 10) c) ↔ ¬ 5 < apN (placeN p ht) c := by
  unfold fmN apN placeN
  generalize p + ht * 10 = Y
  by_cases h1 : c ≤ Y % 360
  · rw [if_pos h1]
    by_cases h2 : Y % 360 - c ≤ 360 - (Y % 360 - c)
    · rw [if_pos h2]; omega
    · rw [if_neg h2]; omega
  · rw [if_neg h1]
    by_cases h2 : c - Y % 360 ≤ 360 - (c - Y % 360)
    · rw [if_pos h2]; omega
    · rw [if_neg h2]; omega
theorem m1_add (x : Int32) : x + (-1) = x - 1 := by grind
set_option maxHeartbeats 4000000 in
theorem l_search {K80 : St → Nat → Int32 → Prop} {L : Nat} {xs : Nat → Int32} {σ : St} {kk nt hh s b p t c k : Nat} {v5 v6 : Int32} (hI : PI σ nt hh s b p) (ht : turnsS (nI s) (σ.1 3 0) = nI t) (ht2 : t ≤ 144) (hc : c = cqN (k * t)) (k1 : 1 ≤ k) (k2 : k ≤ 99) (hn : ∀ r : Int32, wL_law_649 K80 L xs σ kk v5 v6 r r) : ∃ n0, wL_law_564 K80 L xs n0 σ kk v5 v6 (nI k) (nI t) (nI c) (-1) 98 := by
  obtain ⟨hpg, hW, ⟨r0, r1, r2, r3, r4, r5, r6, r7⟩, hR, hP, hinj⟩ := hI
  have g8 : p < 360 := hW.2.2.2.2.2.2.1
  have q6 := hW.2.2.2.2.2.2.2.2
  have hc3 : c < 360 := by rw [hc]; exact cq_lt _
  have key : ∀ j, j ≤ 99 → wL_law_564 K80 L xs (j + 1) σ kk v5 v6 (nI k) (nI t) (nI c) (ctR p t c (99 - j) j) (nI j - 1) := by
    intro j
    induction j with
    | zero =>
      intro _
      rw [wL_law_564, if_pos (by decide)]
      by_cases z : σ.1 3 6 = 0
      · refine x_caught hW z k1 k2 ht ht2 ⟨vi 6 (by omega), ?_⟩
        rw [cl6, r6, z, if_neg (by decide), ← hc]
        exact hn _
      · have z1 : σ.1 3 6 = 1 := q6.resolve_left z
        refine x_caughtS z k1 k2 ⟨vi 6 (by omega), ?_⟩
        rw [cl6, r6, if_pos z1]
        exact hn _
    | succ j ih =>
      intro hj
      have ih' := ih (by omega)
      have ej : nI (j + 1) - 1 = nI j := Eq.trans (nI_sub (a := j + 1) (b := 1) (by omega)) rfl
      have hjt : j * t ≤ 98 * 144 := Nat.mul_le_mul (by omega) ht2
      have ex : σ.1 18 (4 : Int32).toNatClampNeg + nI j * nI t * 10 = nI (p + j * t * 10) := by
        rw [cl4, r4, show (10 : Int32) = nI 10 from rfl, nI_mul, nI_mul, nI_add]
      rw [wL_law_564, ej, if_neg (nI_pos (by omega)), ex, m_ap (by omega) hc3]
      refine ⟨vi 4 (by omega), by decide, by decide, ?_⟩
      have hfl := fm_lt (p + j * t * 10) c
      have hiff := ap_fm (p := p) (ht := j * t) hc3
      have hstep : ctR p t c (99 - j) j = if 5 < apN (placeN p (j * t)) c then ctR p t c (99 - (j + 1)) (j + 1) else nI j := by
        rw [show 99 - j = (99 - (j + 1)) + 1 by omega, ctR]
      rw [hstep] at ih'
      unfold wL_law_613 wL_law_620
      rw [m1_add]
      by_cases h1 : fmN (p + j * t * 10) c < 6
      · rw [if_pos (show nI _ < 6 from nI_lt (b := 6) h1 (by omega))]
        rw [if_neg (hiff.mp (Or.inl h1))] at ih'
        exact ih'
      · rw [if_neg (show ¬ nI _ < 6 from nI_nlt (b := 6) (by omega) (by omega))]
        by_cases h2 : fmN (p + j * t * 10) c ≤ 354
        · rw [if_pos (show nI _ ≤ 354 from nI_le (b := 354) h2 (by omega))]
          have h5 : 5 < apN (placeN p (j * t)) c := by
            by_cases q : 5 < apN (placeN p (j * t)) c
            · exact q
            · exact absurd (hiff.mpr q) (by omega)
          rw [if_pos h5] at ih'
          exact ih'
        · rw [if_neg (show ¬ nI _ ≤ 354 from nI_ge (a := 354) (by omega) (by omega))]
          rw [if_neg (hiff.mp (Or.inr (by omega)))] at ih'
          exact ih'
  have k0 := key 99 (by omega)
  exact ⟨100, k0⟩
/-! as -/
theorem l_as1 {K80 : St → Nat → Int32 → Prop} {K429 : St → Nat → Int32 → Int32 → Int32 → Prop} {L : Nat} {xs : Nat → Int32} {σ : St} {kk nt i : Nat} {v5 v6 : Int32} (hT : ThX σ nt) (hi : i < nt) (hn : K429 σ kk v5 v6 (nI (i + 1))) : ∃ n0, wL_law_441 K80 K429 L xs n0 σ kk v5 v6 (nI i) 0 := by
  have hn6 := hT.1
  have key : ∀ m w, w + m = 5 → wL_law_441 K80 K429 L xs (m + 1) σ kk v5 v6 (nI i) (nI w) := by
    intro m
    induction m with
    | zero =>
      intro w hw
      have : w = 5 := by omega
      subst this
      rw [wL_law_441, if_pos (show (5 : Int32) ≤ nI 5 by decide), nI_1]
      exact hn
    | succ m ih =>
      intro w hw
      have ih' := ih (w + 1) (by omega)
      rw [wL_law_441, if_neg (show ¬ (5 : Int32) ≤ nI w from nI_ge (b := 5) (by omega) (by omega)), ix8, nI_clamp (show 8 + 4 * i < 2 ^ 31 by omega)]
      refine ⟨vi _ (by omega), x_as hT hi ⟨nI_pos' (by omega), nI_le (b := 4) (by omega) (by omega)⟩ ?_⟩
      have y1 : ∀ a : Int32, asR σ.1 i (nI w) = nI i → wL_law_490 K80 K429 (wL_law_441 K80 K429 L xs (m + 1)) L xs σ kk v5 v6 (nI i) (nI w) (asR σ.1 i (nI w)) := fun a e => by
        unfold wL_law_490 wL_law_496
        rw [if_pos e, nI_1]
        exact ih'
      have y2 : ∀ a : Int32, asR σ.1 i (nI w) = -1 → wL_law_495 K80 K429 (wL_law_441 K80 K429 L xs (m + 1)) L xs σ kk v5 v6 (nI i) (nI w) (asR σ.1 i (nI w)) := fun a e => by
        unfold wL_law_495 wL_law_496
        rw [if_pos e, nI_1]
        exact ih'
      by_cases h0 : nI w = 0
      · rw [if_pos h0]
        exact y1 0 (by unfold asR; rw [if_pos (Or.inl h0)])
      · rw [if_neg h0]
        by_cases h1 : nI w = σ.1 18 (8 + 4 * i)
        · rw [if_pos h1]
          exact y1 0 (by unfold asR; rw [if_pos (Or.inr (Or.inl h1.symm))])
        · rw [if_neg h1]
          by_cases h3 : nI w = 3
          · rw [if_pos h3]
            by_cases h4 : σ.1 18 (8 + 4 * i) = 4
            · rw [if_pos h4]
              exact y1 0 (by unfold asR; rw [if_pos (Or.inr (Or.inr ⟨h3, h4⟩))])
            · rw [if_neg h4]
              exact y2 0 (by unfold asR; rw [if_neg (fun q => q.elim h0 (fun q => q.elim (fun q => h1 q.symm) (fun q => h4 q.2)))])
          · rw [if_neg h3]
            exact y2 0 (by unfold asR; rw [if_neg (fun q => q.elim h0 (fun q => q.elim (fun q => h1 q.symm) (fun q => h3 q.1)))])
  exact ⟨6, key 5 0 (by omega)⟩
theorem l_429 {K80 : St → Nat → Int32 → Prop} {L : Nat} {xs : Nat → Int32} {σ : St} {kk nt hh s b p x : Nat} {v5 : Int32} (hI : PI σ nt hh s b p) (hx : x < 2 ^ 31) (hn : ∀ r : Int32, wL_law_649 K80 L xs σ kk v5 (nI x) r r) : ∃ n0, wL_law_429 K80 L xs n0 σ kk v5 (nI x) 0 := by
  have hI' := hI
  obtain ⟨hpg, hW, ⟨r0, r1, r2, r3, r4, r5, r6, r7⟩, hR, hP, hinj⟩ := hI
  have hT := hR.1
  have hn6 := hT.1
  have key : ∀ m i, i + m = nt → wL_law_429 K80 L xs (m + 1) σ kk v5 (nI x) (nI i) := by
    intro m
    induction m with
    | zero =>
      intro i hi
      have : i = nt := by omega
      subst this
      rw [wL_law_429, cl7, r7, if_pos (nI_le (Nat.le_refl _) (by omega)), cl0]
      have hl : 10 ≤ σ.1 18 0 ∧ σ.1 18 0 ≤ 40 := by rw [r0]; exact hW.1
      obtain ⟨t, t1, t2⟩ := turns_nat (s := s) hW.2.2.1 hl
      refine ⟨vi 7 (by omega), by decide, by decide, vi 0 (by omega), l_turns r1 hl ⟨by decide, by decide, ?_⟩⟩
      have a1 : nI x / 4096 = nI (x / 4096) := pk_div (d := 4096) hx (by omega) (by omega)
      have a2 : nI (x / 4096) - nI (x / 4096) / 99 * 99 = nI (x / 4096 % 99) := pk_rem (d := 99) (by omega) (by omega) (by omega)
      have a3 : (1 : Int32) + nI (x / 4096 % 99) = nI (1 + x / 4096 % 99) := nI_add 1 _
      have hb : (1 + x / 4096 % 99) * t ≤ 99 * 144 := Nat.mul_le_mul (by omega) t2
      rw [a1, a2, a3, t1, nI_mul, m_c (by omega)]
      exact l_search hI' (by rw [← r0]; exact t1) t2 rfl (by omega) (by omega) hn
    | succ m ih =>
      intro i hi
      rw [wL_law_429, cl7, r7, if_neg (nI_ge (by omega) (by omega))]
      exact ⟨vi 7 (by omega), l_as1 hT (by omega) (ih (i + 1) (by omega))⟩
  exact ⟨nt + 1, key nt 0 (by omega)⟩
theorem l_416 {K80 : St → Nat → Int32 → Prop} {L : Nat} {xs : Nat → Int32} {σ : St} {kk nt hh s b p x : Nat} {v5 : Int32} (hI : PI σ nt hh s b p) (hx : x < 2 ^ 31) (hn : ∀ r : Int32, wL_law_649 K80 L xs σ kk v5 (nI x) r r) : wL_law_416 K80 L xs σ kk v5 (nI x) := by
  unfold wL_law_416
  refine l_told hI ?_
  rw [if_neg (by decide)]
  exact l_429 hI hx hn
