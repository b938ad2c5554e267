/-! PURE PART 14: caught -/
theorem neg_div {d : Nat} (hd : d < 2 ^ 30) : (nI 0 - nI d) / 360 = nI 0 - nI (d / 360) := by
  apply Int32.toInt_inj.mp
  have e0 : (360 : Int32).toInt = 360 := by decide
  rw [Jvm.Kit.i32_div (by rw [e0]; omega), pk_sub_toInt (by omega) hd, pk_sub_toInt (by omega) (by omega), e0]
  rw [show ((0 : Nat) : Int) - (d : Int) = -(d : Int) by omega, Int.neg_tdiv, Int.tdiv_eq_ediv_of_nonneg (by omega)]
  omega
theorem neg_rem {d : Nat} (hd : d < 2 ^ 30) : (nI 0 - nI d) - (nI 0 - nI d) / 360 * 360 = nI 0 - nI (d % 360) := by
  rw [neg_div hd]
  have h := pk_rem (a := d) (d := 360) (by omega) (by omega) (by omega)
  rw [pk_div (by omega) (by omega) (by omega)] at h
  rw [← h, show nI 360 = (360 : Int32) from rfl, show nI 0 = (0 : Int32) from rfl]
  grind
theorem e_fmodN {σ : St} {d : Nat} (h0 : 0 < d) (hd : d < 2 ^ 30) (Φ : Int32 → St → Prop) : wJ9_floorMod_7cf53 σ (nI 0 - nI d) 360 Φ = Φ (nI ((360 - d % 360) % 360)) σ := by
  unfold wJ9_floorMod_7cf53
  have hn : ¬ 0 ≤ nI 0 - nI d := by
    have := pk_sneg hd h0
    grind
  rw [if_neg (fun q => hn ((xor_sgn _).mp q)), neg_rem hd]
  simp only [nz360, true_and]
  have hlt : d % 360 < 360 := Nat.mod_lt _ (by omega)
  by_cases z : d % 360 = 0
  · rw [z, if_pos (by decide)]
    rfl
  · have hz : ¬ nI 0 - nI (d % 360) = 0 := by
      have := pk_sneg (a := 0) (b := d % 360) (by omega) (by omega)
      grind
    rw [if_neg hz]
    have e : nI 0 - nI (d % 360) + 360 = nI ((360 - d % 360) % 360) := by
      rw [Nat.mod_eq_of_lt (show 360 - d % 360 < 360 by omega), ← nI_sub (by omega), show nI 360 = (360 : Int32) from rfl, show nI 0 = (0 : Int32) from rfl]
      grind
    rw [e]
def cqN (q : Nat) : Nat := if q ≤ 90 then 90 - q else (360 - (q - 90) % 360) % 360
theorem cq_lt (q : Nat) : cqN q < 360 := by
  unfold cqN
  split
  · omega
  · exact Nat.mod_lt _ (by omega)
theorem sub90 {q : Nat} (h : 90 < q) : (90 : Int32) - nI q = nI 0 - nI (q - 90) := by
  rw [← nI_sub (show 90 ≤ q by omega), show nI 90 = (90 : Int32) from rfl, show nI 0 = (0 : Int32) from rfl]
  grind
theorem x_c {σ : St} {q : Nat} {Φ : Int32 → St → Prop} (hq : q < 2 ^ 29) (hp : Φ (nI (cqN q)) σ) : wJ9_floorMod_7cf53 σ (90 - nI q) 360 Φ := by
  unfold cqN at hp
  by_cases h : q ≤ 90
  · rw [if_pos h] at hp
    rw [show (90 : Int32) = nI 90 from rfl, nI_sub h, e_fmodP (by omega), Nat.mod_eq_of_lt (by omega)]
    exact hp
  · rw [if_neg h] at hp
    rw [sub90 (by omega), e_fmodN (by omega) (by omega)]
    exact hp
theorem m_c {q : Nat} (hq : q < 2 ^ 29) : (90 - nI q) - (90 - nI q) / 360 * 360 + 360 - ((90 - nI q) - (90 - nI q) / 360 * 360 + 360) / 360 * 360 = nI (cqN q) := by
  unfold cqN
  by_cases h : q ≤ 90
  · rw [if_pos h, show (90 : Int32) = nI 90 from rfl, nI_sub h, show (360 : Int32) = nI 360 from rfl, pk_rem (by omega) (by omega) (by omega), nI_add, pk_rem (by omega) (by omega) (by omega)]
    congr 1
    omega
  · have hlt : (q - 90) % 360 < 360 := Nat.mod_lt _ (by omega)
    have e : nI 0 - nI ((q - 90) % 360) + 360 = nI (360 - (q - 90) % 360) := by
      rw [← nI_sub (by omega), show nI 360 = (360 : Int32) from rfl, show nI 0 = (0 : Int32) from rfl]
      grind
    rw [if_neg h, sub90 (by omega), neg_rem (by omega), e, show (360 : Int32) = nI 360 from rfl, pk_rem (by omega) (by omega) (by omega)]
def apN (p c : Nat) : Nat := if c ≤ p then (if p - c ≤ 360 - (p - c) then p - c else 360 - (p - c)) else (if c - p ≤ 360 - (c - p) then c - p else 360 - (c - p))
theorem ap_le (p c : Nat) (hp : p < 360) (hc : c < 360) : apN p c ≤ 360 := by
  unfold apN
  split <;> split <;> omega
theorem x_apart {σ : St} {p c : Nat} {Φ : Int32 → St → Prop} (hp : p < 360) (hc : c < 360) (h : Φ (nI (apN p c)) σ) : wX11_apartOnCircle σ (nI p) (nI c) Φ := by
  unfold wX11_apartOnCircle
  unfold apN at h
  by_cases q : c ≤ p
  · rw [if_pos q] at h
    rw [nI_sub q, e_fmodP (by omega), Nat.mod_eq_of_lt (by omega), e_min, show (360 : Int32) = nI 360 from rfl, nI_sub (by omega)]
    by_cases z : p - c ≤ 360 - (p - c)
    · rw [if_pos z] at h
      rw [if_neg (nI_nlt z (by omega))]
      exact h
    · rw [if_neg z] at h
      rw [if_pos (nI_lt (by omega) (by omega))]
      exact h
  · rw [if_neg q] at h
    have e : nI p - nI c = nI 0 - nI (c - p) := by
      rw [← nI_sub (show p ≤ c by omega), show nI 0 = (0 : Int32) from rfl]
      grind
    rw [e, e_fmodN (by omega) (by omega), Nat.mod_eq_of_lt (show c - p < 360 by omega), Nat.mod_eq_of_lt (show 360 - (c - p) < 360 by omega), e_min, show (360 : Int32) = nI 360 from rfl, nI_sub (by omega), show 360 - (360 - (c - p)) = c - p by omega]
    by_cases z : c - p ≤ 360 - (c - p)
    · rw [if_pos z] at h
      by_cases y : c - p < 360 - (c - p)
      · rw [if_pos (nI_lt y (by omega))]
        exact h
      · rw [if_neg (nI_nlt (by omega) (by omega)), show 360 - (c - p) = c - p by omega]
        exact h
    · rw [if_neg z] at h
      rw [if_neg (nI_nlt (by omega) (by omega))]
      exact h
theorem m_apart {σ : St} {p c : Nat} {Φ : Int32 → St → Prop} (hp : p < 360) (hc : c < 360) (h : Φ (nI (if c ≤ p then p - c else c - p)) σ) : wX12_sized σ (nI p - nI c) Φ := by
  unfold wX12_sized
  by_cases q : c ≤ p
  · rw [if_pos q] at h
    rw [nI_sub q, if_pos (nI_pos' (by omega))]
    exact h
  · rw [if_neg q] at h
    have hn := pk_sneg (a := p) (b := c) (by omega) (by omega)
    rw [if_neg (by grind)]
    have e : -(nI p - nI c) = nI (c - p) := by
      rw [← nI_sub (show p ≤ c by omega)]
      grind
    rw [e]
    exact h
def ctR (p t c : Nat) : Nat → Nat → Int32
  | 0, _ => -1
  | n + 1, w => if 5 < apN (placeN p (w * t)) c then ctR p t c n (w + 1) else nI w
theorem x_caughtL {σ : St} {p t c : Nat} {Φ : Int32 → St → Prop} (hp : σ.1 3 3 = nI p) (hp2 : p < 360) (ht : turnsS (σ.1 3 1) (σ.1 3 0) = nI t) (ht2 : t ≤ 144) (hc : c < 360) : ∀ m w, w + m = 99 → Φ (ctR p t c m w) σ → wX11_caught_51 Φ (m + 1) σ (nI c) (nI w) := by
  intro m
  induction m with
  | zero =>
    intro w hw h
    have : w = 99 := by omega
    subst this
    rw [wX11_caught_51, if_pos (show (98 : Int32) < nI 99 by decide)]
    exact h
  | succ m ih =>
    intro w hw h
    rw [wX11_caught_51, if_neg (show ¬ (98 : Int32) < nI w from nI_nlt (b := w) (a := 98) (by omega) (by omega))]
    refine i_place hp hp2 ht ht2 (by omega) ?_
    have hpl : placeN p (w * t) < 360 := Nat.mod_lt _ (by omega)
    refine x_apart hpl hc ?_
    have hap := ap_le _ _ hpl hc
    rw [ctR] at h
    by_cases q : 5 < apN (placeN p (w * t)) c
    · rw [if_pos (show (5 : Int32) < nI _ from nI_lt (a := 5) q (by omega)), nI_1]
      rw [if_pos q] at h
      exact ih (w + 1) (by omega) h
    · rw [if_neg (show ¬ (5 : Int32) < nI _ from nI_nlt (a := 5) (by omega) (by omega))]
      rw [if_neg q] at h
      exact h
theorem m_caughtL {σ : St} {p t c : Nat} {Φ : Int32 → St → Prop} (hp : σ.1 18 7 = nI p) (hp2 : p < 360) (ht2 : t ≤ 144) (hc : c < 360) : ∀ m w, w + m = 99 → Φ (ctR p t c m w) σ → wX12_caughtNow_31 Φ (m + 1) σ (nI t) (nI c) (nI w) := by
  intro m
  induction m with
  | zero =>
    intro w hw h
    have : w = 99 := by omega
    subst this
    rw [wX12_caughtNow_31, if_pos (show (99 : Int32) ≤ nI 99 by decide)]
    exact h
  | succ m ih =>
    intro w hw h
    rw [wX12_caughtNow_31, if_neg (show ¬ (99 : Int32) ≤ nI w from nI_ge (b := 99) (by omega) (by omega))]
    have hb : 10 * t * w ≤ 10 * 144 * 99 := Nat.mul_le_mul (Nat.mul_le_mul (Nat.le_refl _) ht2) (by omega)
    have e : (p + 10 * t * w) % 360 = placeN p (w * t) := by
      unfold placeN
      rw [show 10 * t * w = w * t * 10 by rw [Nat.mul_comm w t, Nat.mul_comm (t * w) 10, Nat.mul_assoc]]
    rw [hp, show (10 : Int32) = nI 10 from rfl, nI_mul, nI_mul, nI_add, show (360 : Int32) = nI 360 from rfl, pk_rem (by omega) (by omega) (by omega), e]
    have hpl : placeN p (w * t) < 360 := Nat.mod_lt _ (by omega)
    refine ⟨by decide, m_apart hpl hc ?_⟩
    have kk : wX12_caughtNow_87 (wX12_caughtNow_31 Φ (m + 1)) Φ σ (nI t) (nI c) (nI w) (nI (apN (placeN p (w * t)) c)) := by
      unfold wX12_caughtNow_87
      have hap := ap_le _ _ hpl hc
      rw [ctR] at h
      by_cases q : 5 < apN (placeN p (w * t)) c
      · rw [if_pos (show (5 : Int32) < nI _ from nI_lt (a := 5) q (by omega)), nI_1]
        rw [if_pos q] at h
        exact ih (w + 1) (by omega) h
      · rw [if_neg (show ¬ (5 : Int32) < nI _ from nI_nlt (a := 5) (by omega) (by omega))]
        rw [if_neg q] at h
        exact h
    obtain ⟨P, eP⟩ : ∃ P, P = placeN p (w * t) := ⟨_, rfl⟩
    rw [← eP] at kk hpl ⊢
    have hd : (if c ≤ P then P - c else c - P) < 360 := by split <;> omega
    have ea : apN P c = if (if c ≤ P then P - c else c - P) ≤ 360 - (if c ≤ P then P - c else c - P) then (if c ≤ P then P - c else c - P) else 360 - (if c ≤ P then P - c else c - P) := by
      unfold apN
      by_cases z : c ≤ P
      · simp only [if_pos z]
      · simp only [if_neg z]
    obtain ⟨D, eD⟩ : ∃ D, D = (if c ≤ P then P - c else c - P) := ⟨_, rfl⟩
    rw [← eD] at ea hd ⊢
    rw [nI_sub (by omega)]
    by_cases z : D ≤ 360 - D
    · rw [if_pos z] at ea
      rw [if_pos (nI_le z (by omega)), ← ea]
      exact kk
    · rw [if_neg z] at ea
      rw [if_neg (nI_ge (by omega) (by omega)), ← ea]
      exact kk
theorem st_caught {j : Nat} {σ : St} {a1 a2 a3 : Int32} (hj : j < 512) (h : InvX j σ) : wL_12 σ a1 a2 a3 (InvX (j + 1)) := by
  have hn := inv_next h Sim.rfl'
  obtain ⟨np, nt, nk, w, hh, h1, h2, h3, h4, h5, h6⟩ := h
  have hR := inv_rdy (by omega) h2 h4
  obtain ⟨q5, q6, e4, e5, e6, e7, -⟩ := inv_eqs h1 h2 h3 h5
  obtain ⟨hT, hM, hB, x4, x8, hl2, hs2, hL⟩ := hR
  unfold wL_12 wX11_caught
  by_cases c1 : 1 ≤ a1 ∧ a1 ≤ 99
  · rw [if_neg (show ¬ a1 < 1 by grind), if_pos c1.2, e_isWhole]
    rcases h2.2.2.2.2.2 with ⟨g0, g1, -⟩ | ⟨g0, g1, s, b, p, g2, g3, g4, g5, g6, g7, g8⟩
    · rw [if_neg (show ¬ (0 < σ.1 3 0 ∧ σ.1 3 6 = 0) from fun q => by rw [show σ.1 3 0 = 0 from g1] at q; exact absurd q.1 (by decide)), if_pos rfl]
      unfold wX12_caught
      dsimp only
      rw [e_within, if_pos c1, if_neg (by decide), if_pos (show σ.1 18 0 = 0 from g0)]
      exact fin_ok rfl hn
    · have w0 : ¬ σ.1 18 0 = 0 := by rw [show σ.1 18 0 = 1 from g0]; decide
      have l0 : 0 < σ.1 3 0 := by have : 10 ≤ σ.1 3 0 := g1.1; grind
      by_cases hbr : σ.1 3 6 = 0
      · rw [if_pos (show 0 < σ.1 3 0 ∧ σ.1 3 6 = 0 from ⟨l0, hbr⟩), if_neg (by decide), e_turnsNow]
        obtain ⟨k, rfl, k1, k2⟩ := bound_nat (lo := 1) (hi := 99) c1.1 c1.2 (by omega) (by omega)
        have g2' : σ.1 3 1 = nI s := g2
        have g7' : σ.1 3 3 = nI p := g7
        obtain ⟨t, t1, t2⟩ := turns_nat (s := s) g3 g1
        have ht : turnsS (σ.1 3 1) (σ.1 3 0) = nI t := by rw [g2']; exact t1
        have hb : k * t ≤ 99 * 144 := Nat.mul_le_mul k2 t2
        rw [ht, nI_mul]
        refine x_c (by omega) ⟨100, x_caughtL g7' g8 ht t2 (cq_lt _) 99 0 (by omega) ?_⟩
        unfold wX12_caught
        rw [e_within, if_pos c1, if_neg (by decide), if_neg w0, if_pos (show σ.1 18 6 = 0 from e6.trans hbr)]
        unfold wX12_caughtNow
        rw [hl2, e_turnsM _ _ _ hL, hs2, ht, nI_mul, m_c (by omega)]
        exact ⟨by decide, by decide, 100, m_caughtL (e7.trans g7') g8 t2 (cq_lt _) 99 0 (by omega) (fin_ok rfl hn)⟩
      · rw [if_neg (show ¬ (0 < σ.1 3 0 ∧ σ.1 3 6 = 0) from fun q => hbr q.2), if_pos rfl]
        unfold wX12_caught
        dsimp only
        rw [e_within, if_pos c1, if_neg (by decide), if_neg w0, if_neg (show ¬ σ.1 18 6 = 0 by rw [e6]; exact hbr)]
        exact fin_ok rfl hn
  · have m : wX12_caught σ a1 (fun r2 σ2 => if (-102 : Int32) = r2 then InvX (j + 1) σ2 else False) := by
      unfold wX12_caught
      rw [e_within, if_neg c1, if_pos rfl]
      exact fin_ok rfl hn
    by_cases q : a1 < 1
    · rw [if_pos q]; exact m
    · rw [if_neg q, if_neg (show ¬ a1 ≤ 99 by grind)]; exact m
