/-! PURE PART 11: longs; states that are alike; whirls -/
theorem lN_toB {n : Nat} (h : n < 2 ^ 63) : (lN n).toInt = (n : Int) := lg_ofNat_toInt h
theorem lN_div {a d : Nat} (ha : a < 2 ^ 63) (h0 : 0 < d) (hd : d < 2 ^ 63) : lN a / lN d = lN (a / d) := by
  apply Int64.toInt_inj.mp
  rw [lg_ldiv_nonneg (by rw [lN_toB ha]; omega) (by rw [lN_toB hd]; omega), lN_toB ha, lN_toB hd, lN_toB (Nat.lt_of_le_of_lt (Nat.div_le_self a d) ha)]
  first | rfl | exact (Int.natCast_ediv _ _).symm
theorem lN_rem {a d : Nat} (ha : a < 2 ^ 63) (h0 : 0 < d) (hd : d < 2 ^ 63) : lN a - lN a / lN d * lN d = lN (a % d) := by
  rw [lN_div ha h0 hd, lN_mul, lN_sub (Nat.div_mul_le_self a d)]
  exact congrArg lN (by have := Nat.div_add_mod' a d; omega)
theorem lN_and (a b : Nat) : lN a &&& lN b = lN (a &&& b) := by
  apply Int64.toBitVec_inj.1
  show BitVec.ofNat 64 a &&& BitVec.ofNat 64 b = BitVec.ofNat 64 (a &&& b)
  apply BitVec.eq_of_getLsbD_eq
  intro i hi
  simp [hi]
theorem lN_and31 (a : Nat) : lN a &&& 2147483647 = lN (a % 2147483648) := by
  rw [show (2147483647 : Int64) = lN (2 ^ 31 - 1) from rfl, lN_and, Nat.and_two_pow_sub_one_eq_mod]
def sdN (s : Nat) : Nat := (1103515245 * s + 12345) % 2147483648
theorem sdN_lt (s : Nat) : sdN s < 2 ^ 31 := Nat.mod_lt _ (by omega)
theorem x_seed {σ : St} {s : Nat} {Φ : Int32 → St → Prop} (hs : s < 2 ^ 31) (hp : Φ (nI (sdN s)) σ) : wX11_nextSeed σ (nI s) Φ := by
  unfold wX11_nextSeed
  refine ⟨by decide, ?_⟩
  rw [nI_l hs, show (1103515245 : Int64) = lN 1103515245 from rfl, lN_mul, show (12345 : Int64) = lN 12345 from rfl, lN_add, show (2147483648 : Int64) = lN 2147483648 from rfl, lN_rem (by omega) (by omega) (by omega), lN_i]
  exact hp
theorem m_draw {σ : St} {s : Nat} {Φ : Int32 → St → Prop} (hJ : σ.2.1 0 = lN s) (hs : s < 2 ^ 31) (hp : Φ (nI (sdN s / 65536 % 7)) (sJ σ 0 (lN (sdN s)))) : wX12_draw σ 7 Φ := by
  unfold wX12_draw
  refine ⟨by decide, by decide, ?_⟩
  have hl := sdN_lt s
  have e : (1103515245 * σ.2.1 0 + 12345) &&& 2147483647 = lN (sdN s) := by
    rw [hJ, show (1103515245 : Int64) = lN 1103515245 from rfl, lN_mul, show (12345 : Int64) = lN 12345 from rfl, lN_add, lN_and31]
    rfl
  rw [e, show (sJ σ 0 (lN (sdN s))).2.1 0 = lN (sdN s) from rfl, show (65536 : Int64) = lN 65536 from rfl, show (7 : Int32).toInt64 = lN 7 by decide, lN_div (by omega) (by omega) (by omega), lN_rem (by omega) (by omega) (by omega), lN_i]
  exact hp
def wdS (a : Int32) : Int32 := if a ≤ 3 then a else 3 - a
def Rel (σ τ : St) : Prop := (∀ k j, scr k j = false → ¬ (k = 18 ∧ (j = 2 ∨ j = 6 ∨ j = 7 ∨ j = 8)) → τ.1 k j = σ.1 k j) ∧ τ.2.2 = σ.2.2
theorem Sim.rel {σ τ : St} (h : Sim σ τ) : Rel σ τ := ⟨fun k j hs _ => h.at k j hs, h.2⟩
theorem Rel.row {σ τ : St} (h : Rel σ τ) (k : Nat) (hk : k ≠ 18) (hs : ∀ j, scr k j = false) : τ.1 k = σ.1 k := funext fun j => h.1 k j (hs j) (fun q => hk q.1)
theorem Rel.th {σ τ : St} (h : Rel σ τ) : τ.1 19 = σ.1 19 ∧ τ.1 20 = σ.1 20 ∧ τ.1 21 = σ.1 21 ∧ τ.1 22 = σ.1 22 := ⟨h.row 19 (by omega) (fun j => rfl), h.row 20 (by omega) (fun j => rfl), h.row 21 (by omega) (fun j => rfl), h.row 22 (by omega) (fun j => rfl)⟩
theorem Rel.thx {σ τ : St} {nt : Nat} (h : Rel σ τ) (hT : ThX σ nt) : ThX τ nt := by
  obtain ⟨r19, r20, r21, r22⟩ := h.th
  refine ⟨hT.1, (h.1 4 2 rfl (by omega)).trans hT.2.1, fun i hi => ?_⟩
  obtain ⟨a, ha, d1, d2, d3, d4, d5⟩ := hT.2.2 i hi
  refine ⟨a, by rw [h.2]; exact ha, ?_⟩
  unfold TXr
  rw [h.2, r19, r20, r21, r22]
  exact ⟨d1, d2, d3, d4, d5⟩
theorem Rel.tb {σ τ : St} {nt hh : Nat} (h : Rel σ τ) (hB : TB σ.1 nt hh) : TB τ.1 nt hh := by
  obtain ⟨r19, r20, r21, r22⟩ := h.th
  unfold TB
  rw [r20, r22]
  exact hB
theorem Rel.cab {σ τ : St} (h : Rel σ τ) (c hr : Int32) (mv : Nat → Bool) (n : Nat) : cabV τ.1 c hr mv n = cabV σ.1 c hr mv n := by
  obtain ⟨r19, r20, r21, r22⟩ := h.th
  unfold cabV
  rw [r19, r20, r21, r22]
theorem Rel.sV {σ τ : St} (h : Rel σ τ) {k b : Nat} {v : Int32} (hs : scr k b = true ∨ (k = 18 ∧ (b = 2 ∨ b = 6 ∨ b = 7 ∨ b = 8))) : Rel σ (sV τ k b v) := by
  refine ⟨fun k' j' h1 h2 => ?_, h.2⟩
  have e : (k' = k ∧ j' = b) → False := by
    rintro ⟨rfl, rfl⟩
    rcases hs with q | q
    · rw [q] at h1; exact absurd h1 (by decide)
    · exact h2 q
  show up2 τ.1 k b v k' j' = σ.1 k' j'
  rw [← h.1 k' j' h1 h2]
  unfold up2 va_up
  by_cases q : k' = k
  · rw [if_pos q, if_neg (fun z => e ⟨q, z⟩), q]
  · rw [if_neg q]
theorem Rel.sJ {σ τ : St} (h : Rel σ τ) {b : Nat} {v : Int64} : Rel σ (sJ τ b v) := ⟨h.1, h.2⟩
theorem rel_sim {σ τ : St} (h : Rel σ τ) {a b c d : Int32} (ha : σ.1 18 2 = a) (hb : σ.1 18 7 = b) (hc : σ.1 18 8 = c) (hd : σ.1 18 6 = d) : Sim σ (sV (sV (sV (sV τ 18 2 a) 18 7 b) 18 8 c) 18 6 d) := by
  refine ⟨?_, h.2⟩
  funext k j
  unfold cl
  by_cases hs : scr k j = true
  · rw [if_pos hs, if_pos hs]
  · rw [if_neg hs, if_neg hs]
    have hs' : scr k j = false := by simpa using hs
    by_cases hk : k = 18
    · subst hk
      show up2 (up2 (up2 (up2 τ.1 18 2 a) 18 7 b) 18 8 c) 18 6 d 18 j = σ.1 18 j
      by_cases j2 : j = 2
      · subst j2; simp [up2, va_up, ha]
      · by_cases j6 : j = 6
        · subst j6; simp [up2, va_up, hd]
        · by_cases j7 : j = 7
          · subst j7; simp [up2, va_up, hb]
          · by_cases j8 : j = 8
            · subst j8; simp [up2, va_up, hc]
            · simp [up2, va_up, j2, j6, j7, j8, h.1 18 j hs' (by omega)]
    · have := h.1 k j hs' (fun q => hk q.1)
      simpa [sV, up2, va_up, hk] using this
/-! whirls -/
def brS (V : Nat → Nat → Int32) (nt hh : Nat) (sp l bears : Int32) : Int32 := if cab2 V (nI hh) noM nt (strainS sp l) ≤ bears then 0 else 1
def wrL (l : Int32) (s : Nat) : Int32 := if 10 ≤ l - wdS (nI (sdN s / 65536 % 7)) ∧ l - wdS (nI (sdN s / 65536 % 7)) ≤ 40 then l - wdS (nI (sdN s / 65536 % 7)) else l
theorem wrL_in {l : Int32} {s : Nat} (h : 10 ≤ l ∧ l ≤ 40) : 10 ≤ wrL l s ∧ wrL l s ≤ 40 := by
  unfold wrL
  split
  · assumption
  · exact h
def wr (V : Nat → Nat → Int32) (nt : Nat) (sp bears : Int32) : Nat → Int32 → Nat → Nat → Int32 → Nat → Int32 × Nat × Nat × Nat
  | 0, l, p, h, _, s => (l, p, h, s)
  | n + 1, l, p, h, br, s => if br = 0 then wr V nt sp bears n (wrL l s) (placeN p (turnsS sp (wrL l s)).toNatClampNeg) (h + 1) (brS V nt (h + 1) sp (wrL l s) bears) (sdN s) else (l, p, h, s)
theorem wr_0 {V : Nat → Nat → Int32} {nt : Nat} {sp bears l : Int32} {p h s n : Nat} {br : Int32} (hb : ¬ br = 0) : wr V nt sp bears n l p h br s = (l, p, h, s) := by
  cases n with
  | zero => rw [wr]
  | succ n => rw [wr, if_neg hb]
theorem x_try {σ : St} {nt h0 ss N : Nat} {bears : Int32} {Φ : Int32 → St → Prop} (hT : ThX σ nt) (hB : TB σ.1 nt h0) (hss : ss ≤ 14400) (hN : N ≤ 60) :
    ∀ m i, i + m = N → ∀ τ l p h br s, Sim σ τ → τ.1 16 0 = l → τ.1 16 1 = nI ss → τ.1 16 2 = bears → τ.1 16 3 = nI p → τ.1 16 4 = nI h → τ.1 16 6 = br → p < 360 → (10 ≤ l ∧ l ≤ 40) → h0 ≤ h → h + m ≤ 1000 → s < 2 ^ 31 →
    (∀ τ', Sim σ τ' → τ'.1 16 0 = (wr σ.1 nt (nI ss) bears m l p h br s).1 → τ'.1 16 3 = nI (wr σ.1 nt (nI ss) bears m l p h br s).2.1 → τ'.1 16 4 = nI (wr σ.1 nt (nI ss) bears m l p h br s).2.2.1 → Φ (nI (wr σ.1 nt (nI ss) bears m l p h br s).2.2.2) τ') →
    wX11_tryHours_16 Φ (m + 1) τ (nI N) (nI s) (nI i) := by
  intro m
  induction m with
  | zero =>
    intro i hi τ l p h br s hS e0 e1 e2 e3 e4 e6 hp hl hh hm hs K
    have : i = N := by omega
    subst this
    rw [wX11_tryHours_16, if_pos (nI_le (Nat.le_refl _) (by omega))]
    exact K τ hS e0 e3 e4
  | succ m ih =>
    intro i hi τ l p h br s hS e0 e1 e2 e3 e4 e6 hp hl hh hm hs K
    rw [wX11_tryHours_16, if_neg (nI_ge (by omega) (by omega)), e6]
    by_cases hb : br = 0
    · rw [if_pos hb]
      refine x_seed hs ⟨by decide, by decide, ?_⟩
      have hsl := sdN_lt s
      rw [show (65536 : Int32) = nI 65536 from rfl, pk_div (by omega) (by omega) (by omega), show (7 : Int32) = nI 7 from rfl, pk_rem (by omega) (by omega) (by omega), e_winding, e_isLen, e0]
      have hR := hS.rel
      have hw := wrL_in (s := s) hl
      obtain ⟨t, t1, t2⟩ := turns_nat (s := ss) hss hw
      have hB1 : TB τ.1 nt (h + 1) := hR.tb (hB.up (by omega) (by omega))
      have kk : ∀ by_, l - by_ = wrL l s → wX11_tryHours_76 (wX11_tryHours_16 Φ (m + 1)) Φ τ (nI N) (nI (sdN s)) (nI i) by_ := by
        intro by_ hby
        unfold wX11_tryHours_76
        refine x_goHour16 (nt := nt) (hh := h) (p := p) (t := t) (l := wrL l s) (bears := bears) (hR.thx hT) hB1 e4 e3 hp (by rw [e0]; exact hby) (by rw [e1]; exact t1) t2 e2 (brS σ.1 nt (h + 1) (nI ss) (wrL l s) bears) ?_ ?_
        · unfold brS cab2
          rw [hR.cab, hR.cab, e1]
        · rw [nI_1]
          refine ih (i + 1) (by omega) _ (wrL l s) (placeN p t) (h + 1) (brS σ.1 nt (h + 1) (nI ss) (wrL l s) bears) (sdN s) ((((hS.sV rfl).sV rfl).sV rfl).sV rfl) rfl e1 e2 rfl rfl rfl (Nat.mod_lt _ (by omega)) hw (by omega) (by omega) hsl ?_
          have ew : wr σ.1 nt (nI ss) bears (m + 1) l p h br s = wr σ.1 nt (nI ss) bears m (wrL l s) (placeN p t) (h + 1) (brS σ.1 nt (h + 1) (nI ss) (wrL l s) bears) (sdN s) := by
            rw [wr, if_pos hb, t1, nI_clamp (by omega)]
          rw [← ew]
          exact K
      have kw : wrL l s = if 10 ≤ l - wdS (nI (sdN s / 65536 % 7)) ∧ l - wdS (nI (sdN s / 65536 % 7)) ≤ 40 then l - wdS (nI (sdN s / 65536 % 7)) else l := rfl
      unfold wdS at kw
      by_cases hin : 10 ≤ l - (if nI (sdN s / 65536 % 7) ≤ 3 then nI (sdN s / 65536 % 7) else 3 - nI (sdN s / 65536 % 7)) ∧ l - (if nI (sdN s / 65536 % 7) ≤ 3 then nI (sdN s / 65536 % 7) else 3 - nI (sdN s / 65536 % 7)) ≤ 40
      · rw [if_pos hin, if_neg (by decide)]
        rw [if_pos hin] at kw
        exact kk _ kw.symm
      · rw [if_neg hin, if_pos rfl]
        rw [if_neg hin] at kw
        exact kk 0 (by rw [kw]; exact Int32.sub_zero l)
    · rw [if_neg hb]
      rw [wr_0 hb] at K
      exact K τ hS e0 e3 e4
theorem m_try {σ : St} {nt h0 ss N : Nat} {bears v3 v4 v5 v6 : Int32} {Φ : Int32 → St → Prop} (hM : σ.1 18 9 = nI nt) (hB : TB σ.1 nt h0) (hsp : σ.1 18 3 = nI ss) (hbe : σ.1 18 4 = bears) (hss : ss ≤ 14400) (hN : N ≤ 60) :
    ∀ m i, i + m = N → ∀ τ l p h br s, Rel σ τ → τ.1 18 2 = l → τ.1 18 7 = nI p → τ.1 18 8 = nI h → (br = 0 ∨ br = 1) → τ.2.1 0 = lN s → p < 360 → (10 ≤ l ∧ l ≤ 40) → h0 ≤ h → h + m ≤ 1000 → s < 2 ^ 31 →
    (∀ τ', Rel σ τ' → τ'.1 18 2 = (wr σ.1 nt (nI ss) bears m l p h br s).1 → τ'.1 18 7 = nI (wr σ.1 nt (nI ss) bears m l p h br s).2.1 → τ'.1 18 8 = nI (wr σ.1 nt (nI ss) bears m l p h br s).2.2.1 → τ'.2.1 0 = lN (wr σ.1 nt (nI ss) bears m l p h br s).2.2.2 → wX12_whirlsNow_86 Φ τ' v3 v4 v5 v6) →
    wX12_whirlsNow_30 Φ (m + 1) τ (nI N) v3 v4 v5 v6 (1 - br) (nI i) := by
  intro m
  induction m with
  | zero =>
    intro i hi τ l p h br s hR e0 e3 e4 hbr eJ hp hl hh hm hs K
    have : i = N := by omega
    subst this
    rw [wX12_whirlsNow_30, if_pos (nI_le (Nat.le_refl _) (by omega))]
    exact K τ hR e0 e3 e4 eJ
  | succ m ih =>
    intro i hi τ l p h br s hR e0 e3 e4 hbr eJ hp hl hh hm hs K
    rw [wX12_whirlsNow_30, if_neg (nI_ge (by omega) (by omega))]
    by_cases hb : br = 0
    · rw [if_neg (show ¬ 1 - br = 0 by rw [hb]; decide)]
      refine m_draw eJ hs ?_
      have hsl := sdN_lt s
      rw [e_by, e_mayBe, e0]
      have hR2 : Rel σ (sJ τ 0 (lN (sdN s))) := hR.sJ
      have hw := wrL_in (s := s) hl
      obtain ⟨t, t1, t2⟩ := turns_nat (s := ss) hss hw
      have hB1 : TB τ.1 nt (h + 1) := hR.tb (hB.up (by omega) (by omega))
      have e1 : τ.1 18 3 = nI ss := (hR.1 18 3 rfl (by omega)).trans hsp
      have kk : wX12_whirlsNow_75 (wX12_whirlsNow_30 Φ (m + 1)) Φ (sJ τ 0 (lN (sdN s))) (nI N) v3 v4 v5 v6 (nI i) (wrL l s) := by
        unfold wX12_whirlsNow_75
        refine m_goHour (σ := sJ τ 0 (lN (sdN s))) (nt := nt) (hh := h) (p := p) (t := t) (l := wrL l s) (bears := bears) ((hR.1 18 9 rfl (by omega)).trans hM) hB1 e4 e3 hp hw (by show turnsS (τ.1 18 3) _ = _; rw [e1]; exact t1) t2 ((hR.1 18 4 rfl (by omega)).trans hbe) (brS σ.1 nt (h + 1) (nI ss) (wrL l s) bears) ?_ ?_
        · show _ = if cab2 τ.1 (nI (h + 1)) noM nt (strainS (τ.1 18 3) (wrL l s)) ≤ bears then 0 else 1
          unfold brS cab2
          rw [hR.cab, hR.cab, e1]
        · rw [nI_1]
          refine ih (i + 1) (by omega) _ (wrL l s) (placeN p t) (h + 1) (brS σ.1 nt (h + 1) (nI ss) (wrL l s) bears) (sdN s) ((((hR2.sV (Or.inr (by omega))).sV (Or.inr (by omega))).sV (Or.inr (by omega))).sV (Or.inr (by omega))) rfl rfl rfl ?_ rfl (Nat.mod_lt _ (by omega)) hw (by omega) (by omega) hsl ?_
          · unfold brS
            split
            · exact Or.inl rfl
            · exact Or.inr rfl
          · have ew : wr σ.1 nt (nI ss) bears (m + 1) l p h br s = wr σ.1 nt (nI ss) bears m (wrL l s) (placeN p t) (h + 1) (brS σ.1 nt (h + 1) (nI ss) (wrL l s) bears) (sdN s) := by
              rw [wr, if_pos hb, t1, nI_clamp (by omega)]
            rw [← ew]
            exact K
      have kw : wrL l s = if 10 ≤ l - wdS (nI (sdN s / 65536 % 7)) ∧ l - wdS (nI (sdN s / 65536 % 7)) ≤ 40 then l - wdS (nI (sdN s / 65536 % 7)) else l := rfl
      unfold wdS at kw
      by_cases hin : 10 ≤ l - (if nI (sdN s / 65536 % 7) ≤ 3 then nI (sdN s / 65536 % 7) else 3 - nI (sdN s / 65536 % 7)) ∧ l - (if nI (sdN s / 65536 % 7) ≤ 3 then nI (sdN s / 65536 % 7) else 3 - nI (sdN s / 65536 % 7)) ≤ 40
      · rw [if_pos hin, if_neg (by decide)]
        rw [if_pos hin] at kw
        rw [← kw]
        exact kk
      · rw [if_neg hin, if_pos rfl]
        rw [if_neg hin] at kw
        rw [show (sJ τ 0 (lN (sdN s))).1 18 2 = wrL l s from e0.trans kw.symm]
        exact kk
    · have hb1 : br = 1 := by rcases hbr with q | q; exact absurd q hb; exact q
      rw [if_pos (show 1 - br = 0 by rw [hb1]; decide)]
      rw [wr_0 hb] at K
      exact K τ hR e0 e3 e4 eJ
