/-! PURE PART C: states that are alike off cells 16 and 19; an hour; whirls, on the class's side -/
def Sim (σ τ : St) : Prop := (∀ k, k ≠ 16 → k ≠ 19 → τ.1 k = σ.1 k) ∧ τ.2.2 = σ.2.2
def Sim0 (σ τ : St) : Prop := (∀ k, k ≠ 16 → τ.1 k = σ.1 k) ∧ τ.2.2 = σ.2.2
theorem sm_of {σ τ : St} (h : Sim0 σ τ) : Sim σ τ := ⟨fun k h1 _ => h.1 k h1, h.2⟩
theorem s0_sV {σ τ : St} (h : Sim0 σ τ) {b : Nat} {v : Int32} : Sim0 σ (sV τ 16 b v) := by
  refine ⟨fun k' h1 => ?_, h.2⟩
  rw [← h.1 k' h1]
  show up2 τ.1 16 b v k' = τ.1 k'
  unfold up2 va_up
  rw [if_neg h1]
theorem sm_rfl {σ : St} : Sim σ σ := ⟨fun _ _ _ => rfl, rfl⟩
theorem sm_tr {a b c : St} (h : Sim a b) (g : Sim b c) : Sim a c := ⟨fun k h1 h2 => (g.1 k h1 h2).trans (h.1 k h1 h2), g.2.trans h.2⟩
theorem sm_sV {σ τ : St} (h : Sim σ τ) {k b : Nat} {v : Int32} (hs : k = 16 ∨ k = 19) : Sim σ (sV τ k b v) := by
  refine ⟨fun k' h1 h2 => ?_, h.2⟩
  rw [← h.1 k' h1 h2]
  show up2 τ.1 k b v k' = τ.1 k'
  unfold up2 va_up
  rw [if_neg (by rcases hs with q | q <;> omega)]
theorem sm_at {σ τ : St} (h : Sim σ τ) (k j : Nat) (h1 : k ≠ 16 := by omega) (h2 : k ≠ 19 := by omega) : τ.1 k j = σ.1 k j := congrFun (h.1 k h1 h2) j
theorem sm_4 {σ τ : St} (h : Sim σ τ) {a b c d : Nat} {v1 v2 v3 v4 : Int32} : Sim σ (sV (sV (sV (sV τ 16 a v1) 16 b v2) 16 c v3) 16 d v4) := sm_sV (sm_sV (sm_sV (sm_sV h (Or.inl rfl)) (Or.inl rfl)) (Or.inl rfl)) (Or.inl rfl)
theorem sm_thx {σ τ : St} {nt : Nat} (h : Sim σ τ) (hT : ThX σ nt) : ThX τ nt := by
  have e : τ.1 18 = σ.1 18 := h.1 18 (by omega) (by omega)
  refine ⟨hT.1, (sm_at h 4 2).trans hT.2.1, fun i hi => ?_⟩
  obtain ⟨a, ha, hx⟩ := hT.2.2 i hi
  refine ⟨a, by rw [h.2]; exact ha, ?_⟩
  unfold TXr at hx ⊢
  rw [h.2, e]
  exact hx
theorem sm_tb {σ τ : St} {nt hh : Nat} (h : Sim σ τ) (hB : TB σ.1 nt hh) : TB τ.1 nt hh := by
  have e : τ.1 18 = σ.1 18 := h.1 18 (by omega) (by omega)
  unfold TB at hB ⊢
  rw [e]
  exact hB
theorem sm_cab {σ τ : St} (h : Sim σ τ) (c hr : Int32) (mv : Nat → Bool) (n : Nat) : cabV τ.1 c hr mv n = cabV σ.1 c hr mv n := by
  have e : τ.1 18 = σ.1 18 := h.1 18 (by omega) (by omega)
  unfold cabV
  rw [e]
theorem sm_rdy {σ τ : St} {nt hh : Nat} (h : Sim σ τ) (hR : Rdy σ nt hh) : Rdy τ nt hh := ⟨sm_thx h hR.1, sm_tb h hR.2.1, (sm_at h 3 4).trans hR.2.2⟩
theorem i32_msb (x : Int32) : 0 ≤ x ↔ x.toBitVec.msb = false := by
  rw [Int32.le_iff_toInt_le, BitVec.msb_eq_toInt]
  show (0 : Int) ≤ x.toInt ↔ decide (x.toInt < 0) = false
  simp
theorem xor_sgn (x : Int32) : 0 ≤ x ^^^ 360 ↔ 0 ≤ x := by
  rw [i32_msb, i32_msb, Int32.toBitVec_xor, BitVec.msb_xor]
  rw [show (360 : Int32).toBitVec.msb = false by decide, Bool.xor_false]
theorem e_fmodP {σ : St} {a : Nat} (ha : a < 2 ^ 30) (Φ : Int32 → St → Prop) : wJ9_floorMod_7cf53 σ (nI a) 360 Φ = Φ (nI (a % 360)) σ := by
  unfold wJ9_floorMod_7cf53
  rw [if_pos ((xor_sgn _).mpr (nI_pos' (by omega)))]
  rw [show (360 : Int32) = nI 360 from rfl, pk_rem (by omega) (by omega) (by omega)]
  simp only [eq_iff_iff, and_iff_right_iff_imp]
  intro _
  decide
theorem turns_nat {s : Nat} {l : Int32} (hs : s ≤ 14400) (hl : 10 ≤ l ∧ l ≤ 40) : ∃ t, turnsS (nI s) l = nI t ∧ t ≤ 144 := by
  unfold turnsS
  rw [if_pos hl]
  obtain ⟨n, rfl, h1, h2⟩ := len_nat hl
  rw [nI_mul, pk_div (by omega) (Nat.mul_pos (by omega) (by omega)) (by have : n * n ≤ 40 * 40 := Nat.mul_le_mul h2 h2; omega)]
  refine ⟨_, rfl, ?_⟩
  have h3 : 100 ≤ n * n := Nat.mul_le_mul h1 h1
  calc s / (n * n) ≤ s / 100 := Nat.div_le_div_left h3 (by omega)
    _ ≤ 144 := by omega
def placeN (p t : Nat) : Nat := (p + t * 10) % 360
theorem i_place {σ : St} {k p t w : Nat} {Φ : Int32 → St → Prop} (hp : σ.1 k 3 = nI p) (hp2 : p < 360) (ht : turnsS (σ.1 k 1) (σ.1 k 0) = nI t) (ht2 : t ≤ 144) (hw : w ≤ 200) (h : Φ (nI (placeN p (w * t))) σ) : wX0_placeAfter σ k (nI w) Φ := by
  unfold wX0_placeAfter
  rw [e_turnsNow, ht, hp, nI_mul, show (10 : Int32) = nI 10 from rfl, nI_mul, nI_add]
  have : w * t ≤ 200 * 144 := Nat.mul_le_mul hw ht2
  rw [e_fmodP (by omega)]
  exact h
theorem x_goHour3 {σ : St} {nt hh p t : Nat} {by_ l bears : Int32} {Φ : St → Prop} (hT : ThX σ nt) (hB : TB σ.1 nt (hh + 1)) (h4 : σ.1 3 4 = nI hh) (hp : σ.1 3 3 = nI p) (hp2 : p < 360) (hl : σ.1 3 0 - by_ = l) (ht : turnsS (σ.1 3 1) l = nI t) (ht2 : t ≤ 144)
    (hb : σ.1 3 2 = bears) (br : Int32) (hbr : br = if cab2 σ.1 (nI (hh + 1)) noM nt (strainS (σ.1 3 1) l) ≤ bears then 0 else 1)
    (h : Φ (sV (sV (sV (sV σ 3 0 l) 3 4 (nI (hh + 1))) 3 3 (nI (placeN p t))) 3 6 br)) : wX0_goHour σ 3 by_ Φ := by
  unfold wX0_goHour
  have e1 : (sV σ 3 0 l).1 3 4 = nI hh := h4
  rw [hl, e1, nI_1]
  have e2 : turnsS ((sV (sV σ 3 0 l) 3 4 (nI (hh + 1))).1 3 1) ((sV (sV σ 3 0 l) 3 4 (nI (hh + 1))).1 3 0) = nI t := ht
  refine i_place (σ := sV (sV σ 3 0 l) 3 4 (nI (hh + 1))) (k := 3) (p := p) (t := t) (w := 1) hp hp2 e2 ht2 (by omega) ?_
  rw [Nat.one_mul]
  have hT' : ThX (sV (sV (sV σ 3 0 l) 3 4 (nI (hh + 1))) 3 3 (nI (placeN p t))) nt := hT
  refine i_strainNow (nt := nt) (hh := hh + 1) hT' hB rfl ?_
  have e5 : (sV (sV (sV σ 3 0 l) 3 4 (nI (hh + 1))) 3 3 (nI (placeN p t))).1 3 2 = bears := hb
  rw [e5]
  have e6 : cab2 (sV (sV (sV σ 3 0 l) 3 4 (nI (hh + 1))) 3 3 (nI (placeN p t))).1 (nI (hh + 1)) noM nt (strainS ((sV (sV (sV σ 3 0 l) 3 4 (nI (hh + 1))) 3 3 (nI (placeN p t))).1 3 1) ((sV (sV (sV σ 3 0 l) 3 4 (nI (hh + 1))) 3 3 (nI (placeN p t))).1 3 0)) = cab2 σ.1 (nI (hh + 1)) noM nt (strainS (σ.1 3 1) l) := rfl
  rw [e6]
  by_cases hc : cab2 σ.1 (nI (hh + 1)) noM nt (strainS (σ.1 3 1) l) ≤ bears
  · rw [if_pos hc] at hbr ⊢
    subst hbr
    exact ⟨by decide, h⟩
  · rw [if_neg hc] at hbr ⊢
    subst hbr
    exact ⟨by decide, h⟩
theorem x_goHour16 {σ : St} {nt hh p t : Nat} {by_ l bears : Int32} {Φ : St → Prop} (hT : ThX σ nt) (hB : TB σ.1 nt (hh + 1)) (h4 : σ.1 16 4 = nI hh) (hp : σ.1 16 3 = nI p) (hp2 : p < 360) (hl : σ.1 16 0 - by_ = l) (ht : turnsS (σ.1 16 1) l = nI t) (ht2 : t ≤ 144)
    (hb : σ.1 16 2 = bears) (br : Int32) (hbr : br = if cab2 σ.1 (nI (hh + 1)) noM nt (strainS (σ.1 16 1) l) ≤ bears then 0 else 1)
    (h : Φ (sV (sV (sV (sV σ 16 0 l) 16 4 (nI (hh + 1))) 16 3 (nI (placeN p t))) 16 6 br)) : wX0_goHour σ 16 by_ Φ := by
  unfold wX0_goHour
  have e1 : (sV σ 16 0 l).1 16 4 = nI hh := h4
  rw [hl, e1, nI_1]
  have e2 : turnsS ((sV (sV σ 16 0 l) 16 4 (nI (hh + 1))).1 16 1) ((sV (sV σ 16 0 l) 16 4 (nI (hh + 1))).1 16 0) = nI t := ht
  refine i_place (σ := sV (sV σ 16 0 l) 16 4 (nI (hh + 1))) (k := 16) (p := p) (t := t) (w := 1) hp hp2 e2 ht2 (by omega) ?_
  rw [Nat.one_mul]
  have hT' : ThX (sV (sV (sV σ 16 0 l) 16 4 (nI (hh + 1))) 16 3 (nI (placeN p t))) nt := hT
  refine i_strainNow (nt := nt) (hh := hh + 1) hT' hB rfl ?_
  have e5 : (sV (sV (sV σ 16 0 l) 16 4 (nI (hh + 1))) 16 3 (nI (placeN p t))).1 16 2 = bears := hb
  rw [e5]
  have e6 : cab2 (sV (sV (sV σ 16 0 l) 16 4 (nI (hh + 1))) 16 3 (nI (placeN p t))).1 (nI (hh + 1)) noM nt (strainS ((sV (sV (sV σ 16 0 l) 16 4 (nI (hh + 1))) 16 3 (nI (placeN p t))).1 16 1) ((sV (sV (sV σ 16 0 l) 16 4 (nI (hh + 1))) 16 3 (nI (placeN p t))).1 16 0)) = cab2 σ.1 (nI (hh + 1)) noM nt (strainS (σ.1 16 1) l) := rfl
  rw [e6]
  by_cases hc : cab2 σ.1 (nI (hh + 1)) noM nt (strainS (σ.1 16 1) l) ≤ bears
  · rw [if_pos hc] at hbr ⊢
    subst hbr
    exact ⟨by decide, h⟩
  · rw [if_neg hc] at hbr ⊢
    subst hbr
    exact ⟨by decide, h⟩
theorem lN_toB {n : Nat} (h : n < 2 ^ 63) : (lN n).toInt = (n : Int) := lg_ofNat_toInt h
theorem lN_div {a d : Nat} (ha : a < 2 ^ 63) (h0 : 0 < d) (hd : d < 2 ^ 63) : lN a / lN d = lN (a / d) := by
  apply Int64.toInt_inj.mp
  rw [lg_ldiv_nonneg (by rw [lN_toB ha]; omega) (by rw [lN_toB hd]; omega), lN_toB ha, lN_toB hd, lN_toB (Nat.lt_of_le_of_lt (Nat.div_le_self a d) ha)]
  first | rfl | exact (Int.natCast_ediv _ _).symm
theorem lN_rem {a d : Nat} (ha : a < 2 ^ 63) (h0 : 0 < d) (hd : d < 2 ^ 63) : lN a - lN a / lN d * lN d = lN (a % d) := by
  rw [lN_div ha h0 hd, lN_mul, lN_sub (Nat.div_mul_le_self a d)]
  exact congrArg lN (by have := Nat.div_add_mod' a d; omega)
def sdN (s : Nat) : Nat := (1103515245 * s + 12345) % 2147483648
theorem sdN_lt (s : Nat) : sdN s < 2 ^ 31 := Nat.mod_lt _ (by omega)
theorem x_seed {σ : St} {s : Nat} {Φ : Int32 → St → Prop} (hs : s < 2 ^ 31) (hp : Φ (nI (sdN s)) σ) : wX11_nextSeed σ (nI s) Φ := by
  unfold wX11_nextSeed
  refine ⟨by decide, ?_⟩
  rw [nI_l hs, show (1103515245 : Int64) = lN 1103515245 from rfl, lN_mul, show (12345 : Int64) = lN 12345 from rfl, lN_add, show (2147483648 : Int64) = lN 2147483648 from rfl, lN_rem (by omega) (by omega) (by omega), lN_i]
  exact hp
def wdS (a : Int32) : Int32 := if a ≤ 3 then a else 3 - a
def brS (V : Nat → Nat → Int32) (nt hh : Nat) (sp l bears : Int32) : Int32 := if cab2 V (nI hh) noM nt (strainS sp l) ≤ bears then 0 else 1
def wrL (l : Int32) (s : Nat) : Int32 := if 10 ≤ l - wdS (nI (sdN s / 65536 % 7)) ∧ l - wdS (nI (sdN s / 65536 % 7)) ≤ 40 then l - wdS (nI (sdN s / 65536 % 7)) else l
theorem wrL_in {l : Int32} {s : Nat} (h : 10 ≤ l ∧ l ≤ 40) : 10 ≤ wrL l s ∧ wrL l s ≤ 40 := by
  unfold wrL
  split
  · assumption
  · exact h
def wr (V : Nat → Nat → Int32) (nt : Nat) (sp bears : Int32) : Nat → Int32 → Nat → Nat → Int32 → Nat → Int32 × Nat × Nat × Nat
  | 0, l, p, h, _, s => (l, p, h, s)
  | n + 1, l, p, h, br, s => if br = 0 then wr V nt sp bears n (wrL l s) (placeN p (turnsS sp (wrL l s)).toNatClampNeg) (h + 1) (brS V nt (h + 1) sp (wrL l s) bears) (sdN s) else (l, p, h, s)
theorem wr_0 {V : Nat → Nat → Int32} {nt : Nat} {sp bears l : Int32} {p h s n : Nat} {br : Int32} (hb : ¬ br = 0) : wr V nt sp bears n l p h br s = (l, p, h, s) := by
  cases n with
  | zero => rw [wr]
  | succ n => rw [wr, if_neg hb]
theorem x_try {σ : St} {nt h0 ss N : Nat} {bears : Int32} {Φ : Int32 → St → Prop} (hT : ThX σ nt) (hB : TB σ.1 nt h0) (hss : ss ≤ 14400) (hN : N ≤ 60) :
    ∀ m i, i + m = N → ∀ τ l p h br s, Sim0 σ τ → τ.1 16 0 = l → τ.1 16 1 = nI ss → τ.1 16 2 = bears → τ.1 16 3 = nI p → τ.1 16 4 = nI h → τ.1 16 6 = br → p < 360 → (10 ≤ l ∧ l ≤ 40) → h0 ≤ h → h + m ≤ 1000 → s < 2 ^ 31 →
    (∀ τ', Sim0 σ τ' → τ'.1 16 0 = (wr σ.1 nt (nI ss) bears m l p h br s).1 → τ'.1 16 3 = nI (wr σ.1 nt (nI ss) bears m l p h br s).2.1 → τ'.1 16 4 = nI (wr σ.1 nt (nI ss) bears m l p h br s).2.2.1 → Φ (nI (wr σ.1 nt (nI ss) bears m l p h br s).2.2.2) τ') →
    wX11_tryHours_16 Φ (m + 1) τ (nI N) (nI s) (nI i) := by
  intro m
  induction m with
  | zero =>
    intro i hi τ l p h br s hS e0 e1 e2 e3 e4 e6 hp hl hh hm hs K
    have : i = N := by omega
    subst this
    rw [wX11_tryHours_16, if_pos (nI_le (Nat.le_refl _) (by omega))]
    exact K τ hS e0 e3 e4
  | succ m ih =>
    intro i hi τ l p h br s hS e0 e1 e2 e3 e4 e6 hp hl hh hm hs K
    rw [wX11_tryHours_16, if_neg (nI_ge (by omega) (by omega)), e6]
    by_cases hb : br = 0
    · rw [if_pos hb]
      refine x_seed hs ⟨by decide, by decide, ?_⟩
      have hsl := sdN_lt s
      rw [show (65536 : Int32) = nI 65536 from rfl, pk_div (by omega) (by omega) (by omega), show (7 : Int32) = nI 7 from rfl, pk_rem (by omega) (by omega) (by omega), e_winding, e_isLen, e0]
      have hR := sm_of hS
      have hw := wrL_in (s := s) hl
      obtain ⟨t, t1, t2⟩ := turns_nat (s := ss) hss hw
      have hB1 : TB τ.1 nt (h + 1) := sm_tb hR (hB.up (by omega) (by omega))
      have kk : ∀ by_, l - by_ = wrL l s → wX11_tryHours_76 (wX11_tryHours_16 Φ (m + 1)) Φ τ (nI N) (nI (sdN s)) (nI i) by_ := by
        intro by_ hby
        unfold wX11_tryHours_76
        refine x_goHour16 (nt := nt) (hh := h) (p := p) (t := t) (l := wrL l s) (bears := bears) (sm_thx hR hT) hB1 e4 e3 hp (by rw [e0]; exact hby) (by rw [e1]; exact t1) t2 e2 (brS σ.1 nt (h + 1) (nI ss) (wrL l s) bears) ?_ ?_
        · unfold brS cab2
          rw [sm_cab hR, sm_cab hR, e1]
        · rw [nI_1]
          refine ih (i + 1) (by omega) _ (wrL l s) (placeN p t) (h + 1) (brS σ.1 nt (h + 1) (nI ss) (wrL l s) bears) (sdN s) (s0_sV (s0_sV (s0_sV (s0_sV hS)))) rfl e1 e2 rfl rfl rfl (Nat.mod_lt _ (by omega)) hw (by omega) (by omega) hsl ?_
          have ew : wr σ.1 nt (nI ss) bears (m + 1) l p h br s = wr σ.1 nt (nI ss) bears m (wrL l s) (placeN p t) (h + 1) (brS σ.1 nt (h + 1) (nI ss) (wrL l s) bears) (sdN s) := by
            rw [wr, if_pos hb, t1, nI_clamp (by omega)]
          rw [← ew]
          exact K
      have kw : wrL l s = if 10 ≤ l - wdS (nI (sdN s / 65536 % 7)) ∧ l - wdS (nI (sdN s / 65536 % 7)) ≤ 40 then l - wdS (nI (sdN s / 65536 % 7)) else l := rfl
      unfold wdS at kw
      by_cases hin : 10 ≤ l - (if nI (sdN s / 65536 % 7) ≤ 3 then nI (sdN s / 65536 % 7) else 3 - nI (sdN s / 65536 % 7)) ∧ l - (if nI (sdN s / 65536 % 7) ≤ 3 then nI (sdN s / 65536 % 7) else 3 - nI (sdN s / 65536 % 7)) ≤ 40
      · rw [if_pos hin, if_neg (by decide)]
        rw [if_pos hin] at kw
        exact kk _ kw.symm
      · rw [if_neg hin, if_pos rfl]
        rw [if_neg hin] at kw
        exact kk 0 (by rw [kw]; exact Int32.sub_zero l)
    · rw [if_neg hb]
      rw [wr_0 hb] at K
      exact K τ hS e0 e3 e4
def cpC (σ : St) (k k2 : Nat) : St := sV (sV (sV (sV (sV (sV (sV σ k 0 (σ.1 k2 0)) k 1 (σ.1 k2 1)) k 2 (σ.1 k2 2)) k 3 (σ.1 k2 3)) k 4 (σ.1 k2 4)) k 5 (σ.1 k2 5)) k 6 (σ.1 k2 6)
theorem i_become16 {σ : St} {Φ : St → Prop} (h5 : σ.1 3 5 = 0 ∨ σ.1 3 5 = 1) (h6 : σ.1 3 6 = 0 ∨ σ.1 3 6 = 1) (hp : Φ (cpC σ 16 3)) : wX0_becomeLike σ 16 3 Φ := ⟨h5, h6, hp⟩
/-- the WIRE's own numbers -/
def WN (σ : St) (s b p : Nat) : Prop := (10 ≤ σ.1 3 0 ∧ σ.1 3 0 ≤ 40) ∧ σ.1 3 1 = nI s ∧ s ≤ 14400 ∧ σ.1 3 2 = nI b ∧ b ≤ 999 ∧ σ.1 3 3 = nI p ∧ p < 360 ∧ (σ.1 3 5 = 0 ∨ σ.1 3 5 = 1) ∧ (σ.1 3 6 = 0 ∨ σ.1 3 6 = 1)
theorem wn_pos {σ : St} {s b p : Nat} (h : WN σ s b p) : 0 < σ.1 3 0 := by
  have := h.1.1
  grind
theorem sm_wn {σ τ : St} {s b p : Nat} (h : Sim σ τ) (hW : WN σ s b p) : WN τ s b p := by
  have e : τ.1 3 = σ.1 3 := h.1 3 (by omega) (by omega)
  unfold WN
  rw [e]
  exact hW
def whR (r : Int32 × Nat × Nat × Nat) (hh : Nat) (v : Int32) : Int32 := if v = 0 then r.1 else if v = 1 then nI r.2.1 else if v = 2 then nI r.2.2.1 - nI hh else nI r.2.2.2
theorem x_whirls {σ : St} {nt hh s b p N sd : Nat} {v : Int32} {Φ : Int32 → St → Prop} (hR : Rdy σ nt hh) (hh6 : hh ≤ 600) (hW : WN σ s b p) (hbr : σ.1 3 6 = 0) (n1 : 1 ≤ N) (n2 : N ≤ 60) (sd1 : sd < 2 ^ 31) (c3 : 0 ≤ v ∧ v ≤ 3) (hp : ∀ τ, Sim0 σ τ → Φ (whR (wr σ.1 nt (nI s) (nI b) N (σ.1 3 0) p hh 0 sd) hh v) τ) : wX11_whirls σ (nI N) (nI sd) v Φ := by
  obtain ⟨hT, hB, x4⟩ := hR
  obtain ⟨g1, g2, g3, g4, g5, g7, g8, q5, q6⟩ := hW
  have l0 : 0 < σ.1 3 0 := by have := g1.1; grind
  unfold wX11_whirls
  have c1 : 1 ≤ nI N := nI_le (a := 1) n1 (by omega)
  have c1' : nI N ≤ 60 := nI_le (b := 60) n2 (by omega)
  rw [if_neg (show ¬ nI N < 1 by grind), if_neg (show ¬ 60 < nI N by grind), if_neg (nI_pos sd1), if_neg (show ¬ v < 0 by grind), if_pos c3.2, e_isWhole, if_pos (show 0 < σ.1 3 0 ∧ σ.1 3 6 = 0 from ⟨l0, hbr⟩), if_neg (by decide)]
  unfold wX11_tryHours
  refine i_become16 q5 q6 ?_
  have s16 : Sim0 σ (cpC σ 16 3) := s0_sV (s0_sV (s0_sV (s0_sV (s0_sV (s0_sV (s0_sV ⟨fun _ _ => rfl, rfl⟩))))))
  refine ⟨N + 1, x_try (σ := σ) (nt := nt) (h0 := hh) (ss := s) (N := N) (bears := nI b) hT hB g3 n2 N 0 (by omega) (cpC σ 16 3) (σ.1 3 0) p hh 0 sd s16 rfl g2 g4 g7 x4 hbr g8 g1 (Nat.le_refl _) (by omega) sd1 (fun τ hS t0 t3 t4 => ?_)⟩
  have hp' := hp τ hS
  unfold whR at hp'
  rcases sw3 c3 with rfl | rfl | rfl | rfl
  · refine ⟨fun _ => ?_, ne_d rfl, ne_d rfl, fun e => absurd e (by decide)⟩
    rw [t0]
    simpa using hp'
  · refine ⟨ne_d rfl, fun _ => ?_, ne_d rfl, fun e => absurd e (by decide)⟩
    rw [t3]
    simpa using hp'
  · refine ⟨ne_d rfl, ne_d rfl, fun _ => ?_, fun e => absurd e (by decide)⟩
    rw [t4, sm_at (sm_of hS) 3 4, x4]
    simpa using hp'
  · refine ⟨ne_d rfl, ne_d rfl, ne_d rfl, fun _ => ?_⟩
    simpa using hp'
theorem x_whirlsS {σ : St} {N sd : Nat} {v : Int32} {Φ : Int32 → St → Prop} (hbr : ¬ σ.1 3 6 = 0) (n1 : 1 ≤ N) (n2 : N ≤ 60) (sd1 : sd < 2 ^ 31) (c3 : 0 ≤ v ∧ v ≤ 3) (hp : Φ (-103) σ) : wX11_whirls σ (nI N) (nI sd) v Φ := by
  unfold wX11_whirls
  have c1 : 1 ≤ nI N := nI_le (a := 1) n1 (by omega)
  have c1' : nI N ≤ 60 := nI_le (b := 60) n2 (by omega)
  rw [if_neg (show ¬ nI N < 1 by grind), if_neg (show ¬ 60 < nI N by grind), if_neg (nI_pos sd1), if_neg (show ¬ v < 0 by grind), if_pos c3.2, e_isWhole, if_neg (show ¬ (0 < σ.1 3 0 ∧ σ.1 3 6 = 0) from fun q => hbr q.2), if_pos rfl]
  exact hp
/-! an hour of the WIRE -/
theorem x_hour {σ : St} {nt hh s b p t : Nat} {d br : Int32} {Φ : Int32 → St → Prop} (h4 : σ.1 3 4 = nI hh) (hB1 : TB σ.1 nt (hh + 1)) (hT : ThX σ nt) (hW : WN σ s b p) (hd : -3 ≤ d ∧ d ≤ 3) (hbr0 : σ.1 3 6 = 0) (hl : 10 ≤ σ.1 3 0 - d ∧ σ.1 3 0 - d ≤ 40) (ht : turnsS (nI s) (σ.1 3 0 - d) = nI t) (ht2 : t ≤ 144)
    (hbr : br = brS σ.1 nt (hh + 1) (nI s) (σ.1 3 0 - d) (nI b)) (hp : Φ (if br = 0 then σ.1 3 0 - d else -1) (sV (sV (sV (sV σ 3 0 (σ.1 3 0 - d)) 3 4 (nI (hh + 1))) 3 3 (nI (placeN p t))) 3 6 br)) : wX11_hour σ d Φ := by
  have l0 := wn_pos hW
  obtain ⟨g1, g2, g3, g4, g5, g7, g8, q5, q6⟩ := hW
  unfold wX11_hour
  rw [if_neg (show ¬ d < -3 by grind), if_pos hd.2, e_isWhole, if_pos (show 0 < σ.1 3 0 ∧ σ.1 3 6 = 0 from ⟨l0, hbr0⟩), if_neg (by decide), e_isLen, if_pos hl, if_neg (by decide)]
  refine x_goHour3 (nt := nt) (hh := hh) (p := p) (t := t) hT hB1 h4 g7 g8 rfl (by rw [g2]; exact ht) ht2 g4 br (by rw [hbr, g2]; rfl) ?_
  have v6 : (sV (sV (sV (sV σ 3 0 (σ.1 3 0 - d)) 3 4 (nI (hh + 1))) 3 3 (nI (placeN p t))) 3 6 br).1 3 6 = br := rfl
  have v0 : (sV (sV (sV (sV σ 3 0 (σ.1 3 0 - d)) 3 4 (nI (hh + 1))) 3 3 (nI (placeN p t))) 3 6 br).1 3 0 = σ.1 3 0 - d := rfl
  rw [v6, v0]
  by_cases z : br = 0
  · rw [if_pos z]; rw [if_pos z] at hp; exact hp
  · rw [if_neg z]; rw [if_neg z] at hp; exact hp
theorem x_hourS {σ : St} {d : Int32} {Φ : Int32 → St → Prop} (hd : -3 ≤ d ∧ d ≤ 3) (hno : ¬ (σ.1 3 6 = 0 ∧ 10 ≤ σ.1 3 0 - d ∧ σ.1 3 0 - d ≤ 40)) (hp : Φ (-103) σ) : wX11_hour σ d Φ := by
  unfold wX11_hour
  rw [if_neg (show ¬ d < -3 by grind), if_pos hd.2, e_isWhole]
  by_cases q : 0 < σ.1 3 0 ∧ σ.1 3 6 = 0
  · rw [if_pos q, if_neg (by decide), e_isLen, if_neg (show ¬ (10 ≤ σ.1 3 0 - d ∧ σ.1 3 0 - d ≤ 40) from fun z => hno ⟨q.2, z⟩), if_pos rfl]
    exact hp
  · rw [if_neg q, if_pos rfl]
    exact hp
