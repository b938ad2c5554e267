/-! PURE PART D: the law's own small methods -/
theorem cl0 : (0 : Int32).toNatClampNeg = 0 := rfl
theorem cl1 : (1 : Int32).toNatClampNeg = 1 := rfl
theorem cl2 : (2 : Int32).toNatClampNeg = 2 := rfl
theorem cl3 : (3 : Int32).toNatClampNeg = 3 := rfl
theorem cl4 : (4 : Int32).toNatClampNeg = 4 := rfl
theorem cl5 : (5 : Int32).toNatClampNeg = 5 := rfl
theorem cl6 : (6 : Int32).toNatClampNeg = 6 := rfl
theorem cl7 : (7 : Int32).toNatClampNeg = 7 := rfl
theorem cl8 : (8 : Int32).toNatClampNeg = 8 := rfl
theorem cl9 : (9 : Int32).toNatClampNeg = 9 := rfl
theorem vi (j : Nat) (h : j < 32) : vp_in (nI j) 32 := vp_in_nI h (by omega)
theorem ix8 (i : Nat) : (8 : Int32) + 4 * nI i = nI (8 + 4 * i) := by rw [show (8 : Int32) = nI 8 from rfl, show (4 : Int32) = nI 4 from rfl, nI_mul, nI_add]
theorem ix9 (i : Nat) : (9 : Int32) + 4 * nI i = nI (9 + 4 * i) := by rw [show (9 : Int32) = nI 9 from rfl, show (4 : Int32) = nI 4 from rfl, nI_mul, nI_add]
theorem ix10 (i : Nat) : (10 : Int32) + 4 * nI i = nI (10 + 4 * i) := by rw [show (10 : Int32) = nI 10 from rfl, show (4 : Int32) = nI 4 from rfl, nI_mul, nI_add]
theorem ix11 (i : Nat) : (11 : Int32) + 4 * nI i = nI (11 + 4 * i) := by rw [show (11 : Int32) = nI 11 from rfl, show (4 : Int32) = nI 4 from rfl, nI_mul, nI_add]
theorem two_x (x : Int32) : x + x = 2 * x := by grind
theorem sh0 : ∀ i, i < 6 → ((0 : Int32) >>> (nI i &&& 31)) &&& 1 = 0 := by decide +kernel
theorem md2 {x : Int32} (h : x = 0 ∨ x = 1) : x - x / 2 * 2 = x := by rcases h with rfl | rfl <;> decide
/-- rows that are alike in their THINGS -/
def RA (r r' : Nat → Int32) : Prop := ∀ k, 8 ≤ k → k < 32 → r' k = r k
theorem ra_rfl {r : Nat → Int32} : RA r r := fun _ _ _ => rfl
theorem ra_tr {a b c : Nat → Int32} (h : RA a b) (g : RA b c) : RA a c := fun k h1 h2 => (g k h1 h2).trans (h k h1 h2)
theorem ra_sV {τ : St} {r : Nat → Int32} {q a : Nat} {v : Int32} (h : RA r (τ.1 q)) (ha : a < 8) : RA r ((sV τ q a v).1 q) := by
  intro k h1 h2
  show up2 τ.1 q a v q k = r k
  unfold up2 va_up
  rw [if_pos rfl, if_neg (by omega)]
  exact h k h1 h2
theorem ra_so {τ : St} {r : Nat → Int32} {q k a : Nat} {v : Int32} (h : RA r (τ.1 q)) (hk : q ≠ k) : RA r ((sV τ k a v).1 q) := by
  intro j h1 h2
  show up2 τ.1 k a v q j = r j
  unfold up2 va_up
  rw [if_neg hk]
  exact h j h1 h2
theorem ra_wg {r r' : Nat → Int32} (h : RA r r') (hr : Int32) {i : Nat} (hi : i < 6) : wgQ r' hr i = wgQ r hr i := by
  unfold wgQ wgS
  rw [show rK r' i = rK r i from h _ (by omega) (by omega), show rW r' i = rW r i from h _ (by omega) (by omega), show rM r' i = rM r i from h _ (by omega) (by omega)]
theorem ra_cab {r r' : Nat → Int32} (h : RA r r') (c hr : Int32) : ∀ n, n ≤ 6 → cabQ r' c hr n = cabQ r c hr n
  | 0, _ => rfl
  | n + 1, hn => by
    have ih := ra_cab h c hr n (by omega)
    unfold cabQ at ih ⊢
    rw [cabS, cabS, ih, show rP r' n = rP r n from h _ (by omega) (by omega), show wgS (rK r') (rW r') (rM r') hr n = wgS (rK r) (rW r) (rM r) hr n from ra_wg h hr (by omega)]
theorem ra_tb {r r' : Nat → Int32} {nt hh : Nat} (h : RA r r') (hB : TB (fun _ => r) nt hh) : TB (fun _ => r') nt hh := by
  refine ⟨hB.1, hB.2.1, fun i hi => ?_⟩
  have := hB.1
  obtain ⟨w, c, e1, e2, e3, e4⟩ := hB.2.2 i hi
  exact ⟨w, c, (h _ (by omega) (by omega)).trans e1, e2, (h _ (by omega) (by omega)).trans e3, e4⟩
theorem l_weighs {σ : St} {q i : Nat} {r : Nat → Int32} {h : Int32} {Φ : Int32 → St → Prop} (hr : RA r (σ.1 q)) (hi : i < 6) (h5 : σ.1 q 5 = h) (hp : Φ (wgQ r h i) σ) : wL_weighs σ q (nI i) 0 Φ := by
  unfold wL_weighs
  rw [ix8, ix9, ix11, nI_clamp (show 8 + 4 * i < 2 ^ 31 by omega), nI_clamp (show 9 + 4 * i < 2 ^ 31 by omega), nI_clamp (show 11 + 4 * i < 2 ^ 31 by omega), cl5, hr (8 + 4 * i) (by omega) (by omega), hr (9 + 4 * i) (by omega) (by omega), hr (11 + 4 * i) (by omega) (by omega), h5, show h + 0 = h from Int32.add_zero h]
  refine ⟨vi _ (by omega), vi 5 (by omega), vi _ (by omega), by decide, vi _ (by omega), ?_⟩
  unfold wgQ wgS at hp
  by_cases h1 : r (8 + 4 * i) = 1
  · rw [if_pos h1]
    rw [if_pos (show rK r i = 1 from h1)] at hp
    exact hp
  · rw [if_neg h1]
    rw [if_neg (show ¬ rK r i = 1 from h1)] at hp
    by_cases h3 : r (8 + 4 * i) = 3
    · rw [if_pos h3]
      rw [if_pos (show rK r i = 3 from h3)] at hp
      exact hp
    · rw [if_neg h3]
      rw [if_neg (show ¬ rK r i = 3 from h3)] at hp
      by_cases h4 : r (8 + 4 * i) = 4
      · rw [if_pos h4, two_x ((h - r (11 + 4 * i)) / 6)]
        rw [if_pos (show rK r i = 4 from h4)] at hp
        exact hp
      · rw [if_neg h4]
        rw [if_neg (show ¬ rK r i = 4 from h4)] at hp
        exact hp
theorem l_cabin {σ : St} {q nt : Nat} {r : Nat → Int32} {c h : Int32} {Φ : Int32 → St → Prop} (hr : RA r (σ.1 q)) (hn : nt ≤ 6) (h7 : σ.1 q 7 = nI nt) (h5 : σ.1 q 5 = h) (hP : ∀ i, i < nt → rP r i = 0 ∨ rP r i = 1) (hp : Φ (cabQ r c h nt) σ) : wL_cabin σ q c 0 0 Φ := by
  have key : ∀ m i, i + m = nt → wL_cabin_7 q Φ (m + 1) σ c 0 0 (cabQ r c h i) (nI i) := by
    intro m
    induction m with
    | zero =>
      intro i hi
      have : i = nt := by omega
      subst this
      rw [wL_cabin_7, cl7, h7, if_pos (nI_le (Nat.le_refl _) (by omega))]
      exact ⟨vi 7 (by omega), hp⟩
    | succ m ih =>
      intro i hi
      have ih' := ih (i + 1) (by omega)
      rw [wL_cabin_7, cl7, h7, if_neg (nI_ge (by omega) (by omega)), ix10, nI_clamp (show 10 + 4 * i < 2 ^ 31 by omega), hr (10 + 4 * i) (by omega) (by omega), sh0 i (by omega), show r (10 + 4 * i) + 0 = r (10 + 4 * i) from Int32.add_zero _, md2 (hP i (by omega))]
      refine ⟨vi 7 (by omega), vi _ (by omega), by decide, ?_⟩
      by_cases hc : r (10 + 4 * i) = c
      · rw [if_pos hc]
        refine l_weighs hr (by omega) h5 ?_
        unfold wL_cabin_55
        rw [nI_1, show cabQ r c h i + wgQ r h i = cabQ r c h (i + 1) from cab_s1 (by simp [hc, noM])]
        exact ih'
      · rw [if_neg hc]
        unfold wL_cabin_55
        rw [nI_1, show cabQ r c h i + 0 = cabQ r c h i from Int32.add_zero _, show cabQ r c h i = cabQ r c h (i + 1) from cab_s0 (by simp [hc, noM])]
        exact ih'
  exact ⟨nt + 1, key nt 0 (by omega)⟩
theorem l_turns {σ : St} {q : Nat} {l sp : Int32} {Φ : Int32 → St → Prop} (h1 : σ.1 q 1 = sp) (hl : 10 ≤ l ∧ l ≤ 40) (hp : Φ (turnsS sp l) σ) : wL_turns σ q l Φ := by
  unfold wL_turns
  unfold turnsS at hp
  rw [cl1, h1]
  rw [if_pos hl] at hp
  exact ⟨vi 1 (by omega), sq_ne hl, hp⟩
theorem dv_md (X D : Nat) (h : 0 < D) : (X - X % D) / D = X / D := by
  have e : X - X % D = D * (X / D) := by
    have := Nat.mod_add_div X D
    omega
  rw [e, Nat.mul_div_cancel_left _ h]
theorem l_arm {σ : St} {q nt hh : Nat} {r : Nat → Int32} {c l : Int32} {Φ : Int32 → St → Prop} (hr : RA r (σ.1 q)) (hn : nt ≤ 6) (h7 : σ.1 q 7 = nI nt) (h5 : σ.1 q 5 = nI hh) (hP : ∀ i, i < nt → rP r i = 0 ∨ rP r i = 1) (hB : TB (fun _ => r) nt hh) (hl : 10 ≤ l ∧ l ≤ 40) (hp : Φ (armS c l (cabQ r 0 (nI hh) nt) (cabQ r 1 (nI hh) nt)) σ) : wL_arm σ q c 0 l 0 Φ := by
  unfold wL_arm
  refine l_cabin hr hn h7 h5 hP (l_cabin hr hn h7 h5 hP ?_)
  obtain ⟨a, ea, a1, a2⟩ := cw_nat hB 0 noM nt (Nat.le_refl _)
  obtain ⟨b, eb, b1, b2⟩ := cw_nat hB 1 noM nt (Nat.le_refl _)
  obtain ⟨n, rfl, n1, n2⟩ := len_nat hl
  have ea' : cabQ r 0 (nI hh) nt = nI a := ea
  have eb' : cabQ r 1 (nI hh) nt = nI b := eb
  rw [ea', eb'] at hp ⊢
  have hnb : n * b ≤ 40 * 2410 := Nat.mul_le_mul n2 (by omega)
  have hD : ¬ nI a + nI b = 0 := by
    rw [nI_add]
    intro z
    have := (nI_eq (b := 0) (by omega) (by omega)).mp z
    omega
  have e : (nI n * nI b - (nI n * nI b - nI n * nI b / (nI a + nI b) * (nI a + nI b))) / (nI a + nI b) = (nI n * nI b) / (nI a + nI b) := by
    rw [nI_mul, nI_add, pk_rem (by omega) (by omega) (by omega), nI_sub (Nat.mod_le _ _), pk_div (by omega) (by omega) (by omega), pk_div (by omega) (by omega) (by omega), dv_md _ _ (by omega)]
  unfold armS at hp
  refine ⟨hD, hD, ?_⟩
  rw [e]
  by_cases hc : c = 0
  · rw [if_pos hc]
    rw [if_pos hc] at hp
    exact hp
  · rw [if_neg hc]
    rw [if_neg hc] at hp
    exact hp
theorem l_floor {σ : St} {q nt hh : Nat} {r : Nat → Int32} {c l sp : Int32} {Φ : Int32 → St → Prop} (hr : RA r (σ.1 q)) (hn : nt ≤ 6) (h7 : σ.1 q 7 = nI nt) (h5 : σ.1 q 5 = nI hh) (hP : ∀ i, i < nt → rP r i = 0 ∨ rP r i = 1) (hB : TB (fun _ => r) nt hh) (h1 : σ.1 q 1 = sp) (hl : 10 ≤ l ∧ l ≤ 40) (hp : Φ (floorS sp c l (cabQ r 0 (nI hh) nt) (cabQ r 1 (nI hh) nt)) σ) : wL_floor σ q c 0 l 0 Φ := by
  unfold wL_floor
  refine l_turns h1 hl (l_arm hr hn h7 h5 hP hB hl ?_)
  unfold floorS at hp
  rw [Int32.mul_comm (turnsS sp l) (armS c l (cabQ r 0 (nI hh) nt) (cabQ r 1 (nI hh) nt))]
  exact hp
theorem l_strain {σ : St} {q nt hh : Nat} {r : Nat → Int32} {l sp : Int32} {Φ : Int32 → St → Prop} (hr : RA r (σ.1 q)) (hn : nt ≤ 6) (h7 : σ.1 q 7 = nI nt) (h5 : σ.1 q 5 = nI hh) (hP : ∀ i, i < nt → rP r i = 0 ∨ rP r i = 1) (hB : TB (fun _ => r) nt hh) (h1 : σ.1 q 1 = sp) (hl : 10 ≤ l ∧ l ≤ 40) (hp : Φ (strainS sp l (cabQ r 0 (nI hh) nt) (cabQ r 1 (nI hh) nt)) σ) : wL_strain σ q l 0 Φ := by
  unfold wL_strain
  refine l_floor hr hn h7 h5 hP hB h1 hl (l_cabin hr hn h7 h5 hP ?_)
  unfold strainS at hp
  rw [Int32.mul_comm (floorS sp 0 l (cabQ r 0 (nI hh) nt) (cabQ r 1 (nI hh) nt)) (cabQ r 0 (nI hh) nt)]
  exact ⟨by decide, hp⟩
theorem l_hour18 {σ : St} {nt hh s b p t : Nat} {r : Nat → Int32} {d l br : Int32} {Φ : Int32 → St → Prop} (hr : RA r (σ.1 18)) (hn : nt ≤ 6) (h7 : σ.1 18 7 = nI nt) (hP : ∀ i, i < nt → rP r i = 0 ∨ rP r i = 1) (hB : TB (fun _ => r) nt (hh + 1)) (h0 : σ.1 18 0 - d = l) (hl : 10 ≤ l ∧ l ≤ 40) (h1 : σ.1 18 1 = nI s) (h2 : σ.1 18 2 = nI b) (h4 : σ.1 18 4 = nI p) (hp : p < 360) (h5 : σ.1 18 5 = nI hh) (ht : turnsS (nI s) l = nI t) (ht2 : t ≤ 144)
    (hbr : br = if strainS (nI s) l (cabQ r 0 (nI (hh + 1)) nt) (cabQ r 1 (nI (hh + 1)) nt) ≤ nI b then 0 else 1) (hΦ : Φ (if br = 0 then l else -1) (sV (sV (sV (sV σ 18 0 l) 18 5 (nI (hh + 1))) 18 4 (nI (placeN p t))) 18 6 br)) : wL_hour σ 18 d Φ := by
  unfold wL_hour
  refine ⟨vi 0 (by omega), vi 0 (by omega), vi 5 (by omega), vi 5 (by omega), vi 4 (by omega), vi 0 (by omega), ?_⟩
  have e : sV (sV σ 18 (0 : Int32).toNatClampNeg (σ.1 18 (0 : Int32).toNatClampNeg - d)) 18 (5 : Int32).toNatClampNeg ((sV σ 18 (0 : Int32).toNatClampNeg (σ.1 18 (0 : Int32).toNatClampNeg - d)).1 18 (5 : Int32).toNatClampNeg + 1) = sV (sV σ 18 0 l) 18 5 (nI (hh + 1)) := by
    show sV (sV σ 18 0 (σ.1 18 0 - d)) 18 5 (σ.1 18 5 + 1) = _
    rw [h0, h5, nI_1]
  rw [e]
  refine l_turns (σ := sV (sV σ 18 0 l) 18 5 (nI (hh + 1))) (sp := nI s) h1 hl ?_
  refine ⟨by decide, vi 4 (by omega), vi 0 (by omega), ?_⟩
  have e2 : (sV (sV σ 18 0 l) 18 5 (nI (hh + 1))).1 18 (4 : Int32).toNatClampNeg + turnsS (nI s) l * 10 = nI (p + t * 10) := by
    show σ.1 18 4 + turnsS (nI s) l * 10 = _
    rw [h4, ht, show (10 : Int32) = nI 10 from rfl, nI_mul, nI_add]
  have e3 : nI (p + t * 10) - nI (p + t * 10) / 360 * 360 = nI (placeN p t) := by
    rw [show (360 : Int32) = nI 360 from rfl, pk_rem (by omega) (by omega) (by omega)]
    rfl
  rw [show (sV (sV σ 18 0 l) 18 5 (nI (hh + 1))).1 18 (0 : Int32).toNatClampNeg = l from rfl, e2, e3, cl4]
  have hr3 : RA r ((sV (sV (sV σ 18 0 l) 18 5 (nI (hh + 1))) 18 4 (nI (placeN p t))).1 18) := ra_sV (ra_sV (ra_sV hr (by omega)) (by omega)) (by omega)
  refine l_strain (σ := sV (sV (sV σ 18 0 l) 18 5 (nI (hh + 1))) 18 4 (nI (placeN p t))) (r := r) (hh := hh + 1) (sp := nI s) (l := l) hr3 hn h7 rfl hP hB h1 hl ?_
  refine ⟨vi 2 (by omega), ?_⟩
  rw [show (sV (sV (sV σ 18 0 l) 18 5 (nI (hh + 1))) 18 4 (nI (placeN p t))).1 18 (2 : Int32).toNatClampNeg = nI b from h2]
  unfold wL_hour_57
  by_cases z : strainS (nI s) l (cabQ r 0 (nI (hh + 1)) nt) (cabQ r 1 (nI (hh + 1)) nt) ≤ nI b
  · rw [if_pos z] at hbr ⊢
    subst hbr
    rw [if_pos rfl] at hΦ
    refine ⟨vi 6 (by omega), vi 6 (by omega), ?_⟩
    rw [if_neg (show ¬ (sV (sV (sV (sV σ 18 0 l) 18 5 (nI (hh + 1))) 18 4 (nI (placeN p t))) 18 (6 : Int32).toNatClampNeg 0).1 18 (6 : Int32).toNatClampNeg = 1 from (by decide : ¬ (0 : Int32) = 1))]
    exact ⟨vi 0 (by omega), hΦ⟩
  · rw [if_neg z] at hbr ⊢
    subst hbr
    rw [if_neg (by decide)] at hΦ
    refine ⟨vi 6 (by omega), vi 6 (by omega), ?_⟩
    rw [if_pos (show (sV (sV (sV (sV σ 18 0 l) 18 5 (nI (hh + 1))) 18 4 (nI (placeN p t))) 18 (6 : Int32).toNatClampNeg 1).1 18 (6 : Int32).toNatClampNeg = 1 from rfl)]
    exact hΦ
theorem l_hour19 {σ : St} {nt hh s b p t : Nat} {r : Nat → Int32} {d l br : Int32} {Φ : Int32 → St → Prop} (hr : RA r (σ.1 19)) (hn : nt ≤ 6) (h7 : σ.1 19 7 = nI nt) (hP : ∀ i, i < nt → rP r i = 0 ∨ rP r i = 1) (hB : TB (fun _ => r) nt (hh + 1)) (h0 : σ.1 19 0 - d = l) (hl : 10 ≤ l ∧ l ≤ 40) (h1 : σ.1 19 1 = nI s) (h2 : σ.1 19 2 = nI b) (h4 : σ.1 19 4 = nI p) (hp : p < 360) (h5 : σ.1 19 5 = nI hh) (ht : turnsS (nI s) l = nI t) (ht2 : t ≤ 144)
    (hbr : br = if strainS (nI s) l (cabQ r 0 (nI (hh + 1)) nt) (cabQ r 1 (nI (hh + 1)) nt) ≤ nI b then 0 else 1) (hΦ : Φ (if br = 0 then l else -1) (sV (sV (sV (sV σ 19 0 l) 19 5 (nI (hh + 1))) 19 4 (nI (placeN p t))) 19 6 br)) : wL_hour σ 19 d Φ := by
  unfold wL_hour
  refine ⟨vi 0 (by omega), vi 0 (by omega), vi 5 (by omega), vi 5 (by omega), vi 4 (by omega), vi 0 (by omega), ?_⟩
  have e : sV (sV σ 19 (0 : Int32).toNatClampNeg (σ.1 19 (0 : Int32).toNatClampNeg - d)) 19 (5 : Int32).toNatClampNeg ((sV σ 19 (0 : Int32).toNatClampNeg (σ.1 19 (0 : Int32).toNatClampNeg - d)).1 19 (5 : Int32).toNatClampNeg + 1) = sV (sV σ 19 0 l) 19 5 (nI (hh + 1)) := by
    show sV (sV σ 19 0 (σ.1 19 0 - d)) 19 5 (σ.1 19 5 + 1) = _
    rw [h0, h5, nI_1]
  rw [e]
  refine l_turns (σ := sV (sV σ 19 0 l) 19 5 (nI (hh + 1))) (sp := nI s) h1 hl ?_
  refine ⟨by decide, vi 4 (by omega), vi 0 (by omega), ?_⟩
  have e2 : (sV (sV σ 19 0 l) 19 5 (nI (hh + 1))).1 19 (4 : Int32).toNatClampNeg + turnsS (nI s) l * 10 = nI (p + t * 10) := by
    show σ.1 19 4 + turnsS (nI s) l * 10 = _
    rw [h4, ht, show (10 : Int32) = nI 10 from rfl, nI_mul, nI_add]
  have e3 : nI (p + t * 10) - nI (p + t * 10) / 360 * 360 = nI (placeN p t) := by
    rw [show (360 : Int32) = nI 360 from rfl, pk_rem (by omega) (by omega) (by omega)]
    rfl
  rw [show (sV (sV σ 19 0 l) 19 5 (nI (hh + 1))).1 19 (0 : Int32).toNatClampNeg = l from rfl, e2, e3, cl4]
  have hr3 : RA r ((sV (sV (sV σ 19 0 l) 19 5 (nI (hh + 1))) 19 4 (nI (placeN p t))).1 19) := ra_sV (ra_sV (ra_sV hr (by omega)) (by omega)) (by omega)
  refine l_strain (σ := sV (sV (sV σ 19 0 l) 19 5 (nI (hh + 1))) 19 4 (nI (placeN p t))) (r := r) (hh := hh + 1) (sp := nI s) (l := l) hr3 hn h7 rfl hP hB h1 hl ?_
  refine ⟨vi 2 (by omega), ?_⟩
  rw [show (sV (sV (sV σ 19 0 l) 19 5 (nI (hh + 1))) 19 4 (nI (placeN p t))).1 19 (2 : Int32).toNatClampNeg = nI b from h2]
  unfold wL_hour_57
  by_cases z : strainS (nI s) l (cabQ r 0 (nI (hh + 1)) nt) (cabQ r 1 (nI (hh + 1)) nt) ≤ nI b
  · rw [if_pos z] at hbr ⊢
    subst hbr
    rw [if_pos rfl] at hΦ
    refine ⟨vi 6 (by omega), vi 6 (by omega), ?_⟩
    rw [if_neg (show ¬ (sV (sV (sV (sV σ 19 0 l) 19 5 (nI (hh + 1))) 19 4 (nI (placeN p t))) 19 (6 : Int32).toNatClampNeg 0).1 19 (6 : Int32).toNatClampNeg = 1 from (by decide : ¬ (0 : Int32) = 1))]
    exact ⟨vi 0 (by omega), hΦ⟩
  · rw [if_neg z] at hbr ⊢
    subst hbr
    rw [if_neg (by decide)] at hΦ
    refine ⟨vi 6 (by omega), vi 6 (by omega), ?_⟩
    rw [if_pos (show (sV (sV (sV (sV σ 19 0 l) 19 5 (nI (hh + 1))) 19 4 (nI (placeN p t))) 19 (6 : Int32).toNatClampNeg 1).1 19 (6 : Int32).toNatClampNeg = 1 from rfl)]
    exact hΦ
