/-! PURE PART 18: even, the two sides -/
theorem ev_s {V : Nat → Nat → Int32} {nt hh n : Nat} {X : Int32 × Nat × Int32} (h : evS V nt hh n = X) : evS V nt hh (n + 1) = if n &&& mkN (bgo V nt) 6 = n then (if gpS V nt hh n < X.1 then (gpS V nt hh n, n, smS V nt hh n) else if gpS V nt hh n = X.1 then (if X.2.2 ≤ smS V nt hh n then X else (gpS V nt hh n, n, smS V nt hh n)) else X) else X := by
  rw [evS, h]
theorem x_findL {σ : St} {nt hh ss b : Nat} {Φ : St → Prop} (h : WH σ nt hh ss b) (hP : ∀ i, i < nt → σ.1 21 i = 0 ∨ σ.1 21 i = 1) (hp : ∀ τ, Sim σ τ → τ.1 10 2 = (evS σ.1 nt hh 64).1 → τ.1 10 3 = nI (evS σ.1 nt hh 64).2.1 → Φ τ) :
    ∀ m n, n + m = 64 → ∀ τ, Laid σ τ nt hh 6 → (0 < n → τ.1 10 2 = (evS σ.1 nt hh n).1 ∧ τ.1 10 3 = nI (evS σ.1 nt hh n).2.1) → wX2_find_11 Φ (m + 1) τ (evS σ.1 nt hh n).2.2 (nI n) := by
  intro m
  induction m with
  | zero =>
    intro n hn τ hL hst
    have : n = 64 := by omega
    subst this
    rw [wX2_find_11, if_pos (show (64 : Int32) ≤ nI 64 by decide)]
    exact hp τ hL.1 (hst (by omega)).1 (hst (by omega)).2
  | succ m ih =>
    intro n hn τ hL hst
    obtain ⟨⟨g, s, u⟩, hX⟩ : ∃ X, evS σ.1 nt hh n = X := ⟨_, rfl⟩
    have h6 := h.1.1.1
    have he := ev_s hX
    have ih' := ih (n + 1) (by omega)
    rw [wX2_find_11, if_neg (show ¬ (64 : Int32) ≤ nI n from nI_ge (b := 64) (by omega) (by omega)), hL.2.1]
    have hM : mkN (fun j => !bgo σ.1 nt j) 6 = 63 - mkN (bgo σ.1 nt) 6 := by
      have := mk_sum (bgo σ.1 nt) 6
      omega
    have hM64 := mk_lt (bgo σ.1 nt) 6
    rw [hM]
    rw [hX] at hst ⊢
    dsimp only at hst he ⊢
    have hrec : evS σ.1 nt hh (n + 1) = (gpS σ.1 nt hh n, n, smS σ.1 nt hh n) → wX2_find_80 (wX2_find_11 Φ (m + 1)) Φ τ (nI n) (gpS σ.1 nt hh n) (smS σ.1 nt hh n) := by
      intro e
      unfold wX2_find_80 wX2_find_95
      rw [nI_1]
      have := ih' (sV (sV τ 10 2 (gpS σ.1 nt hh n)) 10 3 (nI n)) (laid_sV (laid_sV hL (Or.inl rfl)) (Or.inr rfl)) (fun _ => by rw [e]; exact ⟨rfl, rfl⟩)
      rw [e] at this
      exact this
    have hskip : 0 < n → evS σ.1 nt hh (n + 1) = (g, s, u) → wX2_find_95 (wX2_find_11 Φ (m + 1)) Φ τ u (nI n) := by
      intro n0 e
      unfold wX2_find_95
      rw [nI_1]
      have := ih' τ hL (fun _ => by rw [e]; exact hst n0)
      rw [e] at this
      exact this
    by_cases hok : n &&& mkN (bgo σ.1 nt) 6 = n
    · rw [if_pos ((mk_s n (by omega) _ (by omega)).mpr hok)]
      rw [if_pos hok] at he
      refine x_gap h hP (by omega) hok hL (x_summed (by omega) ?_)
      rw [x_sum11 h6 (by omega) hok hL]
      by_cases n0 : n = 0
      · subst n0
        rw [if_pos (show nI 0 = 0 from rfl)]
        have hX0 : ((1073741824, 0, 0) : Int32 × Nat × Int32) = (g, s, u) := hX
        cases hX0
        refine hrec ?_
        rw [he, if_pos (gp_lt h)]
      · rw [if_neg (show ¬ nI n = 0 from fun z => n0 ((nI_eq (b := 0) (by omega) (by omega)).mp z)), (hst (by omega)).1]
        by_cases c1 : gpS σ.1 nt hh n < g
        · rw [if_pos c1]
          rw [if_pos c1] at he
          exact hrec he
        · rw [if_neg c1]
          rw [if_neg c1] at he
          by_cases c2 : gpS σ.1 nt hh n = g
          · rw [if_pos c2]
            rw [if_pos c2] at he
            by_cases c3 : u ≤ smS σ.1 nt hh n
            · rw [if_pos c3]
              rw [if_pos c3] at he
              exact hskip (by omega) he
            · rw [if_neg c3]
              rw [if_neg c3] at he
              exact hrec he
          · rw [if_neg c2]
            rw [if_neg c2] at he
            exact hskip (by omega) he
    · rw [if_neg (fun z => hok ((mk_s n (by omega) _ (by omega)).mp z))]
      rw [if_neg hok] at he
      have n0 : 0 < n := by
        by_cases z : n = 0
        · exact absurd (by rw [z]; exact Nat.zero_and _) hok
        · omega
      exact hskip n0 he
theorem x_find {σ : St} {nt hh ss b : Nat} {Φ : St → Prop} (h : WH σ nt hh ss b) (hP : ∀ i, i < nt → σ.1 21 i = 0 ∨ σ.1 21 i = 1) (hp : ∀ τ, Sim σ τ → τ.1 10 2 = (evS σ.1 nt hh 64).1 → τ.1 10 3 = nI (evS σ.1 nt hh 64).2.1 → Φ τ) : wX2_find σ Φ := by
  unfold wX2_find
  refine x_setUp h.1.1 h.1.2.2.2.1 (fun τ hL => ?_)
  exact ⟨65, x_findL h hP hp 64 0 (by omega) τ hL (fun z => by omega)⟩
/-! the reference -/
theorem m_sumL {σ τ : St} {nt hh n : Nat} {v1 v2 g : Int32} {K : St → Int32 → Int32 → Int32 → Prop} {Φ : St → Prop} (hS : Sim σ τ) (h6 : nt ≤ 6) (hM : σ.1 18 9 = nI nt) (h8 : σ.1 18 8 = nI hh) (hn : n < 64)
    (hp : if (nI n &&& (v1 ^^^ (-1 : Int32))) = 0 then (if g < τ.1 18 25 then wX12_layEven_176 K Φ τ v1 (nI n) g (smS σ.1 nt hh n) else (if g = τ.1 18 25 then (if v2 ≤ smS σ.1 nt hh n then wX12_layEven_190 K Φ τ v1 v2 (nI n) else wX12_layEven_176 K Φ τ v1 (nI n) g (smS σ.1 nt hh n)) else wX12_layEven_190 K Φ τ v1 v2 (nI n))) else wX12_layEven_190 K Φ τ v1 v2 (nI n)) :
    ∃ n0, wX12_layEven_101 K Φ n0 τ v1 v2 (nI n) g 0 0 := by
  have eM : τ.1 18 9 = nI nt := (hS.at 18 9 rfl).trans hM
  have e8 : τ.1 18 8 = nI hh := (hS.at 18 8 rfl).trans h8
  have key : ∀ m i, i + m = nt → wX12_layEven_101 K Φ (m + 1) τ v1 v2 (nI n) g (smF (bitM (nI n)) (fun i => wgV σ.1 (nI hh) i) i) (nI i) := by
    intro m
    induction m with
    | zero =>
      intro i hi
      have : i = nt := by omega
      subst this
      rw [wX12_layEven_101, eM, if_pos (nI_le (Nat.le_refl _) (by omega))]
      exact hp
    | succ m ih =>
      intro i hi
      have ih' := ih (i + 1) (by omega)
      rw [wX12_layEven_101, eM, if_neg (nI_ge (by omega) (by omega)), e_has]
      unfold wX12_layEven_135
      rw [smF] at ih'
      by_cases z : bitM (nI n) i = true
      · rw [if_pos ((mk_b1 n hn i (by omega)).mpr z), if_neg (by decide), e8]
        refine i_wgM (by omega) ?_
        rw [hS.rel.wg, nI_1]
        rw [if_pos z] at ih'
        exact ih'
      · rw [if_neg (fun y => z ((mk_b1 n hn i (by omega)).mp y)), if_pos rfl, nI_1, Int32.add_zero]
        rw [if_neg z] at ih'
        exact ih'
  exact ⟨nt + 1, key nt 0 (by omega)⟩
/-- alike but for scratch, the reference's longs the same -/
def SimJ (σ τ : St) : Prop := Sim σ τ ∧ τ.2.1 = σ.2.1
theorem SimJ.at {σ τ : St} (h : SimJ σ τ) (k j : Nat) (hs : scr k j = false) : τ.1 k j = σ.1 k j := h.1.at k j hs
theorem SimJ.rel {σ τ : St} (h : SimJ σ τ) : Rel σ τ := h.1.rel
theorem SimJ.rfl' {σ : St} : SimJ σ σ := ⟨Sim.rfl', rfl⟩
theorem SimJ.tr {a b c : St} (h : SimJ a b) (g : SimJ b c) : SimJ a c := ⟨h.1.tr g.1, g.2.trans h.2⟩
theorem SimJ.sV {σ τ : St} (h : SimJ σ τ) {k b : Nat} {v : Int32} (hs : scr k b = true) : SimJ σ (sV τ k b v) := ⟨h.1.sV hs, h.2⟩
theorem m_layL {σ : St} {nt hh ss b : Nat} {Φ : St → Prop} (h : WH σ nt hh ss b) (hp : ∀ τ, SimJ σ τ → τ.1 18 25 = (evS σ.1 nt hh (2 ^ nt)).1 → τ.1 18 26 = nI (evS σ.1 nt hh (2 ^ nt)).2.1 → Φ τ) :
    ∀ m n, n + m = 2 ^ nt → ∀ τ, SimJ σ τ → τ.1 18 25 = (evS σ.1 nt hh n).1 → τ.1 18 26 = nI (evS σ.1 nt hh n).2.1 → wX12_layEven_51 Φ (m + 1) τ (nI (mkN (bgo σ.1 nt) 6)) (evS σ.1 nt hh n).2.2 (nI n) := by
  obtain ⟨⟨hT, hM, hB, x4, x8, hl2, hsp, hL⟩, hl, hs, hs2, -⟩ := h
  have h6 := hB.1
  have hpw : 2 ^ nt ≤ 2 ^ 6 := Nat.pow_le_pow_right (by omega) h6
  intro m
  induction m with
  | zero =>
    intro n hn τ hS t5 t6
    have : n = 2 ^ nt := by omega
    subst this
    rw [wX12_layEven_51, hS.at 18 9 rfl, hM, mk_pow nt (by omega), if_pos (nI_le (Nat.le_refl _) (by omega))]
    exact hp τ hS t5 t6
  | succ m ih =>
    intro n hn τ hS t5 t6
    have ih' := ih (n + 1) (by omega)
    obtain ⟨⟨g, s, u⟩, hX⟩ : ∃ X, evS σ.1 nt hh n = X := ⟨_, rfl⟩
    have he := ev_s hX
    rw [hX] at t5 t6 ⊢
    dsimp only at t5 t6 he ⊢
    have eM : τ.1 18 9 = nI nt := (hS.at 18 9 rfl).trans hM
    have e8 : τ.1 18 8 = nI hh := (hS.at 18 8 rfl).trans x8
    have e2 : τ.1 18 2 = σ.1 3 0 := (hS.at 18 2 rfl).trans hl2
    have e3 : τ.1 18 3 = σ.1 3 1 := (hS.at 18 3 rfl).trans hsp
    have hBτ := hS.rel.tb hB
    rw [wX12_layEven_51, eM, mk_pow nt (by omega), if_neg (nI_ge (by omega) (by omega)), e2, e8]
    refine i_floorBy eM hBτ hL ?_
    rw [e2, e8]
    refine i_floorBy eM hBτ hL ?_
    unfold wX12_sized
    rw [e3]
    have ecab : ∀ c, cab2 τ.1 (nI hh) (bitM (nI n)) nt (floorS (σ.1 3 1) c (σ.1 3 0)) = cab2 σ.1 (nI hh) (bitM (nI n)) nt (floorS (σ.1 3 1) c (σ.1 3 0)) := by
      intro c
      unfold cab2
      rw [hS.rel.cab, hS.rel.cab]
    rw [ecab, ecab]
    have goal2 : ∃ n0, wX12_layEven_101 (wX12_layEven_51 Φ (m + 1)) Φ n0 τ (nI (mkN (bgo σ.1 nt) 6)) u (nI n) (gpS σ.1 nt hh n) 0 0 := by
      refine m_sumL hS.1 h6 hM x8 (by omega) ?_
      have hM64 := mk_lt (bgo σ.1 nt) 6
      have hrec : evS σ.1 nt hh (n + 1) = (gpS σ.1 nt hh n, n, smS σ.1 nt hh n) → wX12_layEven_176 (wX12_layEven_51 Φ (m + 1)) Φ τ (nI (mkN (bgo σ.1 nt) 6)) (nI n) (gpS σ.1 nt hh n) (smS σ.1 nt hh n) := by
        intro e
        unfold wX12_layEven_176 wX12_layEven_190
        rw [nI_1]
        have := ih' (sV (sV τ 18 25 (gpS σ.1 nt hh n)) 18 26 (nI n)) ((hS.sV rfl).sV rfl) (by rw [e]; rfl) (by rw [e]; rfl)
        rw [e] at this
        exact this
      have hskip : evS σ.1 nt hh (n + 1) = (g, s, u) → wX12_layEven_190 (wX12_layEven_51 Φ (m + 1)) Φ τ (nI (mkN (bgo σ.1 nt) 6)) u (nI n) := by
        intro e
        unfold wX12_layEven_190
        rw [nI_1]
        have := ih' τ hS (by rw [e]; exact t5) (by rw [e]; exact t6)
        rw [e] at this
        exact this
      rw [t5]
      by_cases hok : n &&& mkN (bgo σ.1 nt) 6 = n
      · rw [if_pos ((mk_m n (by omega) _ (by omega)).mpr hok)]
        rw [if_pos hok] at he
        by_cases c1 : gpS σ.1 nt hh n < g
        · rw [if_pos c1]
          rw [if_pos c1] at he
          exact hrec he
        · rw [if_neg c1]
          rw [if_neg c1] at he
          by_cases c2 : gpS σ.1 nt hh n = g
          · rw [if_pos c2]
            rw [if_pos c2] at he
            by_cases c3 : u ≤ smS σ.1 nt hh n
            · rw [if_pos c3]
              rw [if_pos c3] at he
              exact hskip he
            · rw [if_neg c3]
              rw [if_neg c3] at he
              exact hrec he
          · rw [if_neg c2]
            rw [if_neg c2] at he
            exact hskip he
      · rw [if_neg (fun z => hok ((mk_m n (by omega) _ (by omega)).mp z))]
        rw [if_neg hok] at he
        exact hskip he
    unfold gpS at goal2
    by_cases z : 0 ≤ cab2 σ.1 (nI hh) (bitM (nI n)) nt (floorS (σ.1 3 1) 0 (σ.1 3 0)) - cab2 σ.1 (nI hh) (bitM (nI n)) nt (floorS (σ.1 3 1) 1 (σ.1 3 0))
    · rw [if_pos z]; rw [if_pos z] at goal2; exact goal2
    · rw [if_neg z]; rw [if_neg z] at goal2; exact goal2
theorem m_lay {σ : St} {nt hh ss b : Nat} {Φ : St → Prop} (h : WH σ nt hh ss b) (hp : ∀ τ, SimJ σ τ → τ.1 18 25 = (evS σ.1 nt hh 64).1 → τ.1 18 26 = nI (evS σ.1 nt hh 64).2.1 → Φ τ) : wX12_layEven σ Φ := by
  have hW := h
  obtain ⟨⟨hT, hM, hB, x4, x8, hl2, hsp, hL⟩, hl, hs, hs2, -⟩ := h
  have h6 := hB.1
  have hpw : 2 ^ nt ≤ 2 ^ 6 := Nat.pow_le_pow_right (by omega) h6
  have e64 : evS σ.1 nt hh 64 = evS σ.1 nt hh (2 ^ nt) := by
    have := ev_out (V := σ.1) (hh := hh) h6 (64 - 2 ^ nt) (by omega)
    rw [show 2 ^ nt + (64 - 2 ^ nt) = 64 by omega] at this
    exact this
  rw [e64] at hp
  have key : ∀ m i, i + m = nt → wX12_layEven_4 Φ (m + 1) σ (nI (mkN (bgo σ.1 nt) i)) (nI i) := by
    intro m
    induction m with
    | zero =>
      intro i hi
      have : i = nt := by omega
      subst this
      rw [wX12_layEven_4, hM, if_pos (nI_le (Nat.le_refl _) (by omega))]
      rw [show mkN (bgo σ.1 i) i = mkN (bgo σ.1 i) 6 from (mk_cut h6 (fun k hk => bgo_out hk)).symm]
      exact ⟨2 ^ i + 1, m_layL hW hp (2 ^ i) 0 (by omega) _ ((SimJ.rfl'.sV rfl).sV rfl) rfl rfl⟩
    | succ m ih =>
      intro i hi
      have ih' := ih (i + 1) (by omega)
      rw [wX12_layEven_4, hM, if_neg (nI_ge (by omega) (by omega))]
      refine i_mayCarry (by omega) (by rw [hl2]; exact hL) ?_
      rw [hsp, hl2]
      unfold wX12_layEven_28
      rw [mkN] at ih'
      by_cases hg : σ.1 19 i = 2 ∧ 2 < turnsS (σ.1 3 1) (σ.1 3 0)
      · rw [if_pos hg, if_pos rfl, mk_or0, nI_1]
        have hb : bgo σ.1 nt i = false := by
          unfold bgo
          rw [decide_eq_true hg.1, decide_eq_true hg.2]
          simp
        rw [if_neg (by rw [hb]; decide)] at ih'
        exact ih'
      · rw [if_neg hg, if_neg (by decide), mk_or i (by omega) _ (mk_lt _ i), nI_1]
        have hb : bgo σ.1 nt i = true := by
          unfold bgo
          rw [decide_eq_true (show i < nt by omega)]
          by_cases g1 : σ.1 19 i = 2
          · rw [decide_eq_false (show ¬ 2 < turnsS (σ.1 3 1) (σ.1 3 0) from fun g2 => hg ⟨g1, g2⟩)]
            simp
          · rw [decide_eq_false g1]
            rfl
        rw [if_pos hb] at ih'
        exact ih'
  exact ⟨nt + 1, key nt 0 (by omega)⟩
def evR (V : Nat → Nat → Int32) (nt hh : Nat) (v : Int32) : Int32 := if v = 0 then (evS V nt hh 64).1 else nI (evS V nt hh 64).2.1
theorem x_evenC {σ : St} {nt hh ss b : Nat} {v : Int32} {Φ : Int32 → St → Prop} (h : WH σ nt hh ss b) (hw : σ.1 3 6 = 0) (hP : ∀ i, i < nt → σ.1 21 i = 0 ∨ σ.1 21 i = 1) (hv : 0 ≤ v ∧ v ≤ 1) (hp : ∀ τ, Sim σ τ → Φ (evR σ.1 nt hh v) τ) : wX11_even σ v Φ := by
  unfold wX11_even
  have l0 : 0 < σ.1 3 0 := by have := h.2.1.1; grind
  rw [if_neg (show ¬ v < 0 by grind), if_pos hv.2, e_isWhole, if_pos (show 0 < σ.1 3 0 ∧ σ.1 3 6 = 0 from ⟨l0, hw⟩), if_neg (by decide)]
  refine x_find h hP (fun τ hS t2 t3 => ?_)
  have := hp τ hS
  unfold evR at this
  by_cases q : v = 0
  · rw [if_pos q, t2]; rw [if_pos q] at this; exact this
  · rw [if_neg q, t3]; rw [if_neg q] at this; exact this
theorem m_evenNow {σ : St} {nt hh ss b : Nat} {v : Int32} {Φ : Int32 → St → Prop} (h : WH σ nt hh ss b) (hp : ∀ τ, SimJ σ τ → Φ (evR σ.1 nt hh v) τ) : wX12_evenNow σ v Φ := by
  unfold wX12_evenNow
  refine m_lay h (fun τ hS t2 t3 => ?_)
  have := hp τ hS
  unfold evR at this
  by_cases q : v = 0
  · rw [if_pos q, t2]; rw [if_pos q] at this; exact this
  · rw [if_neg q, t3]; rw [if_neg q] at this; exact this
