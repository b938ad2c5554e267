/-! PURE PART 22: the wire's text, on the cable's side -/
def btB (x lo hi : Int32) : Bool := decide (lo ≤ x) && decide (x ≤ hi)
def okB (c : Nat → Int32) (i : Nat) : Bool := if i = 0 then btB (c 0) 49 52 else if i = 1 then btB (c 1) 48 (if c 0 = 52 then 48 else 57) else if i = 2 then decide (c 2 = 58) else if i = 3 then btB (c 3) 49 57 else if i = 4 then decide (c 4 = 58) else if i = 5 then btB (c 5) 49 57 else if i = 6 then btB (c 6) 48 57 else if i = 7 then btB (c 7) 48 57 else if i = 8 then decide (c 8 = 111) else false
def bI (b : Bool) : Int32 := if b then 1 else 0
theorem bI01 (b : Bool) : bI b = 0 ∨ bI b = 1 := by cases b <;> simp [bI]
theorem i_pat {σ : St} {np i : Nat} {Φ : Int32 → St → Prop} (h : σ.1 1 1 = nI np) (hn : np ≤ 12) (hi : i < np) (hp : Φ (σ.1 2 i) σ) : wX7_at σ (nI i) Φ := by
  unfold wX7_at
  rw [if_neg (nI_pos (by omega)), h, if_neg (nI_ge hi (by omega)), if_neg (show ¬ (12 : Int32) ≤ nI i from nI_ge (b := 12) (by omega) (by omega)), nI_clamp (by omega)]
  exact ⟨vp_in_nI (by omega) (by omega), hp⟩
theorem i_btw {σ : St} {np i : Nat} {lo hi : Int32} {Φ : Int32 → St → Prop} (h : σ.1 1 1 = nI np) (hn : np ≤ 12) (hi' : i < np) (hp : Φ (bI (btB (σ.1 2 i) lo hi)) σ) : wX7_isBetween σ (nI i) lo hi Φ := by
  unfold wX7_isBetween
  refine i_pat h hn hi' ?_
  unfold btB bI at hp
  by_cases q : σ.1 2 i < lo
  · rw [if_pos q]
    rw [decide_eq_false (show ¬ lo ≤ σ.1 2 i by grind)] at hp
    exact ⟨by decide, hp⟩
  · rw [if_neg q]
    refine i_pat h hn hi' ?_
    rw [decide_eq_true (show lo ≤ σ.1 2 i by grind)] at hp
    by_cases r : hi < σ.1 2 i
    · rw [if_pos r]
      rw [decide_eq_false (show ¬ σ.1 2 i ≤ hi by grind)] at hp
      exact ⟨by decide, hp⟩
    · rw [if_neg r]
      rw [decide_eq_true (show σ.1 2 i ≤ hi by grind)] at hp
      exact ⟨by decide, hp⟩
theorem i_btw01 {σ : St} {np i : Nat} {lo hi : Int32} {Φ : Int32 → St → Prop} (h : σ.1 1 1 = nI np) (hn : np ≤ 12) (hi' : i < np) (hp : Φ (bI (btB (σ.1 2 i) lo hi)) σ) : wX7_isBetween σ (nI i) lo hi (fun r2 σ1 => ((r2 = 0 ∨ r2 = 1) ∧ Φ r2 σ1)) := i_btw h hn hi' ⟨bI01 _, hp⟩
theorem i_eqL {σ : St} {np i : Nat} {d : Int32} {Φ : Int32 → St → Prop} (h : σ.1 1 1 = nI np) (hn : np ≤ 12) (hi' : i < np) (hp : Φ (bI (decide (σ.1 2 i = d))) σ) : wX7_at σ (nI i) (fun r10 σ9 => (if r10 = d then (((1 : Int32) = 0 ∨ (1 : Int32) = 1) ∧ Φ (1 : Int32) σ9) else (((0 : Int32) = 0 ∨ (0 : Int32) = 1) ∧ Φ (0 : Int32) σ9))) := by
  refine i_pat h hn hi' ?_
  by_cases q : σ.1 2 i = d
  · rw [if_pos q]
    rw [decide_eq_true q] at hp
    exact ⟨by decide, hp⟩
  · rw [if_neg q]
    rw [decide_eq_false q] at hp
    exact ⟨by decide, hp⟩
theorem x_letter {σ : St} {np i : Nat} {Φ : Int32 → St → Prop} (h : σ.1 1 1 = nI np) (hn : np ≤ 12) (hi' : i < np) (hp : Φ (bI (okB (σ.1 2) i)) σ) : wX7_isWireLetter σ (nI i) Φ := by
  unfold wX7_isWireLetter
  have hi : i = 0 ∨ i = 1 ∨ i = 2 ∨ i = 3 ∨ i = 4 ∨ i = 5 ∨ i = 6 ∨ i = 7 ∨ i = 8 ∨ i = 9 ∨ i = 10 ∨ i = 11 := by omega
  rcases hi with rfl | rfl | rfl | rfl | rfl | rfl | rfl | rfl | rfl | rfl | rfl | rfl
  · exact ⟨fun _ => i_btw01 h hn hi' hp, ne_d rfl, ne_d rfl, ne_d rfl, ne_d rfl, ne_d rfl, ne_d rfl, ne_d rfl, ne_d rfl, fun e => absurd e (by decide)⟩
  · refine ⟨ne_d rfl, fun _ => ?_, ne_d rfl, ne_d rfl, ne_d rfl, ne_d rfl, ne_d rfl, ne_d rfl, ne_d rfl, fun e => absurd e (by decide)⟩
    refine i_pat (i := 0) h hn (by omega) ?_
    have hp' : Φ (bI (btB (σ.1 2 1) 48 (if σ.1 2 0 = 52 then 48 else 57))) σ := hp
    unfold wX7_isWireLetter_83
    by_cases q : σ.1 2 0 = 52
    · rw [if_pos q]
      rw [if_pos q] at hp'
      exact i_btw01 h hn hi' hp'
    · rw [if_neg q]
      rw [if_neg q] at hp'
      exact i_btw01 h hn hi' hp'
  · exact ⟨ne_d rfl, ne_d rfl, fun _ => i_eqL h hn hi' hp, ne_d rfl, ne_d rfl, ne_d rfl, ne_d rfl, ne_d rfl, ne_d rfl, fun e => absurd e (by decide)⟩
  · exact ⟨ne_d rfl, ne_d rfl, ne_d rfl, fun _ => i_btw01 h hn hi' hp, ne_d rfl, ne_d rfl, ne_d rfl, ne_d rfl, ne_d rfl, fun e => absurd e (by decide)⟩
  · exact ⟨ne_d rfl, ne_d rfl, ne_d rfl, ne_d rfl, fun _ => i_eqL h hn hi' hp, ne_d rfl, ne_d rfl, ne_d rfl, ne_d rfl, fun e => absurd e (by decide)⟩
  · exact ⟨ne_d rfl, ne_d rfl, ne_d rfl, ne_d rfl, ne_d rfl, fun _ => i_btw01 h hn hi' hp, ne_d rfl, ne_d rfl, ne_d rfl, fun e => absurd e (by decide)⟩
  · exact ⟨ne_d rfl, ne_d rfl, ne_d rfl, ne_d rfl, ne_d rfl, ne_d rfl, fun _ => i_btw01 h hn hi' hp, ne_d rfl, ne_d rfl, fun e => absurd e (by decide)⟩
  · exact ⟨ne_d rfl, ne_d rfl, ne_d rfl, ne_d rfl, ne_d rfl, ne_d rfl, ne_d rfl, fun _ => i_btw01 h hn hi' hp, ne_d rfl, fun e => absurd e (by decide)⟩
  · exact ⟨ne_d rfl, ne_d rfl, ne_d rfl, ne_d rfl, ne_d rfl, ne_d rfl, ne_d rfl, ne_d rfl, fun _ => i_eqL h hn hi' hp, fun e => absurd e (by decide)⟩
  · exact ⟨ne_d rfl, ne_d rfl, ne_d rfl, ne_d rfl, ne_d rfl, ne_d rfl, ne_d rfl, ne_d rfl, ne_d rfl, fun _ => ⟨by decide, hp⟩⟩
  · exact ⟨ne_d rfl, ne_d rfl, ne_d rfl, ne_d rfl, ne_d rfl, ne_d rfl, ne_d rfl, ne_d rfl, ne_d rfl, fun _ => ⟨by decide, hp⟩⟩
  · exact ⟨ne_d rfl, ne_d rfl, ne_d rfl, ne_d rfl, ne_d rfl, ne_d rfl, ne_d rfl, ne_d rfl, ne_d rfl, fun _ => ⟨by decide, hp⟩⟩
def fwN (c : Nat → Int32) : Nat → Nat → Nat
  | 0, i => i
  | m + 1, i => if okB c i = true then fwN c m (i + 1) else i
theorem x_first {σ : St} {np : Nat} {Φ : Int32 → St → Prop} (h : σ.1 1 1 = nI np) (hn : np ≤ 12) (hp : Φ (nI (fwN (σ.1 2) np 0)) σ) : wX7_firstWrong σ Φ := by
  have key : ∀ m i, i + m = np → Φ (nI (fwN (σ.1 2) m i)) σ → wX7_firstWrong_2 Φ (m + 1) σ (nI i) := by
    intro m
    induction m with
    | zero =>
      intro i hi h2
      have : i = np := by omega
      subst this
      rw [wX7_firstWrong_2, h, if_pos (nI_le (Nat.le_refl _) (by omega))]
      exact h2
    | succ m ih =>
      intro i hi h2
      rw [wX7_firstWrong_2, h, if_neg (nI_ge (by omega) (by omega))]
      refine x_letter h hn (by omega) ?_
      rw [fwN] at h2
      by_cases q : okB (σ.1 2) i = true
      · rw [if_pos q] at h2
        rw [q, if_neg (by decide), nI_1]
        exact ih (i + 1) (by omega) h2
      · rw [if_neg q] at h2
        have q' : okB (σ.1 2) i = false := by simpa using q
        rw [q', if_pos (show bI false = 0 from rfl)]
        exact h2
  exact ⟨np + 1, key np 0 (by omega) hp⟩
