/-! PURE PART 27: soonest: the search's step, what drops, the least way -/
def GR (R : Nat → Nat) : Prop := ∀ l, R l ≤ 7 ∧ (R l < 7 → 10 ≤ l ∧ l ≤ 40)
theorem x_copyL {σ : St} {X : Nat → Nat} {Φ : St → Prop} (hp : ∀ τ, SimS σ τ → RW τ 14 X → Φ τ) : ∀ m i, i + m = 41 → ∀ τ, SimS σ τ → RW τ 15 X → (∀ l, l < i → τ.1 14 l = nI (X l)) → wX8_step_67 Φ (m + 1) τ (nI i) := by
  intro m
  induction m with
  | zero =>
    intro i hi τ hS h15 h14
    have : i = 41 := by omega
    subst this
    rw [wX8_step_67, if_pos (show (41 : Int32) ≤ nI 41 by decide)]
    exact hp τ hS h14
  | succ m ih =>
    intro i hi τ hS h15 h14
    have n41 : ¬ (41 : Int32) ≤ nI i := nI_ge (b := 41) (by omega) (by omega)
    have hin : vp_in (nI i) 41 := vp_in_nI (by omega) (by omega)
    rw [wX8_step_67, if_neg n41, if_neg n41, nI_clamp (by omega), h15 i (by omega), nI_1]
    refine ⟨hin, hin, ih (i + 1) (by omega) _ (simS_w hS rfl (by decide)) (h15.ot (by omega)) (fun l hl => ?_)⟩
    by_cases q : l = i
    · subst q; simp [sV, up2, va_up]
    · have := h14 l (by omega)
      simpa [sV, up2, va_up, q] using this
theorem x_srcL {σ : St} {first : Bool} {R : Nat → Nat} {Φ : St → Prop} (hG : GR R) (hp : ∀ τ, SimS σ τ → RW τ 14 (vR first R 41) → Φ τ) : ∀ m i, i + m = 41 → ∀ τ, SimS σ τ → RW τ 14 R → RW τ 15 (vR first R i) → wX8_step_27 Φ (m + 1) τ (bI first) (nI i) := by
  intro m
  induction m with
  | zero =>
    intro i hi τ hS h14 h15
    have : i = 41 := by omega
    subst this
    rw [wX8_step_27, if_pos (show (41 : Int32) ≤ nI 41 by decide)]
    exact ⟨42, x_copyL hp 41 0 (by omega) τ hS h15 (fun l hl => by omega)⟩
  | succ m ih =>
    intro i hi τ hS h14 h15
    have hin : vp_in (nI i) 41 := vp_in_nI (by omega) (by omega)
    rw [wX8_step_27, if_neg (show ¬ (41 : Int32) ≤ nI i from nI_ge (b := 41) (by omega) (by omega)), nI_clamp (by omega), h14 i (by omega)]
    refine ⟨hin, ?_⟩
    have hg := hG i
    unfold wX8_step_59
    rw [nI_1]
    by_cases q : R i < 7
    · rw [if_neg (show ¬ (7 : Int32) ≤ nI (R i) from nI_ge (b := 7) q (by omega))]
      refine ⟨hin, x_stepFrom hS (hg.2 q).1 (by omega) q h14 h15 (vR_le i) (fun τ' hS' g14 g15 => ?_)⟩
      refine ih (i + 1) (by omega) τ' hS' g14 ?_
      rw [vR, if_pos q]
      exact g15
    · rw [if_pos (show (7 : Int32) ≤ nI (R i) from nI_le (a := 7) (by omega) (by omega))]
      refine ih (i + 1) (by omega) τ hS h14 ?_
      rw [vR, if_neg q]
      exact h15
theorem x_step {σ τ : St} {first : Bool} {R : Nat → Nat} {Φ : St → Prop} (hS : SimS σ τ) (hG : GR R) (h14 : RW τ 14 R) (hp : ∀ τ, SimS σ τ → RW τ 14 (vR first R 41) → Φ τ) : wX8_step τ (bI first) Φ := by
  have key : ∀ m i, i + m = 41 → ∀ τ, SimS σ τ → RW τ 14 R → (∀ l, l < i → τ.1 15 l = nI 7) → wX8_step_2 Φ (m + 1) τ (bI first) (nI i) := by
    intro m
    induction m with
    | zero =>
      intro i hi τ hS h14 h15
      have : i = 41 := by omega
      subst this
      rw [wX8_step_2, if_pos (show (41 : Int32) ≤ nI 41 by decide)]
      exact ⟨42, x_srcL hG hp 41 0 (by omega) τ hS h14 h15⟩
    | succ m ih =>
      intro i hi τ hS h14 h15
      have hin : vp_in (nI i) 41 := vp_in_nI (by omega) (by omega)
      rw [wX8_step_2, if_neg (show ¬ (41 : Int32) ≤ nI i from nI_ge (b := 41) (by omega) (by omega)), nI_clamp (by omega), nI_1]
      refine ⟨hin, ih (i + 1) (by omega) _ (simS_w hS rfl (by decide)) (h14.ot (by omega)) (fun l hl => ?_)⟩
      by_cases q : l = i
      · subst q
        simp [sV, up2, va_up]
        rfl
      · have := h15 l (by omega)
        simpa [sV, up2, va_up, q] using this
  exact ⟨42, key 41 0 (by omega) τ hS h14 (fun l hl => by omega)⟩
/-- broken at a length, at an hour -/
def bkB (V : Nat → Nat → Int32) (nt hr l : Nat) : Bool := !decide (cab2 V (nI hr) noM nt (strainS (V 3 1) (nI l)) ≤ V 3 2)
def drR (V : Nat → Nat → Int32) (nt hr : Nat) (X : Nat → Nat) : Nat → Nat := fun l => if bkB V nt hr l = true then 7 else X l
theorem x_drop {σ τ : St} {nt hr : Nat} {X : Nat → Nat} {Φ : St → Prop} (hB : TB σ.1 nt hr) (hS : SimS σ τ) (hX : GR X) (h14 : RW τ 14 X) (hp : ∀ τ', SimS σ τ' → RW τ' 14 (drR σ.1 nt hr X) → Φ τ') : wX8_dropBroken τ (cabV σ.1 0 (nI hr) noM nt) (cabV σ.1 1 (nI hr) noM nt) Φ := by
  have key : ∀ m i, i + m = 41 → ∀ τ, SimS σ τ → (∀ l, l < 41 → τ.1 14 l = nI (if l < i then drR σ.1 nt hr X l else X l)) → wX8_dropBroken_3 Φ (m + 1) τ (cabV σ.1 0 (nI hr) noM nt) (cabV σ.1 1 (nI hr) noM nt) (nI i) := by
    intro m
    induction m with
    | zero =>
      intro i hi τ hS h14
      have : i = 41 := by omega
      subst this
      rw [wX8_dropBroken_3, if_pos (show (41 : Int32) ≤ nI 41 by decide)]
      refine hp τ hS (fun l hl => ?_)
      have := h14 l hl
      rw [if_pos hl] at this
      exact this
    | succ m ih =>
      intro i hi τ hS h14
      have hin : vp_in (nI i) 41 := vp_in_nI (by omega) (by omega)
      have e14 := h14 i (by omega)
      rw [if_neg (by omega)] at e14
      have hx := hX i
      rw [wX8_dropBroken_3, if_neg (show ¬ (41 : Int32) ≤ nI i from nI_ge (b := 41) (by omega) (by omega)), nI_clamp (by omega), e14]
      refine ⟨hin, ?_⟩
      unfold wX8_dropBroken_59
      rw [nI_1]
      have keep : drR σ.1 nt hr X i = X i → wX8_dropBroken_3 Φ (m + 1) τ (cabV σ.1 0 (nI hr) noM nt) (cabV σ.1 1 (nI hr) noM nt) (nI (i + 1)) := by
        intro e
        refine ih (i + 1) (by omega) τ hS (fun l hl => ?_)
        rw [h14 l hl]
        by_cases q : l = i
        · subst q
          rw [if_neg (by omega), if_pos (by omega), e]
        · by_cases r : l < i
          · rw [if_pos r, if_pos (by omega)]
          · rw [if_neg r, if_neg (by omega)]
      by_cases q : 7 ≤ X i
      · rw [if_pos (show (7 : Int32) ≤ nI (X i) from nI_le (a := 7) q (by omega))]
        refine keep ?_
        unfold drR
        split
        · omega
        · rfl
      · rw [if_neg (show ¬ (7 : Int32) ≤ nI (X i) from nI_ge (b := 7) (by omega) (by omega)), e_strainF _ _ _ _ _ _ (cw_pos hB noM), hS.1.at 3 1 rfl, hS.1.at 3 2 rfl]
        by_cases z : strainS (σ.1 3 1) (nI i) (cabV σ.1 0 (nI hr) noM nt) (cabV σ.1 1 (nI hr) noM nt) ≤ σ.1 3 2
        · rw [if_pos z]
          refine keep ?_
          unfold drR bkB cab2
          rw [decide_eq_true z]
          rfl
        · rw [if_neg z]
          refine ⟨hin, ih (i + 1) (by omega) _ (simS_w hS rfl (by decide)) (fun l hl => ?_)⟩
          have ed : drR σ.1 nt hr X i = 7 := by
            unfold drR bkB cab2
            rw [decide_eq_false z]
            rfl
          by_cases y : l = i
          · subst y
            rw [if_pos (by omega), ed]
            simp [sV, up2, va_up]
            rfl
          · have h := h14 l hl
            rw [show (sV τ 14 i 7).1 14 l = τ.1 14 l by simp [sV, up2, va_up, y], h]
            by_cases r : l < i
            · rw [if_pos r, if_pos (by omega)]
            · rw [if_neg r, if_neg (by omega)]
  refine ⟨42, key 41 0 (by omega) τ hS (fun l hl => ?_)⟩
  rw [if_neg (by omega)]
  exact h14 l hl
def inB (V : Nat → Nat → Int32) (nt hr : Nat) (sp : Int32) (l : Nat) : Bool := !decide (cab2 V (nI hr) noM nt (floorS (V 3 1) 0 (nI l)) < sp) && !decide (sp + sp / 2 < cab2 V (nI hr) noM nt (floorS (V 3 1) 0 (nI l)))
def lwR (R : Nat → Nat) (ok : Nat → Bool) : Nat → Nat
  | 0 => 7
  | v + 1 => if R v < lwR R ok v ∧ ok v = true then R v else lwR R ok v
theorem lw_le {R : Nat → Nat} {ok : Nat → Bool} : ∀ n, lwR R ok n ≤ 7
  | 0 => Nat.le_refl _
  | n + 1 => by
    have := lw_le (R := R) (ok := ok) n
    rw [lwR]
    split
    · omega
    · exact this
theorem x_least2 {σ τ : St} {nt hr : Nat} {R : Nat → Nat} {sp : Int32} {Φ : Int32 → St → Prop} (hB : TB σ.1 nt hr) (hS : SimS σ τ) (hR : GR R) (h14 : RW τ 14 R) (hp : Φ (nI (lwR R (inB σ.1 nt hr sp) 41)) τ) : wX8_leastWay τ sp (cabV σ.1 0 (nI hr) noM nt) (cabV σ.1 1 (nI hr) noM nt) Φ := by
  have key : ∀ m i, i + m = 41 → wX8_leastWay_7 Φ (m + 1) τ sp (cabV σ.1 0 (nI hr) noM nt) (cabV σ.1 1 (nI hr) noM nt) (nI (lwR R (inB σ.1 nt hr sp) i)) (nI i) := by
    intro m
    induction m with
    | zero =>
      intro i hi
      have : i = 41 := by omega
      subst this
      rw [wX8_leastWay_7, if_pos (show (41 : Int32) ≤ nI 41 by decide)]
      exact hp
    | succ m ih =>
      intro i hi
      have ih' := ih (i + 1) (by omega)
      have hin : vp_in (nI i) 41 := vp_in_nI (by omega) (by omega)
      have hl := lw_le (R := R) (ok := inB σ.1 nt hr sp) i
      have hr7 := (hR i).1
      rw [lwR] at ih'
      rw [wX8_leastWay_7, if_neg (show ¬ (41 : Int32) ≤ nI i from nI_ge (b := 41) (by omega) (by omega)), nI_clamp (by omega), h14 i (by omega)]
      refine ⟨hin, ?_⟩
      unfold wX8_leastWay_66
      rw [nI_1]
      by_cases q : R i < lwR R (inB σ.1 nt hr sp) i
      · rw [if_neg (nI_ge q (by omega)), e_floorAt _ _ _ _ _ _ _ (cw_pos hB noM), hS.1.at 3 1 rfl]
        by_cases z : floorS (σ.1 3 1) 0 (nI i) (cabV σ.1 0 (nI hr) noM nt) (cabV σ.1 1 (nI hr) noM nt) < sp
        · rw [if_pos z]
          rw [if_neg (fun y => by have := y.2; unfold inB cab2 at this; rw [decide_eq_true z] at this; simp at this)] at ih'
          exact ih'
        · rw [if_neg z]
          refine ⟨by decide, ?_⟩
          by_cases y : sp + sp / 2 < floorS (σ.1 3 1) 0 (nI i) (cabV σ.1 0 (nI hr) noM nt) (cabV σ.1 1 (nI hr) noM nt)
          · rw [if_pos y]
            rw [if_neg (fun x => by have := x.2; unfold inB cab2 at this; rw [decide_eq_true y] at this; simp at this)] at ih'
            exact ih'
          · rw [if_neg y]
            rw [if_pos ⟨q, by unfold inB cab2; rw [decide_eq_false z, decide_eq_false y]; rfl⟩] at ih'
            refine ⟨hin, ?_⟩
            rw [h14 i (by omega)]
            exact ih'
      · rw [if_pos (nI_le (by omega) (by omega))]
        rw [if_neg (fun y => q y.1)] at ih'
        exact ih'
  exact ⟨42, key 41 0 (by omega)⟩
