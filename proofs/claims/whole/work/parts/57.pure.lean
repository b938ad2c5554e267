/-! PURE PART 28: soonest: the search -/
def soR (V : Nat → Nat → Int32) (nt hh L : Nat) : Nat → Nat → Nat
  | 0 => fun l => if l = L then 0 else 7
  | h + 1 => drR V nt (hh + (h + 1)) (vR (decide (h = 0)) (soR V nt hh L h) 41)
theorem so_gr {V : Nat → Nat → Int32} {nt hh L : Nat} (hL : 10 ≤ L ∧ L ≤ 40) : ∀ h, GR (soR V nt hh L h)
  | 0, l => by
    rw [soR]
    by_cases q : l = L
    · subst q
      simp
      omega
    · simp [q]
  | h + 1, l => by
    rw [soR]
    unfold drR
    have a := vR_le (first := decide (h = 0)) (R := soR V nt hh L h) 41 l
    split
    · exact ⟨Nat.le_refl _, fun z => by omega⟩
    · refine ⟨a, fun z => ?_⟩
      by_cases q : 10 ≤ l ∧ l ≤ 40
      · exact q
      · rw [vR_out q] at z
        omega
theorem v_gr {first : Bool} {R : Nat → Nat} : GR (vR first R 41) := fun l => ⟨vR_le 41 l, fun z => by
  by_cases q : 10 ≤ l ∧ l ≤ 40
  · exact q
  · rw [vR_out q] at z
    omega⟩
/-- the hour and the wind found from hour h on, m hours being left -/
def soF (V : Nat → Nat → Int32) (nt hh L : Nat) (sp : Int32) : Nat → Nat → Int32 × Int32
  | 0, _ => (-1, -1)
  | m + 1, h => if 7 ≤ lwR (soR V nt hh L h) (inB V nt (hh + h) sp) 41 then soF V nt hh L sp m (h + 1) else (nI h, if h = 0 then -1 else nI (lwR (soR V nt hh L h) (inB V nt (hh + h) sp) 41))
theorem x_beginL {σ : St} {L : Nat} {Φ : St → Prop} (hL : L ≤ 40) (hp : ∀ τ, Sim σ τ → RW τ 14 (fun l => if l = L then 0 else 7) → Φ τ) : wX8_begin σ (nI L) Φ := by
  have key : ∀ m i, i + m = 41 → ∀ τ, Sim σ τ → (∀ l, l < i → τ.1 14 l = nI (if l = L then 0 else 7)) → wX8_begin_2 Φ (m + 1) τ (nI L) (nI i) := by
    intro m
    induction m with
    | zero =>
      intro i hi τ hS h14
      have : i = 41 := by omega
      subst this
      rw [wX8_begin_2, if_pos (show (41 : Int32) ≤ nI 41 by decide)]
      exact hp τ hS h14
    | succ m ih =>
      intro i hi τ hS h14
      have hin : vp_in (nI i) 41 := vp_in_nI (by omega) (by omega)
      rw [wX8_begin_2, if_neg (show ¬ (41 : Int32) ≤ nI i from nI_ge (b := 41) (by omega) (by omega))]
      unfold wX8_begin_27
      rw [nI_clamp (by omega), nI_1]
      have kk : ∀ v, v = nI (if i = L then 0 else 7) → wX8_begin_2 Φ (m + 1) (sV τ 14 i v) (nI L) (nI (i + 1)) := by
        intro v hv
        refine ih (i + 1) (by omega) _ (hS.sV rfl) (fun l hl => ?_)
        by_cases q : l = i
        · subst q; simp [sV, up2, va_up, hv]
        · have := h14 l (by omega)
          simpa [sV, up2, va_up, q] using this
      by_cases q : i = L
      · rw [if_pos (by rw [q])]
        exact ⟨hin, kk 0 (by rw [if_pos q]; rfl)⟩
      · rw [if_neg (fun z => q ((nI_eq (by omega) (by omega)).mp z))]
        exact ⟨hin, kk 7 (by rw [if_neg q]; rfl)⟩
  exact ⟨42, key 41 0 (by omega) σ Sim.rfl' (fun l hl => by omega)⟩
theorem x_findS {σ : St} {nt hh L : Nat} {sp : Int32} {F : Int32 × Int32} {Φ : St → Prop} (hF : soF σ.1 nt hh L sp 13 0 = F) (hT : ThX σ nt) (hB : TB σ.1 nt hh) (hh6 : hh ≤ 600) (h4 : σ.1 3 4 = nI hh) (h0 : σ.1 3 0 = nI L) (hL : 10 ≤ L ∧ L ≤ 40)
    (hp : ∀ τ, Sim σ τ → τ.1 13 2 = F.1 → τ.1 13 3 = F.2 → Φ τ) : wX8_find σ sp Φ := by
  have key : ∀ m h, h + m = 13 → soF σ.1 nt hh L sp m h = F → ∀ τ, SimS σ τ → RW τ 14 (soR σ.1 nt hh L (h - 1)) → wX8_find_21 Φ (m + 1) τ sp (nI h) := by
    intro m
    induction m with
    | zero =>
      intro h hi he τ hS h14
      have : h = 13 := by omega
      subst this
      rw [wX8_find_21, if_pos (show (12 : Int32) < nI 13 by decide)]
      rw [soF] at he
      exact hp τ hS.1 (by rw [← he]; exact hS.2.1) (by rw [← he]; exact hS.2.2)
    | succ m ih =>
      intro h hi he τ hS h14
      rw [wX8_find_21, if_neg (show ¬ (12 : Int32) < nI h from nI_nlt (b := h) (a := 12) (by omega) (by omega)), (hS.1.at 3 4 rfl).trans h4, nI_add]
      have hR := hS.1.rel
      refine i_weighsIn (hR.thx hT) ?_
      rw [(hS.1.at 3 4 rfl).trans h4, nI_add]
      refine i_weighsIn (hR.thx hT) ?_
      rw [hR.cab, hR.cab]
      have hB1 : TB σ.1 nt (hh + h) := hB.up (by omega) (by omega)
      have k85 : ∀ τ, SimS σ τ → RW τ 14 (soR σ.1 nt hh L h) → wX8_find_85 (wX8_find_21 Φ (m + 1)) Φ τ sp (nI h) (cabV σ.1 0 (nI (hh + h)) noM nt) (cabV σ.1 1 (nI (hh + h)) noM nt) := by
        intro τ hS h14
        unfold wX8_find_85
        refine x_least2 hB1 hS (so_gr hL h) h14 ?_
        have hl := lw_le (R := soR σ.1 nt hh L h) (ok := inB σ.1 nt (hh + h) sp) 41
        rw [soF] at he
        generalize lwR (soR σ.1 nt hh L h) (inB σ.1 nt (hh + h) sp) 41 = W at hl he ⊢
        by_cases q : 7 ≤ W
        · rw [if_pos q] at he
          rw [if_pos (show (7 : Int32) ≤ nI _ from nI_le (a := 7) q (by omega)), nI_1]
          exact ih (h + 1) (by omega) he τ hS h14
        · rw [if_neg q] at he
          rw [if_neg (show ¬ (7 : Int32) ≤ nI _ from nI_ge (b := 7) (by omega) (by omega))]
          by_cases z : h = 0
          · rw [if_pos z] at he
            rw [if_pos (show nI h = 0 by rw [z]; rfl)]
            exact hp _ ((hS.1.sV rfl).sV rfl) (by rw [← he]; rfl) (by rw [← he]; rfl)
          · rw [if_neg z] at he
            rw [if_neg (show ¬ nI h = 0 from fun y => z ((nI_eq (b := 0) (by omega) (by omega)).mp y))]
            exact hp _ ((hS.1.sV rfl).sV rfl) (by rw [← he]; rfl) (by rw [← he]; rfl)
      cases h with
      | zero =>
        rw [if_pos (show nI 0 ≤ 0 by decide)]
        exact k85 τ hS h14
      | succ g =>
        rw [if_neg (show ¬ nI (g + 1) ≤ 0 from nI_nle (by omega) (by omega))]
        have k73 : wX8_find_73 (wX8_find_21 Φ (m + 1)) Φ τ sp (nI (g + 1)) (cabV σ.1 0 (nI (hh + (g + 1))) noM nt) (cabV σ.1 1 (nI (hh + (g + 1))) noM nt) (bI (decide (g = 0))) := by
          unfold wX8_find_73
          refine x_step hS (so_gr hL g) h14 (fun τ1 hS1 r1 => x_drop hB1 hS1 v_gr r1 (fun τ2 hS2 r2 => ?_))
          refine k85 τ2 hS2 ?_
          rw [soR]
          exact r2
        by_cases z : g = 0
        · rw [decide_eq_true z] at k73
          rw [if_pos (show nI (g + 1) = 1 by rw [z]; rfl)]
          exact k73
        · rw [decide_eq_false z] at k73
          rw [if_neg (show ¬ nI (g + 1) = 1 from fun y => z (by have := (nI_eq (b := 1) (by omega) (by omega)).mp y; omega))]
          exact k73
  unfold wX8_find
  rw [h0]
  refine x_beginL (by omega) (fun τ hS h14 => ?_)
  exact ⟨14, key 13 0 (by omega) hF _ ⟨(hS.sV rfl).sV rfl, rfl, rfl⟩ h14⟩
