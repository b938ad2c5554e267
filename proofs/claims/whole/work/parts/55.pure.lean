/-! PURE PART 26: soonest: rows of first winds, and the search's step -/
def wl (v k : Nat) : Nat := if k ≤ 3 then v - k else v + (k - 3)
theorem wl_e : ∀ v, v < 41 → 10 ≤ v → ∀ k, k < 7 → nI v - (if nI k ≤ 3 then nI k else 3 - nI k) = nI (wl v k) ∧ wl v k < 50 := by decide +kernel
def upR (X : Nat → Nat) (l s : Nat) : Nat → Nat := fun j => if j = l then (if s < X l then s else X l) else X j
def kR (first : Bool) (R : Nat → Nat) (v : Nat) : Nat → (Nat → Nat) → Nat → Nat
  | 0, X => X
  | k + 1, X => if 10 ≤ wl v k ∧ wl v k ≤ 40 then upR (kR first R v k X) (wl v k) (if first = true then k else R v) else kR first R v k X
def vR (first : Bool) (R : Nat → Nat) : Nat → Nat → Nat
  | 0 => fun _ => 7
  | v + 1 => if R v < 7 then kR first R v 7 (vR first R v) else vR first R v
theorem upR_le {X : Nat → Nat} {l s : Nat} (h : ∀ j, X j ≤ 7) (j : Nat) : upR X l s j ≤ 7 := by
  unfold upR
  have a := h j
  have b := h l
  split
  · split <;> omega
  · exact a
theorem kR_le {first : Bool} {R X : Nat → Nat} {v : Nat} (h : ∀ j, X j ≤ 7) : ∀ k j, kR first R v k X j ≤ 7
  | 0, j => h j
  | k + 1, j => by
    rw [kR]
    split
    · exact upR_le (kR_le h k) j
    · exact kR_le h k j
theorem vR_le {first : Bool} {R : Nat → Nat} : ∀ n j, vR first R n j ≤ 7
  | 0, j => Nat.le_refl _
  | n + 1, j => by
    rw [vR]
    split
    · exact kR_le (vR_le n) 7 j
    · exact vR_le n j
theorem vR_out {first : Bool} {R : Nat → Nat} {j : Nat} (hj : ¬ (10 ≤ j ∧ j ≤ 40)) : ∀ n, vR first R n j = 7
  | 0 => rfl
  | n + 1 => by
    rw [vR]
    have ih := vR_out (first := first) (R := R) hj n
    split
    · have : ∀ k, kR first R n k (vR first R n) j = 7 := by
        intro k
        induction k with
        | zero => exact ih
        | succ k ihk =>
          rw [kR]
          split
          · unfold upR
            rw [if_neg (fun e => hj (by rw [e]; assumption))]
            exact ihk
          · exact ihk
      exact this 7
    · exact ih
def SimS (σ τ : St) : Prop := Sim σ τ ∧ τ.1 13 2 = -1 ∧ τ.1 13 3 = -1
theorem simS_w {σ τ : St} (h : SimS σ τ) {k b : Nat} {v : Int32} (hs : scr k b = true) (hk : k ≠ 13) : SimS σ (sV τ k b v) := by
  refine ⟨h.1.sV hs, ?_, ?_⟩
  · have := h.2.1
    simpa [sV, up2, va_up, Ne.symm hk] using this
  · have := h.2.2
    simpa [sV, up2, va_up, Ne.symm hk] using this
def RW (τ : St) (k : Nat) (R : Nat → Nat) : Prop := ∀ l, l < 41 → τ.1 k l = nI (R l)
theorem RW.up {τ : St} {k l : Nat} {R : Nat → Nat} {s : Nat} (h : RW τ k R) : RW (sV τ k l (nI s)) k (fun j => if j = l then s else R j) := by
  intro j hj
  by_cases q : j = l
  · subst q; simp [sV, up2, va_up]
  · have := h j hj
    simpa [sV, up2, va_up, q] using this
theorem RW.ot {τ : St} {k k2 l : Nat} {R : Nat → Nat} {s : Int32} (h : RW τ k R) (hk : k ≠ k2) : RW (sV τ k2 l s) k R := by
  intro j hj
  have := h j hj
  simpa [sV, up2, va_up, hk] using this
theorem x_stepFrom {σ τ : St} {first : Bool} {R X : Nat → Nat} {v : Nat} {Φ : St → Prop} (hS : SimS σ τ) (hv : 10 ≤ v) (hv2 : v < 41) (hR : R v < 7) (h14 : RW τ 14 R) (h15 : RW τ 15 X) (hX : ∀ j, X j ≤ 7)
    (hp : ∀ τ', SimS σ τ' → RW τ' 14 R → RW τ' 15 (kR first R v 7 X) → Φ τ') : wX8_stepFrom τ (nI v) (bI first) (nI (R v)) Φ := by
  have key : ∀ m k, k + m = 7 → ∀ τ, SimS σ τ → RW τ 14 R → RW τ 15 (kR first R v k X) → wX8_stepFrom_3 Φ (m + 1) τ (nI v) (bI first) (nI (R v)) (nI k) := by
    intro m
    induction m with
    | zero =>
      intro k hk τ hS h14 h15
      have : k = 7 := by omega
      subst this
      rw [wX8_stepFrom_3, if_pos (show (7 : Int32) ≤ nI 7 by decide)]
      exact hp τ hS h14 h15
    | succ m ih =>
      intro k hk τ hS h14 h15
      obtain ⟨e, hb⟩ := wl_e v hv2 hv k (by omega)
      have hle := kR_le (first := first) (R := R) (v := v) hX k
      rw [wX8_stepFrom_3, if_neg (show ¬ (7 : Int32) ≤ nI k from nI_ge (b := 7) (by omega) (by omega)), e_winding, e_isLen, e]
      unfold wX8_stepFrom_64 at ih ⊢
      by_cases q : 10 ≤ wl v k ∧ wl v k ≤ 40
      · rw [if_pos (show 10 ≤ nI (wl v k) ∧ nI (wl v k) ≤ 40 from ⟨nI_le (a := 10) q.1 (by omega), nI_le (b := 40) q.2 (by omega)⟩), if_neg (by decide), if_neg (show ¬ (41 : Int32) ≤ nI (wl v k) from nI_ge (b := 41) (by omega) (by omega)), nI_clamp (by omega)]
        refine ⟨vp_in_nI (by omega) (by omega), ?_⟩
        have fin : wX8_stepFrom_60 (wX8_stepFrom_3 Φ (m + 1)) Φ τ (nI v) (bI first) (nI (R v)) (nI k) (nI (if first = true then k else R v)) (τ.1 15 (wl v k)) (nI (wl v k)) := by
          unfold wX8_stepFrom_60 wX8_stepFrom_64
          rw [e_min, h15 _ (by omega), nI_clamp (by omega), nI_1]
          refine ⟨vp_in_nI (by omega) (by omega), ?_⟩
          have hs7 : (if first = true then k else R v) < 7 := by split <;> omega
          have hx7 := hle (wl v k)
          have ev : (if nI (if first = true then k else R v) < nI (kR first R v k X (wl v k)) then nI (if first = true then k else R v) else nI (kR first R v k X (wl v k))) = nI (if (if first = true then k else R v) < kR first R v k X (wl v k) then (if first = true then k else R v) else kR first R v k X (wl v k)) := by
            by_cases z : (if first = true then k else R v) < kR first R v k X (wl v k)
            · rw [if_pos z, if_pos (nI_lt z (by omega))]
            · rw [if_neg z, if_neg (nI_nlt (by omega) (by omega))]
          rw [ev]
          refine ih (k + 1) (by omega) _ (simS_w hS rfl (by decide)) (h14.ot (by omega)) ?_
          rw [kR, if_pos q]
          exact h15.up
        cases first with
        | true => rw [show bI true = 1 from rfl] at fin ⊢; rw [if_neg (by decide)]; exact fin
        | false => rw [show bI false = 0 from rfl] at fin ⊢; rw [if_pos rfl]; exact fin
      · rw [if_neg (show ¬ (10 ≤ nI (wl v k) ∧ nI (wl v k) ≤ 40) from fun z => q ⟨(nI_leI (a := 10) (by omega) (by omega)).mp z.1, (nI_leI (b := 40) (by omega) (by omega)).mp z.2⟩), if_pos rfl, nI_1]
        refine ih (k + 1) (by omega) τ hS h14 ?_
        rw [kR, if_neg q]
        exact h15
  exact ⟨8, key 7 0 (by omega) τ hS h14 h15⟩
