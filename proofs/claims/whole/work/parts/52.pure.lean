/-! PURE PART 23: the wire's text, on the reference's side -/
theorem dg14 : ∀ n, n < 127 → ((1 ≤ nI n - 48 ∧ nI n - 48 ≤ 4) ↔ btB (nI n) 49 52 = true) := by decide +kernel
theorem dg19 : ∀ n, n < 127 → ((1 ≤ nI n - 48 ∧ nI n - 48 ≤ 9) ↔ btB (nI n) 49 57 = true) := by decide +kernel
theorem dg09 : ∀ n, n < 127 → ((0 ≤ nI n - 48 ∧ nI n - 48 ≤ 9) ↔ btB (nI n) 48 57 = true) := by decide +kernel
theorem dg40 : ∀ a, a < 127 → btB (nI a) 49 52 = true → ∀ n, n < 127 → (((0 ≤ nI n - 48 ∧ nI n - 48 ≤ 9) ∧ ¬ 40 < 10 * (nI a - 48) + (nI n - 48)) ↔ btB (nI n) 48 (if nI a = 52 then 48 else 57) = true) := by decide +kernel
theorem ite_bI {P : Prop} [Decidable P] {b : Bool} (h : P ↔ b = true) : (if P then (1 : Int32) else 0) = bI b := by
  unfold bI
  by_cases q : P
  · rw [if_pos q, if_pos (h.mp q)]
  · rw [if_neg q, if_neg (fun z => q (h.mpr z))]
def MW (σ τ : St) (c : Nat → Int32) (i : Nat) : Prop := Sim σ τ ∧ (i = 1 → τ.1 18 21 = c 0 - 48) ∧ (2 ≤ i → τ.1 18 21 = 10 * (c 0 - 48) + (c 1 - 48)) ∧ (4 ≤ i → τ.1 18 22 = c 3 - 48) ∧ (i = 6 → τ.1 18 23 = c 5 - 48) ∧ (i = 7 → τ.1 18 23 = 10 * (c 5 - 48) + (c 6 - 48)) ∧ (8 ≤ i → τ.1 18 23 = 10 * (10 * (c 5 - 48) + (c 6 - 48)) + (c 7 - 48)) ∧ (i ≤ 8 → τ.1 18 24 = 0) ∧ (9 ≤ i → τ.1 18 24 = 1) ∧ (1 ≤ i → okB c 0 = true)
theorem m_takes {σ τ : St} {c : Nat → Int32} {i : Nat} {Φ : Int32 → St → Prop} (hi : i < 12) (hc : ∀ k, k ≤ i → ∃ n, n < 127 ∧ c k = nI n) (h : MW σ τ c i) (hp : ∀ τ', Sim σ τ' → (okB c i = true → MW σ τ' c (i + 1)) → Φ (bI (okB c i)) τ') : wX12_takes τ (nI i) (c i) Φ := by
  obtain ⟨hS, m1, m2, m3, m4, m5, m6, m7, m8, m9⟩ := h
  unfold wX12_takes
  have hi' : i = 0 ∨ i = 1 ∨ i = 2 ∨ i = 3 ∨ i = 4 ∨ i = 5 ∨ i = 6 ∨ i = 7 ∨ i = 8 ∨ i = 9 ∨ i = 10 ∨ i = 11 := by omega
  obtain ⟨n, n1, n2⟩ := hc i (Nat.le_refl _)
  rcases hi' with rfl | rfl | rfl | rfl | rfl | rfl | rfl | rfl | rfl | rfl | rfl | rfl
  · refine ⟨fun _ => ?_, ne_d rfl, ne_d rfl, ne_d rfl, ne_d rfl, ne_d rfl, ne_d rfl, ne_d rfl, fun e => absurd e (by decide)⟩
    rw [e_within, ite_bI (b := okB c 0) (by rw [n2]; rw [dg14 n n1, ← n2]; rfl)]
    refine ⟨bI01 _, hp _ (hS.sV rfl) (fun ok => ⟨hS.sV rfl, fun _ => rfl, ?_, ?_, ?_, ?_, ?_, fun _ => m7 (by omega), ?_, fun _ => ok⟩)⟩ <;> exact fun e => absurd e (by decide)
  · refine ⟨ne_d rfl, fun _ => ?_, ne_d rfl, ne_d rfl, ne_d rfl, ne_d rfl, ne_d rfl, ne_d rfl, fun e => absurd e (by decide)⟩
    obtain ⟨a, a1, a2⟩ := hc 0 (by omega)
    have ok0 : btB (nI a) 49 52 = true := by rw [← a2]; exact m9 (by omega)
    have hk := dg40 a a1 ok0 n n1
    rw [e_within, m1 rfl]
    have fin : ∀ τ', τ' = sV τ 18 21 (10 * (c 0 - 48) + (c 1 - 48)) → Φ (bI (okB c 1)) τ' := by
      intro τ' e
      subst e
      refine hp _ (hS.sV rfl) (fun ok => ⟨hS.sV rfl, fun e => absurd e (by decide), fun _ => rfl, ?_, ?_, ?_, ?_, fun _ => m7 (by omega), ?_, fun _ => m9 (by omega)⟩) <;> exact fun e => absurd e (by decide)
    have okd : okB c 1 = btB (nI n) 48 (if nI a = 52 then 48 else 57) := by rw [← n2, ← a2]; rfl
    by_cases q : 0 ≤ c 1 - 48 ∧ c 1 - 48 ≤ 9
    · rw [if_pos q, if_neg (by decide)]
      have e21 : (sV τ 18 21 (10 * (c 0 - 48) + (c 1 - 48))).1 18 21 = 10 * (c 0 - 48) + (c 1 - 48) := rfl
      rw [e21]
      by_cases r : 40 < 10 * (c 0 - 48) + (c 1 - 48)
      · rw [if_pos r]
        have : okB c 1 = false := by
          rw [okd]
          by_cases z : btB (nI n) 48 (if nI a = 52 then 48 else 57) = true
          · have := (hk.mpr z).2
            rw [← n2, ← a2] at this
            exact absurd r this
          · simpa using z
        have f := fin _ rfl
        rw [this] at f
        exact ⟨by decide, f⟩
      · rw [if_neg r]
        have : okB c 1 = true := by
          rw [okd]
          refine hk.mp ?_
          rw [← n2, ← a2]
          exact ⟨q, r⟩
        have f := fin _ rfl
        rw [this] at f
        exact ⟨by decide, f⟩
    · rw [if_neg q, if_pos rfl]
      have : okB c 1 = false := by
        rw [okd]
        by_cases z : btB (nI n) 48 (if nI a = 52 then 48 else 57) = true
        · have := (hk.mpr z).1
          rw [← n2] at this
          exact absurd this q
        · simpa using z
      have f := fin _ rfl
      rw [this] at f
      exact ⟨by decide, f⟩
  · refine ⟨ne_d rfl, ne_d rfl, fun _ => ?_, ne_d rfl, ne_d rfl, ne_d rfl, ne_d rfl, ne_d rfl, fun e => absurd e (by decide)⟩
    have f := hp τ hS (fun ok => ⟨hS, fun e => absurd e (by decide), fun _ => m2 (by omega), fun e => absurd e (by decide), fun e => absurd e (by decide), fun e => absurd e (by decide), fun e => absurd e (by decide), fun _ => m7 (by omega), fun e => absurd e (by decide), fun _ => m9 (by omega)⟩)
    unfold wX12_takes_102
    by_cases q : c 2 = 58
    · rw [if_pos q]
      rw [show okB c 2 = true from decide_eq_true q] at f
      exact ⟨by decide, f⟩
    · rw [if_neg q]
      rw [show okB c 2 = false from decide_eq_false q] at f
      exact ⟨by decide, f⟩
  · refine ⟨ne_d rfl, ne_d rfl, ne_d rfl, fun _ => ?_, ne_d rfl, ne_d rfl, ne_d rfl, ne_d rfl, fun e => absurd e (by decide)⟩
    rw [e_within, ite_bI (b := okB c 3) (by rw [n2]; rw [dg19 n n1, ← n2]; rfl)]
    refine ⟨bI01 _, hp _ (hS.sV rfl) (fun ok => ⟨hS.sV rfl, ?_, fun _ => m2 (by omega), fun _ => rfl, ?_, ?_, ?_, fun _ => m7 (by omega), ?_, fun _ => m9 (by omega)⟩)⟩ <;> exact fun e => absurd e (by decide)
  · refine ⟨ne_d rfl, ne_d rfl, ne_d rfl, ne_d rfl, fun _ => ?_, ne_d rfl, ne_d rfl, ne_d rfl, fun e => absurd e (by decide)⟩
    have f := hp τ hS (fun ok => ⟨hS, fun e => absurd e (by decide), fun _ => m2 (by omega), fun _ => m3 (by omega), fun e => absurd e (by decide), fun e => absurd e (by decide), fun e => absurd e (by decide), fun _ => m7 (by omega), fun e => absurd e (by decide), fun _ => m9 (by omega)⟩)
    unfold wX12_takes_102
    by_cases q : c 4 = 58
    · rw [if_pos q]
      rw [show okB c 4 = true from decide_eq_true q] at f
      exact ⟨by decide, f⟩
    · rw [if_neg q]
      rw [show okB c 4 = false from decide_eq_false q] at f
      exact ⟨by decide, f⟩
  · refine ⟨ne_d rfl, ne_d rfl, ne_d rfl, ne_d rfl, ne_d rfl, fun _ => ?_, ne_d rfl, ne_d rfl, fun e => absurd e (by decide)⟩
    rw [e_within, ite_bI (b := okB c 5) (by rw [n2]; rw [dg19 n n1, ← n2]; rfl)]
    refine ⟨bI01 _, hp _ (hS.sV rfl) (fun ok => ⟨hS.sV rfl, ?_, fun _ => m2 (by omega), fun _ => m3 (by omega), fun _ => rfl, ?_, ?_, fun _ => m7 (by omega), ?_, fun _ => m9 (by omega)⟩)⟩ <;> exact fun e => absurd e (by decide)
  · refine ⟨ne_d rfl, ne_d rfl, ne_d rfl, ne_d rfl, ne_d rfl, ne_d rfl, fun _ => ?_, ne_d rfl, fun e => absurd e (by decide)⟩
    unfold wX12_takes_140
    rw [e_within, ite_bI (b := okB c 6) (by rw [n2]; rw [dg09 n n1, ← n2]; rfl), m4 rfl]
    refine ⟨bI01 _, hp _ (hS.sV rfl) (fun ok => ⟨hS.sV rfl, ?_, fun _ => m2 (by omega), fun _ => m3 (by omega), ?_, fun _ => rfl, ?_, fun _ => m7 (by omega), ?_, fun _ => m9 (by omega)⟩)⟩ <;> exact fun e => absurd e (by decide)
  · refine ⟨ne_d rfl, ne_d rfl, ne_d rfl, ne_d rfl, ne_d rfl, ne_d rfl, ne_d rfl, fun _ => ?_, fun e => absurd e (by decide)⟩
    unfold wX12_takes_140
    rw [e_within, ite_bI (b := okB c 7) (by rw [n2]; rw [dg09 n n1, ← n2]; rfl), m5 rfl]
    refine ⟨bI01 _, hp _ (hS.sV rfl) (fun ok => ⟨hS.sV rfl, ?_, fun _ => m2 (by omega), fun _ => m3 (by omega), ?_, ?_, fun _ => rfl, fun _ => m7 (by omega), ?_, fun _ => m9 (by omega)⟩)⟩ <;> exact fun e => absurd e (by decide)
  · refine ⟨ne_d rfl, ne_d rfl, ne_d rfl, ne_d rfl, ne_d rfl, ne_d rfl, ne_d rfl, ne_d rfl, fun _ => ?_⟩
    rw [if_pos (show nI 8 = 8 from rfl)]
    by_cases q : c 8 = 111
    · rw [if_pos q]
      have f := hp (sV τ 18 24 1) (hS.sV rfl) (fun ok => ⟨hS.sV rfl, fun e => absurd e (by decide), fun _ => m2 (by omega), fun _ => m3 (by omega), fun e => absurd e (by decide), fun e => absurd e (by decide), fun _ => m6 (by omega), fun e => absurd e (by decide), fun _ => rfl, fun _ => m9 (by omega)⟩)
      rw [show okB c 8 = true from decide_eq_true q] at f
      exact ⟨by decide, Or.inr rfl, f⟩
    · rw [if_neg q]
      have f := hp (sV τ 18 24 0) (hS.sV rfl) (fun ok => absurd (of_decide_eq_true (show decide (c 8 = 111) = true from ok)) q)
      rw [show okB c 8 = false from decide_eq_false q] at f
      exact ⟨by decide, Or.inl rfl, f⟩
  all_goals
    refine ⟨ne_d rfl, ne_d rfl, ne_d rfl, ne_d rfl, ne_d rfl, ne_d rfl, ne_d rfl, ne_d rfl, fun _ => ?_⟩
    rw [if_neg (by decide)]
    exact ⟨by decide, Or.inl rfl, hp (sV τ 18 24 0) (hS.sV rfl) (fun ok => by cases ok)⟩
