def InvX (j : Nat) (σ : St) : Prop := True
theorem inv_0 : InvX 0 st0 := trivial
theorem inv_step : ∀ j σ c a1 a2 a3, j < 512 → InvX j σ → wLaw σ c a1 a2 a3 (InvX (j + 1)) := sorry
