/-! PURE PART 24: fault -/
theorem fw_le {c : Nat → Int32} : ∀ m i, fwN c m i ≤ i + m
  | 0, i => Nat.le_refl _
  | m + 1, i => by
    rw [fwN]
    split
    · have := fw_le (c := c) m (i + 1)
      omega
    · omega
theorem m_35 {σ τ : St} {np i : Nat} {Φ : St → Prop} (hS : Sim σ τ) (h17 : σ.1 18 17 = nI np) (hn : np ≤ 12) (hi : i ≤ np) (hp : Φ (sV (sV τ 18 19 (nI i)) 18 20 (if i = np ∧ 8 ≤ i then 1 else 0))) : wX12_readWire_35 Φ τ (nI i) := by
  unfold wX12_readWire_35
  have e : (sV τ 18 19 (nI i)).1 18 17 = nI np := (hS.at 18 17 rfl).trans h17
  rw [e]
  by_cases q : i = np
  · rw [if_pos (by rw [q])]
    by_cases r : i ≤ 7
    · rw [if_pos (show nI i ≤ 7 from nI_le (b := 7) r (by omega))]
      rw [if_neg (by omega)] at hp
      exact ⟨by decide, hp⟩
    · rw [if_neg (show ¬ nI i ≤ 7 from nI_ge (a := 7) (by omega) (by omega))]
      rw [if_pos (by omega)] at hp
      exact ⟨by decide, hp⟩
  · rw [if_neg (fun z => q ((nI_eq (by omega) (by omega)).mp z))]
    rw [if_neg (fun z => q z.1)] at hp
    exact ⟨by decide, hp⟩
theorem m_read {σ : St} {np : Nat} {Φ : St → Prop} (h17 : σ.1 18 17 = nI np) (hn : np ≤ 12) (hc : ∀ k, k < np → ∃ n, n < 127 ∧ σ.1 2 k = nI n) (h25 : ∀ k, k < np → σ.1 25 k = σ.1 2 k)
    (hp : ∀ τ, Sim σ τ → τ.1 18 19 = nI (fwN (σ.1 2) np 0) → τ.1 18 20 = (if fwN (σ.1 2) np 0 = np ∧ 8 ≤ fwN (σ.1 2) np 0 then 1 else 0) → (fwN (σ.1 2) np 0 = np → MW σ τ (σ.1 2) np) → Φ τ) : wX12_readWire σ Φ := by
  have key : ∀ m i, i + m = np → fwN (σ.1 2) m i = fwN (σ.1 2) np 0 → ∀ τ, MW σ τ (σ.1 2) i → wX12_readWire_7 Φ (m + 1) τ (nI i) := by
    intro m
    induction m with
    | zero =>
      intro i hi hR τ hM
      have : i = np := by omega
      subst this
      have hS := hM.1
      rw [wX12_readWire_7, (hS.at 18 17 rfl).trans h17, if_pos (nI_le (Nat.le_refl _) (by omega))]
      refine m_35 hS h17 hn (Nat.le_refl _) ?_
      rw [fwN] at hR
      refine hp _ ((hS.sV rfl).sV rfl) ?_ ?_ (fun _ => ?_)
      · rw [← hR]; rfl
      · rw [← hR]; rfl
      · obtain ⟨-, m1, m2, m3, m4, m5, m6, m7, m8, m9⟩ := hM
        exact ⟨(hS.sV rfl).sV rfl, m1, m2, m3, m4, m5, m6, m7, m8, m9⟩
    | succ m ih =>
      intro i hi hR τ hM
      have hS := hM.1
      rw [wX12_readWire_7, (hS.at 18 17 rfl).trans h17, if_neg (nI_ge (by omega) (by omega)), nI_clamp (by omega), hS.at 25 i rfl, h25 i (by omega)]
      refine ⟨vp_in_nI (by omega) (by omega), ?_⟩
      refine m_takes (σ := σ) (i := i) (by omega) (fun k hk => hc k (by omega)) hM (fun τ' hS' hok => ?_)
      rw [fwN] at hR
      by_cases q : okB (σ.1 2) i = true
      · rw [q, if_neg (by decide), nI_1]
        rw [if_pos q] at hR
        exact ih (i + 1) (by omega) hR τ' (hok q)
      · rw [if_neg q] at hR
        have q' : okB (σ.1 2) i = false := by simpa using q
        rw [q', if_pos (show bI false = 0 from rfl)]
        refine m_35 hS' h17 hn (by omega) ?_
        refine hp _ ((hS'.sV rfl).sV rfl) ?_ ?_ (fun z => by omega)
        · rw [← hR]; rfl
        · rw [← hR]; rfl
  refine ⟨by decide, np + 1, key np 0 (by omega) rfl _ ⟨Sim.rfl'.sV rfl, ?_, ?_, ?_, ?_, ?_, ?_, fun _ => rfl, ?_, ?_⟩⟩ <;> exact fun e => absurd e (by decide)
theorem inv_pg {σ : St} {np : Nat} (h1 : IPg (cl σ.1) np) : (∀ k, k < np → ∃ n, n < 127 ∧ σ.1 2 k = nI n) ∧ ∀ k, k < np → σ.1 25 k = σ.1 2 k := by
  refine ⟨fun k hk => ?_, fun k hk => ?_⟩
  · obtain ⟨d1, c, d2, d3, d4⟩ := h1.2.2.2 k hk
    exact ⟨c, d3, d4⟩
  · exact Eq.symm (h1.2.2.2 k hk).1
theorem st_fault {j : Nat} {σ : St} {a1 a2 a3 : Int32} (hj : j < 512) (h : InvX j σ) : wL_2 σ a1 a2 a3 (InvX (j + 1)) := by
  have hI := h
  obtain ⟨np, nt, nk, w, hh, h1, h2, h3, h4, h5, h6⟩ := h
  obtain ⟨k1, k2⟩ := inv_pg h1
  unfold wL_2 wX11_fault
  refine x_first h1.2.1 h1.1 ?_
  unfold wX12_fault
  refine m_read h1.2.2.1 h1.1 k1 k2 (fun τ hS e1 e2 e3 => ?_)
  rw [e1]
  exact fin_ok rfl (inv_next hI hS)
