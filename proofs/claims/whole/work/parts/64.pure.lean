/-! PURE PART 35: digest, the call; the step -/
theorem st_digest {j : Nat} {σ : St} {a1 a2 a3 : Int32} (hj : j < 512) (h : InvX j σ) : wL_21 σ a1 a2 a3 (InvX (j + 1)) := by
  have hI := h
  obtain ⟨np, nt, nk, w, hh, h1, h2, h3, h4, h5, h6⟩ := h
  have hR := inv_rdy (by omega) h2 h4
  have hE := inv_eqs h1 h2 h3 h5
  obtain ⟨q5, q6, e4, e5, e6, e7, -⟩ := hE
  have hP : ∀ i, i < nt → σ.1 21 i = 0 ∨ σ.1 21 i = 1 := fun i hi => h4.2.2.2.2.2.2.1 i hi
  have hh6 : hh ≤ 600 := by have := h2.2.2.1; omega
  have hD : DG σ np nt nk hh (fun i => (σ.1 23 i).toNatClampNeg) (fun i => (σ.1 24 i).toNatClampNeg) := ⟨hR, inv_eqs h1 h2 h3 h5, inv_ft h5, h1.1, h1.2.1, h1.2.2.1, fun i hi => (h1.2.2.2 i hi).1⟩
  have hwi : (σ.1 18 0 = 0 ∧ ¬ 0 < σ.1 3 0) ∨ (¬ σ.1 18 0 = 0 ∧ 0 < σ.1 3 0) := by
    rcases inv_wire h2 with ⟨a, b⟩ | ⟨a, b⟩
    · exact Or.inl ⟨a, b⟩
    · exact Or.inr ⟨by rw [a]; decide, b⟩
  obtain ⟨A, hA⟩ : ∃ A, loN (fun i => (σ.1 23 i).toNatClampNeg) (fun i => (σ.1 24 i).toNatClampNeg) nk = A := ⟨_, rfl⟩
  obtain ⟨B, hB⟩ : ∃ B, hiN (fun i => (σ.1 23 i).toNatClampNeg) (fun i => (σ.1 24 i).toNatClampNeg) nk = B := ⟨_, rfl⟩
  unfold wL_21
  have fin : ∀ OT : Int64 → Int64, (0 < σ.1 3 0 ∧ σ.1 3 6 = 0 → ∀ (h0 : Int64) (Ψ : Int64 → St → Prop), (∀ τ, Sim σ τ → Ψ (OT h0) τ) → wX11_withOutlook σ h0 Ψ) →
      (0 < σ.1 3 0 ∧ σ.1 3 6 = 0 → ∀ (h0 : Int64) (τ : St) (Ψ : Int64 → St → Prop), SD σ τ h0 → (∀ τ, SD σ τ (OT h0) → wX12_digest_169 Ψ τ) → wX12_digest_53 Ψ (0 + 1) τ (nI nt)) →
      wX11_digest σ (fun r1 σ1 => wX12_digest σ1 (fun r2 σ2 => (if (lg_cmp r1 r2) = 0 then InvX (j + 1) σ2 else False))) := by
    intro OT x1 x2
    refine x_digest hD hA hB x1 (fun τ S => ?_)
    refine m_digest hD hA hB hwi S x2 (fun τ' S' => ?_)
    exact fin_okL rfl (inv_next hI S')
  by_cases q : 0 < σ.1 3 0 ∧ σ.1 3 6 = 0
  · rcases h2.2.2.2.2.2 with ⟨g0, g1, -⟩ | ⟨g0, g1, s, b, p, g2, g3, g4, g5, g6, g7, g8⟩
    · exact absurd q.1 (by rw [show σ.1 3 0 = 0 from g1]; decide)
    · have w0 : ¬ σ.1 18 0 = 0 := by rw [show σ.1 18 0 = 1 from g0]; decide
      have hW : WH σ nt hh s b := ⟨hR, g1, g2, g3, g4, g5, g6, e4, e5⟩
      obtain ⟨L, h0, hL1, hL2⟩ := len_nat (v := σ.1 3 0) g1
      obtain ⟨F, hF⟩ : ∃ F, soF σ.1 nt hh L 100 13 0 = F := ⟨_, rfl⟩
      obtain ⟨H, hH⟩ : ∃ H, hdN σ.1 nt hh b = H := ⟨_, rfl⟩
      obtain ⟨E, hEv⟩ : ∃ E : Int32 → Int32, ∀ v, evR σ.1 nt hh v = E v := ⟨_, fun v => rfl⟩
      exact fin (otD E F H) (fun _ h0' Ψ hp => x_outlook hF hH hEv hW hh6 h0 ⟨hL1, hL2⟩ q.2 hP hp) (fun _ h0' τ Ψ S hp => m_outlook S hF hH hEv hW hh6 h0 ⟨hL1, hL2⟩ hR.2.1 w0 (e6.trans q.2) hp)
  · exact fin id (fun z => absurd z q) (fun z => absurd z q)
theorem inv_step : ∀ j σ c a1 a2 a3, j < 512 → InvX j σ → wLaw σ c a1 a2 a3 (InvX (j + 1)) := by
  intro j σ c a1 a2 a3 hj h
  unfold wLaw
  exact ⟨fun _ => st_letters hj h, fun _ => st_blank h, fun _ => st_fault hj h, fun _ => st_wire hj h, fun _ => st_cabin hj h, fun _ => st_thing hj h, fun _ => st_about hj h, fun _ => st_as hj h, fun _ => st_carry hj h, fun _ => st_hour hj h, fun _ => st_even hj h, fun _ => st_soonest hj h, fun _ => st_caught hj h, fun _ => st_weighed hj h, fun _ => st_forget h, fun _ => st_fits hj h, fun _ => st_lasts hj h, fun _ => st_whirls hj h, fun _ => st_image hj h, fun _ => st_restore hj h, fun _ => st_count hj h, fun _ => st_digest hj h, fun _ => inv_next h Sim.rfl'⟩
