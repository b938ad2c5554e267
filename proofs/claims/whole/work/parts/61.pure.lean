/-! PURE PART 32: soonest, the call -/
theorem st_soonest {j : Nat} {σ : St} {a1 a2 a3 : Int32} (hj : j < 512) (h : InvX j σ) : wL_11 σ a1 a2 a3 (InvX (j + 1)) := by
  have hI := h
  have hn := inv_next h Sim.rfl'
  obtain ⟨np, nt, nk, w, hh, h1, h2, h3, h4, h5, h6⟩ := h
  have hR := inv_rdy (by omega) h2 h4
  obtain ⟨q5, q6, e4, e5, e6, e7, -⟩ := inv_eqs h1 h2 h3 h5
  have hh6 : hh ≤ 600 := by have := h2.2.2.1; omega
  unfold wL_11
  by_cases c1 : 1 ≤ a1 ∧ a1 ≤ 9999
  · by_cases c2 : 0 ≤ a2 ∧ a2 ≤ 1
    · have mN : ∀ v : Int32, v = 0 ∨ ¬ σ.1 18 6 = 0 → σ.1 18 0 = v → wX12_soonest σ a1 a2 (fun r2 σ2 => if (-103 : Int32) = r2 then InvX (j + 1) σ2 else False) := by
        intro v hv h0
        unfold wX12_soonest
        rw [e_within, if_pos c1, if_neg (by decide), e_within, if_pos c2, if_neg (by decide)]
        by_cases q : σ.1 18 0 = 0
        · rw [if_pos q]; exact fin_ok rfl hn
        · rw [if_neg q]
          rw [if_neg (show ¬ σ.1 18 6 = 0 from hv.elim (fun z => absurd (h0.trans z) q) id)]
          exact fin_ok rfl hn
      rcases h2.2.2.2.2.2 with ⟨g0, g1, -⟩ | ⟨g0, g1, s, b, p, g2, g3, g4, g5, g6, g7, g8⟩
      · unfold wX11_soonest
        rw [if_neg (nlt_of c1.1), if_neg (nlt_of c1.2), if_neg (nlt_of c2.1), if_pos c2.2, e_isWhole]
        rw [if_neg (show ¬ (0 < σ.1 3 0 ∧ σ.1 3 6 = 0) from fun q => by rw [show σ.1 3 0 = 0 from g1] at q; exact absurd q.1 (by decide)), if_pos rfl]
        exact mN 0 (Or.inl rfl) g0
      · have w0 : ¬ σ.1 18 0 = 0 := by rw [show σ.1 18 0 = 1 from g0]; decide
        have hW : WH σ nt hh s b := ⟨hR, g1, g2, g3, g4, g5, g6, e4, e5⟩
        by_cases hbr : σ.1 3 6 = 0
        · obtain ⟨L, h0, hL1, hL2⟩ := len_nat (v := σ.1 3 0) g1
          obtain ⟨F, hF⟩ : ∃ F, soF σ.1 nt hh L a1 13 0 = F := ⟨_, rfl⟩
          refine x_soonC hF hW hh6 h0 ⟨hL1, hL2⟩ hbr c1 c2 (fun τ hS => ?_)
          unfold wX12_soonest
          rw [e_within, if_pos c1, if_neg (by decide), e_within, if_pos c2, if_neg (by decide), hS.at 18 0 rfl, if_neg w0, hS.at 18 6 rfl, if_pos (e6.trans hbr)]
          exact m_soonC ((so_sim hS 13 0).trans hF) (hW.sim hS) hh6 ((hS.at 3 0 rfl).trans h0) ⟨hL1, hL2⟩ (fun τ' hS' => fin_ok rfl (inv_next hI (hS.tr hS'.1)))
        · unfold wX11_soonest
          rw [if_neg (nlt_of c1.1), if_neg (nlt_of c1.2), if_neg (nlt_of c2.1), if_pos c2.2, e_isWhole]
          rw [if_neg (show ¬ (0 < σ.1 3 0 ∧ σ.1 3 6 = 0) from fun q => hbr q.2), if_pos rfl]
          exact mN 1 (Or.inr (by rw [e6]; exact hbr)) g0
    · have m : wX12_soonest σ a1 a2 (fun r2 σ2 => if (-102 : Int32) = r2 then InvX (j + 1) σ2 else False) := by
        unfold wX12_soonest
        rw [e_within, if_pos c1, if_neg (by decide), e_within, if_neg c2, if_pos rfl]
        exact fin_ok rfl hn
      unfold wX11_soonest
      rw [if_neg (nlt_of c1.1), if_neg (nlt_of c1.2)]
      by_cases q : a2 < 0
      · rw [if_pos q]; exact m
      · rw [if_neg q, if_neg (show ¬ a2 ≤ 1 by grind)]; exact m
  · have m : wX12_soonest σ a1 a2 (fun r2 σ2 => if (-102 : Int32) = r2 then InvX (j + 1) σ2 else False) := by
      unfold wX12_soonest
      rw [e_within, if_neg c1, if_pos rfl]
      exact fin_ok rfl hn
    unfold wX11_soonest
    by_cases q : a1 < 1
    · rw [if_pos q]; exact m
    · rw [if_neg q, if_pos (show 9999 < a1 by grind)]; exact m
