/-! PURE PART 19: even, the call; letters -/
theorem st_even {j : Nat} {σ : St} {a1 a2 a3 : Int32} (hj : j < 512) (h : InvX j σ) : wL_10 σ a1 a2 a3 (InvX (j + 1)) := by
  have hI := h
  have hn := inv_next h Sim.rfl'
  obtain ⟨np, nt, nk, w, hh, h1, h2, h3, h4, h5, h6⟩ := h
  have hR := inv_rdy (by omega) h2 h4
  obtain ⟨q5, q6, e4, e5, e6, e7, -⟩ := inv_eqs h1 h2 h3 h5
  have hP : ∀ i, i < nt → σ.1 21 i = 0 ∨ σ.1 21 i = 1 := fun i hi => h4.2.2.2.2.2.2.1 i hi
  unfold wL_10
  by_cases c1 : 0 ≤ a1 ∧ a1 ≤ 1
  · rcases h2.2.2.2.2.2 with ⟨g0, g1, -⟩ | ⟨g0, g1, s, b, p, g2, g3, g4, g5, g6, g7, g8⟩
    · unfold wX11_even
      rw [if_neg (show ¬ a1 < 0 by grind), if_pos c1.2, e_isWhole]
      rw [if_neg (show ¬ (0 < σ.1 3 0 ∧ σ.1 3 6 = 0) from fun q => by rw [show σ.1 3 0 = 0 from g1] at q; exact absurd q.1 (by decide)), if_pos rfl]
      unfold wX12_even
      dsimp only
      rw [e_within, if_pos c1, if_neg (by decide), if_pos (show σ.1 18 0 = 0 from g0)]
      exact fin_ok rfl hn
    · have w0 : ¬ σ.1 18 0 = 0 := by rw [show σ.1 18 0 = 1 from g0]; decide
      have hW : WH σ nt hh s b := ⟨hR, g1, g2, g3, g4, g5, g6, e4, e5⟩
      by_cases hbr : σ.1 3 6 = 0
      · refine x_evenC hW hbr hP c1 (fun τ hS => ?_)
        unfold wX12_even
        rw [e_within, if_pos c1, if_neg (by decide), hS.at 18 0 rfl, if_neg w0, hS.at 18 6 rfl, if_pos (e6.trans hbr)]
        have hRel := hS.rel
        have hWτ : WH τ nt hh s b := by
          obtain ⟨hT, hM, hB, x4, x8, hl2, hsp, hL⟩ := hR
          refine ⟨⟨hRel.thx hT, (hS.at 18 9 rfl).trans hM, hRel.tb hB, (hS.at 3 4 rfl).trans x4, (hS.at 18 8 rfl).trans x8, ?_, ?_, ?_⟩, ?_, ?_, g3, ?_, g5, g6, ?_, ?_⟩
          · rw [hS.at 18 2 rfl, hS.at 3 0 rfl]; exact hl2
          · rw [hS.at 18 3 rfl, hS.at 3 1 rfl]; exact hsp
          · rw [hS.at 3 0 rfl]; exact hL
          · rw [hS.at 3 0 rfl]; exact g1
          · rw [hS.at 3 1 rfl]; exact g2
          · rw [hS.at 3 2 rfl]; exact g4
          · rw [hS.at 18 4 rfl, hS.at 3 2 rfl]; exact e4
          · rw [hS.at 18 5 rfl, hS.at 3 5 rfl]; exact e5
        refine m_evenNow hWτ (fun τ' hS' => ?_)
        have ee : evR τ.1 nt hh a1 = evR σ.1 nt hh a1 := by
          have r30 : τ.1 3 0 = σ.1 3 0 := hS.at 3 0 rfl
          have r31 : τ.1 3 1 = σ.1 3 1 := hS.at 3 1 rfl
          have eb : bgo τ.1 nt = bgo σ.1 nt := by
            funext i
            unfold bgo
            rw [hS.at 19 i rfl, r30, r31]
          have eg : ∀ n, gpS τ.1 nt hh n = gpS σ.1 nt hh n := by
            intro n
            unfold gpS cab2
            rw [r30, r31, hRel.cab, hRel.cab]
          have es : ∀ n, smS τ.1 nt hh n = smS σ.1 nt hh n := by
            intro n
            unfold smS
            rw [show (fun i => wgV τ.1 (nI hh) i) = (fun i => wgV σ.1 (nI hh) i) from funext fun i => hRel.wg _ _]
          have ev : ∀ n, evS τ.1 nt hh n = evS σ.1 nt hh n := by
            intro n
            induction n with
            | zero => rw [evS, evS]
            | succ n ih => rw [evS, evS, ih, eb, eg, es]
          unfold evR
          rw [ev]
        exact fin_ok ee.symm (inv_next hI (hS.tr hS'.1))
      · unfold wX11_even
        rw [if_neg (show ¬ a1 < 0 by grind), if_pos c1.2, e_isWhole]
        rw [if_neg (show ¬ (0 < σ.1 3 0 ∧ σ.1 3 6 = 0) from fun q => hbr q.2), if_pos rfl]
        unfold wX12_even
        dsimp only
        rw [e_within, if_pos c1, if_neg (by decide), if_neg w0, if_neg (show ¬ σ.1 18 6 = 0 by rw [e6]; exact hbr)]
        exact fin_ok rfl hn
  · have m : wX12_even σ a1 (fun r2 σ2 => if (-102 : Int32) = r2 then InvX (j + 1) σ2 else False) := by
      unfold wX12_even
      rw [e_within, if_neg c1, if_pos rfl]
      exact fin_ok rfl hn
    unfold wX11_even
    by_cases q : a1 < 0
    · rw [if_pos q]; exact m
    · rw [if_neg q, if_neg (show ¬ a1 ≤ 1 by grind)]; exact m
