/-! PURE PART 12: whirls, the two sides -/
theorem sw2 {v : Int32} (h : 0 ≤ v ∧ v ≤ 2) : v = 0 ∨ v = 1 ∨ v = 2 := by grind
theorem st_whirls {j : Nat} {σ : St} {a1 a2 a3 : Int32} (hj : j < 512) (h : InvX j σ) : wL_17 σ a1 a2 a3 (InvX (j + 1)) := by
  have hI := h
  have hn := inv_next h Sim.rfl'
  obtain ⟨np, nt, nk, w, hh, h1, h2, h3, h4, h5, h6⟩ := h
  have hR := inv_rdy (by omega) h2 h4
  obtain ⟨q5, q6, e4, e5, e6, e7, -⟩ := inv_eqs h1 h2 h3 h5
  obtain ⟨hT, hM, hB, x4, x8, hl2, hs2, hL⟩ := hR
  have hhj : hh ≤ j := h2.2.2.1
  unfold wL_17 wX11_whirls
  by_cases c1 : 1 ≤ a1 ∧ a1 ≤ 60
  · rw [if_neg (show ¬ a1 < 1 by grind), if_neg (show ¬ 60 < a1 by grind)]
    by_cases c2 : a2 < 0
    · rw [if_pos c2]
      unfold wX12_whirls
      dsimp only
      rw [e_within, if_pos c1, if_neg (by decide), if_pos c2]
      exact fin_ok rfl hn
    · rw [if_neg c2]
      by_cases c3 : 0 ≤ a3 ∧ a3 ≤ 3
      · rw [if_neg (show ¬ a3 < 0 by grind), if_pos c3.2, e_isWhole]
        rcases h2.2.2.2.2.2 with ⟨g0, g1, -⟩ | ⟨g0, g1, s, b, p, g2, g3, g4, g5, g6, g7, g8⟩
        · rw [if_neg (show ¬ (0 < σ.1 3 0 ∧ σ.1 3 6 = 0) from fun q => by rw [show σ.1 3 0 = 0 from g1] at q; exact absurd q.1 (by decide)), if_pos rfl]
          unfold wX12_whirls
          dsimp only
          rw [e_within, if_pos c1, if_neg (by decide), if_neg c2, e_within, if_pos c3, if_neg (by decide), if_pos (show σ.1 18 0 = 0 from g0)]
          exact fin_ok rfl hn
        · have w0 : ¬ σ.1 18 0 = 0 := by rw [show σ.1 18 0 = 1 from g0]; decide
          have l0 : 0 < σ.1 3 0 := by have : 10 ≤ σ.1 3 0 := g1.1; grind
          by_cases hbr : σ.1 3 6 = 0
          · rw [if_pos (show 0 < σ.1 3 0 ∧ σ.1 3 6 = 0 from ⟨l0, hbr⟩), if_neg (by decide)]
            obtain ⟨N, rfl, n1, n2⟩ := bound_nat (lo := 1) (hi := 60) c1.1 c1.2 (by omega) (by omega)
            obtain ⟨sd, sd1, rfl⟩ := nI_of c2
            have g2' : σ.1 3 1 = nI s := g2
            have g4' : σ.1 3 2 = nI b := g4
            have g7' : σ.1 3 3 = nI p := g7
            unfold wX11_tryHours
            refine i_become16 q5 q6 ?_
            have s16 : Sim σ (cpC σ 16 3) := ((((((Sim.rfl'.sV rfl).sV rfl).sV rfl).sV rfl).sV rfl).sV rfl).sV rfl
            refine ⟨N + 1, x_try (σ := σ) (nt := nt) (h0 := hh) (ss := s) (N := N) (bears := nI b) hT hB g3 n2 N 0 (by omega) (cpC σ 16 3) (σ.1 3 0) p hh 0 sd s16 rfl g2' g4' g7' x4 hbr g8 g1 (Nat.le_refl _) (by omega) sd1 (fun τ hS t0 t3 t4 => ?_)⟩
            have hRt := hS.rel
            obtain ⟨r1, r2, r3, r4, ew⟩ : ∃ r1 r2 r3 r4, wr σ.1 nt (nI s) (nI b) N (σ.1 3 0) p hh 0 sd = (r1, r2, r3, r4) := ⟨_, _, _, _, rfl⟩
            have hM' : ∀ r : Int32, (r = if a3 = 0 then r1 else if a3 = 1 then nI r2 else if a3 = 2 then nI r3 - nI hh else nI r4) → wX12_whirls τ (nI N) (nI sd) a3 (fun r2 σ2 => if r = r2 then InvX (j + 1) σ2 else False) := by
              intro r hr
              unfold wX12_whirls
              have k0 : ¬ τ.1 18 0 = 0 := by rw [hRt.1 18 0 rfl (by omega)]; exact w0
              have k6 : τ.1 18 6 = 0 := by rw [hS.at 18 6 rfl, e6]; exact hbr
              have k2 : τ.1 18 2 = σ.1 3 0 := by rw [hS.at 18 2 rfl]; exact hl2
              have k7 : τ.1 18 7 = nI p := by rw [hS.at 18 7 rfl, e7]; exact g7'
              have k8 : τ.1 18 8 = nI hh := by rw [hS.at 18 8 rfl]; exact x8
              rw [e_within, if_pos c1, if_neg (by decide), if_neg c2, e_within, if_pos c3, if_neg (by decide), if_neg k0, if_pos k6]
              unfold wX12_whirlsNow
              rw [nI_l sd1]
              have hB' : TB τ.1 nt hh := hRt.tb hB
              have ecab : wr τ.1 nt (nI s) (nI b) N (σ.1 3 0) p hh 0 sd = wr σ.1 nt (nI s) (nI b) N (σ.1 3 0) p hh 0 sd := by
                have : ∀ n l p h br s', wr τ.1 nt (nI s) (nI b) n l p h br s' = wr σ.1 nt (nI s) (nI b) n l p h br s' := by
                  intro n
                  induction n with
                  | zero => intro l p h br s'; rw [wr, wr]
                  | succ n ih =>
                    intro l p h br s'
                    rw [wr, wr]
                    split
                    · rw [ih]
                      unfold brS cab2
                      rw [hRt.cab, hRt.cab]
                    · rfl
                exact this _ _ _ _ _ _
              refine ⟨N + 1, m_try (σ := τ) (nt := nt) (h0 := hh) (ss := s) (N := N) (bears := nI b) (by rw [hS.at 18 9 rfl]; exact hM) hB' (by rw [hS.at 18 3 rfl, hs2]; exact g2') (by rw [hS.at 18 4 rfl, e4]; exact g4') g3 n2 N 0 (by omega) (sJ τ 0 (lN sd)) (σ.1 3 0) p hh 0 sd (Sim.rfl'.rel.sJ) k2 k7 k8 (Or.inl rfl) rfl g8 g1 (Nat.le_refl _) (by omega) sd1 (fun τ' hR' u0 u3 u4 uJ => ?_)⟩
              rw [ecab] at u0 u3 u4 uJ
              rw [ew] at u0 u3 u4 uJ
              have fin : InvX (j + 1) (sV (sV (sV (sV τ' 18 2 (τ.1 18 2)) 18 7 (τ.1 18 7)) 18 8 (τ.1 18 8)) 18 6 0) := inv_next hI (hS.tr (rel_sim hR' rfl rfl rfl k6))
              unfold wX12_whirlsNow_86 wX12_whirlsNow_129
              rcases sw3 c3 with rfl | rfl | rfl | rfl
              · rw [if_pos rfl]
                rw [if_pos rfl] at hr
                exact ⟨by decide, fin_ok (hr.trans u0.symm) fin⟩
              · rw [if_neg (by decide), if_pos rfl]
                rw [if_neg (by decide), if_pos rfl] at hr
                exact ⟨by decide, fin_ok (hr.trans u3.symm) fin⟩
              · rw [if_neg (by decide), if_neg (by decide), if_pos rfl]
                rw [if_neg (by decide), if_neg (by decide), if_pos rfl] at hr
                exact ⟨by decide, fin_ok (by rw [hr, u4, k8]) fin⟩
              · rw [if_neg (by decide), if_neg (by decide), if_neg (by decide)]
                rw [if_neg (by decide), if_neg (by decide), if_neg (by decide)] at hr
                exact ⟨by decide, fin_ok (by rw [hr, uJ, lN_i]) fin⟩
            rw [ew] at t0 t3 t4 ⊢
            rcases sw3 c3 with rfl | rfl | rfl | rfl
            · refine ⟨fun _ => ?_, ne_d rfl, ne_d rfl, fun e => absurd e (by decide)⟩
              exact hM' _ (by rw [if_pos rfl]; exact t0)
            · refine ⟨ne_d rfl, fun _ => ?_, ne_d rfl, fun e => absurd e (by decide)⟩
              exact hM' _ (by rw [if_neg (by decide), if_pos rfl]; exact t3)
            · refine ⟨ne_d rfl, ne_d rfl, fun _ => ?_, fun e => absurd e (by decide)⟩
              exact hM' _ (by rw [if_neg (by decide), if_neg (by decide), if_pos rfl, t4, hS.at 3 4 rfl, x4])
            · refine ⟨ne_d rfl, ne_d rfl, ne_d rfl, fun _ => ?_⟩
              exact hM' _ (by rw [if_neg (by decide), if_neg (by decide), if_neg (by decide)])
          · rw [if_neg (show ¬ (0 < σ.1 3 0 ∧ σ.1 3 6 = 0) from fun q => hbr q.2), if_pos rfl]
            unfold wX12_whirls
            dsimp only
            rw [e_within, if_pos c1, if_neg (by decide), if_neg c2, e_within, if_pos c3, if_neg (by decide), if_neg w0, if_neg (show ¬ σ.1 18 6 = 0 by rw [e6]; exact hbr)]
            exact fin_ok rfl hn
      · have m : wX12_whirls σ a1 a2 a3 (fun r2 σ2 => if (-102 : Int32) = r2 then InvX (j + 1) σ2 else False) := by
          unfold wX12_whirls
          rw [e_within, if_pos c1, if_neg (by decide), if_neg c2, e_within, if_neg c3, if_pos rfl]
          exact fin_ok rfl hn
        by_cases q : a3 < 0
        · rw [if_pos q]; exact m
        · rw [if_neg q, if_neg (show ¬ a3 ≤ 3 by grind)]; exact m
  · have m : wX12_whirls σ a1 a2 a3 (fun r2 σ2 => if (-102 : Int32) = r2 then InvX (j + 1) σ2 else False) := by
      unfold wX12_whirls
      rw [e_within, if_neg c1, if_pos rfl]
      exact fin_ok rfl hn
    by_cases q : a1 < 1
    · rw [if_pos q]; exact m
    · rw [if_neg q, if_pos (show 60 < a1 by grind)]; exact m
