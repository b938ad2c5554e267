/-! PURE PART 10: restore -/
def bkM (σ : St) : St := sV (sV (sV (sV (sV σ 18 2 (σ.1 18 32)) 18 7 (σ.1 18 33)) 18 8 (σ.1 18 34)) 18 6 (σ.1 18 35)) 18 9 (σ.1 18 36)
theorem m_restore {σ : St} {Φ : Int32 → St → Prop} (h0 : σ.1 18 30 = 1) (h1 : σ.1 18 31 = σ.1 18 1) (h6 : σ.1 18 35 = 0 ∨ σ.1 18 35 = 1) (hp : Φ (σ.1 18 34) (rowW (rowW (bkM σ).1 21 6 (σ.1 28)) 22 6 (σ.1 29), σ.2)) : wX12_restore σ Φ := by
  unfold wX12_restore
  rw [h0, if_neg (by decide), if_pos h1]
  exact ⟨h6, i_backM (σ := bkM σ) hp⟩
theorem x_restore {σ : St} {nt hh ks : Nat} {Φ : Int32 → St → Prop} (h0 : σ.1 0 8 = 1) (h5 : σ.1 17 5 = 0 ∨ σ.1 17 5 = 1) (h6 : σ.1 17 6 = 0 ∨ σ.1 17 6 = 1) (hT : ThX σ nt) (hk : σ.1 4 3 = nI ks) (hks : ks ≤ nt) (hinj : ∀ i i', i < nt → i' < nt → σ.2.2.1 i = σ.2.2.1 i' → i = i')
    (hp : ∀ th T, (∀ i, i < ks → th i = σ.2.2.1 i) → (∀ a, T a 0 = σ.2.2.2.2.2 a 0 ∧ T a 1 = σ.2.2.2.2.2 a 1) → (∀ i, i < ks → ∀ a, th i = some a → T a 2 = σ.1 6 i) → Φ (σ.1 17 4) (up2 (cpC σ 3 17).1 4 2 (nI ks), σ.2.1, th, σ.2.2.2.1, σ.2.2.2.2.1, T)) : wX11_restore σ Φ := by
  unfold wX11_restore
  rw [h0, if_neg (by decide)]
  have hn := hT.1
  refine i_become3 h5 h6 ?_
  unfold wX6_goBack
  rw [show (cpC σ 3 17).1 4 3 = nI ks from hk]
  refine i_cut (σ := cpC σ 3 17) hn hks hT.2.1 (fun th hth => ?_)
  have hth' : ∀ i, i < ks → th i = σ.2.2.1 i := hth
  refine i_goB (σ := (up2 (cpC σ 3 17).1 4 2 (nI ks), (cpC σ 3 17).2.1, th, (cpC σ 3 17).2.2.2)) (ks := ks) (by omega) rfl (fun i hi => ?_) (fun i i' hi hi' e => ?_) (fun T hT2 => ?_)
  · obtain ⟨a, ha, hX⟩ := hT.2.2 i (by omega)
    exact ⟨a, (hth' i hi).trans ha, hX.isT⟩
  · refine hinj i i' (by omega) (by omega) ?_
    rw [← hth' i hi, ← hth' i' hi']
    exact e
  · exact hp th T hth' hT2.1 (fun i hi a ha => hT2.2 i (by omega) hi a ha)
theorem st_restore {j : Nat} {σ : St} {a1 a2 a3 : Int32} (hj : j < 512) (h : InvX j σ) : wL_19 σ a1 a2 a3 (InvX (j + 1)) := by
  have hn := inv_next h Sim.rfl'
  obtain ⟨np, nt, nk, w, hh, h1, h2, h3, h4, h5, h6⟩ := h
  have hR := inv_rdy (by omega) h2 h4
  obtain ⟨q5, q6, -⟩ := inv_eqs h1 h2 h3 h5
  obtain ⟨hT, hM, hB, x4, x8, hl2, hs2, hL⟩ := hR
  unfold wL_19
  rcases h6 with ⟨k0, k30⟩ | ⟨k1, k2, k3, k4, ⟨e0, e1, e2, e3, e4, e5, e6⟩, k6, k7, p, kh, ks, g1, g2, g3, g4, g5, g6, g7, g8⟩
  · unfold wX11_restore
    rw [if_pos (show σ.1 0 8 = 0 from k0)]
    unfold wX12_restore
    dsimp only
    by_cases z : σ.1 18 30 = 0
    · rw [if_pos z]
      exact fin_ok rfl hn
    · rw [if_neg z]
      rcases k30 with q | ⟨kw, r1, r2⟩
      · exact absurd q z
      · have r2' : σ.1 18 31 = nI kw := r2
        have h31 : σ.1 18 1 = nI w := h3.2.1
        have h33 := h3.2.2
        rw [r2', h31, if_neg (fun q => by have := (nI_eq (by omega) (by omega)).mp q; omega)]
        exact fin_ok rfl hn
  · obtain ⟨⟨b1, b2, b3, b4, b5, b6, b7⟩, d1, d2, d3, d4, d5⟩ := h2
    obtain ⟨c1, c2, c3, c4, c5, c6, c7, c8⟩ := h4
    have e5' : σ.1 17 5 = σ.1 3 5 := e5
    refine x_restore (nt := nt) (hh := hh) k1 (by rw [e5']; exact q5) k6 hT g5 g7 (fun i i' hi hi' e => c8 i i' hi hi' e) (fun th T t1 t2 t3 => ?_)
    refine m_restore k2 (Eq.trans k3 (Eq.symm h3.2.1)) (show σ.1 18 35 = 0 ∨ σ.1 18 35 = 1 by rw [show σ.1 18 35 = σ.1 17 6 from e6]; exact k6) ?_
    refine fin_ok (show σ.1 17 4 = σ.1 18 34 from Eq.symm e4) ?_
    rcases d5 with ⟨z, -⟩ | ⟨g0, -, s, b, p0, r2, r3, r4, r5, r6, r7, r8⟩
    · exact absurd (Eq.trans (Eq.symm z) k4) (by decide)
    unfold InvX
    refine ⟨np, ks, nk, w, kh, h1, ⟨⟨e0, Eq.trans b2 (Eq.symm e1), Eq.trans b3 (Eq.symm e2), e3, e4, Eq.trans b6 (Eq.symm e5), e6⟩, g3, by omega, ?_, k6, Or.inr ⟨g0, k7, s, b, p, Eq.trans e1 r2, r3, Eq.trans e2 r4, r5, r6, g1, g2⟩⟩, h3.mono, ⟨by omega, rfl, g6, fun _ => g0, fun i hi => ?_, fun i hi => ?_, fun i hi => ?_, fun i i' hi hi' e => ?_⟩, h5, Or.inr ⟨k1, k2, k3, k4, ⟨e0, rfl, rfl, e3, e4, rfl, e6⟩, k6, k7, p, kh, ks, g1, g2, g3, by omega, g5, g6, Nat.le_refl _, fun i hi => ?_⟩⟩
    · exact (show σ.1 17 5 = 0 ∨ σ.1 17 5 = 1 by rw [e5']; exact q5)
    · obtain ⟨a, f1, f2, f3, f4, f5, f6⟩ := c5 i (by omega)
      obtain ⟨y1, y2, y3, y4⟩ := g8 i hi
      have y1' : σ.1 28 i = σ.1 6 i := y1
      have y3' : σ.1 29 i = σ.1 22 i := y3
      have hi6 : i < 6 := by omega
      have f5' : σ.2.2.2.2.2 a 1 = σ.1 22 i := f5
      refine ⟨a, (t1 i hi).trans f1, f2, f3, ?_, ?_, ?_⟩
      · exact Eq.trans (t2 a).1 f4
      · simp [cl, scr, rowW, sV, up2, va_up, hi6, hi, cpC, bkM, (t2 a).2, f5', y3']
      · simp [cl, scr, rowW, sV, up2, va_up, hi6, hi, cpC, bkM, t3 i hi a ((t1 i hi).trans f1), y1']
    · obtain ⟨y1, y2, y3, c, y4, y5⟩ := g8 i hi
      obtain ⟨w', c', f1, f2, f3, f4⟩ := c6 i (by omega)
      have hi6 : i < 6 := by omega
      have y3' : σ.1 29 i = σ.1 22 i := y3
      have y4' : σ.1 22 i = nI c := y4
      refine ⟨w', c, f1, f2, ?_, y5⟩
      simp [cl, scr, rowW, sV, up2, va_up, hi6, hi, cpC, bkM, y3', y4']
    · obtain ⟨y1, y2, y3, y4⟩ := g8 i hi
      have y1' : σ.1 28 i = σ.1 6 i := y1
      have y2' : σ.1 6 i = 0 ∨ σ.1 6 i = 1 := y2
      have hi6 : i < 6 := by omega
      simpa [cl, scr, rowW, sV, up2, va_up, hi6, hi, cpC, bkM, y1'] using y2'
    · refine c8 i i' (by omega) (by omega) ?_
      have z1 := t1 i hi
      have z2 := t1 i' hi'
      exact Eq.trans (Eq.symm z1) (Eq.trans e z2)
    · obtain ⟨y1, y2, y3, c, y4, y5⟩ := g8 i hi
      have hi6 : i < 6 := by omega
      have y1' : σ.1 28 i = σ.1 6 i := y1
      have y3' : σ.1 29 i = σ.1 22 i := y3
      have y4' : σ.1 22 i = nI c := y4
      refine ⟨y1, y2, ?_, c, ?_, y5⟩
      · simp [cl, scr, rowW, sV, up2, va_up, hi6, hi, cpC, bkM]
      · simp [cl, scr, rowW, sV, up2, va_up, hi6, hi, cpC, bkM, y3', y4']
