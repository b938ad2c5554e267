/-! PURE PART 5: calls that change what is kept: blank, forget, weighed, carry -/
theorem cl_sV {σ : St} {k b : Nat} {v : Int32} (h : scr k b = false) : cl (sV σ k b v).1 = up2 (cl σ.1) k b v := cl_up h
theorem st_blank {j : Nat} {σ : St} {a1 a2 a3 : Int32} (h : InvX j σ) : wL_1 σ a1 a2 a3 (InvX (j + 1)) := by
  obtain ⟨np, nt, nk, w, hh, h1, h2, h3, h4, h5, h6⟩ := h
  unfold wL_1 wX11_blank wX7_emptied wX12_blank
  refine fin_ok (show σ.1 1 1 = σ.1 18 17 from Eq.trans h1.2.1 (Eq.symm h1.2.2.1)) ?_
  unfold InvX
  rw [cl_sV rfl, cl_sV rfl]
  exact ⟨0, nt, nk, w, hh, ⟨by omega, rfl, rfl, fun i hi => by omega⟩, h2.mono, h3.mono, h4, h5, h6.mono⟩
theorem st_forget {j : Nat} {σ : St} {a1 a2 a3 : Int32} (h : InvX j σ) : wL_14 σ a1 a2 a3 (InvX (j + 1)) := by
  obtain ⟨np, nt, nk, w, hh, h1, h2, h3, h4, h5, h6⟩ := h
  unfold wL_14 wX11_forget wX10_emptied wX12_forget
  refine fin_ok (show σ.1 7 2 = σ.1 18 14 from Eq.trans h5.2.1 (Eq.symm h5.2.2.1)) ?_
  unfold InvX
  rw [cl_sV rfl, cl_sV rfl]
  exact ⟨np, nt, 0, w, hh, h1, h2.mono, h3.mono, h4, ⟨by omega, rfl, rfl, fun i hi => by omega⟩, h6.mono⟩
theorem bound_nat {v : Int32} {lo hi : Nat} (hl : nI lo ≤ v) (hh : v ≤ nI hi) (h1 : lo < 2 ^ 31) (h2 : hi < 2 ^ 31) : ∃ n, v = nI n ∧ lo ≤ n ∧ n ≤ hi := by
  have h0 : ¬ v < 0 := by
    have : 0 ≤ nI lo := nI_pos' h1
    grind
  obtain ⟨n, hn, rfl⟩ := nI_of h0
  exact ⟨n, rfl, (nI_leI h1 hn).mp hl, (nI_leI hn h2).mp hh⟩
theorem st_weighed {j : Nat} {σ : St} {a1 a2 a3 : Int32} (hj : j < 512) (h : InvX j σ) : wL_13 σ a1 a2 a3 (InvX (j + 1)) := by
  have hn := inv_next h Sim.rfl'
  obtain ⟨np, nt, nk, w, hh, h1, h2, h3, h4, h5, h6⟩ := h
  obtain ⟨d1, d2, d3, d4⟩ := h5
  have d2' : σ.1 7 2 = nI nk := d2
  have d3' : σ.1 18 14 = nI nk := d3
  unfold wL_13 wX11_weighed
  by_cases hl : 10 ≤ a1 ∧ a1 ≤ 40
  · rw [e_isLen, if_pos hl, if_neg (by decide)]
    by_cases ht : 0 ≤ a2 ∧ a2 ≤ 99
    · rw [if_neg (show ¬ a2 < 0 by grind), if_pos ht.2, e_isThere]
      rcases inv_wire h2 with ⟨e0, e1⟩ | ⟨e0, e1⟩
      · rw [if_neg e1, if_pos rfl]
        unfold wX12_weighed
        dsimp only
        rw [e_isLenM, if_pos hl, if_neg (by decide), e_within, if_pos ht, if_neg (by decide), if_pos e0]
        exact fin_ok rfl hn
      · rw [if_pos e1, if_neg (by decide)]
        unfold wX10_isFull wX10_put
        rw [d2']
        by_cases hk : nk = 6
        · subst hk
          rw [if_neg (show ¬ nI 6 < 6 by decide)]
          refine ⟨by decide, ?_⟩
          dsimp only
          rw [if_neg (by decide)]
          unfold wX12_weighed
          dsimp only
          rw [e_isLenM, if_pos hl, if_neg (by decide), e_within, if_pos ht, if_neg (by decide), e0, if_neg (by decide), d3', if_pos (show nI 6 = 6 from rfl)]
          exact fin_ok rfl hn
        · have hin : vp_in (nI nk) 6 := vp_in_nI (by omega) (by omega)
          rw [if_pos (show nI nk < 6 from nI_lt (b := 6) (by omega) (by omega))]
          refine ⟨by decide, ?_⟩
          dsimp only
          rw [if_pos rfl, d2', if_neg (nI_pos (by omega)), if_neg (show ¬ (6 : Int32) ≤ nI nk from nI_ge (b := 6) (by omega) (by omega)), if_neg (show ¬ (6 : Int32) ≤ nI nk from nI_ge (b := 6) (by omega) (by omega))]
          have e8 : (sV σ 8 (nI nk).toNatClampNeg a1).1 7 2 = nI nk := d2'
          refine ⟨hin, by rw [e8]; exact hin, ?_⟩
          rw [e8, nI_clamp (show nk < 2 ^ 31 by omega)]
          have e9 : (sV (sV σ 8 nk a1) 9 nk a2).1 7 2 = nI nk := d2'
          rw [e9, nI_1]
          unfold wX12_weighed
          dsimp only
          have f0 : (sV (sV (sV σ 8 nk a1) 9 nk a2) 7 2 (nI (nk + 1))).1 18 0 = 1 := e0
          have f14 : (sV (sV (sV σ 8 nk a1) 9 nk a2) 7 2 (nI (nk + 1))).1 18 14 = nI nk := d3'
          rw [e_isLenM, if_pos hl, if_neg (by decide), e_within, if_pos ht, if_neg (by decide), f0, if_neg (by decide), f14, if_neg (show ¬ nI nk = 6 from fun q => hk ((nI_eq (by omega) (by omega)).mp (q : nI nk = nI 6)))]
          have g14 : (sV (sV (sV (sV σ 8 nk a1) 9 nk a2) 7 2 (nI (nk + 1))) 23 (nI nk).toNatClampNeg a1).1 18 14 = nI nk := d3'
          refine ⟨hin, by rw [g14]; exact hin, ?_⟩
          rw [g14, nI_clamp (show nk < 2 ^ 31 by omega)]
          have k14 : (sV (sV (sV (sV (sV σ 8 nk a1) 9 nk a2) 7 2 (nI (nk + 1))) 23 nk a1) 24 nk a2).1 18 14 = nI nk := d3'
          rw [k14, nI_1]
          refine fin_ok rfl ?_
          unfold InvX
          rw [cl_sV rfl, cl_sV rfl, cl_sV rfl, cl_sV rfl, cl_sV rfl, cl_sV rfl]
          refine ⟨np, nt, nk + 1, w, hh, h1, h2.mono, h3.mono, h4, ⟨by omega, rfl, rfl, fun i hi => ?_⟩, h6.mono⟩
          by_cases hi2 : i = nk
          · subst hi2
            obtain ⟨l, q1, q2, q3⟩ := bound_nat (lo := 10) (hi := 40) hl.1 hl.2 (by omega) (by omega)
            obtain ⟨t, r1, r2, r3⟩ := bound_nat (lo := 0) (hi := 99) ht.1 ht.2 (by omega) (by omega)
            refine ⟨?_, ?_, l, t, ?_, q2, q3, ?_, r3⟩ <;> simp [up2, va_up, q1, r1]
          · obtain ⟨f1, f2, l, t, f3, f4, f5, f6, f7⟩ := d4 i (by omega)
            refine ⟨?_, ?_, l, t, ?_, f4, f5, ?_, f7⟩ <;> simp [up2, va_up, hi2, f1, f2, f3, f6]
    · have m : wX12_weighed σ a1 a2 (fun r2 σ2 => if (-102 : Int32) = r2 then InvX (j + 1) σ2 else False) := by
        unfold wX12_weighed
        rw [e_isLenM, if_pos hl, if_neg (by decide), e_within, if_neg ht, if_pos rfl]
        exact fin_ok rfl hn
      by_cases q : a2 < 0
      · rw [if_pos q]; exact m
      · rw [if_neg q, if_neg (show ¬ a2 ≤ 99 by grind)]; exact m
  · rw [e_isLen, if_neg hl, if_pos rfl]
    unfold wX12_weighed
    dsimp only
    rw [e_isLenM, if_neg hl, if_pos rfl]
    exact fin_ok rfl hn
/-! carry() -/
theorem i_goes {σ : St} {i a : Nat} (h : TXr σ i a) {t : Int32} {Φ : Int32 → St → Prop} (hp : Φ (if σ.1 19 i = 2 ∧ 2 < t then 0 else 1) σ) : wT_goesAcross_13459 σ a t Φ := by
  unfold wT_goesAcross_13459 wX9_goesAcross wX3_goesAcross
  refine ⟨h.1, ?_⟩
  rcases h.2.1 with ⟨e, f⟩ | ⟨e, f⟩ | ⟨e, f⟩ | ⟨e, f⟩ | ⟨e, f⟩ <;> rw [f] at hp
  · exact Or.inr (Or.inr (Or.inr (Or.inr ⟨e, by decide, by simpa using hp⟩)))
  · exact Or.inl ⟨e, by decide, by simpa using hp⟩
  · refine Or.inr (Or.inl ⟨e, ?_⟩)
    by_cases q : 2 < t
    · rw [if_pos q]; exact ⟨by decide, by simpa [q] using hp⟩
    · rw [if_neg q]; exact ⟨by decide, by simpa [q] using hp⟩
  · exact Or.inr (Or.inr (Or.inr (Or.inl ⟨e, by decide, by simpa using hp⟩)))
  · exact Or.inr (Or.inr (Or.inl ⟨e, by decide, by simpa using hp⟩))
theorem i_mayCarry {σ : St} {i : Nat} (hi : i < 6) (hL : σ.1 18 2 = 0 ∨ (10 ≤ σ.1 18 2 ∧ σ.1 18 2 ≤ 40)) {Φ : Int32 → St → Prop} (hp : Φ (if σ.1 19 i = 2 ∧ 2 < turnsS (σ.1 18 3) (σ.1 18 2) then 0 else 1) σ) : wX12_mayCarry σ (nI i) Φ := by
  unfold wX12_mayCarry
  rw [nI_clamp (by omega)]
  refine ⟨vp_in_nI hi (by omega), ?_⟩
  by_cases h : σ.1 19 i = 2
  · rw [if_pos h, e_turnsM _ _ _ hL]
    by_cases q : 2 < turnsS (σ.1 18 3) (σ.1 18 2)
    · rw [if_pos q]; exact ⟨by decide, by simpa [h, q] using hp⟩
    · rw [if_neg q]; exact ⟨by decide, by simpa [h, q] using hp⟩
  · rw [if_neg h]; exact ⟨by decide, by simpa [h] using hp⟩
theorem st_carry {j : Nat} {σ : St} {a1 a2 a3 : Int32} (hj : j < 512) (h : InvX j σ) : wL_8 σ a1 a2 a3 (InvX (j + 1)) := by
  have hn := inv_next h Sim.rfl'
  obtain ⟨np, nt, nk, w, hh, h1, h2, h3, h4, h5, h6⟩ := h
  have hR := inv_rdy (by omega) h2 h4
  obtain ⟨q5, q6, -, -, e6, -⟩ := inv_eqs h1 h2 h3 h5
  obtain ⟨hT, hM, hB, x4, x8, hl2, hs2, hL⟩ := hR
  have hn6 := hT.1
  unfold wL_8
  rcases idx_cases nt hT.1 a1 with ⟨i, hi, rfl⟩ | hv
  · have hwire : σ.1 18 0 = 1 ∧ 0 < σ.1 3 0 := by
      rcases inv_wire h2 with ⟨e0, e1⟩ | q
      · exact absurd (Eq.trans (Eq.symm e0) (h4.2.2.2.1 (by omega))) (by decide)
      · exact q
    obtain ⟨a, ha, hX⟩ := hT.2.2 i hi
    unfold wX11_carry
    refine i_at hT hi ha ⟨(fun e => by cases e), fun b e => ?_⟩
    cases e
    rw [e_isWhole]
    have mC : ∀ Φ : Int32 → St → Prop, ∀ τ : St, τ.1 18 9 = nI nt → Φ = Φ → wX12_isThing τ (nI i) Φ = Φ 1 τ := fun Φ τ hτ _ => by rw [e_isThing hτ, if_pos (idx_yes hi hn6)]
    by_cases hb : σ.1 3 6 = 0
    · rw [if_pos (show 0 < σ.1 3 0 ∧ σ.1 3 6 = 0 from ⟨hwire.2, hb⟩), if_neg (by decide), e_turnsNow]
      refine i_goes hX ?_
      by_cases hg : σ.1 19 i = 2 ∧ 2 < turnsS (σ.1 3 1) (σ.1 3 0)
      · rw [if_pos hg, if_pos rfl]
        unfold wX12_carry
        dsimp only
        rw [mC _ _ hM rfl, if_neg (by decide), e6, if_pos hb]
        refine i_mayCarry (by omega) (by rw [hl2]; exact hL) ?_
        rw [hs2, hl2, if_pos hg, if_pos rfl]
        exact fin_ok rfl hn
      · rw [if_neg hg, if_neg (by decide)]
        have hT2 : ∀ v, isT (sT σ a 2 v) a := fun v => hX.isT
        refine ⟨hX.isT, hX.isT, hT2 _, ?_⟩
        rw [hX.2.2.2.2]
        unfold wX12_carry
        dsimp only
        have hM' : (sT σ a 2 (1 - σ.1 21 i)).1 18 9 = nI nt := hM
        rw [mC _ _ hM' rfl, if_neg (by decide), show (sT σ a 2 (1 - σ.1 21 i)).1 18 6 = σ.1 18 6 from rfl, e6, if_pos hb]
        refine i_mayCarry (by omega) (by rw [show (sT σ a 2 (1 - σ.1 21 i)).1 18 2 = σ.1 18 2 from rfl, hl2]; exact hL) ?_
        rw [show (sT σ a 2 (1 - σ.1 21 i)).1 = σ.1 from rfl, hs2, hl2, if_neg hg, if_neg (by decide), nI_clamp (by omega)]
        have hin : vp_in (nI i) 6 := vp_in_nI (by omega) (by omega)
        refine ⟨hin, hin, hin, ?_⟩
        refine fin_ok ?_ ?_
        · show (sT σ a 2 (1 - σ.1 21 i)).2.2.2.2.2 a 2 = (sV (sT σ a 2 (1 - σ.1 21 i)) 21 i (1 - σ.1 21 i)).1 21 i
          simp [sT, sV, up2, va_up]
        · unfold InvX
          rw [cl_sV rfl]
          obtain ⟨c1, c2, c3, c4, c5, c6, c7, c8⟩ := h4
          have ha' : σ.2.2.1 i = some a := ha
          refine ⟨np, nt, nk, w, hh, h1, h2.mono, h3.mono, ⟨c1, c2, c3, c4, fun i' hi' => ?_, fun i' hi' => ?_, fun i' hi' => ?_, c8⟩, h5, h6.mono⟩
          · obtain ⟨b, d1, d2, d3, d4, d5, d6⟩ := c5 i' hi'
            refine ⟨b, d1, d2, d3, ?_, ?_, ?_⟩
            · by_cases hba : b = a
              · subst hba; simpa [sT, sV, up2, va_up] using d4
              · simpa [sT, sV, up2, va_up, hba] using d4
            · by_cases hba : b = a
              · subst hba; simpa [sT, sV, up2, va_up] using d5
              · simpa [sT, sV, up2, va_up, hba] using d5
            · by_cases hii : i' = i
              · subst hii
                have hba : b = a := Option.some.inj (Eq.trans (Eq.symm d1) ha')
                subst hba
                simp [sT, sV, up2, va_up, cl]
              · have hba : b ≠ a := fun q => hii (c8 i' i hi' hi (Eq.trans d1 (by rw [q]; exact Eq.symm ha')))
                simpa [sT, sV, up2, va_up, hba, hii] using d6
          · obtain ⟨w', c', f1, f2, f3, f4⟩ := c6 i' hi'
            exact ⟨w', c', f1, f2, f3, f4⟩
          · by_cases hii : i' = i
            · subst hii
              have q : cl σ.1 21 i' = 0 ∨ cl σ.1 21 i' = 1 := c7 i' hi'
              have z : σ.1 21 i' = 0 ∨ σ.1 21 i' = 1 := q
              simp only [up2, va_up, if_true]
              rcases z with z | z <;> rw [z] <;> decide
            · have q := c7 i' hi'
              simpa [up2, va_up, hii, sT] using q
    · rw [if_neg (show ¬ (0 < σ.1 3 0 ∧ σ.1 3 6 = 0) from fun q => hb q.2), if_pos rfl]
      unfold wX12_carry
      dsimp only
      rw [mC _ _ hM rfl, if_neg (by decide), e6, if_neg hb]
      exact fin_ok rfl hn
  · unfold wX11_carry
    refine i_atNo hT hv ⟨fun _ => ?_, (fun b e => by cases e)⟩
    unfold wX12_carry
    dsimp only
    rw [e_isThing hM, if_neg (idx_no hT.1 hv), if_pos rfl]
    exact fin_ok rfl hn
