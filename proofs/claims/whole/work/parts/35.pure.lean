/-! PURE PART 6: the rest by 360; an hour -/
theorem i32_msb (x : Int32) : 0 ≤ x ↔ x.toBitVec.msb = false := by
  rw [Int32.le_iff_toInt_le, BitVec.msb_eq_toInt]
  show (0 : Int) ≤ x.toInt ↔ decide (x.toInt < 0) = false
  simp
theorem xor_sgn (x : Int32) : 0 ≤ x ^^^ 360 ↔ 0 ≤ x := by
  rw [i32_msb, i32_msb, Int32.toBitVec_xor, BitVec.msb_xor]
  rw [show (360 : Int32).toBitVec.msb = false by decide, Bool.xor_false]
theorem e_fmodP {σ : St} {a : Nat} (ha : a < 2 ^ 30) (Φ : Int32 → St → Prop) : wJ9_floorMod_7cf53 σ (nI a) 360 Φ = Φ (nI (a % 360)) σ := by
  unfold wJ9_floorMod_7cf53
  rw [if_pos ((xor_sgn _).mpr (nI_pos' (by omega)))]
  rw [show (360 : Int32) = nI 360 from rfl, pk_rem (by omega) (by omega) (by omega)]
  simp only [eq_iff_iff, and_iff_right_iff_imp]
  intro _
  decide
theorem turns_nat {s : Nat} {l : Int32} (hs : s ≤ 14400) (hl : 10 ≤ l ∧ l ≤ 40) : ∃ t, turnsS (nI s) l = nI t ∧ t ≤ 144 := by
  unfold turnsS
  rw [if_pos hl]
  obtain ⟨n, rfl, h1, h2⟩ := len_nat hl
  rw [nI_mul, pk_div (by omega) (Nat.mul_pos (by omega) (by omega)) (by have : n * n ≤ 40 * 40 := Nat.mul_le_mul h2 h2; omega)]
  refine ⟨_, rfl, ?_⟩
  have h3 : 100 ≤ n * n := Nat.mul_le_mul h1 h1
  calc s / (n * n) ≤ s / 100 := Nat.div_le_div_left h3 (by omega)
    _ ≤ 144 := by omega
def placeN (p t : Nat) : Nat := (p + t * 10) % 360
theorem i_place {σ : St} {k p t w : Nat} {Φ : Int32 → St → Prop} (hp : σ.1 k 3 = nI p) (hp2 : p < 360) (ht : turnsS (σ.1 k 1) (σ.1 k 0) = nI t) (ht2 : t ≤ 144) (hw : w ≤ 200) (h : Φ (nI (placeN p (w * t))) σ) : wX0_placeAfter σ k (nI w) Φ := by
  unfold wX0_placeAfter
  rw [e_turnsNow, ht, hp, nI_mul, show (10 : Int32) = nI 10 from rfl, nI_mul, nI_add]
  have : w * t ≤ 200 * 144 := Nat.mul_le_mul hw ht2
  rw [e_fmodP (by omega)]
  exact h
/-- the cable's hour (cable 3) -/
theorem x_goHour3 {σ : St} {nt hh p t : Nat} {by_ l bears : Int32} {Φ : St → Prop} (hT : ThX σ nt) (hB : TB σ.1 nt (hh + 1)) (h4 : σ.1 3 4 = nI hh) (hp : σ.1 3 3 = nI p) (hp2 : p < 360) (hl : σ.1 3 0 - by_ = l) (ht : turnsS (σ.1 3 1) l = nI t) (ht2 : t ≤ 144)
    (hb : σ.1 3 2 = bears) (br : Int32) (hbr : br = if cab2 σ.1 (nI (hh + 1)) noM nt (strainS (σ.1 3 1) l) ≤ bears then 0 else 1)
    (h : Φ (sV (sV (sV (sV σ 3 0 l) 3 4 (nI (hh + 1))) 3 3 (nI (placeN p t))) 3 6 br)) : wX0_goHour σ 3 by_ Φ := by
  unfold wX0_goHour
  have e1 : (sV σ 3 0 l).1 3 4 = nI hh := h4
  rw [hl, e1, nI_1]
  have e2 : turnsS ((sV (sV σ 3 0 l) 3 4 (nI (hh + 1))).1 3 1) ((sV (sV σ 3 0 l) 3 4 (nI (hh + 1))).1 3 0) = nI t := ht
  refine i_place (σ := sV (sV σ 3 0 l) 3 4 (nI (hh + 1))) (k := 3) (p := p) (t := t) (w := 1) hp hp2 e2 ht2 (by omega) ?_
  rw [Nat.one_mul]
  have hT' : ThX (sV (sV (sV σ 3 0 l) 3 4 (nI (hh + 1))) 3 3 (nI (placeN p t))) nt := hT
  refine i_strainNow (nt := nt) (hh := hh + 1) hT' hB rfl ?_
  have e5 : (sV (sV (sV σ 3 0 l) 3 4 (nI (hh + 1))) 3 3 (nI (placeN p t))).1 3 2 = bears := hb
  rw [e5]
  have e6 : cab2 (sV (sV (sV σ 3 0 l) 3 4 (nI (hh + 1))) 3 3 (nI (placeN p t))).1 (nI (hh + 1)) noM nt (strainS ((sV (sV (sV σ 3 0 l) 3 4 (nI (hh + 1))) 3 3 (nI (placeN p t))).1 3 1) ((sV (sV (sV σ 3 0 l) 3 4 (nI (hh + 1))) 3 3 (nI (placeN p t))).1 3 0)) = cab2 σ.1 (nI (hh + 1)) noM nt (strainS (σ.1 3 1) l) := rfl
  rw [e6]
  by_cases hc : cab2 σ.1 (nI (hh + 1)) noM nt (strainS (σ.1 3 1) l) ≤ bears
  · rw [if_pos hc] at hbr ⊢
    subst hbr
    exact ⟨by decide, h⟩
  · rw [if_neg hc] at hbr ⊢
    subst hbr
    exact ⟨by decide, h⟩
/-- the cable's hour (cable 16) -/
theorem x_goHour16 {σ : St} {nt hh p t : Nat} {by_ l bears : Int32} {Φ : St → Prop} (hT : ThX σ nt) (hB : TB σ.1 nt (hh + 1)) (h4 : σ.1 16 4 = nI hh) (hp : σ.1 16 3 = nI p) (hp2 : p < 360) (hl : σ.1 16 0 - by_ = l) (ht : turnsS (σ.1 16 1) l = nI t) (ht2 : t ≤ 144)
    (hb : σ.1 16 2 = bears) (br : Int32) (hbr : br = if cab2 σ.1 (nI (hh + 1)) noM nt (strainS (σ.1 16 1) l) ≤ bears then 0 else 1)
    (h : Φ (sV (sV (sV (sV σ 16 0 l) 16 4 (nI (hh + 1))) 16 3 (nI (placeN p t))) 16 6 br)) : wX0_goHour σ 16 by_ Φ := by
  unfold wX0_goHour
  have e1 : (sV σ 16 0 l).1 16 4 = nI hh := h4
  rw [hl, e1, nI_1]
  have e2 : turnsS ((sV (sV σ 16 0 l) 16 4 (nI (hh + 1))).1 16 1) ((sV (sV σ 16 0 l) 16 4 (nI (hh + 1))).1 16 0) = nI t := ht
  refine i_place (σ := sV (sV σ 16 0 l) 16 4 (nI (hh + 1))) (k := 16) (p := p) (t := t) (w := 1) hp hp2 e2 ht2 (by omega) ?_
  rw [Nat.one_mul]
  have hT' : ThX (sV (sV (sV σ 16 0 l) 16 4 (nI (hh + 1))) 16 3 (nI (placeN p t))) nt := hT
  refine i_strainNow (nt := nt) (hh := hh + 1) hT' hB rfl ?_
  have e5 : (sV (sV (sV σ 16 0 l) 16 4 (nI (hh + 1))) 16 3 (nI (placeN p t))).1 16 2 = bears := hb
  rw [e5]
  have e6 : cab2 (sV (sV (sV σ 16 0 l) 16 4 (nI (hh + 1))) 16 3 (nI (placeN p t))).1 (nI (hh + 1)) noM nt (strainS ((sV (sV (sV σ 16 0 l) 16 4 (nI (hh + 1))) 16 3 (nI (placeN p t))).1 16 1) ((sV (sV (sV σ 16 0 l) 16 4 (nI (hh + 1))) 16 3 (nI (placeN p t))).1 16 0)) = cab2 σ.1 (nI (hh + 1)) noM nt (strainS (σ.1 16 1) l) := rfl
  rw [e6]
  by_cases hc : cab2 σ.1 (nI (hh + 1)) noM nt (strainS (σ.1 16 1) l) ≤ bears
  · rw [if_pos hc] at hbr ⊢
    subst hbr
    exact ⟨by decide, h⟩
  · rw [if_neg hc] at hbr ⊢
    subst hbr
    exact ⟨by decide, h⟩
/-- the reference's hour -/
theorem m_goHour {σ : St} {nt hh p t : Nat} {l bears : Int32} {Φ : Int32 → St → Prop} (hM : σ.1 18 9 = nI nt) (hB : TB σ.1 nt (hh + 1)) (h4 : σ.1 18 8 = nI hh) (hp : σ.1 18 7 = nI p) (hp2 : p < 360) (hl : 10 ≤ l ∧ l ≤ 40) (ht : turnsS (σ.1 18 3) l = nI t) (ht2 : t ≤ 144)
    (hb : σ.1 18 4 = bears) (br : Int32) (hbr : br = if cab2 σ.1 (nI (hh + 1)) noM nt (strainS (σ.1 18 3) l) ≤ bears then 0 else 1)
    (h : Φ (1 - br) (sV (sV (sV (sV σ 18 2 l) 18 8 (nI (hh + 1))) 18 7 (nI (placeN p t))) 18 6 br)) : wX12_goHour σ l Φ := by
  unfold wX12_goHour
  have e1 : (sV σ 18 2 l).1 18 8 = nI hh := h4
  rw [e1, nI_1, e_turnsM _ _ _ (Or.inr hl)]
  have e2 : (sV (sV σ 18 2 l) 18 8 (nI (hh + 1))).1 18 3 = σ.1 18 3 := rfl
  have e3 : (sV (sV σ 18 2 l) 18 8 (nI (hh + 1))).1 18 7 = nI p := hp
  rw [e2, ht, e3, show (10 : Int32) = nI 10 from rfl, nI_mul, nI_add, show (360 : Int32) = nI 360 from rfl, pk_rem (by omega) (by omega) (by omega)]
  rw [show (p + 10 * t) % 360 = placeN p t by unfold placeN; rw [Nat.mul_comm]]
  refine ⟨by decide, ?_⟩
  have e4 : (sV (sV (sV σ 18 2 l) 18 8 (nI (hh + 1))) 18 7 (nI (placeN p t))).1 18 8 = nI (hh + 1) := rfl
  rw [e4]
  refine i_strainM (nt := nt) (hh := hh + 1) hM hB (Or.inr hl) ?_
  have e5 : (sV (sV (sV σ 18 2 l) 18 8 (nI (hh + 1))) 18 7 (nI (placeN p t))).1 18 4 = bears := hb
  rw [e5]
  have e6 : cab2 (sV (sV (sV σ 18 2 l) 18 8 (nI (hh + 1))) 18 7 (nI (placeN p t))).1 (nI (hh + 1)) noM nt (strainS ((sV (sV (sV σ 18 2 l) 18 8 (nI (hh + 1))) 18 7 (nI (placeN p t))).1 18 3) l) = cab2 σ.1 (nI (hh + 1)) noM nt (strainS (σ.1 18 3) l) := rfl
  rw [e6]
  unfold wX12_goHour_58
  by_cases hc : cab2 σ.1 (nI (hh + 1)) noM nt (strainS (σ.1 18 3) l) ≤ bears
  · rw [if_pos hc] at hbr ⊢
    subst hbr
    refine ⟨by decide, ?_⟩
    rw [if_pos (show (sV (sV (sV (sV σ 18 2 l) 18 8 (nI (hh + 1))) 18 7 (nI (placeN p t))) 18 6 0).1 18 6 = 0 from rfl)]
    exact ⟨by decide, h⟩
  · rw [if_neg hc] at hbr ⊢
    subst hbr
    refine ⟨by decide, ?_⟩
    rw [if_neg (show ¬ (sV (sV (sV (sV σ 18 2 l) 18 8 (nI (hh + 1))) 18 7 (nI (placeN p t))) 18 6 1).1 18 6 = 0 from (by decide : ¬ (1 : Int32) = 0))]
    exact ⟨by decide, h⟩
theorem st_hour {j : Nat} {σ : St} {a1 a2 a3 : Int32} (hj : j < 512) (h : InvX j σ) : wL_9 σ a1 a2 a3 (InvX (j + 1)) := by
  have hn := inv_next h Sim.rfl'
  obtain ⟨np, nt, nk, w, hh, h1, h2, h3, h4, h5, h6⟩ := h
  have hR := inv_rdy (by omega) h2 h4
  obtain ⟨q5, q6, e4, e5, e6, e7, -⟩ := inv_eqs h1 h2 h3 h5
  obtain ⟨hT, hM, hB, x4, x8, hl2, hs2, hL⟩ := hR
  have hhj : hh ≤ j := h2.2.2.1
  unfold wL_9 wX11_hour
  by_cases hb : (-3 : Int32) ≤ a1 ∧ a1 ≤ 3
  · rw [if_neg (show ¬ a1 < -3 by grind), if_pos hb.2, e_isWhole]
    rcases h2.2.2.2.2.2 with ⟨g0, g1, -⟩ | ⟨g0, g1, s, b, p, g2, g3, g4, g5, g6, g7, g8⟩
    · rw [if_neg (show ¬ (0 < σ.1 3 0 ∧ σ.1 3 6 = 0) from fun q => by rw [show σ.1 3 0 = 0 from g1] at q; exact absurd q.1 (by decide)), if_pos rfl]
      unfold wX12_hour
      dsimp only
      rw [e_within, if_pos hb, if_neg (by decide), if_pos (show σ.1 18 0 = 0 from g0)]
      exact fin_ok rfl hn
    · have w0 : ¬ σ.1 18 0 = 0 := by rw [show σ.1 18 0 = 1 from g0]; decide
      have l0 : 0 < σ.1 3 0 := by have : 10 ≤ σ.1 3 0 := g1.1; grind
      by_cases hbr : σ.1 3 6 = 0
      · rw [if_pos (show 0 < σ.1 3 0 ∧ σ.1 3 6 = 0 from ⟨l0, hbr⟩), if_neg (by decide), e_isLen]
        by_cases hlen : 10 ≤ σ.1 3 0 - a1 ∧ σ.1 3 0 - a1 ≤ 40
        · rw [if_pos hlen, if_neg (by decide)]
          have g2' : σ.1 3 1 = nI s := g2
          have g4' : σ.1 3 2 = nI b := g4
          have g7' : σ.1 3 3 = nI p := g7
          obtain ⟨t, t1, t2⟩ := turns_nat (s := s) g3 hlen
          have hB1 : TB σ.1 nt (hh + 1) := hB.up (by omega) (by omega)
          obtain ⟨br, hbr2⟩ : ∃ br : Int32, br = if cab2 σ.1 (nI (hh + 1)) noM nt (strainS (nI s) (σ.1 3 0 - a1)) ≤ nI b then 0 else 1 := ⟨_, rfl⟩
          refine x_goHour3 (nt := nt) (hh := hh) (p := p) (t := t) hT hB1 x4 g7' g8 rfl (by rw [g2']; exact t1) t2 g4' br (by rw [g2']; exact hbr2) ?_
          obtain ⟨σx, hx⟩ : ∃ σx, σx = sV (sV (sV (sV σ 3 0 (σ.1 3 0 - a1)) 3 4 (nI (hh + 1))) 3 3 (nI (placeN p t))) 3 6 br := ⟨_, rfl⟩
          rw [← hx]
          have hm : ∀ r : Int32, r = (if br = 0 then σ.1 3 0 - a1 else -1) → wX12_hour σx a1 (fun r2 σ2 => if r = r2 then InvX (j + 1) σ2 else False) := by
            intro r hr
            unfold wX12_hour
            have y0 : ¬ σx.1 18 0 = 0 := by rw [hx]; exact w0
            have y6 : σx.1 18 6 = 0 := by rw [hx]; exact Eq.trans e6 hbr
            have y2 : σx.1 18 2 = σ.1 3 0 := by rw [hx]; exact hl2
            rw [e_within, if_pos hb, if_neg (by decide), if_neg y0, if_pos y6, e_mayBe, y2, if_pos hlen, if_neg (by decide)]
            refine m_goHour (σ := σx) (nt := nt) (hh := hh) (p := p) (t := t) (bears := nI b) (by rw [hx]; exact hM) (by rw [hx]; exact hB1) (by rw [hx]; exact x8) (by rw [hx]; exact Eq.trans e7 g7') g8 hlen (by rw [hx]; exact Eq.trans (congrArg (fun z => turnsS z (σ.1 3 0 - a1)) (Eq.trans hs2 g2')) t1) t2 (by rw [hx]; exact Eq.trans e4 g4') br (by rw [hx]; rw [hbr2, ← g2', ← hs2]; rfl) ?_
            have fin : InvX (j + 1) (sV (sV (sV (sV σx 18 2 (σ.1 3 0 - a1)) 18 8 (nI (hh + 1))) 18 7 (nI (placeN p t))) 18 6 br) := by
              unfold InvX
              rw [hx, cl_sV rfl, cl_sV rfl, cl_sV rfl, cl_sV rfl, cl_sV rfl, cl_sV rfl, cl_sV rfl, cl_sV rfl]
              have br01 : br = 0 ∨ br = 1 := by
                rw [hbr2]
                split
                · exact Or.inl rfl
                · exact Or.inr rfl
              obtain ⟨⟨b1, b2, b3, b4, b5, b6, b7⟩, c1, c2, c3, c4, c5⟩ := h2
              obtain ⟨d1, d2, d3, d4, d5, d6, d7, d8⟩ := h4
              refine ⟨np, nt, nk, w, hh + 1, h1, ⟨⟨rfl, b2, b3, rfl, rfl, b6, rfl⟩, rfl, by omega, c3, br01, Or.inr ⟨g0, hlen, s, b, placeN p t, g2, g3, g4, g5, g6, rfl, Nat.mod_lt _ (by omega)⟩⟩, h3.mono, ⟨d1, d2, d3, d4, d5, fun i hi => ?_, d7, d8⟩, h5, h6.mono⟩
              obtain ⟨w', c', f1, f2, f3, f4⟩ := d6 i hi
              exact ⟨w', c', f1, f2, f3, by omega⟩
            by_cases z : br = 0
            · rw [if_pos z] at hr
              rw [z] at fin ⊢
              rw [if_neg (by decide)]
              exact fin_ok hr fin
            · have z1 : br = 1 := by
                rw [hbr2] at z ⊢
                split at z
                · exact absurd rfl z
                · rw [if_neg (by assumption)]
              rw [if_neg z] at hr
              rw [z1] at fin ⊢
              rw [if_pos (by decide)]
              exact fin_ok hr fin
          have v6 : σx.1 3 6 = br := by rw [hx]; rfl
          have v0 : σx.1 3 0 = σ.1 3 0 - a1 := by rw [hx]; rfl
          rw [v6]
          by_cases z : br = 0
          · rw [if_pos z, v0]; exact hm _ (by rw [if_pos z])
          · rw [if_neg z]; exact hm _ (by rw [if_neg z])
        · rw [if_neg hlen, if_pos rfl]
          unfold wX12_hour
          dsimp only
          rw [e_within, if_pos hb, if_neg (by decide), if_neg w0, if_pos (Eq.trans e6 hbr), e_mayBe, hl2, if_neg hlen, if_pos rfl]
          exact fin_ok rfl hn
      · rw [if_neg (show ¬ (0 < σ.1 3 0 ∧ σ.1 3 6 = 0) from fun q => hbr q.2), if_pos rfl]
        unfold wX12_hour
        dsimp only
        rw [e_within, if_pos hb, if_neg (by decide), if_neg w0, if_neg (show ¬ σ.1 18 6 = 0 by rw [e6]; exact hbr)]
        exact fin_ok rfl hn
  · have m : wX12_hour σ a1 (fun r2 σ2 => if (-102 : Int32) = r2 then InvX (j + 1) σ2 else False) := by
      unfold wX12_hour
      rw [e_within, if_neg hb, if_pos rfl]
      exact fin_ok rfl hn
    by_cases q : a1 < -3
    · rw [if_pos q]; exact m
    · rw [if_neg q, if_neg (show ¬ a1 ≤ 3 by grind)]; exact m
