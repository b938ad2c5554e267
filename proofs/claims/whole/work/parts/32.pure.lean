/-! PURE PART 3: the invariant -/
def scr (k j : Nat) : Bool := k == 10 || (k == 11 || (k == 12 || (k == 13 || (k == 14 || (k == 15 || (k == 16 || (k == 26 || (k == 27 || (k == 18 && (19 ≤ j && j ≤ 26))))))))))
def cl (V : Nat → Nat → Int32) : Nat → Nat → Int32 := fun k j => if scr k j then 0 else V k j
def Sim (σ σ' : St) : Prop := cl σ'.1 = cl σ.1 ∧ σ'.2.2 = σ.2.2
theorem Sim.rfl' {σ : St} : Sim σ σ := ⟨rfl, rfl⟩
theorem Sim.tr {a b c : St} (h : Sim a b) (g : Sim b c) : Sim a c := ⟨g.1.trans h.1, g.2.trans h.2⟩
theorem cl_scr {V : Nat → Nat → Int32} {k b : Nat} {v : Int32} (h : scr k b = true) : cl (up2 V k b v) = cl V := by
  funext i j
  unfold cl up2 va_up
  by_cases hi : i = k
  · subst hi
    by_cases hj : j = b
    · subst hj; rw [h]; rfl
    · simp [hj]
  · simp [hi]
theorem cl_up {V : Nat → Nat → Int32} {k b : Nat} {v : Int32} (h : scr k b = false) : cl (up2 V k b v) = up2 (cl V) k b v := by
  funext i j
  unfold cl up2 va_up
  by_cases hi : i = k
  · subst hi
    by_cases hj : j = b
    · subst hj; simp [h]
    · simp [hj]
  · simp [hi]
theorem Sim.sV {σ σ' : St} (h : Sim σ σ') {k b : Nat} {v : Int32} (hs : scr k b = true) : Sim σ (sV σ' k b v) := ⟨(cl_scr hs).trans h.1, h.2⟩
theorem Sim.sJ {σ σ' : St} (h : Sim σ σ') {b : Nat} {v : Int64} : Sim σ (sJ σ' b v) := ⟨h.1, h.2⟩
theorem Sim.at {σ σ' : St} (h : Sim σ σ') (k j : Nat) (hs : scr k j = false) : σ'.1 k j = σ.1 k j := by
  have := congrFun (congrFun h.1 k) j
  unfold cl at this
  rw [hs] at this
  exact this
abbrev Rho : Type := (Nat → Option Nat) × List Nat × (Nat → Nat) × (Nat → Nat → Int32)
def IPg (C : Nat → Nat → Int32) (np : Nat) : Prop := np ≤ 12 ∧ C 1 1 = nI np ∧ C 18 17 = nI np ∧ ∀ i, i < np → C 2 i = C 25 i ∧ ∃ c : Nat, 0 < c ∧ c < 127 ∧ C 2 i = nI c
def IWr (C : Nat → Nat → Int32) (j hh : Nat) : Prop :=
  (C 18 2 = C 3 0 ∧ C 18 3 = C 3 1 ∧ C 18 4 = C 3 2 ∧ C 18 7 = C 3 3 ∧ C 18 8 = C 3 4 ∧ C 18 5 = C 3 5 ∧ C 18 6 = C 3 6) ∧ C 3 4 = nI hh ∧ hh ≤ j ∧ (C 3 5 = 0 ∨ C 3 5 = 1) ∧ (C 3 6 = 0 ∨ C 3 6 = 1) ∧
  ((C 18 0 = 0 ∧ C 3 0 = 0 ∧ C 3 1 = 0 ∧ C 3 2 = 0 ∧ C 3 3 = 0 ∧ hh = 0 ∧ C 3 5 = 0 ∧ C 3 6 = 0) ∨
   (C 18 0 = 1 ∧ (10 ≤ C 3 0 ∧ C 3 0 ≤ 40) ∧ ∃ s b p : Nat, C 3 1 = nI s ∧ s ≤ 14400 ∧ C 3 2 = nI b ∧ 100 ≤ b ∧ b ≤ 999 ∧ C 3 3 = nI p ∧ p < 360))
def IRd (C : Nat → Nat → Int32) (j w : Nat) : Prop := C 0 9 = nI w ∧ C 18 1 = nI w ∧ w ≤ j
def ITh (C : Nat → Nat → Int32) (ρ : Rho) (nt hh : Nat) : Prop := nt ≤ 6 ∧ C 4 2 = nI nt ∧ C 18 9 = nI nt ∧ (0 < nt → C 18 0 = 1) ∧
  (∀ i, i < nt → ∃ a, ρ.1 i = some a ∧ a ∈ ρ.2.1 ∧ KD (ρ.2.2.1 a) (C 19 i) ∧ ρ.2.2.2 a 0 = C 20 i ∧ ρ.2.2.2 a 1 = C 22 i ∧ ρ.2.2.2 a 2 = C 21 i) ∧
  (∀ i, i < nt → ∃ w c : Nat, C 20 i = nI w ∧ w ≤ 20 ∧ C 22 i = nI c ∧ c ≤ hh) ∧ (∀ i, i < nt → C 21 i = 0 ∨ C 21 i = 1) ∧
  (∀ i i', i < nt → i' < nt → ρ.1 i = ρ.1 i' → i = i')
def ITd (C : Nat → Nat → Int32) (nk : Nat) : Prop := nk ≤ 6 ∧ C 7 2 = nI nk ∧ C 18 14 = nI nk ∧ ∀ i, i < nk → C 8 i = C 23 i ∧ C 9 i = C 24 i ∧ ∃ l t : Nat, C 23 i = nI l ∧ 10 ≤ l ∧ l ≤ 40 ∧ C 24 i = nI t ∧ t ≤ 99
def IKp (C : Nat → Nat → Int32) (j nt w : Nat) : Prop :=
  (C 0 8 = 0 ∧ (C 18 30 = 0 ∨ ∃ kw, kw < w ∧ C 18 31 = nI kw)) ∨
  (C 0 8 = 1 ∧ C 18 30 = 1 ∧ C 18 31 = nI w ∧ C 18 0 = 1 ∧ (C 18 32 = C 17 0 ∧ C 17 1 = C 3 1 ∧ C 17 2 = C 3 2 ∧ C 18 33 = C 17 3 ∧ C 18 34 = C 17 4 ∧ C 17 5 = C 3 5 ∧ C 18 35 = C 17 6) ∧
   (C 17 6 = 0 ∨ C 17 6 = 1) ∧ (10 ≤ C 17 0 ∧ C 17 0 ≤ 40) ∧ ∃ p kh ks : Nat, C 17 3 = nI p ∧ p < 360 ∧ C 17 4 = nI kh ∧ kh ≤ j ∧ C 4 3 = nI ks ∧ C 18 36 = nI ks ∧ ks ≤ nt ∧
   ∀ i, i < ks → C 28 i = C 6 i ∧ (C 6 i = 0 ∨ C 6 i = 1) ∧ C 29 i = C 22 i ∧ ∃ c, C 22 i = nI c ∧ c ≤ kh)
def InvC (j : Nat) (C : Nat → Nat → Int32) (ρ : Rho) : Prop := ∃ np nt nk w hh : Nat, IPg C np ∧ IWr C j hh ∧ IRd C j w ∧ ITh C ρ nt hh ∧ ITd C nk ∧ IKp C j nt w
def InvX (j : Nat) (σ : St) : Prop := InvC j (cl σ.1) σ.2.2
theorem inv_0 : InvX 0 st0 := by
  refine ⟨0, 0, 0, 0, 0, ⟨by omega, rfl, rfl, fun i h => by omega⟩, ⟨⟨rfl, rfl, rfl, rfl, rfl, rfl, rfl⟩, rfl, by omega, Or.inl rfl, Or.inl rfl, Or.inl ⟨rfl, rfl, rfl, rfl, rfl, rfl, rfl, rfl⟩⟩, ⟨rfl, rfl, by omega⟩, ⟨by omega, rfl, rfl, fun h => by omega, fun i h => by omega, fun i h => by omega, fun i h => by omega, fun i i' h => by omega⟩, ⟨by omega, rfl, rfl, fun i h => by omega⟩, Or.inl ⟨rfl, Or.inl rfl⟩⟩
theorem IWr.mono {C : Nat → Nat → Int32} {j hh : Nat} (h : IWr C j hh) : IWr C (j + 1) hh := ⟨h.1, h.2.1, by have := h.2.2.1; omega, h.2.2.2⟩
theorem IRd.mono {C : Nat → Nat → Int32} {j w : Nat} (h : IRd C j w) : IRd C (j + 1) w := ⟨h.1, h.2.1, by have := h.2.2; omega⟩
theorem IKp.mono {C : Nat → Nat → Int32} {j nt w : Nat} (h : IKp C j nt w) : IKp C (j + 1) nt w := by
  rcases h with h | ⟨h1, h2, h3, h4, h5, h6, h7, p, kh, ks, g1, g2, g3, g4, g5, g6, g7, g8⟩
  · exact Or.inl h
  · exact Or.inr ⟨h1, h2, h3, h4, h5, h6, h7, p, kh, ks, g1, g2, g3, by omega, g5, g6, g7, g8⟩
theorem inv_next {j : Nat} {σ σ' : St} (h : InvX j σ) (hs : Sim σ σ') : InvX (j + 1) σ' := by
  obtain ⟨np, nt, nk, w, hh, h1, h2, h3, h4, h5, h6⟩ := h
  unfold InvX
  rw [hs.1, hs.2]
  exact ⟨np, nt, nk, w, hh, h1, h2.mono, h3.mono, h4, h5, h6.mono⟩
/-- what the answers rest on -/
def Rdy (σ : St) (nt hh : Nat) : Prop := ThX σ nt ∧ σ.1 18 9 = nI nt ∧ TB σ.1 nt hh ∧ σ.1 3 4 = nI hh ∧ σ.1 18 8 = nI hh ∧ σ.1 18 2 = σ.1 3 0 ∧ σ.1 18 3 = σ.1 3 1 ∧ (σ.1 3 0 = 0 ∨ (10 ≤ σ.1 3 0 ∧ σ.1 3 0 ≤ 40))
theorem inv_rdy {j nt hh : Nat} {σ : St} (hj : j ≤ 600) (h2 : IWr (cl σ.1) j hh) (h4 : ITh (cl σ.1) σ.2.2 nt hh) : Rdy σ nt hh := by
  obtain ⟨⟨a1, a2, a3, a4, a5, a6, a7⟩, b1, b2, b3, b4, b5⟩ := h2
  obtain ⟨c1, c2, c3, c4, c5, c6, c7, c8⟩ := h4
  refine ⟨⟨c1, c2, fun i hi => ?_⟩, c3, ⟨c1, by omega, fun i hi => c6 i hi⟩, b1, a5.trans b1, a1, a2, ?_⟩
  · obtain ⟨a, d1, d2, d3, d4, d5, d6⟩ := c5 i hi
    exact ⟨a, d1, d2, d3, d4, d5, d6⟩
  · rcases b5 with ⟨-, e, -⟩ | ⟨-, e, -⟩
    · exact Or.inl e
    · exact Or.inr e
theorem TB.up {V : Nat → Nat → Int32} {nt hh h2 : Nat} (h : TB V nt hh) (h1 : hh ≤ h2) (h3 : h2 ≤ 1000) : TB V nt h2 := ⟨h.1, h3, fun i hi => by
  obtain ⟨w, c, e1, e2, e3, e4⟩ := h.2.2 i hi
  exact ⟨w, c, e1, e2, e3, by omega⟩⟩
/-! cabin() -/
def cabR (V : Nat → Nat → Int32) (nt hh : Nat) (c what : Int32) : Int32 := if what = 0 then cabV V c (nI hh) noM nt else if what = 1 then cab2 V (nI hh) noM nt (armS c (V 3 0)) else if what = 2 then cab2 V (nI hh) noM nt (floorS (V 3 1) c (V 3 0)) else szS (V 21) c nt
theorem sw3 {v : Int32} (h : 0 ≤ v ∧ v ≤ 3) : v = 0 ∨ v = 1 ∨ v = 2 ∨ (v = 3) := by grind
theorem x_cabin {σ : St} {nt hh : Nat} {c what : Int32} {Φ : Int32 → St → Prop} (h : Rdy σ nt hh) (hc : 0 ≤ c ∧ c ≤ 1) (hw : 0 ≤ what ∧ what ≤ 3) (hl : 0 < σ.1 3 0) (hp : Φ (cabR σ.1 nt hh c what) σ) : wX11_cabin σ c what Φ := by
  obtain ⟨hT, hM, hB, h4, h8, hl2, hs2, hL⟩ := h
  unfold wX11_cabin
  rw [e_isCabin, if_pos hc, if_neg (by decide), if_neg (by grind), if_pos hw.2, e_isThere, if_pos hl, if_neg (by decide)]
  unfold cabR at hp
  rcases sw3 hw with rfl | rfl | rfl | rfl
  · refine ⟨fun _ => ?_, fun e => absurd e (by decide), fun e => absurd e (by decide), fun e => absurd e (by decide)⟩
    rw [h4]
    exact i_weighsIn hT (by simpa using hp)
  · refine ⟨fun e => absurd e (by decide), fun _ => ?_, fun e => absurd e (by decide), fun e => absurd e (by decide)⟩
    exact i_armNow hT hB h4 (by simpa using hp)
  · refine ⟨fun e => absurd e (by decide), fun e => absurd e (by decide), fun _ => ?_, fun e => absurd e (by decide)⟩
    exact i_floorNow hT hB h4 (by simpa using hp)
  · refine ⟨fun e => absurd e (by decide), fun e => absurd e (by decide), fun e => absurd e (by decide), fun _ => ?_⟩
    exact i_sizeIn hT (by simpa using hp)
theorem m_cabinNow {σ : St} {nt hh : Nat} {c what : Int32} {Φ : Int32 → St → Prop} (h : Rdy σ nt hh) (hw : 0 ≤ what ∧ what ≤ 3) (hp : Φ (cabR σ.1 nt hh c what) σ) : wX12_cabinNow σ c what Φ := by
  obtain ⟨hT, hM, hB, h4, h8, hl2, hs2, hL⟩ := h
  unfold wX12_cabinNow
  unfold cabR at hp
  rcases sw3 hw with rfl | rfl | rfl | rfl
  · refine ⟨fun _ => ?_, fun e => absurd e (by decide), fun e => absurd e (by decide), fun e => absurd e (by decide)⟩
    rw [h8]
    exact i_cabin0 hB.1 hM (by simpa using hp)
  · refine ⟨fun e => absurd e (by decide), fun _ => ?_, fun e => absurd e (by decide), fun e => absurd e (by decide)⟩
    rw [h8, hl2]
    refine i_armBy hM hB ?_
    rw [cab2_0 hB.1]
    simpa using hp
  · refine ⟨fun e => absurd e (by decide), fun e => absurd e (by decide), fun _ => ?_, fun e => absurd e (by decide)⟩
    rw [h8, hl2]
    refine i_floorBy hM hB hL ?_
    rw [cab2_0 hB.1, hs2]
    simpa using hp
  · refine ⟨fun e => absurd e (by decide), fun e => absurd e (by decide), fun e => absurd e (by decide), fun _ => ?_⟩
    exact i_inCabin hB.1 hM (by simpa using hp)
/-- there is a wire, or none -/
theorem inv_wire {j hh : Nat} {σ : St} (h2 : IWr (cl σ.1) j hh) : (σ.1 18 0 = 0 ∧ ¬ 0 < σ.1 3 0) ∨ (σ.1 18 0 = 1 ∧ 0 < σ.1 3 0) := by
  rcases h2.2.2.2.2.2 with ⟨a, b, -⟩ | ⟨a, b, -⟩
  · exact Or.inl ⟨a, by rw [show σ.1 3 0 = 0 from b]; decide⟩
  · refine Or.inr ⟨a, ?_⟩
    have : 10 ≤ σ.1 3 0 := b.1
    grind
theorem st_cabin {j : Nat} {σ : St} {a1 a2 a3 : Int32} (hj : j < 512) (h : InvX j σ) : wL_4 σ a1 a2 a3 (InvX (j + 1)) := by
  have hn := inv_next h Sim.rfl'
  obtain ⟨np, nt, nk, w, hh, h1, h2, h3, h4, h5, h6⟩ := h
  have hR := inv_rdy (by omega) h2 h4
  unfold wL_4
  by_cases hc : 0 ≤ a1 ∧ a1 ≤ 1
  · by_cases hw : 0 ≤ a2 ∧ a2 ≤ 3
    · rcases inv_wire h2 with ⟨e0, e1⟩ | ⟨e0, e1⟩
      · unfold wX11_cabin wX12_cabin
        simp only [e_isCabin, e_within, e_isThere, if_pos hc, if_pos hw, if_neg e1, e0]
        simp [hw, show ¬ a2 < 0 by grind, hn]
      · refine x_cabin hR hc hw e1 ?_
        unfold wX12_cabin
        simp only [e_within, if_pos hc, if_pos hw, e0]
        refine m_cabinNow hR hw ?_
        exact fin_ok rfl hn
    · unfold wX11_cabin wX12_cabin
      simp only [e_isCabin, e_within, if_pos hc, if_neg hw]
      by_cases q : a2 < 0
      · simp [q, hn]
      · simp [q, show ¬ a2 ≤ 3 by grind, hn]
  · unfold wX11_cabin wX12_cabin
    simp only [e_isCabin, e_within, if_neg hc]
    simp [hn]
