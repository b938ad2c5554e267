/-! PURE PART 4: about, as, count -/
theorem e_isThing {σ : St} {nt : Nat} (hM : σ.1 18 9 = nI nt) (v : Int32) (Φ : Int32 → St → Prop) : wX12_isThing σ v Φ = Φ (if 0 ≤ v ∧ v ≤ nI nt - 1 then 1 else 0) σ := by
  unfold wX12_isThing
  rw [e_within, bi01, true_and, hM]
theorem idx_yes {nt i : Nat} (hi : i < nt) (hn : nt ≤ 6) : 0 ≤ nI i ∧ nI i ≤ nI nt - 1 := by
  refine ⟨nI_pos' (by omega), ?_⟩
  rw [show (1 : Int32) = nI 1 from rfl, nI_sub (by omega)]
  exact nI_le (by omega) (by omega)
theorem idx_no {nt : Nat} {v : Int32} (hn : nt ≤ 6) (h : v < 0 ∨ nI nt ≤ v) : ¬ (0 ≤ v ∧ v ≤ nI nt - 1) := by
  have a : nI nt ≤ 6 := nI_le (b := 6) hn (by omega)
  have b : 0 ≤ nI nt := nI_pos' (by omega)
  grind
theorem idx_cases (nt : Nat) (hn : nt ≤ 6) (v : Int32) : (∃ i, i < nt ∧ v = nI i) ∨ (v < 0 ∨ nI nt ≤ v) := by
  by_cases h : v < 0
  · exact Or.inr (Or.inl h)
  · by_cases h2 : nI nt ≤ v
    · exact Or.inr (Or.inr h2)
    · left
      obtain ⟨i, hi, rfl⟩ := nI_of h
      exact ⟨i, by
        by_cases q : i < nt
        · exact q
        · exact absurd (nI_le (by omega) hi) h2, rfl⟩
def aboutR (V : Nat → Nat → Int32) (hh : Nat) (i : Nat) (what : Int32) : Int32 := if what = 0 then V 19 i else if what = 1 then V 20 i else if what = 2 then V 21 i else if what = 3 then wgV V (nI hh) i else nI hh - V 22 i
theorem sw4 {v : Int32} (h : 0 ≤ v ∧ v ≤ 4) : v = 0 ∨ v = 1 ∨ v = 2 ∨ v = 3 ∨ v = 4 := by grind
theorem i_kind {σ : St} {i a : Nat} (h : TXr σ i a) {Φ : Int32 → St → Prop} (hp : Φ (σ.1 19 i) σ) : wT_kind_13459 σ a Φ := by
  unfold wT_kind_13459
  refine ⟨h.1, ?_⟩
  rcases h.2.1 with ⟨e, f⟩ | ⟨e, f⟩ | ⟨e, f⟩ | ⟨e, f⟩ | ⟨e, f⟩ <;> rw [f] at hp
  · exact Or.inr (Or.inr (Or.inr (Or.inr ⟨e, hp⟩)))
  · exact Or.inl ⟨e, hp⟩
  · exact Or.inr (Or.inl ⟨e, hp⟩)
  · exact Or.inr (Or.inr (Or.inr (Or.inl ⟨e, hp⟩)))
  · exact Or.inr (Or.inr (Or.inl ⟨e, hp⟩))
theorem i_hoursT {σ : St} {i a : Nat} (h : TXr σ i a) {hr : Int32} {Φ : Int32 → St → Prop} (hp : Φ (hr - σ.1 22 i) σ) : wT_hoursHere_13459 σ a hr Φ := by
  unfold wT_hoursHere_13459
  refine ⟨h.1, ?_⟩
  have q := i_hours h hp
  rcases h.2.1 with ⟨e, f⟩ | ⟨e, f⟩ | ⟨e, f⟩ | ⟨e, f⟩ | ⟨e, f⟩
  · exact Or.inr (Or.inr (Or.inr (Or.inr ⟨e, q⟩)))
  · exact Or.inl ⟨e, q⟩
  · exact Or.inr (Or.inl ⟨e, q⟩)
  · exact Or.inr (Or.inr (Or.inr (Or.inl ⟨e, q⟩)))
  · exact Or.inr (Or.inr (Or.inl ⟨e, q⟩))
theorem ne_d {a b : Int32} {P : Prop} (h : decide (a = b) = false) : a = b → P := fun e => absurd e (of_decide_eq_false h)
theorem x_about {σ : St} {nt hh i : Nat} {what : Int32} {Φ : Int32 → St → Prop} (h : Rdy σ nt hh) (hi : i < nt) (hw : 0 ≤ what ∧ what ≤ 4) (hp : Φ (aboutR σ.1 hh i what) σ) : wX11_about σ (nI i) what Φ := by
  obtain ⟨hT, hM, hB, h4, h8, hl2, hs2, hL⟩ := h
  obtain ⟨a, ha, hX⟩ := hT.2.2 i hi
  unfold wX11_about
  refine i_at hT hi ha ⟨(fun e => by cases e), fun b e => ?_⟩
  cases e
  unfold aboutR at hp
  rcases sw4 hw with rfl | rfl | rfl | rfl | rfl
  · exact ⟨fun _ => i_kind hX (by simpa using hp), ne_d rfl, ne_d rfl, ne_d rfl, ne_d rfl, fun e => absurd e (by decide)⟩
  · exact ⟨ne_d rfl, fun _ => ⟨hX.isT, by rw [hX.2.2.1]; simpa using hp⟩, ne_d rfl, ne_d rfl, ne_d rfl, fun e => absurd e (by decide)⟩
  · exact ⟨ne_d rfl, ne_d rfl, fun _ => ⟨hX.isT, by rw [hX.2.2.2.2]; simpa using hp⟩, ne_d rfl, ne_d rfl, fun e => absurd e (by decide)⟩
  · exact ⟨ne_d rfl, ne_d rfl, ne_d rfl, fun _ => by rw [h4]; exact i_wT hX (by simpa using hp), ne_d rfl, fun e => absurd e (by decide)⟩
  · exact ⟨ne_d rfl, ne_d rfl, ne_d rfl, ne_d rfl, fun _ => by rw [h4]; exact i_hoursT hX (by simpa using hp), fun e => absurd e (by decide)⟩
theorem m_thingNow {σ : St} {nt hh i : Nat} {what : Int32} {Φ : Int32 → St → Prop} (h : Rdy σ nt hh) (hi : i < nt) (hw : 0 ≤ what ∧ what ≤ 4) (hp : Φ (aboutR σ.1 hh i what) σ) : wX12_thingNow σ (nI i) what Φ := by
  obtain ⟨hT, hM, hB, h4, h8, hl2, hs2, hL⟩ := h
  have hn := hT.1
  have hv : vp_in (nI i) 6 := vp_in_nI (by omega) (by omega)
  unfold wX12_thingNow
  rw [nI_clamp (by omega), h8]
  unfold aboutR at hp
  rcases sw4 hw with rfl | rfl | rfl | rfl | rfl
  · exact ⟨fun _ => ⟨hv, by simpa using hp⟩, ne_d rfl, ne_d rfl, ne_d rfl, fun e => absurd e (by decide)⟩
  · exact ⟨ne_d rfl, fun _ => ⟨hv, by simpa using hp⟩, ne_d rfl, ne_d rfl, fun e => absurd e (by decide)⟩
  · exact ⟨ne_d rfl, ne_d rfl, fun _ => ⟨hv, by simpa using hp⟩, ne_d rfl, fun e => absurd e (by decide)⟩
  · exact ⟨ne_d rfl, ne_d rfl, ne_d rfl, fun _ => i_wgM (by omega) (by simpa using hp), fun e => absurd e (by decide)⟩
  · exact ⟨ne_d rfl, ne_d rfl, ne_d rfl, ne_d rfl, fun _ => ⟨hv, by simpa using hp⟩⟩
theorem st_about {j : Nat} {σ : St} {a1 a2 a3 : Int32} (hj : j < 512) (h : InvX j σ) : wL_6 σ a1 a2 a3 (InvX (j + 1)) := by
  have hn := inv_next h Sim.rfl'
  obtain ⟨np, nt, nk, w, hh, h1, h2, h3, h4, h5, h6⟩ := h
  have hR := inv_rdy (by omega) h2 h4
  have hT := hR.1
  have hM := hR.2.1
  unfold wL_6
  rcases idx_cases nt hT.1 a1 with ⟨i, hi, rfl⟩ | hv
  · by_cases hw : 0 ≤ a2 ∧ a2 ≤ 4
    · refine x_about hR hi hw ?_
      unfold wX12_about
      rw [e_isThing hM, if_pos (idx_yes hi hT.1), if_neg (by decide), e_within, if_pos hw, if_neg (by decide)]
      exact m_thingNow hR hi hw (fin_ok rfl hn)
    · obtain ⟨a, ha, hX⟩ := hT.2.2 i hi
      unfold wX11_about
      refine i_at hT hi ha ⟨(fun e => by cases e), fun b e => ?_⟩
      have q : wX12_about σ (nI i) a2 (fun r2 σ2 => if (-102 : Int32) = r2 then InvX (j + 1) σ2 else False) := by
        unfold wX12_about
        rw [e_isThing hM, if_pos (idx_yes hi hT.1), if_neg (by decide), e_within, if_neg hw, if_pos rfl]
        exact fin_ok rfl hn
      have z : ∀ m : Int32, 0 ≤ m ∧ m ≤ 4 → ¬ a2 = m := fun m hm e => hw (e ▸ hm)
      exact ⟨fun e => absurd e (z 0 (by decide)), fun e => absurd e (z 1 (by decide)), fun e => absurd e (z 2 (by decide)), fun e => absurd e (z 3 (by decide)), fun e => absurd e (z 4 (by decide)), fun _ => q⟩
  · unfold wX11_about
    refine i_atNo hT hv ⟨fun _ => ?_, (fun b e => by cases e)⟩
    unfold wX12_about
    dsimp only
    rw [e_isThing hM, if_neg (idx_no hT.1 hv), if_pos rfl]
    exact fin_ok rfl hn
/-! as() -/
def asR (V : Nat → Nat → Int32) (i : Nat) (what : Int32) : Int32 := if what = 0 ∨ V 19 i = what ∨ (what = 3 ∧ V 19 i = 4) then nI i else -1
theorem x_as {σ : St} {nt i : Nat} {what : Int32} {Φ : Int32 → St → Prop} (hT : ThX σ nt) (hi : i < nt) (hw : 0 ≤ what ∧ what ≤ 4) (hp : Φ (asR σ.1 i what) σ) : wX11_as σ (nI i) what Φ := by
  obtain ⟨a, ha, hX⟩ := hT.2.2 i hi
  unfold wX11_as
  refine i_at hT hi ha ⟨(fun e => by cases e), fun b e => ?_⟩
  cases e
  rw [e_isKind, if_pos hw, if_neg (by decide)]
  unfold wX11_isOfKind
  simp only [bi01, true_and, bi0]
  rcases sw4 hw with rfl | rfl | rfl | rfl | rfl <;> rcases hX.2.1 with ⟨e, f⟩ | ⟨e, f⟩ | ⟨e, f⟩ | ⟨e, f⟩ | ⟨e, f⟩ <;> simpa [e, f, asR, hX.isT] using hp
theorem m_as {σ : St} {nt i : Nat} {what : Int32} {Φ : Int32 → St → Prop} (hn : nt ≤ 6) (hM : σ.1 18 9 = nI nt) (hi : i < nt) (hw : 0 ≤ what ∧ what ≤ 4) (hp : Φ (asR σ.1 i what) σ) : wX12_as σ (nI i) what Φ := by
  unfold wX12_as
  rw [e_isThing hM, if_pos (idx_yes hi hn), if_neg (by decide), e_within, if_pos hw, if_neg (by decide), nI_clamp (by omega)]
  refine ⟨vp_in_nI (by omega) (by omega), ?_⟩
  unfold asR at hp
  by_cases h0 : what = 0
  · rw [if_pos h0]; rw [if_pos (Or.inl h0)] at hp; exact hp
  · rw [if_neg h0]
    by_cases h1 : σ.1 19 i = what
    · rw [if_pos h1]; rw [if_pos (Or.inr (Or.inl h1))] at hp; exact hp
    · rw [if_neg h1]
      by_cases h3 : what = 3
      · rw [if_pos h3]
        by_cases h4 : σ.1 19 i = 4
        · rw [if_pos h4]; rw [if_pos (Or.inr (Or.inr ⟨h3, h4⟩))] at hp; exact hp
        · rw [if_neg h4]; rw [if_neg (fun q => q.elim h0 (fun q => q.elim h1 (fun q => h4 q.2)))] at hp; exact hp
      · rw [if_neg h3]; rw [if_neg (fun q => q.elim h0 (fun q => q.elim h1 (fun q => h3 q.1)))] at hp; exact hp
theorem st_as {j : Nat} {σ : St} {a1 a2 a3 : Int32} (hj : j < 512) (h : InvX j σ) : wL_7 σ a1 a2 a3 (InvX (j + 1)) := by
  have hn := inv_next h Sim.rfl'
  obtain ⟨np, nt, nk, w, hh, h1, h2, h3, h4, h5, h6⟩ := h
  have hR := inv_rdy (by omega) h2 h4
  have hT := hR.1
  have hM := hR.2.1
  unfold wL_7
  rcases idx_cases nt hT.1 a1 with ⟨i, hi, rfl⟩ | hv
  · by_cases hw : 0 ≤ a2 ∧ a2 ≤ 4
    · exact x_as hT hi hw (m_as hT.1 hM hi hw (fin_ok rfl hn))
    · obtain ⟨a, ha, hX⟩ := hT.2.2 i hi
      unfold wX11_as
      refine i_at hT hi ha ⟨(fun e => by cases e), fun b e => ?_⟩
      rw [e_isKind, if_neg hw, if_pos rfl]
      unfold wX12_as
      dsimp only
      rw [e_isThing hM, if_pos (idx_yes hi hT.1), if_neg (by decide), e_within, if_neg hw, if_pos rfl]
      exact fin_ok rfl hn
  · unfold wX11_as
    refine i_atNo hT hv ⟨fun _ => ?_, (fun b e => by cases e)⟩
    unfold wX12_as
    dsimp only
    rw [e_isThing hM, if_neg (idx_no hT.1 hv), if_pos rfl]
    exact fin_ok rfl hn
/-! count() -/
def countR (V : Nat → Nat → Int32) (nt hh : Nat) (what : Int32) : Int32 := if what = 0 then V 3 0 else if what = 1 then turnsS (V 3 1) (V 3 0) else if what = 2 then V 3 1 else if what = 3 then cab2 V (nI hh) noM nt (strainS (V 3 1) (V 3 0)) else if what = 4 then V 3 2 else if what = 5 then V 3 5 else if what = 6 then V 3 3 else if what = 7 then V 3 4 else if what = 8 then V 3 6 else if what = 9 then V 4 2 else if what = 10 then V 1 1 else if what = 11 then V 0 9 else if what = 12 then V 7 2 else -102
theorem sw12 {v : Int32} (h : ¬ (v.toInt < 0 ∨ 12 < v.toInt)) : v = 0 ∨ v = 1 ∨ v = 2 ∨ v = 3 ∨ v = 4 ∨ v = 5 ∨ v = 6 ∨ v = 7 ∨ v = 8 ∨ v = 9 ∨ v = 10 ∨ v = 11 ∨ v = 12 := by
  have : v.toInt = 0 ∨ v.toInt = 1 ∨ v.toInt = 2 ∨ v.toInt = 3 ∨ v.toInt = 4 ∨ v.toInt = 5 ∨ v.toInt = 6 ∨ v.toInt = 7 ∨ v.toInt = 8 ∨ v.toInt = 9 ∨ v.toInt = 10 ∨ v.toInt = 11 ∨ v.toInt = 12 := by omega
  rcases this with e | e | e | e | e | e | e | e | e | e | e | e | e <;> simp [← Int32.toInt_inj, e]
theorem one_id {v : Int32} (h : v = 0 ∨ v = 1) {Φ : Int32 → St → Prop} {σ : St} (hp : Φ v σ) : if v = 0 then Φ 0 σ else Φ 1 σ := by
  rcases h with rfl | rfl
  · rw [if_pos rfl]; exact hp
  · rw [if_neg (by decide)]; exact hp
theorem x_count {σ : St} {nt hh : Nat} {what : Int32} {Φ : Int32 → St → Prop} (h : Rdy σ nt hh) (h5 : σ.1 3 5 = 0 ∨ σ.1 3 5 = 1) (h6 : σ.1 3 6 = 0 ∨ σ.1 3 6 = 1) (hp : Φ (countR σ.1 nt hh what) σ) : wX11_count σ what Φ := by
  obtain ⟨hT, hM, hB, h4, h8, hl2, hs2, hL⟩ := h
  unfold wX11_count
  unfold countR at hp
  refine ⟨?_, ?_, ?_, ?_, ?_, ?_, ?_, ?_, ?_, ?_, ?_, ?_, ?_, ?_⟩
  · rintro rfl; simpa using hp
  · rintro rfl; rw [e_turnsNow]; simpa using hp
  · rintro rfl; simpa using hp
  · rintro rfl; exact i_strainNow hT hB h4 (by simpa using hp)
  · rintro rfl; simpa using hp
  · rintro rfl; exact one_id h5 (by simpa using hp)
  · rintro rfl; simpa using hp
  · rintro rfl; simpa using hp
  · rintro rfl; exact one_id h6 (by simpa using hp)
  · rintro rfl; simpa using hp
  · rintro rfl; simpa using hp
  · rintro rfl; simpa using hp
  · rintro rfl; simpa using hp
  · intro e
    have z : ∀ m : Int32, 0 ≤ m.toInt ∧ m.toInt ≤ 12 → ¬ what = m := fun m hm q => by subst q; omega
    simp only [if_neg (z 0 (by decide)), if_neg (z 1 (by decide)), if_neg (z 2 (by decide)), if_neg (z 3 (by decide)), if_neg (z 4 (by decide)), if_neg (z 5 (by decide)), if_neg (z 6 (by decide)), if_neg (z 7 (by decide)), if_neg (z 8 (by decide)), if_neg (z 9 (by decide)), if_neg (z 10 (by decide)), if_neg (z 11 (by decide)), if_neg (z 12 (by decide))] at hp
    exact hp
theorem m_howMany {σ : St} {nt hh : Nat} {what : Int32} {Φ : Int32 → St → Prop} (h : Rdy σ nt hh) (h5 : σ.1 3 5 = 0 ∨ σ.1 3 5 = 1) (h6 : σ.1 3 6 = 0 ∨ σ.1 3 6 = 1) (e4 : σ.1 18 4 = σ.1 3 2) (e5 : σ.1 18 5 = σ.1 3 5) (e6 : σ.1 18 6 = σ.1 3 6) (e7 : σ.1 18 7 = σ.1 3 3) (e17 : σ.1 18 17 = σ.1 1 1) (e1 : σ.1 18 1 = σ.1 0 9) (e14 : σ.1 18 14 = σ.1 7 2) (hp : Φ (countR σ.1 nt hh what) σ) : wX12_howMany σ what Φ := by
  obtain ⟨hT, hM, hB, h4, h8, hl2, hs2, hL⟩ := h
  unfold wX12_howMany wX12_one
  unfold countR at hp
  rw [hl2, hs2, h8, e4, e5, e6, e7, e17, e1, e14, e_turnsM _ _ _ hL, hM]
  refine ⟨?_, ?_, ?_, ?_, ?_, ?_, ?_, ?_, ?_, ?_, ?_, ?_, ?_, ?_⟩
  · rintro rfl; simpa using hp
  · rintro rfl; rw [hs2]; simpa using hp
  · rintro rfl; simpa using hp
  · rintro rfl; exact i_strainM hM hB hL (by rw [hs2]; simpa using hp)
  · rintro rfl; simpa using hp
  · rintro rfl; exact one_id h5 (by simpa using hp)
  · rintro rfl; simpa using hp
  · rintro rfl; rw [← h4]; simpa using hp
  · rintro rfl; exact one_id h6 (by simpa using hp)
  · rintro rfl; rw [← hT.2.1]; simpa using hp
  · rintro rfl; simpa using hp
  · rintro rfl; simpa using hp
  · rintro rfl; simpa using hp
  · intro e
    have z : ∀ m : Int32, 0 ≤ m.toInt ∧ m.toInt ≤ 12 → ¬ what = m := fun m hm q => by subst q; omega
    simp only [if_neg (z 0 (by decide)), if_neg (z 1 (by decide)), if_neg (z 2 (by decide)), if_neg (z 3 (by decide)), if_neg (z 4 (by decide)), if_neg (z 5 (by decide)), if_neg (z 6 (by decide)), if_neg (z 7 (by decide)), if_neg (z 8 (by decide)), if_neg (z 9 (by decide)), if_neg (z 10 (by decide)), if_neg (z 11 (by decide)), if_neg (z 12 (by decide))] at hp
    exact hp
/-- all that both sides' numbers have in common -/
def Eqs (σ : St) : Prop := (σ.1 3 5 = 0 ∨ σ.1 3 5 = 1) ∧ (σ.1 3 6 = 0 ∨ σ.1 3 6 = 1) ∧ σ.1 18 4 = σ.1 3 2 ∧ σ.1 18 5 = σ.1 3 5 ∧ σ.1 18 6 = σ.1 3 6 ∧ σ.1 18 7 = σ.1 3 3 ∧ σ.1 18 17 = σ.1 1 1 ∧ σ.1 18 1 = σ.1 0 9 ∧ σ.1 18 14 = σ.1 7 2
theorem inv_eqs {j np nk w hh : Nat} {σ : St} (h1 : IPg (cl σ.1) np) (h2 : IWr (cl σ.1) j hh) (h3 : IRd (cl σ.1) j w) (h5 : ITd (cl σ.1) nk) : Eqs σ := by
  obtain ⟨⟨a1, a2, a3, a4, a5, a6, a7⟩, b1, b2, b3, b4, b5⟩ := h2
  exact ⟨b3, b4, a3, a6, a7, a4, Eq.trans h1.2.2.1 (Eq.symm h1.2.1), Eq.trans h3.2.1 (Eq.symm h3.1), Eq.trans h5.2.2.1 (Eq.symm h5.2.1)⟩
theorem st_count {j : Nat} {σ : St} {a1 a2 a3 : Int32} (hj : j < 512) (h : InvX j σ) : wL_20 σ a1 a2 a3 (InvX (j + 1)) := by
  have hn := inv_next h Sim.rfl'
  obtain ⟨np, nt, nk, w, hh, h1, h2, h3, h4, h5, h6⟩ := h
  have hR := inv_rdy (by omega) h2 h4
  obtain ⟨q5, q6, e4, e5, e6, e7, e17, e1, e14⟩ := inv_eqs h1 h2 h3 h5
  unfold wL_20
  refine x_count hR q5 q6 ?_
  unfold wX12_count
  exact m_howMany hR q5 q6 e4 e5 e6 e7 e17 e1 e14 (fin_ok rfl hn)
