/-! PURE PART B: what the calls answer that only tell -/
def Rdy (σ : St) (nt hh : Nat) : Prop := ThX σ nt ∧ TB σ.1 nt hh ∧ σ.1 3 4 = nI hh
theorem TB.up {V : Nat → Nat → Int32} {nt hh h2 : Nat} (h : TB V nt hh) (h1 : hh ≤ h2) (h3 : h2 ≤ 1000) : TB V nt h2 := ⟨h.1, h3, fun i hi => by
  obtain ⟨w, c, e1, e2, e3, e4⟩ := h.2.2 i hi
  exact ⟨w, c, e1, e2, e3, by omega⟩⟩
def cabR (V : Nat → Nat → Int32) (nt hh : Nat) (c what : Int32) : Int32 := if what = 0 then cabV V c (nI hh) noM nt else if what = 1 then cab2 V (nI hh) noM nt (armS c (V 3 0)) else if what = 2 then cab2 V (nI hh) noM nt (floorS (V 3 1) c (V 3 0)) else szS (rP (V 18)) c nt
theorem sw3 {v : Int32} (h : 0 ≤ v ∧ v ≤ 3) : v = 0 ∨ v = 1 ∨ v = 2 ∨ (v = 3) := by grind
theorem x_cabin {σ : St} {nt hh : Nat} {c what : Int32} {Φ : Int32 → St → Prop} (h : Rdy σ nt hh) (hc : 0 ≤ c ∧ c ≤ 1) (hw : 0 ≤ what ∧ what ≤ 3) (hl : 0 < σ.1 3 0) (hp : Φ (cabR σ.1 nt hh c what) σ) : wX11_cabin σ c what Φ := by
  obtain ⟨hT, hB, h4⟩ := h
  unfold wX11_cabin
  rw [e_isCabin, if_pos hc, if_neg (by decide), if_neg (by grind), if_pos hw.2, e_isThere, if_pos hl, if_neg (by decide)]
  unfold cabR at hp
  rcases sw3 hw with rfl | rfl | rfl | rfl
  · refine ⟨fun _ => ?_, fun e => absurd e (by decide), fun e => absurd e (by decide), fun e => absurd e (by decide)⟩
    rw [h4]
    exact i_weighsIn hT (by simpa using hp)
  · refine ⟨fun e => absurd e (by decide), fun _ => ?_, fun e => absurd e (by decide), fun e => absurd e (by decide)⟩
    exact i_armNow hT hB h4 (by simpa using hp)
  · refine ⟨fun e => absurd e (by decide), fun e => absurd e (by decide), fun _ => ?_, fun e => absurd e (by decide)⟩
    exact i_floorNow hT hB h4 (by simpa using hp)
  · refine ⟨fun e => absurd e (by decide), fun e => absurd e (by decide), fun e => absurd e (by decide), fun _ => ?_⟩
    exact i_sizeIn hT (by simpa using hp)
theorem idx_cases (nt : Nat) (hn : nt ≤ 6) (v : Int32) : (∃ i, i < nt ∧ v = nI i) ∨ (v < 0 ∨ nI nt ≤ v) := by
  by_cases h : v < 0
  · exact Or.inr (Or.inl h)
  · by_cases h2 : nI nt ≤ v
    · exact Or.inr (Or.inr h2)
    · left
      obtain ⟨i, hi, rfl⟩ := nI_of h
      exact ⟨i, by
        by_cases q : i < nt
        · exact q
        · exact absurd (nI_le (by omega) hi) h2, rfl⟩
def aboutR (V : Nat → Nat → Int32) (hh : Nat) (i : Nat) (what : Int32) : Int32 := if what = 0 then rK (V 18) i else if what = 1 then rW (V 18) i else if what = 2 then rP (V 18) i else if what = 3 then wgV V (nI hh) i else nI hh - rM (V 18) i
theorem sw4 {v : Int32} (h : 0 ≤ v ∧ v ≤ 4) : v = 0 ∨ v = 1 ∨ v = 2 ∨ v = 3 ∨ v = 4 := by grind
theorem i_kind {σ : St} {i a : Nat} (h : TXr σ i a) {Φ : Int32 → St → Prop} (hp : Φ (rK (σ.1 18) i) σ) : wT_kind_13459 σ a Φ := by
  unfold wT_kind_13459
  refine ⟨h.1, ?_⟩
  rcases h.2.1 with ⟨e, f⟩ | ⟨e, f⟩ | ⟨e, f⟩ | ⟨e, f⟩ | ⟨e, f⟩ <;> rw [f] at hp
  · exact Or.inr (Or.inr (Or.inr (Or.inr ⟨e, hp⟩)))
  · exact Or.inl ⟨e, hp⟩
  · exact Or.inr (Or.inl ⟨e, hp⟩)
  · exact Or.inr (Or.inr (Or.inr (Or.inl ⟨e, hp⟩)))
  · exact Or.inr (Or.inr (Or.inl ⟨e, hp⟩))
theorem i_hoursT {σ : St} {i a : Nat} (h : TXr σ i a) {hr : Int32} {Φ : Int32 → St → Prop} (hp : Φ (hr - rM (σ.1 18) i) σ) : wT_hoursHere_13459 σ a hr Φ := by
  unfold wT_hoursHere_13459
  refine ⟨h.1, ?_⟩
  have q := i_hours h hp
  rcases h.2.1 with ⟨e, f⟩ | ⟨e, f⟩ | ⟨e, f⟩ | ⟨e, f⟩ | ⟨e, f⟩
  · exact Or.inr (Or.inr (Or.inr (Or.inr ⟨e, q⟩)))
  · exact Or.inl ⟨e, q⟩
  · exact Or.inr (Or.inl ⟨e, q⟩)
  · exact Or.inr (Or.inr (Or.inr (Or.inl ⟨e, q⟩)))
  · exact Or.inr (Or.inr (Or.inl ⟨e, q⟩))
theorem ne_d {a b : Int32} {P : Prop} (h : decide (a = b) = false) : a = b → P := fun e => absurd e (of_decide_eq_false h)
theorem x_about {σ : St} {nt hh i : Nat} {what : Int32} {Φ : Int32 → St → Prop} (h : Rdy σ nt hh) (hi : i < nt) (hw : 0 ≤ what ∧ what ≤ 4) (hp : Φ (aboutR σ.1 hh i what) σ) : wX11_about σ (nI i) what Φ := by
  obtain ⟨hT, hB, h4⟩ := h
  obtain ⟨a, ha, hX⟩ := hT.2.2 i hi
  unfold wX11_about
  refine i_at hT hi ha ⟨(fun e => by cases e), fun b e => ?_⟩
  cases e
  unfold aboutR at hp
  rcases sw4 hw with rfl | rfl | rfl | rfl | rfl
  · exact ⟨fun _ => i_kind hX (by simpa using hp), ne_d rfl, ne_d rfl, ne_d rfl, ne_d rfl, fun e => absurd e (by decide)⟩
  · exact ⟨ne_d rfl, fun _ => ⟨hX.isT, by rw [hX.2.2.1]; simpa using hp⟩, ne_d rfl, ne_d rfl, ne_d rfl, fun e => absurd e (by decide)⟩
  · exact ⟨ne_d rfl, ne_d rfl, fun _ => ⟨hX.isT, by rw [hX.2.2.2.2]; simpa using hp⟩, ne_d rfl, ne_d rfl, fun e => absurd e (by decide)⟩
  · exact ⟨ne_d rfl, ne_d rfl, ne_d rfl, fun _ => by rw [h4]; exact i_wT hX (by simpa using hp), ne_d rfl, fun e => absurd e (by decide)⟩
  · exact ⟨ne_d rfl, ne_d rfl, ne_d rfl, ne_d rfl, fun _ => by rw [h4]; exact i_hoursT hX (by simpa using hp), fun e => absurd e (by decide)⟩
def asR (V : Nat → Nat → Int32) (i : Nat) (what : Int32) : Int32 := if what = 0 ∨ rK (V 18) i = what ∨ (what = 3 ∧ rK (V 18) i = 4) then nI i else -1
theorem x_as {σ : St} {nt i : Nat} {what : Int32} {Φ : Int32 → St → Prop} (hT : ThX σ nt) (hi : i < nt) (hw : 0 ≤ what ∧ what ≤ 4) (hp : Φ (asR σ.1 i what) σ) : wX11_as σ (nI i) what Φ := by
  obtain ⟨a, ha, hX⟩ := hT.2.2 i hi
  unfold wX11_as
  refine i_at hT hi ha ⟨(fun e => by cases e), fun b e => ?_⟩
  cases e
  rw [e_isKind, if_pos hw, if_neg (by decide)]
  unfold wX11_isOfKind
  simp only [bi01, true_and, bi0]
  rcases sw4 hw with rfl | rfl | rfl | rfl | rfl <;> rcases hX.2.1 with ⟨e, f⟩ | ⟨e, f⟩ | ⟨e, f⟩ | ⟨e, f⟩ | ⟨e, f⟩ <;> simpa [e, f, asR, hX.isT] using hp
def countR (V : Nat → Nat → Int32) (nt hh : Nat) (what : Int32) : Int32 := if what = 0 then V 3 0 else if what = 1 then turnsS (V 3 1) (V 3 0) else if what = 2 then V 3 1 else if what = 3 then cab2 V (nI hh) noM nt (strainS (V 3 1) (V 3 0)) else if what = 4 then V 3 2 else if what = 5 then V 3 5 else if what = 6 then V 3 3 else if what = 7 then V 3 4 else if what = 8 then V 3 6 else if what = 9 then V 4 2 else if what = 10 then V 1 1 else if what = 11 then V 0 9 else if what = 12 then V 7 2 else -102
theorem sw12 {v : Int32} (h : ¬ (v.toInt < 0 ∨ 12 < v.toInt)) : v = 0 ∨ v = 1 ∨ v = 2 ∨ v = 3 ∨ v = 4 ∨ v = 5 ∨ v = 6 ∨ v = 7 ∨ v = 8 ∨ v = 9 ∨ v = 10 ∨ v = 11 ∨ v = 12 := by
  have : v.toInt = 0 ∨ v.toInt = 1 ∨ v.toInt = 2 ∨ v.toInt = 3 ∨ v.toInt = 4 ∨ v.toInt = 5 ∨ v.toInt = 6 ∨ v.toInt = 7 ∨ v.toInt = 8 ∨ v.toInt = 9 ∨ v.toInt = 10 ∨ v.toInt = 11 ∨ v.toInt = 12 := by omega
  rcases this with e | e | e | e | e | e | e | e | e | e | e | e | e <;> simp [← Int32.toInt_inj, e]
theorem one_id {v : Int32} (h : v = 0 ∨ v = 1) {Φ : Int32 → St → Prop} {σ : St} (hp : Φ v σ) : if v = 0 then Φ 0 σ else Φ 1 σ := by
  rcases h with rfl | rfl
  · rw [if_pos rfl]; exact hp
  · rw [if_neg (by decide)]; exact hp
theorem x_count {σ : St} {nt hh : Nat} {what : Int32} {Φ : Int32 → St → Prop} (h : Rdy σ nt hh) (h5 : σ.1 3 5 = 0 ∨ σ.1 3 5 = 1) (h6 : σ.1 3 6 = 0 ∨ σ.1 3 6 = 1) (hp : Φ (countR σ.1 nt hh what) σ) : wX11_count σ what Φ := by
  obtain ⟨hT, hB, h4⟩ := h
  unfold wX11_count
  unfold countR at hp
  refine ⟨?_, ?_, ?_, ?_, ?_, ?_, ?_, ?_, ?_, ?_, ?_, ?_, ?_, ?_⟩
  · rintro rfl; simpa using hp
  · rintro rfl; rw [e_turnsNow]; simpa using hp
  · rintro rfl; simpa using hp
  · rintro rfl; exact i_strainNow hT hB h4 (by simpa using hp)
  · rintro rfl; simpa using hp
  · rintro rfl; exact one_id h5 (by simpa using hp)
  · rintro rfl; simpa using hp
  · rintro rfl; simpa using hp
  · rintro rfl; exact one_id h6 (by simpa using hp)
  · rintro rfl; simpa using hp
  · rintro rfl; simpa using hp
  · rintro rfl; simpa using hp
  · rintro rfl; simpa using hp
  · intro e
    have z : ∀ m : Int32, 0 ≤ m.toInt ∧ m.toInt ≤ 12 → ¬ what = m := fun m hm q => by subst q; omega
    simp only [if_neg (z 0 (by decide)), if_neg (z 1 (by decide)), if_neg (z 2 (by decide)), if_neg (z 3 (by decide)), if_neg (z 4 (by decide)), if_neg (z 5 (by decide)), if_neg (z 6 (by decide)), if_neg (z 7 (by decide)), if_neg (z 8 (by decide)), if_neg (z 9 (by decide)), if_neg (z 10 (by decide)), if_neg (z 11 (by decide)), if_neg (z 12 (by decide))] at hp
    exact hp
theorem x_cabinU {σ : St} {c what : Int32} {Φ : Int32 → St → Prop} (hc : ¬ (0 ≤ c ∧ c ≤ 1)) (hp : Φ (-101) σ) : wX11_cabin σ c what Φ := by
  unfold wX11_cabin
  rw [e_isCabin, if_neg hc, if_pos rfl]
  exact hp
theorem x_cabinO {σ : St} {c what : Int32} {Φ : Int32 → St → Prop} (hc : 0 ≤ c ∧ c ≤ 1) (hw : 3 < what) (hp : Φ (-102) σ) : wX11_cabin σ c what Φ := by
  unfold wX11_cabin
  rw [e_isCabin, if_pos hc, if_neg (by decide)]
  by_cases q : what < 0
  · rw [if_pos q]; exact hp
  · rw [if_neg q, if_neg (show ¬ what ≤ 3 by grind)]; exact hp
theorem x_aboutU {σ : St} {nt : Nat} {v what : Int32} {Φ : Int32 → St → Prop} (hT : ThX σ nt) (hv : v < 0 ∨ nI nt ≤ v) (hp : Φ (-101) σ) : wX11_about σ v what Φ := by
  unfold wX11_about
  exact i_atNo hT hv ⟨fun _ => hp, (fun b e => by cases e)⟩
theorem x_aboutO {σ : St} {nt i : Nat} {Φ : Int32 → St → Prop} (hT : ThX σ nt) (hi : i < nt) (hp : Φ (-102) σ) : wX11_about σ (nI i) 5 Φ := by
  obtain ⟨a, ha, hX⟩ := hT.2.2 i hi
  unfold wX11_about
  refine i_at hT hi ha ⟨(fun e => by cases e), fun b e => ?_⟩
  exact ⟨fun e => absurd e (by decide), fun e => absurd e (by decide), fun e => absurd e (by decide), fun e => absurd e (by decide), fun e => absurd e (by decide), fun _ => hp⟩
theorem x_asU {σ : St} {nt : Nat} {v what : Int32} {Φ : Int32 → St → Prop} (hT : ThX σ nt) (hv : v < 0 ∨ nI nt ≤ v) (hp : Φ (-101) σ) : wX11_as σ v what Φ := by
  unfold wX11_as
  exact i_atNo hT hv ⟨fun _ => hp, (fun b e => by cases e)⟩
theorem x_asO {σ : St} {nt i : Nat} {Φ : Int32 → St → Prop} (hT : ThX σ nt) (hi : i < nt) (hp : Φ (-102) σ) : wX11_as σ (nI i) 5 Φ := by
  obtain ⟨a, ha, hX⟩ := hT.2.2 i hi
  unfold wX11_as
  refine i_at hT hi ha ⟨(fun e => by cases e), fun b e => ?_⟩
  rw [e_isKind, if_neg (show ¬ (0 ≤ (5 : Int32) ∧ (5 : Int32) ≤ 4) by decide), if_pos rfl]
  exact hp
theorem x_carryU {σ : St} {nt : Nat} {v : Int32} {Φ : Int32 → St → Prop} (hT : ThX σ nt) (hv : v < 0 ∨ nI nt ≤ v) (hp : Φ (-101) σ) : wX11_carry σ v Φ := by
  unfold wX11_carry
  exact i_atNo hT hv ⟨fun _ => hp, (fun b e => by cases e)⟩
theorem x_hourO {σ : St} {v : Int32} {Φ : Int32 → St → Prop} (hv : v < -3 ∨ 3 < v) (hp : Φ (-102) σ) : wX11_hour σ v Φ := by
  unfold wX11_hour
  by_cases q : v < -3
  · rw [if_pos q]; exact hp
  · rw [if_neg q, if_neg (show ¬ v ≤ 3 by grind)]; exact hp
theorem x_caughtO {σ : St} {v : Int32} {Φ : Int32 → St → Prop} (hv : v < 1 ∨ 99 < v) (hp : Φ (-102) σ) : wX11_caught σ v Φ := by
  unfold wX11_caught
  by_cases q : v < 1
  · rw [if_pos q]; exact hp
  · rw [if_neg q, if_neg (show ¬ v ≤ 99 by grind)]; exact hp
theorem x_whirlsO {σ : St} {v1 v2 v3 : Int32} {Φ : Int32 → St → Prop} (hv : v1 < 1 ∨ 60 < v1 ∨ v2 < 0 ∨ v3 < 0 ∨ 3 < v3) (hp : Φ (-102) σ) : wX11_whirls σ v1 v2 v3 Φ := by
  unfold wX11_whirls
  by_cases q1 : v1 < 1
  · rw [if_pos q1]; exact hp
  · rw [if_neg q1]
    by_cases q2 : 60 < v1
    · rw [if_pos q2]; exact hp
    · rw [if_neg q2]
      by_cases q3 : v2 < 0
      · rw [if_pos q3]; exact hp
      · rw [if_neg q3]
        by_cases q4 : v3 < 0
        · rw [if_pos q4]; exact hp
        · rw [if_neg q4, if_neg (show ¬ v3 ≤ 3 by grind)]; exact hp
/-! carry: the law's row has changed ahead of the call: what holds of the THING is said apart -/
theorem i_atN {σ : St} {nt i a : Nat} (hn : nt ≤ 6) (h2 : σ.1 4 2 = nI nt) (hi : i < nt) (ha : σ.2.2.1 i = some a) {Φ : Option Nat → St → Prop} (hp : Φ (some a) σ) : wX6_at σ (nI i) Φ := by
  unfold wX6_at
  rw [if_neg (nI_pos (by omega)), h2, if_neg (nI_ge hi (by omega)), if_neg (show ¬ (6 : Int32) ≤ nI i from nI_ge (b := 6) (by omega) (by omega)), nI_clamp (by omega), ha]
  exact ⟨vp_in_nI (by omega) (by omega), hp⟩
theorem i_goes {σ : St} {a : Nat} {kv : Int32} (hm : a ∈ σ.2.2.2.1) (hk : KD (σ.2.2.2.2.1 a) kv) {t : Int32} {Φ : Int32 → St → Prop} (hp : Φ (if kv = 2 ∧ 2 < t then 0 else 1) σ) : wT_goesAcross_13459 σ a t Φ := by
  unfold wT_goesAcross_13459 wX9_goesAcross wX3_goesAcross
  refine ⟨hm, ?_⟩
  rcases hk with ⟨e, f⟩ | ⟨e, f⟩ | ⟨e, f⟩ | ⟨e, f⟩ | ⟨e, f⟩ <;> rw [f] at hp
  · exact Or.inr (Or.inr (Or.inr (Or.inr ⟨e, by decide, by simpa using hp⟩)))
  · exact Or.inl ⟨e, by decide, by simpa using hp⟩
  · refine Or.inr (Or.inl ⟨e, ?_⟩)
    by_cases q : 2 < t
    · rw [if_pos q]; exact ⟨by decide, by simpa [q] using hp⟩
    · rw [if_neg q]; exact ⟨by decide, by simpa [q] using hp⟩
  · exact Or.inr (Or.inr (Or.inr (Or.inl ⟨e, by decide, by simpa using hp⟩)))
  · exact Or.inr (Or.inr (Or.inl ⟨e, by decide, by simpa using hp⟩))
theorem kd_isT {σ : St} {a : Nat} {kv : Int32} (hm : a ∈ σ.2.2.2.1) (hk : KD (σ.2.2.2.2.1 a) kv) : isT σ a := by
  refine ⟨hm, ?_⟩
  rcases hk with ⟨e, -⟩ | ⟨e, -⟩ | ⟨e, -⟩ | ⟨e, -⟩ | ⟨e, -⟩ <;> simp [e]
theorem x_carry {σ : St} {nt i a : Nat} {kv pl : Int32} {Φ : Int32 → St → Prop} (hn : nt ≤ 6) (h2 : σ.1 4 2 = nI nt) (hi : i < nt) (ha : σ.2.2.1 i = some a) (hm : a ∈ σ.2.2.2.1) (hk : KD (σ.2.2.2.2.1 a) kv) (hpl : σ.2.2.2.2.2 a 2 = pl) (hl : 0 < σ.1 3 0)
    (hy : σ.1 3 6 = 0 ∧ ¬ (kv = 2 ∧ 2 < turnsS (σ.1 3 1) (σ.1 3 0)) → Φ (1 - pl) (sT σ a 2 (1 - pl))) (hno : ¬ (σ.1 3 6 = 0 ∧ ¬ (kv = 2 ∧ 2 < turnsS (σ.1 3 1) (σ.1 3 0))) → Φ (-103) σ) : wX11_carry σ (nI i) Φ := by
  unfold wX11_carry
  refine i_atN hn h2 hi ha ⟨(fun e => by cases e), fun b e => ?_⟩
  cases e
  rw [e_isWhole]
  by_cases hb : σ.1 3 6 = 0
  · rw [if_pos (show 0 < σ.1 3 0 ∧ σ.1 3 6 = 0 from ⟨hl, hb⟩), if_neg (by decide), e_turnsNow]
    refine i_goes hm hk ?_
    by_cases hg : kv = 2 ∧ 2 < turnsS (σ.1 3 1) (σ.1 3 0)
    · rw [if_pos hg, if_pos rfl]
      exact hno (fun q => q.2 hg)
    · rw [if_neg hg, if_neg (by decide)]
      have hT : isT σ a := kd_isT hm hk
      have hT2 : ∀ v, isT (sT σ a 2 v) a := fun v => hT
      refine ⟨hT, hT, hT2 _, ?_⟩
      rw [hpl]
      have e2 : (sT σ a 2 (1 - pl)).2.2.2.2.2 a 2 = 1 - pl := by simp [sT, up2, va_up]
      have := hy ⟨hb, hg⟩
      rw [e2]
      exact this
  · rw [if_neg (show ¬ (0 < σ.1 3 0 ∧ σ.1 3 6 = 0) from fun q => hb q.2), if_pos rfl]
    exact hno (fun q => hb q.1)
