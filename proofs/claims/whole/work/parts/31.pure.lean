/-! PURE PART 2: things; what cabins weigh, on both sides -/
def KD (tk : Nat) (kv : Int32) : Prop := (tk = 9 ∧ kv = 0) ∨ (tk = 1 ∧ kv = 1) ∨ (tk = 3 ∧ kv = 2) ∨ (tk = 5 ∧ kv = 3) ∨ (tk = 4 ∧ kv = 4)
def TXr (σ : St) (i a : Nat) : Prop := a ∈ σ.2.2.2.1 ∧ KD (σ.2.2.2.2.1 a) (σ.1 19 i) ∧ σ.2.2.2.2.2 a 0 = σ.1 20 i ∧ σ.2.2.2.2.2 a 1 = σ.1 22 i ∧ σ.2.2.2.2.2 a 2 = σ.1 21 i
def ThX (σ : St) (nt : Nat) : Prop := nt ≤ 6 ∧ σ.1 4 2 = nI nt ∧ ∀ i, i < nt → ∃ a, σ.2.2.1 i = some a ∧ TXr σ i a
theorem TXr.isT {σ : St} {i a : Nat} (h : TXr σ i a) : isT σ a := by
  refine ⟨h.1, ?_⟩
  rcases h.2.1 with ⟨e, -⟩ | ⟨e, -⟩ | ⟨e, -⟩ | ⟨e, -⟩ | ⟨e, -⟩ <;> simp [e]
theorem i_hours {σ : St} {i a : Nat} (h : TXr σ i a) {hr : Int32} {Φ : Int32 → St → Prop} (hp : Φ (hr - σ.1 22 i) σ) : wX9_hoursHere σ a hr Φ := by
  unfold wX9_hoursHere
  rw [h.2.2.2.1]
  exact ⟨h.isT, hp⟩
theorem i_wT {σ : St} {i a : Nat} (h : TXr σ i a) {hr : Int32} {Φ : Int32 → St → Prop} (hp : Φ (wgV σ.1 hr i) σ) : wT_weighs_13459 σ a hr Φ := by
  unfold wT_weighs_13459
  refine ⟨h.1, ?_⟩
  unfold wgV wgS at hp
  rcases h.2.1 with ⟨e, f⟩ | ⟨e, f⟩ | ⟨e, f⟩ | ⟨e, f⟩ | ⟨e, f⟩
  · refine Or.inr (Or.inr (Or.inr (Or.inr ⟨e, ?_⟩)))
    unfold wX9_weighs
    rw [h.2.2.1]
    rw [f] at hp
    exact ⟨h.isT, by simpa using hp⟩
  · refine Or.inl ⟨e, ?_⟩
    unfold wX1_weighs
    rw [h.2.2.1]
    rw [f] at hp
    exact ⟨h.isT, by simpa using hp⟩
  · refine Or.inr (Or.inl ⟨e, ?_⟩)
    unfold wX9_weighs
    rw [h.2.2.1]
    rw [f] at hp
    exact ⟨h.isT, by simpa using hp⟩
  · refine Or.inr (Or.inr (Or.inr (Or.inl ⟨e, ?_⟩)))
    unfold wX5_weighs
    rw [h.2.2.1, h.2.2.2.1]
    rw [f] at hp
    exact ⟨h.isT, h.isT, by decide, by simpa using hp⟩
  · refine Or.inr (Or.inr (Or.inl ⟨e, ?_⟩))
    unfold wX4_weighs
    rw [h.2.2.1, h.2.2.2.1]
    rw [f] at hp
    exact ⟨h.isT, h.isT, by decide, by simpa using hp⟩
theorem i_at {σ : St} {nt : Nat} (h : ThX σ nt) {i a : Nat} (hi : i < nt) (ha : σ.2.2.1 i = some a) {Φ : Option Nat → St → Prop} (hp : Φ (some a) σ) : wX6_at σ (nI i) Φ := by
  have := h.1
  unfold wX6_at
  rw [if_neg (nI_pos (by omega)), h.2.1, if_neg (nI_ge hi (by omega)), if_neg (show ¬ (6 : Int32) ≤ nI i from nI_ge (b := 6) (by omega) (by omega)), nI_clamp (by omega), ha]
  exact ⟨vp_in_nI (by omega) (by omega), hp⟩
theorem i_atNo {σ : St} {nt : Nat} (h : ThX σ nt) {v : Int32} (hv : v < 0 ∨ nI nt ≤ v) {Φ : Option Nat → St → Prop} (hp : Φ none σ) : wX6_at σ v Φ := by
  unfold wX6_at
  by_cases h1 : v < 0
  · rw [if_pos h1]; exact hp
  · rw [if_neg h1, h.2.1, if_pos (by rcases hv with q | q; exact absurd q h1; exact q)]; exact hp
theorem cab_s1 {K W P M : Nat → Int32} {c h : Int32} {mv : Nat → Bool} {n : Nat} (e : ((decide (P n = c)) != mv n) = true) : cabS K W P M c h mv n + wgS K W M h n = cabS K W P M c h mv (n + 1) := by
  rw [cabS, if_pos e]
theorem cab_s0 {K W P M : Nat → Int32} {c h : Int32} {mv : Nat → Bool} {n : Nat} (e : ((decide (P n = c)) != mv n) = false) : cabS K W P M c h mv n = cabS K W P M c h mv (n + 1) := by
  rw [cabS, if_neg (by rw [e]; decide)]
theorem i_weighsIn {σ : St} {nt : Nat} {c h : Int32} {Φ : Int32 → St → Prop} (hT : ThX σ nt) (hp : Φ (cabV σ.1 c h noM nt) σ) : wX6_weighsIn σ c h Φ := by
  have hn := hT.1
  have key : ∀ m i, i + m = nt → wX6_weighsIn_6 Φ (m + 1) σ c h (cabV σ.1 c h noM i) (nI i) := by
    intro m
    induction m with
    | zero =>
      intro i hi
      have : i = nt := by omega
      subst this
      rw [wX6_weighsIn_6, hT.2.1, if_pos (nI_le (Nat.le_refl _) (by omega))]
      exact hp
    | succ m ih =>
      intro i hi
      rw [wX6_weighsIn_6, hT.2.1, if_neg (nI_ge (by omega) (by omega))]
      obtain ⟨a, ha, hX⟩ := hT.2.2 i (by omega)
      have ih' := ih (i + 1) (by omega)
      refine i_at hT (by omega) ha ⟨(fun e => by cases e), fun b e => ?_⟩
      cases e
      refine ⟨hX.isT, ?_⟩
      rw [hX.2.2.2.2]
      by_cases hc : σ.1 21 i = c
      · rw [if_pos hc]
        refine i_wT hX ?_
        unfold wX6_weighsIn_46
        rw [nI_1, show cabV σ.1 c h noM i + wgV σ.1 h i = cabV σ.1 c h noM (i + 1) from cab_s1 (by simp [hc, noM])]
        exact ih'
      · rw [if_neg hc]
        unfold wX6_weighsIn_46
        rw [nI_1, show cabV σ.1 c h noM i = cabV σ.1 c h noM (i + 1) from cab_s0 (by simp [hc, noM])]
        exact ih'
  exact ⟨nt + 1, key nt 0 (by omega)⟩
theorem i_wgM {σ : St} {i : Nat} (hi : i < 6) {h : Int32} {Φ : Int32 → St → Prop} (hp : Φ (wgV σ.1 h i) σ) : wX12_weighs σ (nI i) h Φ := by
  have hv : vp_in (nI i) 6 := vp_in_nI hi (by omega)
  unfold wX12_weighs
  rw [nI_clamp (by omega)]
  unfold wgV wgS at hp
  refine ⟨hv, by decide, hv, hv, ?_⟩
  by_cases h1 : σ.1 19 i = 1
  · rw [if_pos h1]; rw [if_pos h1] at hp; exact hp
  · rw [if_neg h1]; rw [if_neg h1] at hp
    refine ⟨hv, ?_⟩
    by_cases h3 : σ.1 19 i = 3
    · rw [if_pos h3]; rw [if_pos h3] at hp; exact hp
    · rw [if_neg h3]; rw [if_neg h3] at hp
      refine ⟨hv, ?_⟩
      by_cases h4 : σ.1 19 i = 4
      · rw [if_pos h4]; rw [if_pos h4] at hp; exact hp
      · rw [if_neg h4]; rw [if_neg h4] at hp; exact hp
theorem i_cabinM {σ : St} {nt : Nat} {c h mv : Int32} {Φ : Int32 → St → Prop} (hn : nt ≤ 6) (hM : σ.1 18 9 = nI nt) (hp : Φ (cabV σ.1 c h (bitM mv) nt) σ) : wX12_cabinWeighs σ c h mv Φ := by
  have key : ∀ m i, i + m = nt → wX12_cabinWeighs_7 Φ (m + 1) σ c h mv (cabV σ.1 c h (bitM mv) i) (nI i) := by
    intro m
    induction m with
    | zero =>
      intro i hi
      have : i = nt := by omega
      subst this
      rw [wX12_cabinWeighs_7, hM, if_pos (nI_le (Nat.le_refl _) (by omega))]
      exact hp
    | succ m ih =>
      intro i hi
      rw [wX12_cabinWeighs_7, hM, if_neg (nI_ge (by omega) (by omega)), nI_clamp (by omega)]
      have ih' := ih (i + 1) (by omega)
      refine ⟨vp_in_nI (by omega) (by omega), ?_⟩
      unfold wX12_cabinWeighs_32
      simp only [e_has]
      have hbit : bitM mv i = decide (((mv >>> (nI i &&& 31)) &&& 1) = 1) := rfl
      by_cases hc : σ.1 21 i = c <;> by_cases hb : ((mv >>> (nI i &&& 31)) &&& 1) = 1
      · rw [if_pos hc, if_pos hb, if_pos rfl]
        unfold wX12_cabinWeighs_46 wX12_cabinWeighs_66
        rw [if_pos rfl, nI_1, show cabV σ.1 c h (bitM mv) i + 0 = cabV σ.1 c h (bitM mv) (i + 1) by rw [Int32.add_zero]; exact cab_s0 (by rw [hbit]; simp [hc, hb])]
        exact ih'
      · rw [if_pos hc, if_neg hb, if_neg (by decide)]
        unfold wX12_cabinWeighs_46
        rw [if_neg (by decide)]
        refine i_wgM (by omega) ?_
        unfold wX12_cabinWeighs_66
        rw [nI_1, show cabV σ.1 c h (bitM mv) i + wgV σ.1 h i = cabV σ.1 c h (bitM mv) (i + 1) from cab_s1 (by rw [hbit]; simp [hc, hb])]
        exact ih'
      · rw [if_neg hc, if_pos hb, if_neg (by decide)]
        unfold wX12_cabinWeighs_46
        rw [if_neg (by decide)]
        refine i_wgM (by omega) ?_
        unfold wX12_cabinWeighs_66
        rw [nI_1, show cabV σ.1 c h (bitM mv) i + wgV σ.1 h i = cabV σ.1 c h (bitM mv) (i + 1) from cab_s1 (by rw [hbit]; simp [hc, hb])]
        exact ih'
      · rw [if_neg hc, if_neg hb, if_pos rfl]
        unfold wX12_cabinWeighs_46 wX12_cabinWeighs_66
        rw [if_pos rfl, nI_1, show cabV σ.1 c h (bitM mv) i + 0 = cabV σ.1 c h (bitM mv) (i + 1) by rw [Int32.add_zero]; exact cab_s0 (by rw [hbit]; simp [hc, hb])]
        exact ih'
  exact ⟨nt + 1, key nt 0 (by omega)⟩
theorem i_cabin0 {σ : St} {nt : Nat} {c h : Int32} {Φ : Int32 → St → Prop} (hn : nt ≤ 6) (hM : σ.1 18 9 = nI nt) (hp : Φ (cabV σ.1 c h noM nt) σ) : wX12_cabinWeighs σ c h 0 Φ := by
  refine i_cabinM hn hM ?_
  rw [show cabV σ.1 c h (bitM 0) nt = cabV σ.1 c h noM nt from cw_congr (fun i hi => bit0 i (by omega))]
  exact hp
/-! the present numbers of a cable, and the reference's by a length, an hour, a set -/
abbrev cab2 (V : Nat → Nat → Int32) (h : Int32) (mv : Nat → Bool) (nt : Nat) (f : Int32 → Int32 → Int32) : Int32 := f (cabV V 0 h mv nt) (cabV V 1 h mv nt)
theorem i_armNow {σ : St} {nt hh k : Nat} {c : Int32} {Φ : Int32 → St → Prop} (hT : ThX σ nt) (hB : TB σ.1 nt hh) (hk : σ.1 k 4 = nI hh) (hp : Φ (cab2 σ.1 (nI hh) noM nt (armS c (σ.1 k 0))) σ) : wX0_armNow σ k c Φ := by
  unfold wX0_armNow
  rw [hk]
  refine i_weighsIn hT (i_weighsIn hT ?_)
  rw [hk, e_armAt _ _ _ _ _ _ _ (cw_pos hB noM)]
  exact hp
theorem i_floorNow {σ : St} {nt hh k : Nat} {c : Int32} {Φ : Int32 → St → Prop} (hT : ThX σ nt) (hB : TB σ.1 nt hh) (hk : σ.1 k 4 = nI hh) (hp : Φ (cab2 σ.1 (nI hh) noM nt (floorS (σ.1 k 1) c (σ.1 k 0))) σ) : wX0_floorNow σ k c Φ := by
  unfold wX0_floorNow
  rw [hk]
  refine i_weighsIn hT (i_weighsIn hT ?_)
  rw [hk, e_floorAt _ _ _ _ _ _ _ (cw_pos hB noM)]
  exact hp
theorem i_strainNow {σ : St} {nt hh k : Nat} {Φ : Int32 → St → Prop} (hT : ThX σ nt) (hB : TB σ.1 nt hh) (hk : σ.1 k 4 = nI hh) (hp : Φ (cab2 σ.1 (nI hh) noM nt (strainS (σ.1 k 1) (σ.1 k 0))) σ) : wX0_strainNow σ k Φ := by
  unfold wX0_strainNow
  rw [hk]
  refine i_weighsIn hT (i_weighsIn hT ?_)
  rw [hk, e_strainF _ _ _ _ _ _ (cw_pos hB noM)]
  exact hp
theorem i_armBy {σ : St} {nt hh : Nat} {c l mv : Int32} {Φ : Int32 → St → Prop} (hM : σ.1 18 9 = nI nt) (hB : TB σ.1 nt hh) (hp : Φ (cab2 σ.1 (nI hh) (bitM mv) nt (armS c l)) σ) : wX12_armBy σ c l (nI hh) mv Φ := by
  unfold wX12_armBy
  refine i_cabinM hB.1 hM (i_cabinM hB.1 hM ?_)
  have h0 := cw_pos hB (bitM mv)
  refine ⟨by grind, ?_⟩
  unfold cab2 armS at hp
  by_cases hc : c = 0
  · rw [if_pos hc]; rw [if_pos hc] at hp; exact hp
  · rw [if_neg hc]; rw [if_neg hc] at hp; exact hp
theorem i_floorBy {σ : St} {nt hh : Nat} {c l mv : Int32} {Φ : Int32 → St → Prop} (hM : σ.1 18 9 = nI nt) (hB : TB σ.1 nt hh) (hl : l = 0 ∨ (10 ≤ l ∧ l ≤ 40)) (hp : Φ (cab2 σ.1 (nI hh) (bitM mv) nt (floorS (σ.1 18 3) c l)) σ) : wX12_floorBy σ c l (nI hh) mv Φ := by
  unfold wX12_floorBy
  refine i_armBy hM hB ?_
  rw [e_turnsM _ _ _ hl, e_turnsM _ _ _ hl]
  exact hp
theorem cab2_0 {V : Nat → Nat → Int32} {h : Int32} {nt : Nat} (hn : nt ≤ 6) (f : Int32 → Int32 → Int32) : cab2 V h (bitM 0) nt f = cab2 V h noM nt f := by
  unfold cab2
  rw [show ∀ c, cabV V c h (bitM 0) nt = cabV V c h noM nt from fun c => cw_congr (fun i hi => bit0 i (by omega)), show ∀ c, cabV V c h (bitM 0) nt = cabV V c h noM nt from fun c => cw_congr (fun i hi => bit0 i (by omega))]
theorem i_strainM {σ : St} {nt hh : Nat} {l : Int32} {Φ : Int32 → St → Prop} (hM : σ.1 18 9 = nI nt) (hB : TB σ.1 nt hh) (hl : l = 0 ∨ (10 ≤ l ∧ l ≤ 40)) (hp : Φ (cab2 σ.1 (nI hh) noM nt (strainS (σ.1 18 3) l)) σ) : wX12_strainAt σ l (nI hh) Φ := by
  unfold wX12_strainAt
  refine i_cabin0 hB.1 hM (i_floorBy hM hB hl ?_)
  rw [cab2_0 hB.1]
  exact ⟨by decide, hp⟩
/-! how many are in a cabin -/
def szS (P : Nat → Int32) (c : Int32) : Nat → Int32
  | 0 => 0
  | n + 1 => if P n = c then szS P c n + 1 else szS P c n
theorem i_sizeIn {σ : St} {nt : Nat} {c : Int32} {Φ : Int32 → St → Prop} (hT : ThX σ nt) (hp : Φ (szS (σ.1 21) c nt) σ) : wX6_sizeIn σ c Φ := by
  have hn := hT.1
  have key : ∀ m i, i + m = nt → wX6_sizeIn_4 Φ (m + 1) σ c (szS (σ.1 21) c i) (nI i) := by
    intro m
    induction m with
    | zero =>
      intro i hi
      have : i = nt := by omega
      subst this
      rw [wX6_sizeIn_4, hT.2.1, if_pos (nI_le (Nat.le_refl _) (by omega))]
      exact hp
    | succ m ih =>
      intro i hi
      rw [wX6_sizeIn_4, hT.2.1, if_neg (nI_ge (by omega) (by omega))]
      obtain ⟨a, ha, hX⟩ := hT.2.2 i (by omega)
      have ih' := ih (i + 1) (by omega)
      refine i_at hT (by omega) ha ⟨(fun e => by cases e), fun b e => ?_⟩
      cases e
      refine ⟨hX.isT, ?_⟩
      rw [hX.2.2.2.2]
      unfold wX6_sizeIn_36
      rw [nI_1]
      unfold szS at ih'
      by_cases hc : σ.1 21 i = c
      · rw [if_pos hc]; rw [if_pos hc] at ih'; exact ih'
      · rw [if_neg hc]; rw [if_neg hc] at ih'; exact ih'
  exact ⟨nt + 1, key nt 0 (by omega)⟩
theorem i_inCabin {σ : St} {nt : Nat} {c : Int32} {Φ : Int32 → St → Prop} (hn : nt ≤ 6) (hM : σ.1 18 9 = nI nt) (hp : Φ (szS (σ.1 21) c nt) σ) : wX12_inCabin σ c Φ := by
  have key : ∀ m i, i + m = nt → wX12_inCabin_4 Φ (m + 1) σ c (szS (σ.1 21) c i) (nI i) := by
    intro m
    induction m with
    | zero =>
      intro i hi
      have : i = nt := by omega
      subst this
      rw [wX12_inCabin_4, hM, if_pos (nI_le (Nat.le_refl _) (by omega))]
      exact hp
    | succ m ih =>
      intro i hi
      rw [wX12_inCabin_4, hM, if_neg (nI_ge (by omega) (by omega)), nI_clamp (by omega)]
      have ih' := ih (i + 1) (by omega)
      refine ⟨vp_in_nI (by omega) (by omega), ?_⟩
      unfold wX12_inCabin_28
      rw [nI_1]
      unfold szS at ih'
      by_cases hc : σ.1 21 i = c
      · rw [if_pos hc]; rw [if_pos hc] at ih'; exact ih'
      · rw [if_neg hc, Int32.add_zero]; rw [if_neg hc] at ih'; exact ih'
  exact ⟨nt + 1, key nt 0 (by omega)⟩
