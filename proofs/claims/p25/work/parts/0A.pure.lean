/-! PURE PART A: words of the meaning; what the small methods answer -/
theorem lg_cmp_self (x : Int64) : lg_cmp x x = 0 := by
  unfold lg_cmp
  rw [if_neg (by simp), if_pos rfl]
theorem z01 : ((0 : Int32) = 0 ∨ (0 : Int32) = 1) = True := by simp
theorem o01 : ((1 : Int32) = 0 ∨ (1 : Int32) = 1) = True := by simp
theorem nz6 : (¬ (6 : Int32) = 0) = True := by simp
theorem nz100 : (¬ (100 : Int32) = 0) = True := by simp
theorem nz360 : (¬ (360 : Int32) = 0) = True := by simp
theorem bi0 {c : Prop} [Decidable c] : ((if c then (1 : Int32) else 0) = 0) = ¬ c := by by_cases h : c <;> simp [h]
theorem bi01 {c : Prop} [Decidable c] : ((if c then (1 : Int32) else 0) = 0 ∨ (if c then (1 : Int32) else 0) = 1) = True := by by_cases h : c <;> simp [h]
theorem iteN {c : Prop} [Decidable c] {A B : Prop} : (if ¬ c then A else B) = (if c then B else A) := by by_cases h : c <;> simp [h]
theorem e_isLen (σ : St) (v : Int32) (Φ : Int32 → St → Prop) : wX11_isLength σ v Φ = Φ (if 10 ≤ v ∧ v ≤ 40 then 1 else 0) σ := by
  unfold wX11_isLength
  simp only [true_or, or_true, true_and]
  by_cases h : v < 10
  · rw [if_pos h, if_neg (by grind)]
  · rw [if_neg h]
    by_cases h2 : 40 < v
    · rw [if_pos h2, if_neg (by grind)]
    · rw [if_neg h2, if_pos (by grind)]
theorem e_isCabin (σ : St) (v : Int32) (Φ : Int32 → St → Prop) : wX11_isCabin σ v Φ = Φ (if 0 ≤ v ∧ v ≤ 1 then 1 else 0) σ := by
  unfold wX11_isCabin
  simp only [true_or, or_true, true_and]
  by_cases h : v < 0
  · rw [if_pos h, if_neg (by grind)]
  · rw [if_neg h]
    by_cases h2 : 2 ≤ v
    · rw [if_pos h2, if_neg (by grind)]
    · rw [if_neg h2, if_pos (by grind)]
theorem e_isKind (σ : St) (v : Int32) (Φ : Int32 → St → Prop) : wX11_isKind σ v Φ = Φ (if 0 ≤ v ∧ v ≤ 4 then 1 else 0) σ := by
  unfold wX11_isKind
  simp only [true_or, or_true, true_and]
  by_cases h : v < 0
  · rw [if_pos h, if_neg (by grind)]
  · rw [if_neg h]
    by_cases h2 : 4 < v
    · rw [if_pos h2, if_neg (by grind)]
    · rw [if_neg h2, if_pos (by grind)]
theorem e_isThere (σ : St) (k : Nat) (Φ : Int32 → St → Prop) : wX0_isThere σ k Φ = Φ (if 0 < σ.1 k 0 then 1 else 0) σ := by
  unfold wX0_isThere
  simp only [true_or, or_true, true_and]
  by_cases h : σ.1 k 0 ≤ 0
  · rw [if_pos h, if_neg (by grind)]
  · rw [if_neg h, if_pos (by grind)]
theorem e_isWhole (σ : St) (k : Nat) (Φ : Int32 → St → Prop) : wX0_isWhole σ k Φ = Φ (if 0 < σ.1 k 0 ∧ σ.1 k 6 = 0 then 1 else 0) σ := by
  unfold wX0_isWhole
  simp only [true_or, or_true, true_and]
  by_cases h : σ.1 k 0 ≤ 0
  · rw [if_pos h, if_neg (by grind)]
  · rw [if_neg h]
    by_cases h2 : σ.1 k 6 = 0
    · rw [if_pos h2, if_pos ⟨by grind, h2⟩]
    · rw [if_neg h2, if_neg (fun q => h2 q.2)]
theorem e_min (σ : St) (a b : Int32) (Φ : Int32 → St → Prop) : wJ9_min_7cf53 σ a b Φ = Φ (if b < a then b else a) σ := by
  unfold wJ9_min_7cf53
  by_cases h : b < a <;> simp [h]
theorem e_winding (σ : St) (a : Int32) (Φ : Int32 → St → Prop) : wX11_windingOf σ a Φ = Φ (if a ≤ 3 then a else 3 - a) σ := by
  unfold wX11_windingOf
  by_cases h : a ≤ 3
  · rw [if_neg (by grind), if_pos h]
  · rw [if_pos (by grind), if_neg h]
theorem len_nat {v : Int32} (h : 10 ≤ v ∧ v ≤ 40) : ∃ n : Nat, v = nI n ∧ 10 ≤ n ∧ n ≤ 40 := by
  obtain ⟨j, hj, rfl⟩ := nI_of2 (x := v) (M := 40) (n := 40) rfl (by grind) h.2
  refine ⟨j, rfl, ?_, hj⟩
  have := (nI_leI (a := 10) (b := j) (by omega) (by omega)).mp h.1
  exact this
theorem sq_ne {v : Int32} (h : 10 ≤ v ∧ v ≤ 40) : ¬ v * v = 0 := by
  obtain ⟨n, rfl, h1, h2⟩ := len_nat h
  have : ∀ n, n < 41 → 10 ≤ n → ¬ (nI n * nI n = 0) := by decide +kernel
  exact this n (by omega) h1
def turnsS (sp l : Int32) : Int32 := if 10 ≤ l ∧ l ≤ 40 then sp / (l * l) else 0
theorem e_turnsAt (σ : St) (k : Nat) (l : Int32) (Φ : Int32 → St → Prop) : wX0_turnsAt σ k l Φ = Φ (turnsS (σ.1 k 1) l) σ := by
  unfold wX0_turnsAt turnsS
  by_cases h : l < 10
  · rw [if_pos h, if_neg (by grind)]
  · rw [if_neg h]
    by_cases h2 : 40 < l
    · rw [if_pos h2, if_neg (by grind)]
    · have h3 : 10 ≤ l ∧ l ≤ 40 := by grind
      rw [if_neg h2, if_pos h3]
      simp [sq_ne h3]
theorem e_turnsNow (σ : St) (k : Nat) (Φ : Int32 → St → Prop) : wX0_turnsNow σ k Φ = Φ (turnsS (σ.1 k 1) (σ.1 k 0)) σ := by
  unfold wX0_turnsNow
  rw [e_turnsAt]
def armS (c l f s : Int32) : Int32 := if c = 0 then (l * s) / (f + s) else l - (l * s) / (f + s)
def floorS (sp c l f s : Int32) : Int32 := (armS c l f s * turnsS sp l) * turnsS sp l
def strainS (sp l f s : Int32) : Int32 := (f * floorS sp 0 l f s) / 100
theorem e_armAt (σ : St) (k : Nat) (c l f s : Int32) (Φ : Int32 → St → Prop) (h : ¬ f + s ≤ 0) : wX0_armAt σ k c l f s Φ = Φ (armS c l f s) σ := by
  unfold wX0_armAt wX0_armAt_22 armS
  rw [if_neg h]
  have h0 : ¬ f + s = 0 := by grind
  by_cases hc : c = 0 <;> simp [hc, h0]
theorem e_floorAt (σ : St) (k : Nat) (c l f s : Int32) (Φ : Int32 → St → Prop) (h : ¬ f + s ≤ 0) : wX0_floorAt σ k c l f s Φ = Φ (floorS (σ.1 k 1) c l f s) σ := by
  unfold wX0_floorAt floorS
  rw [e_turnsAt, e_armAt _ _ _ _ _ _ _ h]
theorem e_strainBy (σ : St) (k : Nat) (f x : Int32) (Φ : Int32 → St → Prop) : wX0_strainBy σ k f x Φ = Φ ((f * x) / 100) σ := by
  unfold wX0_strainBy
  rw [nz100, true_and]
theorem e_strainF (σ : St) (k : Nat) (l f s : Int32) (Φ : Int32 → St → Prop) (h : ¬ f + s ≤ 0) : wX0_floorAt σ k 0 l f s (fun r σ1 => wX0_strainBy σ1 k f r Φ) = Φ (strainS (σ.1 k 1) l f s) σ := by
  unfold strainS
  rw [e_floorAt _ _ _ _ _ _ _ h, e_strainBy]
def wgS (K W M : Nat → Int32) (h : Int32) (i : Nat) : Int32 := W i + (if K i = 1 then 2 else if K i = 3 then (h - M i) / 6 else if K i = 4 then 2 * ((h - M i) / 6) else 0)
def cabS (K W P M : Nat → Int32) (c h : Int32) (mv : Nat → Bool) : Nat → Int32
  | 0 => 10
  | n + 1 => if (decide (P n = c)) != mv n then cabS K W P M c h mv n + wgS K W M h n else cabS K W P M c h mv n
def noM : Nat → Bool := fun _ => false
/-- a row of the law: a THING's kind, weight, place, since when -/
abbrev rK (r : Nat → Int32) (i : Nat) : Int32 := r (8 + 4 * i)
abbrev rW (r : Nat → Int32) (i : Nat) : Int32 := r (9 + 4 * i)
abbrev rP (r : Nat → Int32) (i : Nat) : Int32 := r (10 + 4 * i)
abbrev rM (r : Nat → Int32) (i : Nat) : Int32 := r (11 + 4 * i)
abbrev wgQ (r : Nat → Int32) (h : Int32) (i : Nat) : Int32 := wgS (rK r) (rW r) (rM r) h i
abbrev cabQ (r : Nat → Int32) (c h : Int32) (n : Nat) : Int32 := cabS (rK r) (rW r) (rP r) (rM r) c h noM n
abbrev wgV (V : Nat → Nat → Int32) (h : Int32) (i : Nat) : Int32 := wgS (rK (V 18)) (rW (V 18)) (rM (V 18)) h i
abbrev cabV (V : Nat → Nat → Int32) (c h : Int32) (mv : Nat → Bool) (n : Nat) : Int32 := cabS (rK (V 18)) (rW (V 18)) (rP (V 18)) (rM (V 18)) c h mv n
def TB (V : Nat → Nat → Int32) (nt hh : Nat) : Prop := nt ≤ 6 ∧ hh ≤ 1000 ∧ ∀ i, i < nt → ∃ w c : Nat, rW (V 18) i = nI w ∧ w ≤ 20 ∧ rM (V 18) i = nI c ∧ c ≤ hh
theorem nI_sub {a b : Nat} (h : b ≤ a) : nI a - nI b = nI (a - b) := by
  have e : nI (a - b) + nI b = nI a := by rw [nI_add, Nat.sub_add_cancel h]
  rw [← e]
  grind
theorem nI_mul (a b : Nat) : nI a * nI b = nI (a * b) := by
  unfold nI
  simp [Int32.ofNat_mul]
theorem wg_nat {V : Nat → Nat → Int32} {nt hh : Nat} (h : TB V nt hh) {i : Nat} (hi : i < nt) : ∃ m : Nat, wgV V (nI hh) i = nI m ∧ m ≤ 400 := by
  obtain ⟨h1, h2, h3⟩ := h
  obtain ⟨w, c, e1, e2, e3, e4⟩ := h3 i hi
  unfold wgV wgS
  rw [e1, e3, nI_sub e4, show (6 : Int32) = nI 6 from rfl, pk_div (by omega) (by omega) (by omega), show (2 : Int32) = nI 2 from rfl, nI_mul, show (0 : Int32) = nI 0 from rfl]
  have hd : (hh - c) / 6 ≤ 167 := by omega
  split
  · exact ⟨w + 2, nI_add _ _, by omega⟩
  · split
    · exact ⟨_, nI_add _ _, by omega⟩
    · split
      · exact ⟨_, nI_add _ _, by omega⟩
      · exact ⟨_, nI_add _ _, by omega⟩
theorem cw_nat {V : Nat → Nat → Int32} {nt hh : Nat} (h : TB V nt hh) (c : Int32) (mv : Nat → Bool) : ∀ n, n ≤ nt → ∃ m : Nat, cabV V c (nI hh) mv n = nI m ∧ 10 ≤ m ∧ m ≤ 10 + 400 * n
  | 0, _ => ⟨10, rfl, by omega, by omega⟩
  | n + 1, hn => by
    obtain ⟨m, e1, e2, e3⟩ := cw_nat h c mv n (by omega)
    obtain ⟨w, f1, f2⟩ := wg_nat h (show n < nt by omega)
    unfold cabV cabS
    split
    · refine ⟨m + w, ?_, by omega, by omega⟩
      rw [show cabS (rK (V 18)) (rW (V 18)) (rP (V 18)) (rM (V 18)) c (nI hh) mv n = nI m from e1, show wgS (rK (V 18)) (rW (V 18)) (rM (V 18)) (nI hh) n = nI w from f1, nI_add]
    · exact ⟨m, e1, e2, by omega⟩
theorem cw_pos {V : Nat → Nat → Int32} {nt hh : Nat} (h : TB V nt hh) (mv : Nat → Bool) : ¬ cabV V 0 (nI hh) mv nt + cabV V 1 (nI hh) mv nt ≤ 0 := by
  obtain ⟨a, e1, e2, e3⟩ := cw_nat h 0 mv nt (Nat.le_refl _)
  obtain ⟨b, f1, f2, f3⟩ := cw_nat h 1 mv nt (Nat.le_refl _)
  have := h.1
  rw [e1, f1, nI_add]
  exact nI_nle (by omega) (by omega)
def KD (tk : Nat) (kv : Int32) : Prop := (tk = 9 ∧ kv = 0) ∨ (tk = 1 ∧ kv = 1) ∨ (tk = 3 ∧ kv = 2) ∨ (tk = 5 ∧ kv = 3) ∨ (tk = 4 ∧ kv = 4)
def TXr (σ : St) (i a : Nat) : Prop := a ∈ σ.2.2.2.1 ∧ KD (σ.2.2.2.2.1 a) (rK (σ.1 18) i) ∧ σ.2.2.2.2.2 a 0 = rW (σ.1 18) i ∧ σ.2.2.2.2.2 a 1 = rM (σ.1 18) i ∧ σ.2.2.2.2.2 a 2 = rP (σ.1 18) i
def ThX (σ : St) (nt : Nat) : Prop := nt ≤ 6 ∧ σ.1 4 2 = nI nt ∧ ∀ i, i < nt → ∃ a, σ.2.2.1 i = some a ∧ TXr σ i a
theorem TXr.isT {σ : St} {i a : Nat} (h : TXr σ i a) : isT σ a := by
  refine ⟨h.1, ?_⟩
  rcases h.2.1 with ⟨e, -⟩ | ⟨e, -⟩ | ⟨e, -⟩ | ⟨e, -⟩ | ⟨e, -⟩ <;> simp [e]
theorem i_hours {σ : St} {i a : Nat} (h : TXr σ i a) {hr : Int32} {Φ : Int32 → St → Prop} (hp : Φ (hr - rM (σ.1 18) i) σ) : wX9_hoursHere σ a hr Φ := by
  unfold wX9_hoursHere
  rw [h.2.2.2.1]
  exact ⟨h.isT, hp⟩
theorem i_wT {σ : St} {i a : Nat} (h : TXr σ i a) {hr : Int32} {Φ : Int32 → St → Prop} (hp : Φ (wgV σ.1 hr i) σ) : wT_weighs_13459 σ a hr Φ := by
  unfold wT_weighs_13459
  refine ⟨h.1, ?_⟩
  unfold wgV wgS at hp
  rcases h.2.1 with ⟨e, f⟩ | ⟨e, f⟩ | ⟨e, f⟩ | ⟨e, f⟩ | ⟨e, f⟩
  · refine Or.inr (Or.inr (Or.inr (Or.inr ⟨e, ?_⟩)))
    unfold wX9_weighs
    rw [h.2.2.1]
    rw [f] at hp
    exact ⟨h.isT, by simpa using hp⟩
  · refine Or.inl ⟨e, ?_⟩
    unfold wX1_weighs
    rw [h.2.2.1]
    rw [f] at hp
    exact ⟨h.isT, by simpa using hp⟩
  · refine Or.inr (Or.inl ⟨e, ?_⟩)
    unfold wX9_weighs
    rw [h.2.2.1]
    rw [f] at hp
    exact ⟨h.isT, by simpa using hp⟩
  · refine Or.inr (Or.inr (Or.inr (Or.inl ⟨e, ?_⟩)))
    unfold wX5_weighs
    rw [h.2.2.1, h.2.2.2.1]
    rw [f] at hp
    exact ⟨h.isT, h.isT, by decide, by simpa using hp⟩
  · refine Or.inr (Or.inr (Or.inl ⟨e, ?_⟩))
    unfold wX4_weighs
    rw [h.2.2.1, h.2.2.2.1]
    rw [f] at hp
    exact ⟨h.isT, h.isT, by decide, by simpa using hp⟩
theorem i_at {σ : St} {nt : Nat} (h : ThX σ nt) {i a : Nat} (hi : i < nt) (ha : σ.2.2.1 i = some a) {Φ : Option Nat → St → Prop} (hp : Φ (some a) σ) : wX6_at σ (nI i) Φ := by
  have := h.1
  unfold wX6_at
  rw [if_neg (nI_pos (by omega)), h.2.1, if_neg (nI_ge hi (by omega)), if_neg (show ¬ (6 : Int32) ≤ nI i from nI_ge (b := 6) (by omega) (by omega)), nI_clamp (by omega), ha]
  exact ⟨vp_in_nI (by omega) (by omega), hp⟩
theorem i_atNo {σ : St} {nt : Nat} (h : ThX σ nt) {v : Int32} (hv : v < 0 ∨ nI nt ≤ v) {Φ : Option Nat → St → Prop} (hp : Φ none σ) : wX6_at σ v Φ := by
  unfold wX6_at
  by_cases h1 : v < 0
  · rw [if_pos h1]; exact hp
  · rw [if_neg h1, h.2.1, if_pos (by rcases hv with q | q; exact absurd q h1; exact q)]; exact hp
theorem cab_s1 {K W P M : Nat → Int32} {c h : Int32} {mv : Nat → Bool} {n : Nat} (e : ((decide (P n = c)) != mv n) = true) : cabS K W P M c h mv n + wgS K W M h n = cabS K W P M c h mv (n + 1) := by
  rw [cabS, if_pos e]
theorem cab_s0 {K W P M : Nat → Int32} {c h : Int32} {mv : Nat → Bool} {n : Nat} (e : ((decide (P n = c)) != mv n) = false) : cabS K W P M c h mv n = cabS K W P M c h mv (n + 1) := by
  rw [cabS, if_neg (by rw [e]; decide)]
theorem i_weighsIn {σ : St} {nt : Nat} {c h : Int32} {Φ : Int32 → St → Prop} (hT : ThX σ nt) (hp : Φ (cabV σ.1 c h noM nt) σ) : wX6_weighsIn σ c h Φ := by
  have hn := hT.1
  have key : ∀ m i, i + m = nt → wX6_weighsIn_6 Φ (m + 1) σ c h (cabV σ.1 c h noM i) (nI i) := by
    intro m
    induction m with
    | zero =>
      intro i hi
      have : i = nt := by omega
      subst this
      rw [wX6_weighsIn_6, hT.2.1, if_pos (nI_le (Nat.le_refl _) (by omega))]
      exact hp
    | succ m ih =>
      intro i hi
      rw [wX6_weighsIn_6, hT.2.1, if_neg (nI_ge (by omega) (by omega))]
      obtain ⟨a, ha, hX⟩ := hT.2.2 i (by omega)
      have ih' := ih (i + 1) (by omega)
      refine i_at hT (by omega) ha ⟨(fun e => by cases e), fun b e => ?_⟩
      cases e
      refine ⟨hX.isT, ?_⟩
      rw [hX.2.2.2.2]
      by_cases hc : rP (σ.1 18) i = c
      · rw [if_pos hc]
        refine i_wT hX ?_
        unfold wX6_weighsIn_46
        rw [nI_1, show cabV σ.1 c h noM i + wgV σ.1 h i = cabV σ.1 c h noM (i + 1) from cab_s1 (by simp [hc, noM])]
        exact ih'
      · rw [if_neg hc]
        unfold wX6_weighsIn_46
        rw [nI_1, show cabV σ.1 c h noM i = cabV σ.1 c h noM (i + 1) from cab_s0 (by simp [hc, noM])]
        exact ih'
  exact ⟨nt + 1, key nt 0 (by omega)⟩
abbrev cab2 (V : Nat → Nat → Int32) (h : Int32) (mv : Nat → Bool) (nt : Nat) (f : Int32 → Int32 → Int32) : Int32 := f (cabV V 0 h mv nt) (cabV V 1 h mv nt)
theorem i_armNow {σ : St} {nt hh k : Nat} {c : Int32} {Φ : Int32 → St → Prop} (hT : ThX σ nt) (hB : TB σ.1 nt hh) (hk : σ.1 k 4 = nI hh) (hp : Φ (cab2 σ.1 (nI hh) noM nt (armS c (σ.1 k 0))) σ) : wX0_armNow σ k c Φ := by
  unfold wX0_armNow
  rw [hk]
  refine i_weighsIn hT (i_weighsIn hT ?_)
  rw [hk, e_armAt _ _ _ _ _ _ _ (cw_pos hB noM)]
  exact hp
theorem i_floorNow {σ : St} {nt hh k : Nat} {c : Int32} {Φ : Int32 → St → Prop} (hT : ThX σ nt) (hB : TB σ.1 nt hh) (hk : σ.1 k 4 = nI hh) (hp : Φ (cab2 σ.1 (nI hh) noM nt (floorS (σ.1 k 1) c (σ.1 k 0))) σ) : wX0_floorNow σ k c Φ := by
  unfold wX0_floorNow
  rw [hk]
  refine i_weighsIn hT (i_weighsIn hT ?_)
  rw [hk, e_floorAt _ _ _ _ _ _ _ (cw_pos hB noM)]
  exact hp
theorem i_strainNow {σ : St} {nt hh k : Nat} {Φ : Int32 → St → Prop} (hT : ThX σ nt) (hB : TB σ.1 nt hh) (hk : σ.1 k 4 = nI hh) (hp : Φ (cab2 σ.1 (nI hh) noM nt (strainS (σ.1 k 1) (σ.1 k 0))) σ) : wX0_strainNow σ k Φ := by
  unfold wX0_strainNow
  rw [hk]
  refine i_weighsIn hT (i_weighsIn hT ?_)
  rw [hk, e_strainF _ _ _ _ _ _ (cw_pos hB noM)]
  exact hp
def szS (P : Nat → Int32) (c : Int32) : Nat → Int32
  | 0 => 0
  | n + 1 => if P n = c then szS P c n + 1 else szS P c n
theorem i_sizeIn {σ : St} {nt : Nat} {c : Int32} {Φ : Int32 → St → Prop} (hT : ThX σ nt) (hp : Φ (szS (rP (σ.1 18)) c nt) σ) : wX6_sizeIn σ c Φ := by
  have hn := hT.1
  have key : ∀ m i, i + m = nt → wX6_sizeIn_4 Φ (m + 1) σ c (szS (rP (σ.1 18)) c i) (nI i) := by
    intro m
    induction m with
    | zero =>
      intro i hi
      have : i = nt := by omega
      subst this
      rw [wX6_sizeIn_4, hT.2.1, if_pos (nI_le (Nat.le_refl _) (by omega))]
      exact hp
    | succ m ih =>
      intro i hi
      rw [wX6_sizeIn_4, hT.2.1, if_neg (nI_ge (by omega) (by omega))]
      obtain ⟨a, ha, hX⟩ := hT.2.2 i (by omega)
      have ih' := ih (i + 1) (by omega)
      refine i_at hT (by omega) ha ⟨(fun e => by cases e), fun b e => ?_⟩
      cases e
      refine ⟨hX.isT, ?_⟩
      rw [hX.2.2.2.2]
      unfold wX6_sizeIn_36
      rw [nI_1]
      unfold szS at ih'
      by_cases hc : rP (σ.1 18) i = c
      · rw [if_pos hc]; rw [if_pos hc] at ih'; exact ih'
      · rw [if_neg hc]; rw [if_neg hc] at ih'; exact ih'
  exact ⟨nt + 1, key nt 0 (by omega)⟩
