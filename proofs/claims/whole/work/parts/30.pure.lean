/-! PURE PART 1: words of the state's meaning; what the small methods answer -/
theorem z01 : ((0 : Int32) = 0 ∨ (0 : Int32) = 1) = True := by simp
theorem o01 : ((1 : Int32) = 0 ∨ (1 : Int32) = 1) = True := by simp
theorem nz6 : (¬ (6 : Int32) = 0) = True := by simp
theorem nz100 : (¬ (100 : Int32) = 0) = True := by simp
theorem nz360 : (¬ (360 : Int32) = 0) = True := by simp
theorem bi0 {c : Prop} [Decidable c] : ((if c then (1 : Int32) else 0) = 0) = ¬ c := by by_cases h : c <;> simp [h]
theorem bi01 {c : Prop} [Decidable c] : ((if c then (1 : Int32) else 0) = 0 ∨ (if c then (1 : Int32) else 0) = 1) = True := by by_cases h : c <;> simp [h]
theorem iteN {c : Prop} [Decidable c] {A B : Prop} : (if ¬ c then A else B) = (if c then B else A) := by by_cases h : c <;> simp [h]
theorem fin_ok {α : Type} [DecidableEq α] {x y : α} {P : Prop} (h : x = y) (hp : P) : if x = y then P else False := by rw [if_pos h]; exact hp
theorem fin_okL {x y : Int64} {P : Prop} (h : x = y) (hp : P) : if lg_cmp x y = 0 then P else False := by rw [h, lg_cmp_self, if_pos rfl]; exact hp
theorem e_within (σ : St) (v lo hi : Int32) (Φ : Int32 → St → Prop) : wX12_within σ v lo hi Φ = Φ (if lo ≤ v ∧ v ≤ hi then 1 else 0) σ := by
  unfold wX12_within
  simp only [true_or, or_true, true_and]
  by_cases h : v < lo
  · rw [if_pos h, if_neg (by grind)]
  · rw [if_neg h]
    by_cases h2 : hi < v
    · rw [if_pos h2, if_neg (by grind)]
    · rw [if_neg h2, if_pos (by grind)]
theorem e_mayBe (σ : St) (v : Int32) (Φ : Int32 → St → Prop) : wX12_mayBe σ v Φ = Φ (if 10 ≤ v ∧ v ≤ 40 then 1 else 0) σ := by
  unfold wX12_mayBe
  rw [e_within, bi01, true_and]
theorem e_isLenM (σ : St) (v : Int32) (Φ : Int32 → St → Prop) : wX12_isLength σ v Φ = Φ (if 10 ≤ v ∧ v ≤ 40 then 1 else 0) σ := by
  unfold wX12_isLength
  rw [e_within, bi01, true_and]
theorem e_isLen (σ : St) (v : Int32) (Φ : Int32 → St → Prop) : wX11_isLength σ v Φ = Φ (if 10 ≤ v ∧ v ≤ 40 then 1 else 0) σ := by
  unfold wX11_isLength
  simp only [true_or, or_true, true_and]
  by_cases h : v < 10
  · rw [if_pos h, if_neg (by grind)]
  · rw [if_neg h]
    by_cases h2 : 40 < v
    · rw [if_pos h2, if_neg (by grind)]
    · rw [if_neg h2, if_pos (by grind)]
theorem e_isCabin (σ : St) (v : Int32) (Φ : Int32 → St → Prop) : wX11_isCabin σ v Φ = Φ (if 0 ≤ v ∧ v ≤ 1 then 1 else 0) σ := by
  unfold wX11_isCabin
  simp only [true_or, or_true, true_and]
  by_cases h : v < 0
  · rw [if_pos h, if_neg (by grind)]
  · rw [if_neg h]
    by_cases h2 : 2 ≤ v
    · rw [if_pos h2, if_neg (by grind)]
    · rw [if_neg h2, if_pos (by grind)]
theorem e_isKind (σ : St) (v : Int32) (Φ : Int32 → St → Prop) : wX11_isKind σ v Φ = Φ (if 0 ≤ v ∧ v ≤ 4 then 1 else 0) σ := by
  unfold wX11_isKind
  simp only [true_or, or_true, true_and]
  by_cases h : v < 0
  · rw [if_pos h, if_neg (by grind)]
  · rw [if_neg h]
    by_cases h2 : 4 < v
    · rw [if_pos h2, if_neg (by grind)]
    · rw [if_neg h2, if_pos (by grind)]
theorem e_isThere (σ : St) (k : Nat) (Φ : Int32 → St → Prop) : wX0_isThere σ k Φ = Φ (if 0 < σ.1 k 0 then 1 else 0) σ := by
  unfold wX0_isThere
  simp only [true_or, or_true, true_and]
  by_cases h : σ.1 k 0 ≤ 0
  · rw [if_pos h, if_neg (by grind)]
  · rw [if_neg h, if_pos (by grind)]
theorem e_isWhole (σ : St) (k : Nat) (Φ : Int32 → St → Prop) : wX0_isWhole σ k Φ = Φ (if 0 < σ.1 k 0 ∧ σ.1 k 6 = 0 then 1 else 0) σ := by
  unfold wX0_isWhole
  simp only [true_or, or_true, true_and]
  by_cases h : σ.1 k 0 ≤ 0
  · rw [if_pos h, if_neg (by grind)]
  · rw [if_neg h]
    by_cases h2 : σ.1 k 6 = 0
    · rw [if_pos h2, if_pos ⟨by grind, h2⟩]
    · rw [if_neg h2, if_neg (fun q => h2 q.2)]
theorem e_min (σ : St) (a b : Int32) (Φ : Int32 → St → Prop) : wJ9_min_7cf53 σ a b Φ = Φ (if b < a then b else a) σ := by
  unfold wJ9_min_7cf53
  by_cases h : b < a <;> simp [h]
theorem e_has (σ : St) (a b : Int32) (Φ : Int32 → St → Prop) : wX12_has σ a b Φ = Φ (if ((a >>> (b &&& 31)) &&& 1) = 1 then 1 else 0) σ := by
  unfold wX12_has
  simp only [true_or, or_true, true_and]
  by_cases h : ((a >>> (b &&& 31)) &&& 1) = 1 <;> simp [h]
theorem e_winding (σ : St) (a : Int32) (Φ : Int32 → St → Prop) : wX11_windingOf σ a Φ = Φ (if a ≤ 3 then a else 3 - a) σ := by
  unfold wX11_windingOf
  by_cases h : a ≤ 3
  · rw [if_neg (by grind), if_pos h]
  · rw [if_pos (by grind), if_neg h]
theorem e_by (σ : St) (a : Int32) (Φ : Int32 → St → Prop) : wX12_by σ a Φ = Φ (if a ≤ 3 then a else 3 - a) σ := by
  unfold wX12_by
  by_cases h : a ≤ 3
  · first | rw [if_neg (by grind), if_pos h] | rw [if_pos (by grind), if_pos h]
  · first | rw [if_pos (by grind), if_neg h] | rw [if_neg (by grind), if_neg h]
/-! TURNS, ARM, FLOOR, STRAIN -/
theorem len_nat {v : Int32} (h : 10 ≤ v ∧ v ≤ 40) : ∃ n : Nat, v = nI n ∧ 10 ≤ n ∧ n ≤ 40 := by
  obtain ⟨j, hj, rfl⟩ := nI_of2 (x := v) (M := 40) (n := 40) rfl (by grind) h.2
  refine ⟨j, rfl, ?_, hj⟩
  have := (nI_leI (a := 10) (b := j) (by omega) (by omega)).mp h.1
  exact this
theorem sq_ne {v : Int32} (h : 10 ≤ v ∧ v ≤ 40) : ¬ v * v = 0 := by
  obtain ⟨n, rfl, h1, h2⟩ := len_nat h
  have : ∀ n, n < 41 → 10 ≤ n → ¬ (nI n * nI n = 0) := by decide +kernel
  exact this n (by omega) h1
def turnsS (sp l : Int32) : Int32 := if 10 ≤ l ∧ l ≤ 40 then sp / (l * l) else 0
theorem e_turnsAt (σ : St) (k : Nat) (l : Int32) (Φ : Int32 → St → Prop) : wX0_turnsAt σ k l Φ = Φ (turnsS (σ.1 k 1) l) σ := by
  unfold wX0_turnsAt turnsS
  by_cases h : l < 10
  · rw [if_pos h, if_neg (by grind)]
  · rw [if_neg h]
    by_cases h2 : 40 < l
    · rw [if_pos h2, if_neg (by grind)]
    · have h3 : 10 ≤ l ∧ l ≤ 40 := by grind
      rw [if_neg h2, if_pos h3]
      simp [sq_ne h3]
theorem e_turnsNow (σ : St) (k : Nat) (Φ : Int32 → St → Prop) : wX0_turnsNow σ k Φ = Φ (turnsS (σ.1 k 1) (σ.1 k 0)) σ := by
  unfold wX0_turnsNow
  rw [e_turnsAt]
theorem e_turnsM (σ : St) (l : Int32) (Φ : Int32 → St → Prop) (h : l = 0 ∨ (10 ≤ l ∧ l ≤ 40)) : wX12_turnsAt σ l Φ = Φ (turnsS (σ.1 18 3) l) σ := by
  unfold wX12_turnsAt turnsS
  rcases h with rfl | h
  · simp
  · rw [if_neg (by grind), if_pos h]
    simp [sq_ne h]
def armS (c l f s : Int32) : Int32 := if c = 0 then (l * s) / (f + s) else l - (l * s) / (f + s)
def floorS (sp c l f s : Int32) : Int32 := (armS c l f s * turnsS sp l) * turnsS sp l
def strainS (sp l f s : Int32) : Int32 := (f * floorS sp 0 l f s) / 100
theorem e_armAt (σ : St) (k : Nat) (c l f s : Int32) (Φ : Int32 → St → Prop) (h : ¬ f + s ≤ 0) : wX0_armAt σ k c l f s Φ = Φ (armS c l f s) σ := by
  unfold wX0_armAt wX0_armAt_22 armS
  rw [if_neg h]
  have h0 : ¬ f + s = 0 := by grind
  by_cases hc : c = 0 <;> simp [hc, h0]
theorem e_floorAt (σ : St) (k : Nat) (c l f s : Int32) (Φ : Int32 → St → Prop) (h : ¬ f + s ≤ 0) : wX0_floorAt σ k c l f s Φ = Φ (floorS (σ.1 k 1) c l f s) σ := by
  unfold wX0_floorAt floorS
  rw [e_turnsAt, e_armAt _ _ _ _ _ _ _ h]
theorem e_strainBy (σ : St) (k : Nat) (f x : Int32) (Φ : Int32 → St → Prop) : wX0_strainBy σ k f x Φ = Φ ((f * x) / 100) σ := by
  unfold wX0_strainBy
  rw [nz100, true_and]
theorem e_strainF (σ : St) (k : Nat) (l f s : Int32) (Φ : Int32 → St → Prop) (h : ¬ f + s ≤ 0) : wX0_floorAt σ k 0 l f s (fun r σ1 => wX0_strainBy σ1 k f r Φ) = Φ (strainS (σ.1 k 1) l f s) σ := by
  unfold strainS
  rw [e_floorAt _ _ _ _ _ _ _ h, e_strainBy]
/-! what cabins weigh -/
def wgS (K W M : Nat → Int32) (h : Int32) (i : Nat) : Int32 := W i + (if K i = 1 then 2 else if K i = 3 then (h - M i) / 6 else if K i = 4 then 2 * ((h - M i) / 6) else 0)
def cabS (K W P M : Nat → Int32) (c h : Int32) (mv : Nat → Bool) : Nat → Int32
  | 0 => 10
  | n + 1 => if (decide (P n = c)) != mv n then cabS K W P M c h mv n + wgS K W M h n else cabS K W P M c h mv n
abbrev wgV (V : Nat → Nat → Int32) (h : Int32) (i : Nat) : Int32 := wgS (V 19) (V 20) (V 22) h i
abbrev cabV (V : Nat → Nat → Int32) (c h : Int32) (mv : Nat → Bool) (n : Nat) : Int32 := cabS (V 19) (V 20) (V 21) (V 22) c h mv n
def noM : Nat → Bool := fun _ => false
def bitM (x : Int32) : Nat → Bool := fun i => decide (((x >>> (nI i &&& 31)) &&& 1) = 1)
theorem bit0 : ∀ i, i < 6 → bitM 0 i = noM i := by decide +kernel
theorem cw_congr {K W P M : Nat → Int32} {c h : Int32} {m1 m2 : Nat → Bool} : ∀ {n : Nat}, (∀ i, i < n → m1 i = m2 i) → cabS K W P M c h m1 n = cabS K W P M c h m2 n
  | 0, _ => rfl
  | n + 1, hh => by
    unfold cabS
    rw [hh n (Nat.lt_succ_self n), cw_congr (fun i hi => hh i (Nat.lt_succ_of_lt hi))]
/-- bounds of what is there -/
def TB (V : Nat → Nat → Int32) (nt hh : Nat) : Prop := nt ≤ 6 ∧ hh ≤ 1000 ∧ ∀ i, i < nt → ∃ w c : Nat, V 20 i = nI w ∧ w ≤ 20 ∧ V 22 i = nI c ∧ c ≤ hh
theorem nI_sub {a b : Nat} (h : b ≤ a) : nI a - nI b = nI (a - b) := by
  have e : nI (a - b) + nI b = nI a := by rw [nI_add, Nat.sub_add_cancel h]
  rw [← e]
  grind
theorem nI_mul (a b : Nat) : nI a * nI b = nI (a * b) := by
  unfold nI
  simp [Int32.ofNat_mul]
theorem wg_nat {V : Nat → Nat → Int32} {nt hh : Nat} (h : TB V nt hh) {i : Nat} (hi : i < nt) : ∃ m : Nat, wgV V (nI hh) i = nI m ∧ m ≤ 400 := by
  obtain ⟨h1, h2, h3⟩ := h
  obtain ⟨w, c, e1, e2, e3, e4⟩ := h3 i hi
  unfold wgV wgS
  rw [e1, e3, nI_sub e4, show (6 : Int32) = nI 6 from rfl, pk_div (by omega) (by omega) (by omega), show (2 : Int32) = nI 2 from rfl, nI_mul, show (0 : Int32) = nI 0 from rfl]
  have hd : (hh - c) / 6 ≤ 167 := by omega
  split
  · exact ⟨w + 2, nI_add _ _, by omega⟩
  · split
    · exact ⟨_, nI_add _ _, by omega⟩
    · split
      · exact ⟨_, nI_add _ _, by omega⟩
      · exact ⟨_, nI_add _ _, by omega⟩
theorem cw_nat {V : Nat → Nat → Int32} {nt hh : Nat} (h : TB V nt hh) (c : Int32) (mv : Nat → Bool) : ∀ n, n ≤ nt → ∃ m : Nat, cabV V c (nI hh) mv n = nI m ∧ 10 ≤ m ∧ m ≤ 10 + 400 * n
  | 0, _ => ⟨10, rfl, by omega, by omega⟩
  | n + 1, hn => by
    obtain ⟨m, e1, e2, e3⟩ := cw_nat h c mv n (by omega)
    obtain ⟨w, f1, f2⟩ := wg_nat h (show n < nt by omega)
    unfold cabV cabS
    split
    · refine ⟨m + w, ?_, by omega, by omega⟩
      rw [show cabS (V 19) (V 20) (V 21) (V 22) c (nI hh) mv n = nI m from e1, show wgS (V 19) (V 20) (V 22) (nI hh) n = nI w from f1, nI_add]
    · exact ⟨m, e1, e2, by omega⟩
theorem cw_pos {V : Nat → Nat → Int32} {nt hh : Nat} (h : TB V nt hh) (mv : Nat → Bool) : ¬ cabV V 0 (nI hh) mv nt + cabV V 1 (nI hh) mv nt ≤ 0 := by
  obtain ⟨a, e1, e2, e3⟩ := cw_nat h 0 mv nt (Nat.le_refl _)
  obtain ⟨b, f1, f2, f3⟩ := cw_nat h 1 mv nt (Nat.le_refl _)
  have := h.1
  rw [e1, f1, nI_add]
  exact nI_nle (by omega) (by omega)
