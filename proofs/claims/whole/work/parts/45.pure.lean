/-! PURE PART 16: even: masks, sums -/
theorem mk_s : ∀ n, n < 64 → ∀ M, M < 64 → ((nI n &&& nI (63 - M)) = 0 ↔ n &&& M = n) := by decide +kernel
theorem mk_m : ∀ n, n < 64 → ∀ M, M < 64 → ((nI n &&& (nI M ^^^ (-1 : Int32))) = 0 ↔ n &&& M = n) := by decide +kernel
theorem mk_or : ∀ i, i < 6 → ∀ S, S < 2 ^ i → nI S ||| ((1 : Int32) <<< (nI i &&& 31)) = nI (S + 2 ^ i) := by decide +kernel
theorem mk_or0 (S : Nat) : nI S ||| 0 = nI S := by
  apply Int32.toBitVec_inj.1
  simp
theorem mk_bit : ∀ n, n < 64 → ∀ i, i < 6 → bitM (nI n) i = n.testBit i := by decide +kernel
theorem mk_bz : ∀ n, n < 64 → ∀ i, i < 6 → (((nI n >>> (nI i &&& 31)) &&& 1) = 0 ↔ bitM (nI n) i = false) := by decide +kernel
theorem mk_b1 : ∀ n, n < 64 → ∀ i, i < 6 → (((nI n >>> (nI i &&& 31)) &&& 1) = 1 ↔ bitM (nI n) i = true) := by decide +kernel
theorem mk_pow : ∀ n, n < 7 → (1 : Int32) <<< (nI n &&& 31) = nI (2 ^ n) := by decide +kernel
def mkN (b : Nat → Bool) : Nat → Nat
  | 0 => 0
  | i + 1 => if b i then mkN b i + 2 ^ i else mkN b i
theorem mk_sum (b : Nat → Bool) : ∀ i, mkN b i + mkN (fun j => !b j) i + 1 = 2 ^ i
  | 0 => rfl
  | i + 1 => by
    have ih := mk_sum b i
    rw [mkN, mkN, Nat.pow_succ]
    cases b i <;> simp <;> omega
theorem mk_lt (b : Nat → Bool) (i : Nat) : mkN b i < 2 ^ i := by
  have := mk_sum b i
  omega
theorem mk_tb (b : Nat → Bool) : ∀ i, i < 6 → (mkN b 6).testBit i = b i := by
  have e : mkN b 6 = (if b 5 then (if b 4 then (if b 3 then (if b 2 then (if b 1 then (if b 0 then 0 + 2 ^ 0 else 0) + 2 ^ 1 else (if b 0 then 0 + 2 ^ 0 else 0)) + 2 ^ 2 else (if b 1 then (if b 0 then 0 + 2 ^ 0 else 0) + 2 ^ 1 else (if b 0 then 0 + 2 ^ 0 else 0))) + 2 ^ 3 else (if b 2 then (if b 1 then (if b 0 then 0 + 2 ^ 0 else 0) + 2 ^ 1 else (if b 0 then 0 + 2 ^ 0 else 0)) + 2 ^ 2 else (if b 1 then (if b 0 then 0 + 2 ^ 0 else 0) + 2 ^ 1 else (if b 0 then 0 + 2 ^ 0 else 0)))) + 2 ^ 4 else (if b 3 then (if b 2 then (if b 1 then (if b 0 then 0 + 2 ^ 0 else 0) + 2 ^ 1 else (if b 0 then 0 + 2 ^ 0 else 0)) + 2 ^ 2 else (if b 1 then (if b 0 then 0 + 2 ^ 0 else 0) + 2 ^ 1 else (if b 0 then 0 + 2 ^ 0 else 0))) + 2 ^ 3 else (if b 2 then (if b 1 then (if b 0 then 0 + 2 ^ 0 else 0) + 2 ^ 1 else (if b 0 then 0 + 2 ^ 0 else 0)) + 2 ^ 2 else (if b 1 then (if b 0 then 0 + 2 ^ 0 else 0) + 2 ^ 1 else (if b 0 then 0 + 2 ^ 0 else 0))))) + 2 ^ 5 else (if b 4 then (if b 3 then (if b 2 then (if b 1 then (if b 0 then 0 + 2 ^ 0 else 0) + 2 ^ 1 else (if b 0 then 0 + 2 ^ 0 else 0)) + 2 ^ 2 else (if b 1 then (if b 0 then 0 + 2 ^ 0 else 0) + 2 ^ 1 else (if b 0 then 0 + 2 ^ 0 else 0))) + 2 ^ 3 else (if b 2 then (if b 1 then (if b 0 then 0 + 2 ^ 0 else 0) + 2 ^ 1 else (if b 0 then 0 + 2 ^ 0 else 0)) + 2 ^ 2 else (if b 1 then (if b 0 then 0 + 2 ^ 0 else 0) + 2 ^ 1 else (if b 0 then 0 + 2 ^ 0 else 0)))) + 2 ^ 4 else (if b 3 then (if b 2 then (if b 1 then (if b 0 then 0 + 2 ^ 0 else 0) + 2 ^ 1 else (if b 0 then 0 + 2 ^ 0 else 0)) + 2 ^ 2 else (if b 1 then (if b 0 then 0 + 2 ^ 0 else 0) + 2 ^ 1 else (if b 0 then 0 + 2 ^ 0 else 0))) + 2 ^ 3 else (if b 2 then (if b 1 then (if b 0 then 0 + 2 ^ 0 else 0) + 2 ^ 1 else (if b 0 then 0 + 2 ^ 0 else 0)) + 2 ^ 2 else (if b 1 then (if b 0 then 0 + 2 ^ 0 else 0) + 2 ^ 1 else (if b 0 then 0 + 2 ^ 0 else 0)))))) := rfl
  intro i hi
  rw [e]
  have hi' : i = 0 ∨ i = 1 ∨ i = 2 ∨ i = 3 ∨ i = 4 ∨ i = 5 := by omega
  rcases hi' with rfl | rfl | rfl | rfl | rfl | rfl <;> cases b 0 <;> cases b 1 <;> cases b 2 <;> cases b 3 <;> cases b 4 <;> cases b 5 <;> decide
theorem mk_sub {b : Nat → Bool} {n : Nat} (hn : n < 64) (h : n &&& mkN b 6 = n) {i : Nat} (hi : i < 6) (hb : bitM (nI n) i = true) : b i = true := by
  rw [mk_bit n hn i hi] at hb
  rw [← h, Nat.testBit_and, mk_tb b i hi] at hb
  simp at hb
  exact hb.2
def smF (m : Nat → Bool) (f : Nat → Int32) : Nat → Int32
  | 0 => 0
  | i + 1 => if m i then smF m f i + f i else smF m f i
theorem sm_congr {m : Nat → Bool} {f g : Nat → Int32} : ∀ {n : Nat}, (∀ i, i < n → m i = true → f i = g i) → smF m f n = smF m g n
  | 0, _ => rfl
  | n + 1, h => by
    have ih := sm_congr (m := m) (f := f) (g := g) (n := n) (fun i hi => h i (by omega))
    rw [smF, smF, ih]
    by_cases q : m n = true
    · rw [if_pos q, if_pos q, h n (by omega) q]
    · rw [if_neg q, if_neg q]
theorem sm_cut {m : Nat → Bool} {f : Nat → Int32} {a : Nat} : ∀ {n : Nat}, a ≤ n → (∀ i, a ≤ i → i < n → m i = false) → smF m f n = smF m f a
  | 0, h, _ => by
    have : a = 0 := by omega
    rw [this]
  | n + 1, h, hm => by
    by_cases q : a = n + 1
    · rw [q]
    · rw [smF, if_neg (by rw [hm n (by omega) (by omega)]; decide)]
      exact sm_cut (by omega) (fun i h1 h2 => hm i h1 (by omega))
def gnS (P W : Nat → Int32) (i : Nat) : Int32 := if P i = 0 then -(W i) else W i
theorem cab_mv {K W P M : Nat → Int32} {h : Int32} {m : Nat → Bool} : ∀ {n : Nat}, cabS K W P M 0 h m n = cabS K W P M 0 h noM n + smF m (gnS P (fun i => wgS K W M h i)) n
  | 0 => by rw [cabS, cabS, smF]; rfl
  | n + 1 => by
    have ih := cab_mv (K := K) (W := W) (P := P) (M := M) (h := h) (m := m) (n := n)
    rw [cabS, cabS, smF, ih]
    unfold gnS noM
    by_cases p : P n = 0 <;> cases m n <;> simp [p] <;> grind
theorem cab_tot {K W P M : Nat → Int32} {h : Int32} {m : Nat → Bool} : ∀ {n : Nat}, (∀ i, i < n → P i = 0 ∨ P i = 1) → cabS K W P M 0 h m n + cabS K W P M 1 h m n = cabS K W P M 0 h noM n + cabS K W P M 1 h noM n
  | 0, _ => by rw [cabS, cabS, cabS, cabS]
  | n + 1, hp => by
    have ih := cab_tot (K := K) (W := W) (P := P) (M := M) (h := h) (m := m) (n := n) (fun i hi => hp i (by omega))
    rw [cabS, cabS, cabS, cabS]
    unfold noM at ih ⊢
    rcases hp n (by omega) with p | p <;> cases m n <;> simp [p] <;> grind
/-! the answer -/
def bgo (V : Nat → Nat → Int32) (nt i : Nat) : Bool := decide (i < nt) && !(decide (V 19 i = 2) && decide (2 < turnsS (V 3 1) (V 3 0)))
def gpS (V : Nat → Nat → Int32) (nt hh n : Nat) : Int32 := if 0 ≤ cab2 V (nI hh) (bitM (nI n)) nt (floorS (V 3 1) 0 (V 3 0)) - cab2 V (nI hh) (bitM (nI n)) nt (floorS (V 3 1) 1 (V 3 0)) then cab2 V (nI hh) (bitM (nI n)) nt (floorS (V 3 1) 0 (V 3 0)) - cab2 V (nI hh) (bitM (nI n)) nt (floorS (V 3 1) 1 (V 3 0)) else -(cab2 V (nI hh) (bitM (nI n)) nt (floorS (V 3 1) 0 (V 3 0)) - cab2 V (nI hh) (bitM (nI n)) nt (floorS (V 3 1) 1 (V 3 0)))
def smS (V : Nat → Nat → Int32) (nt hh n : Nat) : Int32 := smF (bitM (nI n)) (fun i => wgV V (nI hh) i) nt
def evS (V : Nat → Nat → Int32) (nt hh : Nat) : Nat → Int32 × Nat × Int32
  | 0 => (1073741824, 0, 0)
  | n + 1 => if n &&& mkN (bgo V nt) 6 = n then (if gpS V nt hh n < (evS V nt hh n).1 then (gpS V nt hh n, n, smS V nt hh n) else if gpS V nt hh n = (evS V nt hh n).1 then (if (evS V nt hh n).2.2 ≤ smS V nt hh n then evS V nt hh n else (gpS V nt hh n, n, smS V nt hh n)) else evS V nt hh n) else evS V nt hh n
theorem bgo_out {V : Nat → Nat → Int32} {nt i : Nat} (h : nt ≤ i) : bgo V nt i = false := by
  unfold bgo
  rw [decide_eq_false (by omega)]
  rfl
theorem mk_cut {b : Nat → Bool} {a : Nat} : ∀ {n : Nat}, a ≤ n → (∀ i, a ≤ i → b i = false) → mkN b n = mkN b a
  | 0, h, _ => by
    have : a = 0 := by omega
    rw [this]
  | n + 1, h, hm => by
    by_cases q : a = n + 1
    · rw [q]
    · rw [mkN, if_neg (by rw [hm n (by omega)]; decide)]
      exact mk_cut (by omega) hm
theorem ev_out {V : Nat → Nat → Int32} {nt hh : Nat} (h6 : nt ≤ 6) : ∀ m, 2 ^ nt + m ≤ 64 → evS V nt hh (2 ^ nt + m) = evS V nt hh (2 ^ nt)
  | 0, _ => rfl
  | m + 1, h => by
    have ih := ev_out (V := V) (nt := nt) (hh := hh) h6 m (by omega)
    rw [← Nat.add_assoc, evS, if_neg, ih]
    intro e
    have e1 := mk_cut (b := bgo V nt) (a := nt) (n := 6) h6 (fun i hi => bgo_out hi)
    have e2 := mk_lt (bgo V nt) nt
    have e3 : (2 ^ nt + m) &&& mkN (bgo V nt) 6 ≤ mkN (bgo V nt) 6 := Nat.and_le_right
    omega
theorem floor_nat {ss f s : Nat} {c l : Int32} (hs : ss ≤ 14400) (hl : 10 ≤ l ∧ l ≤ 40) (hf : 0 < f) (hf2 : f ≤ 10000) (hs2 : s ≤ 10000) : ∃ n : Nat, floorS (nI ss) c l (nI f) (nI s) = nI n ∧ n ≤ 829440 := by
  obtain ⟨t, t1, t2⟩ := turns_nat hs hl
  obtain ⟨n, rfl, n1, n2⟩ := len_nat hl
  unfold floorS armS
  rw [t1, nI_mul, nI_add]
  have b1 : n * s ≤ 40 * 10000 := Nat.mul_le_mul n2 (by omega)
  have b2 : n * s / (f + s) ≤ n := by
    refine Nat.div_le_of_le_mul ?_
    rw [Nat.mul_comm (f + s) n]
    exact Nat.mul_le_mul (Nat.le_refl _) (by omega)
  rw [pk_div (by omega) (by omega) (by omega), nI_sub b2]
  by_cases q : c = 0
  · rw [if_pos q, nI_mul, nI_mul]
    have b3 : n * s / (f + s) * t ≤ 40 * 144 := Nat.mul_le_mul (Nat.le_trans b2 n2) t2
    have b4 : n * s / (f + s) * t * t ≤ 40 * 144 * 144 := Nat.mul_le_mul b3 t2
    exact ⟨_, rfl, b4⟩
  · rw [if_neg q, nI_mul, nI_mul]
    have b3 : (n - n * s / (f + s)) * t ≤ 40 * 144 := Nat.mul_le_mul (Nat.le_trans (Nat.sub_le _ _) n2) t2
    have b4 : (n - n * s / (f + s)) * t * t ≤ 40 * 144 * 144 := Nat.mul_le_mul b3 t2
    exact ⟨_, rfl, b4⟩
theorem gp_lt {σ : St} {nt hh ss b n : Nat} (h : WH σ nt hh ss b) : gpS σ.1 nt hh n < 1073741824 := by
  obtain ⟨hR, hl, hs, hs2, -⟩ := h
  have hB := hR.2.2.1
  obtain ⟨f, f1, f2, f3⟩ := cw_nat hB 0 (bitM (nI n)) nt (Nat.le_refl _)
  obtain ⟨s, s1, s2, s3⟩ := cw_nat hB 1 (bitM (nI n)) nt (Nat.le_refl _)
  have h6 := hB.1
  obtain ⟨u, u1, u2⟩ := floor_nat (c := 0) hs2 hl (show 0 < f by omega) (by omega) (show s ≤ 10000 by omega)
  obtain ⟨v, v1, v2⟩ := floor_nat (c := 1) hs2 hl (show 0 < f by omega) (by omega) (show s ≤ 10000 by omega)
  unfold gpS cab2
  rw [f1, s1, hs, u1, v1]
  have b1 : 0 ≤ nI u := nI_pos' (by omega)
  have b2 : nI u ≤ 829440 := nI_le (b := 829440) u2 (by omega)
  have b3 : 0 ≤ nI v := nI_pos' (by omega)
  have b4 : nI v ≤ 829440 := nI_le (b := 829440) v2 (by omega)
  split
  · grind
  · grind
