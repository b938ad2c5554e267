/-! PURE PART G: the law's wire and thing -/
def rowW (V : Nat → Nat → Int32) (k n : Nat) (f : Nat → Int32) : Nat → Nat → Int32 := fun a b => if a = k ∧ b < n then f b else V a b
theorem rowW_0 {V : Nat → Nat → Int32} {k : Nat} {f : Nat → Int32} : rowW V k 0 f = V := by
  funext a b
  unfold rowW
  rw [if_neg (by omega)]
theorem rowW_s {V : Nat → Nat → Int32} {k n : Nat} {f : Nat → Int32} : up2 (rowW V k n f) k n (f n) = rowW V k (n + 1) f := by
  funext a b
  unfold rowW up2 va_up
  by_cases h1 : a = k
  · subst h1
    by_cases h2 : b = n
    · subst h2; simp
    · simp [h2, show (b < n + 1) = (b < n) by apply propext; omega]
  · simp [h1]
theorem sv_o {τ : St} {q a b : Nat} {v : Int32} (h : b ≠ a) : (sV τ q a v).1 q b = τ.1 q b := by
  show up2 τ.1 q a v q b = τ.1 q b
  unfold up2 va_up
  rw [if_pos rfl, if_neg h]
theorem sv_s {τ : St} {q a : Nat} {v : Int32} : (sV τ q a v).1 q a = v := by
  show up2 τ.1 q a v q a = v
  unfold up2 va_up
  rw [if_pos rfl, if_pos rfl]
theorem wc_bd {l t b : Nat} (hl : l ≤ 40) (ht : t ≤ 9) (hb : b ≤ 999) (k : Nat) : 0 < wcN l t b k ∧ wcN l t b k < 127 := by
  unfold wcN
  repeat' split
  all_goals omega
theorem lt0 {l d : Nat} (hl : l < 2 ^ 31) (h0 : 0 < d) (hd : d < 2 ^ 31) : (48 : Int32) + nI l / nI d = nI (48 + l / d) := by
  rw [pk_div hl h0 hd]
  exact nI_add 48 _
theorem lt1 {l : Nat} (hl : l < 2 ^ 31) : (48 : Int32) + (nI l - nI l / 10 * 10) = nI (48 + l % 10) := by
  rw [show (10 : Int32) = nI 10 from rfl, pk_rem hl (by omega) (by omega)]
  exact nI_add 48 _
set_option maxHeartbeats 4000000 in
theorem l_wire {σ : St} {nt x : Nat} {Φ : Int32 → St → Prop} (hx : x < 2 ^ 31) (h1 : σ.1 1 1 = 0) (hn6 : nt ≤ 6) (h42 : σ.1 4 2 = nI nt) (hp : ∀ τ s b p, PI τ 0 0 s b p → Φ 1 τ) : wL_wire σ (nI x) 18 Φ := by
  obtain ⟨l, hl⟩ : ∃ l, l = 10 + x % 31 := ⟨_, rfl⟩
  obtain ⟨t, ht⟩ : ∃ t, t = 1 + x / 32 % 9 / (x % 3 + 1) := ⟨_, rfl⟩
  obtain ⟨b, hb⟩ : ∃ b, b = 100 + x / 512 % 900 := ⟨_, rfl⟩
  obtain ⟨o, ho⟩ : ∃ o, o = x / 524288 % 2 := ⟨_, rfl⟩
  have hl2 : 10 ≤ l ∧ l ≤ 40 := by omega
  have hq : x / 32 % 9 / (x % 3 + 1) ≤ 8 := Nat.le_trans (Nat.div_le_self _ _) (by omega)
  have ht2 : 1 ≤ t ∧ t ≤ 9 := by
    rw [ht]
    generalize x / 32 % 9 / (x % 3 + 1) = d at hq ⊢
    omega
  have hb2 : 100 ≤ b ∧ b ≤ 999 := by omega
  have ho2 : o ≤ 1 := by omega
  have a1 : nI x - nI x / 31 * 31 = nI (x % 31) := pk_rem (d := 31) hx (by omega) (by omega)
  have a2 : nI x / 32 = nI (x / 32) := pk_div (d := 32) hx (by omega) (by omega)
  have a3 : nI (x / 32) - nI (x / 32) / 9 * 9 = nI (x / 32 % 9) := pk_rem (d := 9) (by omega) (by omega) (by omega)
  have a4 : nI x - nI x / 3 * 3 = nI (x % 3) := pk_rem (d := 3) hx (by omega) (by omega)
  have a6 : nI (x / 32 % 9) / nI (x % 3 + 1) = nI (x / 32 % 9 / (x % 3 + 1)) := pk_div (by omega) (by omega) (by omega)
  have a7 : nI x / 512 = nI (x / 512) := pk_div (d := 512) hx (by omega) (by omega)
  have a8 : nI (x / 512) - nI (x / 512) / 900 * 900 = nI (x / 512 % 900) := pk_rem (d := 900) (by omega) (by omega) (by omega)
  have a9 : nI x / 524288 = nI (x / 524288) := pk_div (d := 524288) hx (by omega) (by omega)
  have a10 : nI (x / 524288) - nI (x / 524288) / 2 * 2 = nI o := by rw [ho]; exact pk_rem (d := 2) (by omega) (by omega) (by omega)
  have b1 : (10 : Int32) + nI (x % 31) = nI l := by rw [hl]; exact nI_add 10 _
  have b2 : (1 : Int32) + nI (x / 32 % 9 / (x % 3 + 1)) = nI t := by rw [ht]; exact nI_add 1 _
  have b3 : (100 : Int32) + nI (x / 512 % 900) = nI b := by rw [hb]; exact nI_add 100 _
  clear hl ht hb hq
  have key : ∀ m i, i + m = 32 → wL_wire_42 18 Φ (m + 1) (rowW σ.1 18 i (fun _ => 0), σ.2) (nI x) (nI l) (nI t) (nI b) (nI i) := by
    intro m
    induction m with
    | zero =>
      intro i hi
      have : i = 32 := by omega
      subst this
      rw [wL_wire_42, if_pos (show (32 : Int32) ≤ nI 32 by decide), a9, a10, cl0, cl1, cl2, cl3, nI_mul, nI_mul]
      refine ⟨vi 0 (by omega), vi 1 (by omega), vi 2 (by omega), by decide, by decide, vi 3 (by omega), by decide, ?_⟩
      obtain ⟨μ, hμ⟩ : ∃ μ : St, μ = sV (sV (sV (sV (rowW σ.1 18 32 (fun _ => 0), σ.2) 18 0 (nI l)) 18 1 (nI (l * l * t))) 18 2 (nI b)) 18 3 (nI o) := ⟨_, rfl⟩
      rw [← hμ]
      have m11 : μ.1 1 1 = nI 0 := by
        have e : μ.1 1 1 = 0 := by rw [hμ]; simpa [sV, up2, va_up, rowW] using h1
        exact e
      have m42 : μ.1 4 2 = nI nt := by rw [hμ]; simpa [sV, up2, va_up, rowW] using h42
      have s0 : μ.1 18 0 = nI l := by rw [hμ]; simp [sV, up2, va_up, rowW]
      have s1 : μ.1 18 1 = nI (l * l * t) := by rw [hμ]; simp [sV, up2, va_up, rowW]
      have s2 : μ.1 18 2 = nI b := by rw [hμ]; simp [sV, up2, va_up, rowW]
      have s3 : μ.1 18 3 = nI o := by rw [hμ]; simp [sV, up2, va_up, rowW]
      have s4 : ∀ k, 4 ≤ k → k < 32 → μ.1 18 k = 0 := fun k h4 h32 => by
        rw [hμ]
        simp [sV, up2, va_up, rowW, show k ≠ 3 by omega, show k ≠ 2 by omega, show k ≠ 1 by omega, show k ≠ 0 by omega, h32]
      have hbd := fun k => wc_bd hl2.2 ht2.2 hb2.2 k
      have fin : ∀ τ np, PG μ τ np (wcN l t b) → np = 8 + o → wL_wire_208 18 Φ τ := by
        intro τ np hG hnp
        obtain ⟨p1, p2, p3, p4⟩ := hG
        have e18 : τ.1 18 = μ.1 18 := p3 18 (by omega) (by omega)
        have e4 : τ.1 4 2 = nI nt := (congrFun (p3 4 (by omega) (by omega)) 2).trans m42
        unfold wL_wire_208 wL_wire_213
        rw [if_neg (by decide)]
        refine x_fault p1 hl2 ht2 hb2 (by omega) (by omega) p2 ⟨vi 3 (by omega), ?_⟩
        rw [cl3, cl1, e18, s3, if_pos (show nI np = (8 : Int32) + nI o by rw [hnp]; exact (nI_add 8 o).symm)]
        refine x_wire p1 hl2 ht2 hb2 (by omega) (by omega) p2 hn6 e4 (fun τ' hD => ⟨vi 1 (by omega), ?_⟩)
        obtain ⟨d1, ⟨d2, d3, d4, d5, d6, d7, d8⟩, d9, d10⟩ := hD
        have f18 : τ'.1 18 = μ.1 18 := d10.trans e18
        rw [if_pos (show nI (l * l * t) = τ'.1 18 1 by rw [f18, s1])]
        refine ⟨by decide, hp τ' (l * l * t) b 0 ⟨d1, ⟨?_, d3, ?_, d4, hb2.2, d5, by omega, ?_, Or.inl d8⟩, ⟨?_, ?_, ?_, ?_, ?_, ?_, ?_, ?_⟩, ⟨⟨by omega, d9, fun i hi => by omega⟩, ⟨by omega, by omega, fun i hi => by omega⟩, d6⟩, fun i hi => by omega, fun i i' hi => by omega⟩⟩
        · rw [d2]
          exact ⟨nI_le (a := 10) hl2.1 (by omega), nI_le (b := 40) hl2.2 (by omega)⟩
        · have m1 : l * l ≤ 40 * 40 := Nat.mul_le_mul hl2.2 hl2.2
          have m2 : l * l * t ≤ 40 * 40 * 9 := Nat.mul_le_mul m1 ht2.2
          omega
        · rw [d7]
          split
          · exact Or.inl rfl
          · exact Or.inr rfl
        · rw [f18, s0, d2]
        · rw [f18, s1]
        · rw [f18, s2]
        · rw [f18, s3, d7]
          by_cases z : o = 0
          · rw [if_pos (by omega), z]; rfl
          · rw [if_neg (by omega), show o = 1 by omega]; rfl
        · rw [f18, s4 4 (by omega) (by omega)]; rfl
        · rw [f18, s4 5 (by omega) (by omega)]; rfl
        · rw [f18, s4 6 (by omega) (by omega), d8]
        · rw [f18, s4 7 (by omega) (by omega)]; rfl
      have z1 : ¬ (1 : Int32) = 0 := by decide
      have g0 : PG μ μ 0 (wcN l t b) := ⟨m11, fun k hk => by omega, fun _ _ _ => rfl, rfl⟩
      refine pg_put g0 (by omega) (lt0 (d := 10) (by omega) (by omega) (by omega)) (hbd 0).1 (hbd 0).2 (fun τ1 g1 => ?_)
      rw [if_neg z1]
      refine ⟨by decide, pg_put g1 (by omega) (lt1 (by omega)) (hbd 1).1 (hbd 1).2 (fun τ2 g2 => ?_)⟩
      rw [if_neg z1]
      refine pg_put g2 (by omega) rfl (hbd 2).1 (hbd 2).2 (fun τ3 g3 => ?_)
      rw [if_neg z1]
      refine pg_put g3 (by omega) (nI_add 48 t) (hbd 3).1 (hbd 3).2 (fun τ4 g4 => ?_)
      rw [if_neg z1]
      refine pg_put g4 (by omega) rfl (hbd 4).1 (hbd 4).2 (fun τ5 g5 => ?_)
      rw [if_neg z1]
      refine ⟨by decide, pg_put g5 (by omega) (lt0 (d := 100) (by omega) (by omega) (by omega)) (hbd 5).1 (hbd 5).2 (fun τ6 g6 => ?_)⟩
      rw [if_neg z1]
      have c6 : (48 : Int32) + (nI b / 10 - nI b / 10 / 10 * 10) = nI (wcN l t b 6) := by
        rw [show nI b / 10 = nI (b / 10) from pk_div (d := 10) (by omega) (by omega) (by omega)]
        exact lt1 (by omega)
      refine ⟨by decide, by decide, pg_put g6 (by omega) c6 (hbd 6).1 (hbd 6).2 (fun τ7 g7 => ?_)⟩
      rw [if_neg z1]
      refine ⟨by decide, pg_put g7 (by omega) (lt1 (by omega)) (hbd 7).1 (hbd 7).2 (fun τ8 g8 => ?_)⟩
      rw [if_neg z1]
      refine ⟨vi 3 (by omega), ?_⟩
      rw [show τ8.1 18 3 = nI o from (congrFun (g8.2.2.1 18 (by omega) (by omega)) 3).trans s3]
      by_cases z : o = 0
      · rw [if_pos (by rw [z]; rfl)]
        exact fin τ8 8 g8 (by omega)
      · rw [if_neg (show ¬ nI o = 0 from fun q => z ((nI_eq (b := 0) (by omega) (by omega)).mp q))]
        refine pg_put g8 (by omega) rfl (hbd 8).1 (hbd 8).2 (fun τ9 g9 => ?_)
        rw [if_neg z1]
        exact fin τ9 9 g9 (by omega)
    | succ m ih =>
      intro i hi
      have ih' := ih (i + 1) (by omega)
      rw [wL_wire_42, if_neg (show ¬ (32 : Int32) ≤ nI i from nI_ge (b := 32) (by omega) (by omega)), nI_clamp (show i < 2 ^ 31 by omega), nI_1]
      refine ⟨vi i (by omega), ?_⟩
      rw [← rowW_s] at ih'
      exact ih'
  unfold wL_wire
  rw [a1, a2, a3, a4, nI_1, a6, a7, a8, b1, b2, b3]
  have k0 := key 32 0 (by omega)
  rw [rowW_0] at k0
  exact ⟨by decide, by decide, by decide, by decide, fun z => by have := (nI_eq (b := 0) (by omega) (by omega)).mp z; omega, by decide, by decide, 33, k0⟩
