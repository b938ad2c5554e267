/-! PURE PART F: letters, one at a time; the wire's text; wire -/
theorem lb_se {x : BitVec 64} {j : Nat} (hj : j < 32) : (BitVec.signExtend 32 x).getLsbD j = x.getLsbD j := by
  rw [BitVec.getLsbD_signExtend]
  simp [hj, show j < 64 by omega]
theorem lb_and (V : Int64) : (V &&& 255).toInt32 = V.toInt32 &&& 255 := by
  apply Int32.toBitVec_inj.1
  rw [Int64.toBitVec_toInt32, Int64.toBitVec_and, Int32.toBitVec_and, Int64.toBitVec_toInt32]
  apply BitVec.eq_of_getLsbD_eq
  intro j hj
  rw [lb_se hj, BitVec.getLsbD_and, BitVec.getLsbD_and, lb_se hj]
  have h255 : (255 : Int64).toBitVec.getLsbD j = (255 : Int32).toBitVec.getLsbD j := by
    have : ∀ j, j < 32 → (255 : Int64).toBitVec.getLsbD j = (255 : Int32).toBitVec.getLsbD j := by decide
    exact this j hj
  rw [h255]
theorem lb_hi : ∀ j, j < 32 → 8 ≤ j → (255 : Int32).toBitVec.getLsbD j = false := by decide
theorem lb_sh {v : Int64} {k : Nat} {a : UInt64} {b : Int64} (hk : k + 8 ≤ 64) (e1 : (a.toBitVec % 64).toNat = k) (e2 : (b.toBitVec.smod 64).toNat = k) : (v.toUInt64 >>> a).toInt64.toInt32 &&& 255 = (v >>> b).toInt32 &&& 255 := by
  apply Int32.toBitVec_inj.1
  rw [Int32.toBitVec_and, Int32.toBitVec_and, Int64.toBitVec_toInt32, Int64.toBitVec_toInt32, Int64.toBitVec_shiftRight]
  rw [show (v.toUInt64 >>> a).toInt64.toBitVec = v.toBitVec >>> (a.toBitVec % 64) from rfl]
  apply BitVec.eq_of_getLsbD_eq
  intro j hj
  rw [BitVec.getLsbD_and, BitVec.getLsbD_and, lb_se hj, lb_se hj]
  by_cases h8 : 8 ≤ j
  · rw [lb_hi j hj h8, Bool.and_false, Bool.and_false]
  · congr 1
    show (v.toBitVec >>> (a.toBitVec % 64).toNat).getLsbD j = (v.toBitVec.sshiftRight (b.toBitVec.smod 64).toNat).getLsbD j
    rw [e1, e2, BitVec.getLsbD_ushiftRight, BitVec.getLsbD_sshiftRight]
    simp [show ¬ 64 ≤ j by omega, show k + j < 64 by omega]
def byS (v : Int64) (i : Nat) : Int32 := (v >>> (((8 : Int32) * nI i).toInt64 &&& 63)).toInt32 &&& 255
theorem by_x (v : Int64) : ∀ i, i < 8 → (v.toUInt64 >>> (((8 : Int32) * nI i).toInt64.toUInt64 &&& Int64.toUInt64 63)).toInt64.toInt32 &&& 255 = byS v i := by
  intro i hi
  unfold byS
  have hi' : i = 0 ∨ i = 1 ∨ i = 2 ∨ i = 3 ∨ i = 4 ∨ i = 5 ∨ i = 6 ∨ i = 7 := by omega
  rcases hi' with rfl | rfl | rfl | rfl | rfl | rfl | rfl | rfl
  · exact lb_sh (k := 0) (by omega) (by decide) (by decide)
  · exact lb_sh (k := 8) (by omega) (by decide) (by decide)
  · exact lb_sh (k := 16) (by omega) (by decide) (by decide)
  · exact lb_sh (k := 24) (by omega) (by decide) (by decide)
  · exact lb_sh (k := 32) (by omega) (by decide) (by decide)
  · exact lb_sh (k := 40) (by omega) (by decide) (by decide)
  · exact lb_sh (k := 48) (by omega) (by decide) (by decide)
  · exact lb_sh (k := 56) (by omega) (by decide) (by decide)
theorem by_nat (x : Int32) : ∃ c : Nat, x &&& 255 = nI c ∧ c < 256 := by
  refine ⟨(x &&& 255).toBitVec.toNat, ?_, ?_⟩
  · apply Int32.toBitVec_inj.1
    show (x &&& 255).toBitVec = BitVec.ofNat 32 (x &&& 255).toBitVec.toNat
    rw [BitVec.ofNat_toNat]
    simp
  · rw [Int32.toBitVec_and, BitVec.toNat_and]
    have : x.toBitVec.toNat &&& (255 : Int32).toBitVec.toNat ≤ (255 : Int32).toBitVec.toNat := Nat.and_le_right
    have e : (255 : Int32).toBitVec.toNat = 255 := by decide
    omega
theorem by_c : ∀ c, c < 256 → vp_nar .char ((nI c).toUInt32 % 65536).toInt32 = nI c := by decide +kernel
theorem by_of (v : Int64) (i : Nat) : ∃ c : Nat, byS v i = nI c ∧ c < 256 := by_nat _
def byN (v : Int64) (i : Nat) : Nat := (byS v i).toNatClampNeg
theorem byN_e (v : Int64) (i : Nat) : byS v i = nI (byN v i) ∧ byN v i < 256 := by
  obtain ⟨c, e, hc⟩ := by_of v i
  unfold byN
  rw [e, nI_clamp (by omega)]
  exact ⟨rfl, hc⟩
def lsR (c : Nat → Nat) : Nat → Nat → Nat → Bool → Option Nat
  | 0, _, many, _ => some many
  | m + 1, i, many, en => if 126 < c i then none else if en = true ∧ ¬ c i = 0 then none else if c i = 0 then lsR c m (i + 1) many true else lsR c m (i + 1) (many + 1) en
def enI (b : Bool) : Int32 := if b then 1 else 0
theorem c_126 {v : Int64} {i : Nat} : (126 : Int32) < byS v i ↔ 126 < byN v i := by
  obtain ⟨e, hc⟩ := byN_e v i
  rw [e]
  exact nI_ltI (a := 126) (by omega) (by omega)
theorem c_0 {v : Int64} {i : Nat} : byS v i = 0 ↔ byN v i = 0 := by
  obtain ⟨e, hc⟩ := byN_e v i
  rw [e]
  exact nI_eq (b := 0) (by omega) (by omega)
theorem x_in {σ : St} {v : Int64} {Φ : Int32 → St → Prop} (hp : match lsR (byN v) 8 0 0 false with | none => Φ (-1) σ | some n => Φ (nI n) σ) : wX11_lettersIn σ v Φ := by
  have key : ∀ m i many en, i + m = 8 → (match lsR (byN v) m i many en with | none => Φ (-1) σ | some n => Φ (nI n) σ) → wX11_lettersIn_7 Φ (m + 1) σ v (nI many) (enI en) (nI i) := by
    intro m
    induction m with
    | zero =>
      intro i many en hi h
      have : i = 8 := by omega
      subst this
      rw [wX11_lettersIn_7, if_pos (show (8 : Int32) ≤ nI 8 by decide)]
      rw [lsR] at h
      exact h
    | succ m ih =>
      intro i many en hi h
      rw [wX11_lettersIn_7, if_neg (show ¬ (8 : Int32) ≤ nI i from nI_ge (b := 8) (by omega) (by omega))]
      unfold wX11_byteOf
      rw [by_x v i (by omega)]
      rw [lsR] at h
      by_cases h1 : 126 < byN v i
      · rw [if_pos (c_126.mpr h1)]
        rw [if_pos h1] at h
        exact h
      · rw [if_neg (fun q => h1 (c_126.mp q))]
        rw [if_neg h1] at h
        have k40 : (match (if byN v i = 0 then lsR (byN v) m (i + 1) many true else lsR (byN v) m (i + 1) (many + 1) en) with | none => Φ (-1) σ | some n => Φ (nI n) σ) → wX11_lettersIn_40 (wX11_lettersIn_7 Φ (m + 1)) Φ σ v (nI many) (enI en) (nI i) (byS v i) := by
          intro h
          unfold wX11_lettersIn_40 wX11_lettersIn_53
          rw [nI_1, nI_1]
          by_cases h3 : byN v i = 0
          · rw [if_pos (c_0.mpr h3)]
            rw [if_pos h3] at h
            exact ih (i + 1) many true (by omega) h
          · rw [if_neg (fun q => h3 (c_0.mp q))]
            rw [if_neg h3] at h
            exact ih (i + 1) (many + 1) en (by omega) h
        cases en with
        | false =>
          rw [show enI false = 0 from rfl, if_pos rfl]
          rw [if_neg (fun q => absurd q.1 (by decide))] at h
          exact k40 h
        | true =>
          rw [show enI true = 1 from rfl, if_neg (by decide)]
          by_cases h3 : byN v i = 0
          · rw [if_pos (c_0.mpr h3)]
            rw [if_neg (fun q => q.2 h3)] at h
            exact k40 h
          · rw [if_neg (fun q => h3 (c_0.mp q))]
            rw [if_pos ⟨rfl, h3⟩] at h
            exact h
  exact ⟨9, key 8 0 0 false (by omega) hp⟩
def rowF (V : Nat → Nat → Int32) (k p n : Nat) (f : Nat → Int32) : Nat → Nat → Int32 := fun a b => if a = k ∧ p ≤ b ∧ b < p + n then f (b - p) else V a b
theorem rowF_0 {V : Nat → Nat → Int32} {k p : Nat} {f : Nat → Int32} : rowF V k p 0 f = V := by
  funext a b
  unfold rowF
  rw [if_neg (by omega)]
theorem rowF_s {V : Nat → Nat → Int32} {k p n : Nat} {f : Nat → Int32} : up2 (rowF V k p n f) k (p + n) (f n) = rowF V k p (n + 1) f := by
  funext a b
  unfold rowF up2 va_up
  by_cases h1 : a = k
  · subst h1
    by_cases h2 : b = p + n
    · subst h2; simp
    · simp [h2, show (b < p + (n + 1)) = (b < p + n) by apply propext; omega]
  · simp [h1]
theorem rowF_x {V : Nat → Nat → Int32} {p n : Nat} {f : Nat → Int32} {x y : Int32} : up2 (up2 (up2 (rowF V 2 p n f) 1 1 x) 2 (p + n) (f n)) 1 1 y = up2 (rowF V 2 p (n + 1) f) 1 1 y := by
  rw [← rowF_s]
  funext a b
  unfold up2 va_up
  by_cases h1 : a = 1
  · subst h1
    by_cases h2 : b = 1
    · subst h2; simp
    · simp [h2]
  · by_cases h2 : a = 2
    · subst h2; simp
    · simp [h1, h2]
theorem x_put {τ : St} {n : Nat} {v : Int32} {Φ : St → Prop} (h : τ.1 1 1 = nI n) (hn : n < 12) (hp : Φ (sV (sV τ 2 n (vp_nar .char v)) 1 1 (nI (n + 1)))) : wX7_put τ v Φ := by
  unfold wX7_put
  rw [h, if_neg (nI_pos (by omega)), if_neg (show ¬ (12 : Int32) ≤ nI n from nI_ge (b := 12) hn (by omega)), nI_clamp (by omega), show (sV τ 2 n (vp_nar .char v)).1 1 1 = nI n from h, nI_1]
  exact ⟨vp_in_nI (by omega) (by omega), hp⟩
theorem x_putL {σ : St} {v : Int64} {np N : Nat} {Φ : Int32 → St → Prop} (h1 : σ.1 1 1 = nI np) (hN : np + N ≤ 12) (hp : Φ (nI (np + N)) (up2 (rowF σ.1 2 np N (fun i => nI (byN v i))) 1 1 (nI (np + N)), σ.2)) (hN8 : N ≤ 8) : ∃ n0, wX11_letters_29 Φ n0 σ v (nI N) 0 := by
  have key : ∀ m i, i + m = N → wX11_letters_29 Φ (m + 1) (up2 (rowF σ.1 2 np i (fun i => nI (byN v i))) 1 1 (nI (np + i)), σ.2) v (nI N) (nI i) := by
    intro m
    induction m with
    | zero =>
      intro i hi
      have : i = N := by omega
      subst this
      rw [wX11_letters_29, if_pos (nI_le (Nat.le_refl _) (by omega))]
      exact hp
    | succ m ih =>
      intro i hi
      have ih' := ih (i + 1) (by omega)
      rw [wX11_letters_29, if_neg (nI_ge (by omega) (by omega))]
      unfold wX11_byteOf
      rw [by_x v i (by omega), (byN_e v i).1]
      refine x_put (n := np + i) rfl (by omega) ?_
      rw [by_c _ (byN_e v i).2, nI_1]
      have e : sV (sV (up2 (rowF σ.1 2 np i (fun i => nI (byN v i))) 1 1 (nI (np + i)), σ.2) 2 (np + i) (nI (byN v i))) 1 1 (nI (np + i + 1)) = (up2 (rowF σ.1 2 np (i + 1) (fun i => nI (byN v i))) 1 1 (nI (np + i + 1)), σ.2) := by
        unfold sV
        dsimp only
        rw [← rowF_x (x := nI (np + i))]
      rw [e]
      exact ih'
  have k0 := key N 0 (by omega)
  have e0 : ((up2 (rowF σ.1 2 np 0 (fun i => nI (byN v i))) 1 1 (nI (np + 0)), σ.2) : St) = σ := by
    rw [rowF_0, Nat.add_zero, ← h1]
    have : up2 σ.1 1 1 (σ.1 1 1) = σ.1 := by
      funext a b
      unfold up2 va_up
      by_cases q : a = 1
      · subst q
        by_cases r : b = 1
        · subst r; simp
        · simp [r]
      · simp [q]
    rw [this]
  rw [e0] at k0
  exact ⟨N + 1, k0⟩
theorem by1 : ∀ c, c < 127 → byN (nI c).toInt64 0 = c := by decide +kernel
theorem ls1 : ∀ c, c < 127 → 0 < c → lsR (byN (nI c).toInt64) 8 0 0 false = some 1 := by decide +kernel
theorem i_put {σ : St} {np c : Nat} {Φ : Int32 → St → Prop} (h1 : σ.1 1 1 = nI np) (hn : np < 12) (hc0 : 0 < c) (hc : c < 127) (hp : Φ 1 (sV (sV σ 2 np (nI c)) 1 1 (nI (np + 1)))) : wL_put σ (nI c) Φ := by
  unfold wL_put wX11_letters
  refine x_in ?_
  rw [ls1 c hc hc0]
  dsimp only
  rw [if_pos (nI_pos' (by omega))]
  unfold wX7_hasRoomFor
  rw [h1, nI_add, if_neg (show ¬ (12 : Int32) < nI (np + 1) from nI_nlt (a := 12) (by omega) (by omega))]
  refine ⟨by decide, ?_⟩
  dsimp only
  rw [if_neg (by decide)]
  refine x_putL h1 (N := 1) (by omega) ?_ (by omega)
  rw [if_neg (show ¬ nI (np + 1) ≤ 0 from nI_ge (a := 0) (by omega) (by omega))]
  refine ⟨by decide, ?_⟩
  have e : ((up2 (rowF σ.1 2 np 1 (fun i => nI (byN (nI c).toInt64 i))) 1 1 (nI (np + 1)), σ.2) : St) = sV (sV σ 2 np (nI c)) 1 1 (nI (np + 1)) := by
    have e1 := rowF_s (V := σ.1) (k := 2) (p := np) (n := 0) (f := fun i => nI (byN (nI c).toInt64 i))
    rw [rowF_0, Nat.add_zero, by1 c hc] at e1
    unfold sV
    rw [e1]
  rw [e]
  exact hp
/-- the PAGE holds the first letters of a row; all else is as it was -/
def PG (σ τ : St) (np : Nat) (c : Nat → Nat) : Prop := τ.1 1 1 = nI np ∧ (∀ k, k < np → τ.1 2 k = nI (c k)) ∧ (∀ k, k ≠ 1 → k ≠ 2 → τ.1 k = σ.1 k) ∧ τ.2 = σ.2
theorem pg_put {σ τ : St} {np : Nat} {c : Nat → Nat} {v : Int32} {Φ : Int32 → St → Prop} (h : PG σ τ np c) (hn : np < 12) (hv : v = nI (c np)) (hc0 : 0 < c np) (hc : c np < 127) (hp : ∀ τ', PG σ τ' (np + 1) c → Φ 1 τ') : wL_put τ v Φ := by
  rw [hv]
  refine i_put h.1 hn hc0 hc (hp _ ⟨rfl, fun k hk => ?_, fun k h1 h2 => ?_, h.2.2.2⟩)
  · show up2 (up2 τ.1 2 np (nI (c np))) 1 1 (nI (np + 1)) 2 k = nI (c k)
    unfold up2 va_up
    by_cases q : k = np
    · subst q; simp
    · simp [q, h.2.1 k (by omega)]
  · show up2 (up2 τ.1 2 np (nI (c np))) 1 1 (nI (np + 1)) k = σ.1 k
    rw [← h.2.2.1 k h1 h2]
    unfold up2 va_up
    rw [if_neg h1, if_neg h2]
def btB (x lo hi : Int32) : Bool := decide (lo ≤ x) && decide (x ≤ hi)
def okB (c : Nat → Int32) (i : Nat) : Bool := if i = 0 then btB (c 0) 49 52 else if i = 1 then btB (c 1) 48 (if c 0 = 52 then 48 else 57) else if i = 2 then decide (c 2 = 58) else if i = 3 then btB (c 3) 49 57 else if i = 4 then decide (c 4 = 58) else if i = 5 then btB (c 5) 49 57 else if i = 6 then btB (c 6) 48 57 else if i = 7 then btB (c 7) 48 57 else if i = 8 then decide (c 8 = 111) else false
def bI (b : Bool) : Int32 := if b then 1 else 0
theorem bI01 (b : Bool) : bI b = 0 ∨ bI b = 1 := by cases b <;> simp [bI]
theorem i_pat {σ : St} {np i : Nat} {Φ : Int32 → St → Prop} (h : σ.1 1 1 = nI np) (hn : np ≤ 12) (hi : i < np) (hp : Φ (σ.1 2 i) σ) : wX7_at σ (nI i) Φ := by
  unfold wX7_at
  rw [if_neg (nI_pos (by omega)), h, if_neg (nI_ge hi (by omega)), if_neg (show ¬ (12 : Int32) ≤ nI i from nI_ge (b := 12) (by omega) (by omega)), nI_clamp (by omega)]
  exact ⟨vp_in_nI (by omega) (by omega), hp⟩
theorem i_btw {σ : St} {np i : Nat} {lo hi : Int32} {Φ : Int32 → St → Prop} (h : σ.1 1 1 = nI np) (hn : np ≤ 12) (hi' : i < np) (hp : Φ (bI (btB (σ.1 2 i) lo hi)) σ) : wX7_isBetween σ (nI i) lo hi Φ := by
  unfold wX7_isBetween
  refine i_pat h hn hi' ?_
  unfold btB bI at hp
  by_cases q : σ.1 2 i < lo
  · rw [if_pos q]
    rw [decide_eq_false (show ¬ lo ≤ σ.1 2 i by grind)] at hp
    exact ⟨by decide, hp⟩
  · rw [if_neg q]
    refine i_pat h hn hi' ?_
    rw [decide_eq_true (show lo ≤ σ.1 2 i by grind)] at hp
    by_cases r : hi < σ.1 2 i
    · rw [if_pos r]
      rw [decide_eq_false (show ¬ σ.1 2 i ≤ hi by grind)] at hp
      exact ⟨by decide, hp⟩
    · rw [if_neg r]
      rw [decide_eq_true (show σ.1 2 i ≤ hi by grind)] at hp
      exact ⟨by decide, hp⟩
theorem i_btw01 {σ : St} {np i : Nat} {lo hi : Int32} {Φ : Int32 → St → Prop} (h : σ.1 1 1 = nI np) (hn : np ≤ 12) (hi' : i < np) (hp : Φ (bI (btB (σ.1 2 i) lo hi)) σ) : wX7_isBetween σ (nI i) lo hi (fun r2 σ1 => ((r2 = 0 ∨ r2 = 1) ∧ Φ r2 σ1)) := i_btw h hn hi' ⟨bI01 _, hp⟩
theorem i_eqL {σ : St} {np i : Nat} {d : Int32} {Φ : Int32 → St → Prop} (h : σ.1 1 1 = nI np) (hn : np ≤ 12) (hi' : i < np) (hp : Φ (bI (decide (σ.1 2 i = d))) σ) : wX7_at σ (nI i) (fun r10 σ9 => (if r10 = d then (((1 : Int32) = 0 ∨ (1 : Int32) = 1) ∧ Φ (1 : Int32) σ9) else (((0 : Int32) = 0 ∨ (0 : Int32) = 1) ∧ Φ (0 : Int32) σ9))) := by
  refine i_pat h hn hi' ?_
  by_cases q : σ.1 2 i = d
  · rw [if_pos q]
    rw [decide_eq_true q] at hp
    exact ⟨by decide, hp⟩
  · rw [if_neg q]
    rw [decide_eq_false q] at hp
    exact ⟨by decide, hp⟩
theorem x_letter {σ : St} {np i : Nat} {Φ : Int32 → St → Prop} (h : σ.1 1 1 = nI np) (hn : np ≤ 12) (hi' : i < np) (hp : Φ (bI (okB (σ.1 2) i)) σ) : wX7_isWireLetter σ (nI i) Φ := by
  unfold wX7_isWireLetter
  have hi : i = 0 ∨ i = 1 ∨ i = 2 ∨ i = 3 ∨ i = 4 ∨ i = 5 ∨ i = 6 ∨ i = 7 ∨ i = 8 ∨ i = 9 ∨ i = 10 ∨ i = 11 := by omega
  rcases hi with rfl | rfl | rfl | rfl | rfl | rfl | rfl | rfl | rfl | rfl | rfl | rfl
  · exact ⟨fun _ => i_btw01 h hn hi' hp, ne_d rfl, ne_d rfl, ne_d rfl, ne_d rfl, ne_d rfl, ne_d rfl, ne_d rfl, ne_d rfl, fun e => absurd e (by decide)⟩
  · refine ⟨ne_d rfl, fun _ => ?_, ne_d rfl, ne_d rfl, ne_d rfl, ne_d rfl, ne_d rfl, ne_d rfl, ne_d rfl, fun e => absurd e (by decide)⟩
    refine i_pat (i := 0) h hn (by omega) ?_
    have hp' : Φ (bI (btB (σ.1 2 1) 48 (if σ.1 2 0 = 52 then 48 else 57))) σ := hp
    unfold wX7_isWireLetter_83
    by_cases q : σ.1 2 0 = 52
    · rw [if_pos q]
      rw [if_pos q] at hp'
      exact i_btw01 h hn hi' hp'
    · rw [if_neg q]
      rw [if_neg q] at hp'
      exact i_btw01 h hn hi' hp'
  · exact ⟨ne_d rfl, ne_d rfl, fun _ => i_eqL h hn hi' hp, ne_d rfl, ne_d rfl, ne_d rfl, ne_d rfl, ne_d rfl, ne_d rfl, fun e => absurd e (by decide)⟩
  · exact ⟨ne_d rfl, ne_d rfl, ne_d rfl, fun _ => i_btw01 h hn hi' hp, ne_d rfl, ne_d rfl, ne_d rfl, ne_d rfl, ne_d rfl, fun e => absurd e (by decide)⟩
  · exact ⟨ne_d rfl, ne_d rfl, ne_d rfl, ne_d rfl, fun _ => i_eqL h hn hi' hp, ne_d rfl, ne_d rfl, ne_d rfl, ne_d rfl, fun e => absurd e (by decide)⟩
  · exact ⟨ne_d rfl, ne_d rfl, ne_d rfl, ne_d rfl, ne_d rfl, fun _ => i_btw01 h hn hi' hp, ne_d rfl, ne_d rfl, ne_d rfl, fun e => absurd e (by decide)⟩
  · exact ⟨ne_d rfl, ne_d rfl, ne_d rfl, ne_d rfl, ne_d rfl, ne_d rfl, fun _ => i_btw01 h hn hi' hp, ne_d rfl, ne_d rfl, fun e => absurd e (by decide)⟩
  · exact ⟨ne_d rfl, ne_d rfl, ne_d rfl, ne_d rfl, ne_d rfl, ne_d rfl, ne_d rfl, fun _ => i_btw01 h hn hi' hp, ne_d rfl, fun e => absurd e (by decide)⟩
  · exact ⟨ne_d rfl, ne_d rfl, ne_d rfl, ne_d rfl, ne_d rfl, ne_d rfl, ne_d rfl, ne_d rfl, fun _ => i_eqL h hn hi' hp, fun e => absurd e (by decide)⟩
  · exact ⟨ne_d rfl, ne_d rfl, ne_d rfl, ne_d rfl, ne_d rfl, ne_d rfl, ne_d rfl, ne_d rfl, ne_d rfl, fun _ => ⟨by decide, hp⟩⟩
  · exact ⟨ne_d rfl, ne_d rfl, ne_d rfl, ne_d rfl, ne_d rfl, ne_d rfl, ne_d rfl, ne_d rfl, ne_d rfl, fun _ => ⟨by decide, hp⟩⟩
  · exact ⟨ne_d rfl, ne_d rfl, ne_d rfl, ne_d rfl, ne_d rfl, ne_d rfl, ne_d rfl, ne_d rfl, ne_d rfl, fun _ => ⟨by decide, hp⟩⟩
def fwN (c : Nat → Int32) : Nat → Nat → Nat
  | 0, i => i
  | m + 1, i => if okB c i = true then fwN c m (i + 1) else i
theorem x_first {σ : St} {np : Nat} {Φ : Int32 → St → Prop} (h : σ.1 1 1 = nI np) (hn : np ≤ 12) (hp : Φ (nI (fwN (σ.1 2) np 0)) σ) : wX7_firstWrong σ Φ := by
  have key : ∀ m i, i + m = np → Φ (nI (fwN (σ.1 2) m i)) σ → wX7_firstWrong_2 Φ (m + 1) σ (nI i) := by
    intro m
    induction m with
    | zero =>
      intro i hi h2
      have : i = np := by omega
      subst this
      rw [wX7_firstWrong_2, h, if_pos (nI_le (Nat.le_refl _) (by omega))]
      exact h2
    | succ m ih =>
      intro i hi h2
      rw [wX7_firstWrong_2, h, if_neg (nI_ge (by omega) (by omega))]
      refine x_letter h hn (by omega) ?_
      rw [fwN] at h2
      by_cases q : okB (σ.1 2) i = true
      · rw [if_pos q] at h2
        rw [q, if_neg (by decide), nI_1]
        exact ih (i + 1) (by omega) h2
      · rw [if_neg q] at h2
        have q' : okB (σ.1 2) i = false := by simpa using q
        rw [q', if_pos (show bI false = 0 from rfl)]
        exact h2
  exact ⟨np + 1, key np 0 (by omega) hp⟩
def lenW (c : Nat → Int32) : Int32 := 10 * (c 0 - 48) + (c 1 - 48)
def spnW (c : Nat → Int32) : Int32 := (lenW c * lenW c) * (c 3 - 48)
def beaW (c : Nat → Int32) : Int32 := (100 * (c 5 - 48) + 10 * (c 6 - 48)) + (c 7 - 48)
def hgX (σ : St) (c : Nat → Int32) (o : Int32) : St := sV (sV (sV (sV (sV (sV (sV σ 3 0 (lenW c)) 3 1 (spnW c)) 3 2 (beaW c)) 3 5 o) 3 3 0) 3 4 0) 3 6 0
theorem x_hang {σ : St} {np : Nat} {Φ : St → Prop} (h : σ.1 1 1 = nI np) (h8 : 8 ≤ np) (hn : np ≤ 12) (hp : Φ (hgX σ (σ.1 2) (if np ≤ 8 then 0 else 1))) : wX0_hang σ 3 Φ := by
  unfold wX0_hang wX7_digitAt
  refine i_pat (i := 0) h hn (by omega) (i_pat (i := 1) h hn (by omega) (i_pat (i := 3) h hn (by omega) (i_pat (i := 5) h hn (by omega) (i_pat (i := 6) h hn (by omega) (i_pat (i := 7) h hn (by omega) ?_)))))
  have key : (if σ.1 1 1 ≤ 8 then wX0_hang_81 3 Φ (sV (sV (sV σ 3 0 (lenW (σ.1 2))) 3 1 (spnW (σ.1 2))) 3 2 (beaW (σ.1 2))) 0 else wX0_hang_81 3 Φ (sV (sV (sV σ 3 0 (lenW (σ.1 2))) 3 1 (spnW (σ.1 2))) 3 2 (beaW (σ.1 2))) 1) := by
    unfold wX0_hang_81
    rw [h]
    by_cases q : np ≤ 8
    · rw [if_pos (show nI np ≤ 8 from nI_le (b := 8) q (by omega))]
      rw [if_pos q] at hp
      exact ⟨by decide, by decide, hp⟩
    · rw [if_neg (show ¬ nI np ≤ 8 from nI_ge (a := 8) (by omega) (by omega))]
      rw [if_neg q] at hp
      exact ⟨by decide, by decide, hp⟩
  exact key
theorem i_cut {σ : St} {nt ks : Nat} {Φ : St → Prop} (hn : nt ≤ 6) (hk : ks ≤ nt) (h2 : σ.1 4 2 = nI nt) (hp : ∀ th : Nat → Option Nat, (∀ i, i < ks → th i = σ.2.2.1 i) → Φ (up2 σ.1 4 2 (nI ks), σ.2.1, th, σ.2.2.2)) : wX6_cutTo σ (nI ks) Φ := by
  have key : ∀ m i, i + m = 6 → ∀ th : Nat → Option Nat, (∀ i, i < ks → th i = σ.2.2.1 i) → wX6_cutTo_2 Φ (m + 1) (σ.1, σ.2.1, th, σ.2.2.2) (nI ks) (nI i) := by
    intro m
    induction m with
    | zero =>
      intro i hi th hth
      have : i = 6 := by omega
      subst this
      rw [wX6_cutTo_2, if_pos (show (6 : Int32) ≤ nI 6 by decide), e_min]
      dsimp only
      rw [h2]
      have e : (if nI ks < nI nt then nI ks else nI nt) = nI ks := by
        by_cases q : ks = nt
        · subst q; simp
        · rw [if_pos (nI_lt (by omega) (by omega))]
      rw [e]
      exact hp th hth
    | succ m ih =>
      intro i hi th hth
      rw [wX6_cutTo_2, if_neg (show ¬ (6 : Int32) ≤ nI i from nI_ge (b := 6) (by omega) (by omega))]
      by_cases hlt : i < ks
      · rw [if_pos (nI_lt hlt (by omega))]
        unfold wX6_cutTo_23
        rw [nI_1]
        exact ih (i + 1) (by omega) th hth
      · rw [if_neg (nI_nlt (by omega) (by omega)), nI_clamp (by omega)]
        refine ⟨vp_in_nI (by omega) (by omega), ?_⟩
        unfold wX6_cutTo_23
        rw [nI_1]
        refine ih (i + 1) (by omega) (va_up th i none) (fun i' hi' => ?_)
        unfold va_up
        rw [if_neg (by omega)]
        exact hth i' hi'
  exact ⟨7, key 6 0 (by omega) σ.2.2.1 (fun i hi => rfl)⟩
theorem fw_ok {c : Nat → Int32} : ∀ m i, (∀ k, i ≤ k → k < i + m → okB c k = true) → fwN c m i = i + m
  | 0, _, _ => rfl
  | m + 1, i, h => by
    rw [fwN, if_pos (h i (Nat.le_refl _) (by omega)), fw_ok m (i + 1) (fun k h1 h2 => h k (by omega) (by omega))]
    omega
/-- the letters of a WIRE -/
def wcN (l t b : Nat) (k : Nat) : Nat := if k = 0 then 48 + l / 10 else if k = 1 then 48 + l % 10 else if k = 2 then 58 else if k = 3 then 48 + t else if k = 4 then 58 else if k = 5 then 48 + b / 100 else if k = 6 then 48 + b / 10 % 10 else if k = 7 then 48 + b % 10 else 111
theorem wl_ok : ∀ l, l < 41 → 10 ≤ l → btB (nI (48 + l / 10)) 49 52 = true ∧ btB (nI (48 + l % 10)) 48 (if nI (48 + l / 10) = 52 then 48 else 57) = true ∧ 10 * (nI (48 + l / 10) - 48) + (nI (48 + l % 10) - 48) = nI l := by decide +kernel
theorem wt_ok : ∀ t, t < 10 → 1 ≤ t → btB (nI (48 + t)) 49 57 = true ∧ nI (48 + t) - 48 = nI t := by decide +kernel
theorem wb_ok1 : ∀ d, d < 10 → btB (nI (48 + d)) 48 57 = true ∧ nI (48 + d) - 48 = nI d := by decide +kernel
theorem ok_w {c : Nat → Int32} {l t b np : Nat} (hl : 10 ≤ l ∧ l ≤ 40) (ht : 1 ≤ t ∧ t ≤ 9) (hb : 100 ≤ b ∧ b ≤ 999) (hnp : np ≤ 9) (hnp8 : 8 ≤ np) (hc : ∀ k, k < np → c k = nI (wcN l t b k)) : ∀ k, k < np → okB c k = true := by
  intro k hk
  obtain ⟨l1, l2, -⟩ := wl_ok l (by omega) hl.1
  have c0 : c 0 = nI (48 + l / 10) := hc 0 (by omega)
  have hk9 : k = 0 ∨ k = 1 ∨ k = 2 ∨ k = 3 ∨ k = 4 ∨ k = 5 ∨ k = 6 ∨ k = 7 ∨ k = 8 := by omega
  rcases hk9 with rfl | rfl | rfl | rfl | rfl | rfl | rfl | rfl | rfl
  · show btB (c 0) 49 52 = true
    rw [c0]; exact l1
  · show btB (c 1) 48 (if c 0 = 52 then 48 else 57) = true
    rw [c0, show c 1 = nI (48 + l % 10) from hc 1 (by omega)]; exact l2
  · show decide (c 2 = 58) = true
    rw [show c 2 = nI 58 from hc 2 (by omega)]; decide
  · show btB (c 3) 49 57 = true
    rw [show c 3 = nI (48 + t) from hc 3 (by omega)]; exact (wt_ok t (by omega) ht.1).1
  · show decide (c 4 = 58) = true
    rw [show c 4 = nI 58 from hc 4 (by omega)]; decide
  · show btB (c 5) 49 57 = true
    rw [show c 5 = nI (48 + b / 100) from hc 5 (by omega)]; exact (wt_ok (b / 100) (by omega) (by omega)).1
  · show btB (c 6) 48 57 = true
    rw [show c 6 = nI (48 + b / 10 % 10) from hc 6 (by omega)]; exact (wb_ok1 (b / 10 % 10) (by omega)).1
  · show btB (c 7) 48 57 = true
    rw [show c 7 = nI (48 + b % 10) from hc 7 (by omega)]; exact (wb_ok1 (b % 10) (by omega)).1
  · show decide (c 8 = 111) = true
    rw [show c 8 = nI 111 from hc 8 (by omega)]; decide
theorem w_vals {c : Nat → Int32} {l t b np : Nat} (hl : 10 ≤ l ∧ l ≤ 40) (ht : 1 ≤ t ∧ t ≤ 9) (hb : 100 ≤ b ∧ b ≤ 999) (hnp8 : 8 ≤ np) (hc : ∀ k, k < np → c k = nI (wcN l t b k)) : lenW c = nI l ∧ spnW c = nI (l * l * t) ∧ beaW c = nI b := by
  have e0 : lenW c = nI l := by
    unfold lenW
    rw [show c 0 = nI (48 + l / 10) from hc 0 (by omega), show c 1 = nI (48 + l % 10) from hc 1 (by omega)]
    exact (wl_ok l (by omega) hl.1).2.2
  refine ⟨e0, ?_, ?_⟩
  · unfold spnW
    rw [e0, show c 3 = nI (48 + t) from hc 3 (by omega), (wt_ok t (by omega) ht.1).2, nI_mul, nI_mul]
  · unfold beaW
    rw [show c 5 = nI (48 + b / 100) from hc 5 (by omega), show c 6 = nI (48 + b / 10 % 10) from hc 6 (by omega), show c 7 = nI (48 + b % 10) from hc 7 (by omega), (wb_ok1 (b / 100) (by omega)).2, (wb_ok1 (b / 10 % 10) (by omega)).2, (wb_ok1 (b % 10) (by omega)).2, show (100 : Int32) = nI 100 from rfl, show (10 : Int32) = nI 10 from rfl, nI_mul, nI_mul, nI_add, nI_add]
    congr 1
    omega
/-- fault and wire, over a PAGE that holds a WIRE -/
theorem x_fault {σ : St} {l t b np : Nat} {Φ : Int32 → St → Prop} (h : σ.1 1 1 = nI np) (hl : 10 ≤ l ∧ l ≤ 40) (ht : 1 ≤ t ∧ t ≤ 9) (hb : 100 ≤ b ∧ b ≤ 999) (hnp : np ≤ 9) (hnp8 : 8 ≤ np) (hc : ∀ k, k < np → σ.1 2 k = nI (wcN l t b k)) (hp : Φ (nI np) σ) : wX11_fault σ Φ := by
  unfold wX11_fault
  refine x_first h (by omega) ?_
  rw [fw_ok np 0 (fun k _ hk => ok_w hl ht hb hnp hnp8 hc k (by omega)), Nat.zero_add]
  exact hp
/-- what wire leaves behind -/
def WD (σ τ : St) (l t b np : Nat) : Prop := τ.1 1 1 = 0 ∧ (τ.1 3 0 = nI l ∧ τ.1 3 1 = nI (l * l * t) ∧ τ.1 3 2 = nI b ∧ τ.1 3 3 = 0 ∧ τ.1 3 4 = 0 ∧ τ.1 3 5 = (if np ≤ 8 then 0 else 1) ∧ τ.1 3 6 = 0) ∧ τ.1 4 2 = 0 ∧ τ.1 18 = σ.1 18
theorem x_wire {σ : St} {l t b np nt : Nat} {Φ : Int32 → St → Prop} (h : σ.1 1 1 = nI np) (hl : 10 ≤ l ∧ l ≤ 40) (ht : 1 ≤ t ∧ t ≤ 9) (hb : 100 ≤ b ∧ b ≤ 999) (hnp : np ≤ 9) (hnp8 : 8 ≤ np) (hc : ∀ k, k < np → σ.1 2 k = nI (wcN l t b k)) (hn6 : nt ≤ 6) (h42 : σ.1 4 2 = nI nt) (hp : ∀ τ, WD σ τ l t b np → Φ (nI (l * l * t)) τ) : wX11_wire σ Φ := by
  obtain ⟨v1, v2, v3⟩ := w_vals hl ht hb hnp8 hc
  unfold wX11_wire wX7_isWire
  rw [if_neg (show ¬ σ.1 1 1 < 8 by rw [h]; exact nI_nlt (b := 8) (by omega) (by omega))]
  refine x_first h (by omega) ?_
  rw [fw_ok np 0 (fun k _ hk => ok_w hl ht hb hnp hnp8 hc k (by omega)), Nat.zero_add, h, if_pos rfl]
  refine ⟨by decide, ?_⟩
  dsimp only
  rw [if_neg (by decide)]
  refine x_hang h hnp8 (by omega) ?_
  unfold wX7_emptied
  refine i_cut (σ := sV (hgX σ (σ.1 2) (if np ≤ 8 then 0 else 1)) 1 1 0) (nt := nt) (ks := 0) hn6 (Nat.zero_le _) h42 (fun th _ => ?_)
  unfold wX10_emptied
  refine ⟨by decide, ?_⟩
  obtain ⟨μ, hμ⟩ : ∃ μ : St, μ = (up2 (sV (hgX σ (σ.1 2) (if np ≤ 8 then 0 else 1)) 1 1 0).1 4 2 (nI 0), (sV (hgX σ (σ.1 2) (if np ≤ 8 then 0 else 1)) 1 1 0).2.1, th, (sV (hgX σ (σ.1 2) (if np ≤ 8 then 0 else 1)) 1 1 0).2.2.2) := ⟨_, rfl⟩
  rw [← hμ]
  have e31 : (sV (sV (sV μ 7 2 0) 0 8 0) 0 9 ((sV (sV μ 7 2 0) 0 8 0).1 0 9 + 1)).1 3 1 = nI (l * l * t) := by rw [hμ, ← v2]; rfl
  rw [e31]
  refine hp _ ⟨?_, ⟨?_, ?_, ?_, ?_, ?_, ?_, ?_⟩, ?_, ?_⟩
  · rw [hμ]; rfl
  · rw [hμ, ← v1]; rfl
  · rw [hμ, ← v2]; rfl
  · rw [hμ, ← v3]; rfl
  · rw [hμ]; rfl
  · rw [hμ]; rfl
  · rw [hμ]; rfl
  · rw [hμ]; rfl
  · rw [hμ]; rfl
  · rw [hμ]; rfl
