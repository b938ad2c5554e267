/-! PURE PART 21: letters, the two sides -/
def lsR (c : Nat → Nat) : Nat → Nat → Nat → Bool → Option Nat
  | 0, _, many, _ => some many
  | m + 1, i, many, en => if 126 < c i then none else if en = true ∧ ¬ c i = 0 then none else if c i = 0 then lsR c m (i + 1) many true else lsR c m (i + 1) (many + 1) en
theorem ls_ok {c : Nat → Nat} {N : Nat} : ∀ m i many en, i + m = 8 → many ≤ i → (en = false → many = i) → (∀ k, k < many → 0 < c k ∧ c k ≤ 126) → lsR c m i many en = some N → N ≤ 8 ∧ ∀ k, k < N → 0 < c k ∧ c k ≤ 126 := by
  intro m
  induction m with
  | zero =>
    intro i many en hi hm he hk h
    rw [lsR] at h
    cases h
    exact ⟨by omega, hk⟩
  | succ m ih =>
    intro i many en hi hm he hk h
    rw [lsR] at h
    by_cases h1 : 126 < c i
    · rw [if_pos h1] at h
      exact absurd h (by simp)
    · rw [if_neg h1] at h
      by_cases h2 : en = true ∧ ¬ c i = 0
      · rw [if_pos h2] at h
        exact absurd h (by simp)
      · rw [if_neg h2] at h
        by_cases h3 : c i = 0
        · rw [if_pos h3] at h
          exact ih (i + 1) many true (by omega) (by omega) (fun e => by cases e) hk h
        · rw [if_neg h3] at h
          have e0 : en = false := by
            cases en
            · rfl
            · exact absurd ⟨rfl, h3⟩ h2
          have em := he e0
          refine ih (i + 1) (many + 1) en (by omega) (by omega) (fun _ => by omega) (fun k hk2 => ?_) h
          by_cases q : k = many
          · rw [q, em]; exact ⟨by omega, by omega⟩
          · exact hk k (by omega)
def enI (b : Bool) : Int32 := if b then 1 else 0
theorem c_126 {v : Int64} {i : Nat} : (126 : Int32) < byS v i ↔ 126 < byN v i := by
  obtain ⟨e, hc⟩ := byN_e v i
  rw [e]
  exact nI_ltI (a := 126) (by omega) (by omega)
theorem c_0 {v : Int64} {i : Nat} : byS v i = 0 ↔ byN v i = 0 := by
  obtain ⟨e, hc⟩ := byN_e v i
  rw [e]
  exact nI_eq (b := 0) (by omega) (by omega)
theorem x_in {σ : St} {v : Int64} {Φ : Int32 → St → Prop} (hp : match lsR (byN v) 8 0 0 false with | none => Φ (-1) σ | some n => Φ (nI n) σ) : wX11_lettersIn σ v Φ := by
  have key : ∀ m i many en, i + m = 8 → (match lsR (byN v) m i many en with | none => Φ (-1) σ | some n => Φ (nI n) σ) → wX11_lettersIn_7 Φ (m + 1) σ v (nI many) (enI en) (nI i) := by
    intro m
    induction m with
    | zero =>
      intro i many en hi h
      have : i = 8 := by omega
      subst this
      rw [wX11_lettersIn_7, if_pos (show (8 : Int32) ≤ nI 8 by decide)]
      rw [lsR] at h
      exact h
    | succ m ih =>
      intro i many en hi h
      rw [wX11_lettersIn_7, if_neg (show ¬ (8 : Int32) ≤ nI i from nI_ge (b := 8) (by omega) (by omega))]
      unfold wX11_byteOf
      rw [by_x v i (by omega)]
      rw [lsR] at h
      by_cases h1 : 126 < byN v i
      · rw [if_pos (c_126.mpr h1)]
        rw [if_pos h1] at h
        exact h
      · rw [if_neg (fun q => h1 (c_126.mp q))]
        rw [if_neg h1] at h
        have k40 : (match (if byN v i = 0 then lsR (byN v) m (i + 1) many true else lsR (byN v) m (i + 1) (many + 1) en) with | none => Φ (-1) σ | some n => Φ (nI n) σ) → wX11_lettersIn_40 (wX11_lettersIn_7 Φ (m + 1)) Φ σ v (nI many) (enI en) (nI i) (byS v i) := by
          intro h
          unfold wX11_lettersIn_40 wX11_lettersIn_53
          rw [nI_1, nI_1]
          by_cases h3 : byN v i = 0
          · rw [if_pos (c_0.mpr h3)]
            rw [if_pos h3] at h
            exact ih (i + 1) many true (by omega) h
          · rw [if_neg (fun q => h3 (c_0.mp q))]
            rw [if_neg h3] at h
            exact ih (i + 1) (many + 1) en (by omega) h
        cases en with
        | false =>
          rw [show enI false = 0 from rfl, if_pos rfl]
          rw [if_neg (fun q => absurd q.1 (by decide))] at h
          exact k40 h
        | true =>
          rw [show enI true = 1 from rfl, if_neg (by decide)]
          by_cases h3 : byN v i = 0
          · rw [if_pos (c_0.mpr h3)]
            rw [if_neg (fun q => q.2 h3)] at h
            exact k40 h
          · rw [if_neg (fun q => h3 (c_0.mp q))]
            rw [if_pos ⟨rfl, h3⟩] at h
            exact h
  exact ⟨9, key 8 0 0 false (by omega) hp⟩
theorem m_in {σ : St} {v : Int64} {Φ : Int32 → St → Prop} (hp : match lsR (byN v) 8 0 0 false with | none => Φ (-102) σ | some n => if (σ.1 18 17 + nI n) ≤ (12 : Int32) then ∃ n0, wX12_letters_102 Φ n0 σ v (nI n) (0 : Int32) else Φ (-104 : Int32) σ) : wX12_letters σ v Φ := by
  have key : ∀ m i many en, i + m = 8 → (match lsR (byN v) m i many en with | none => Φ (-102) σ | some n => if (σ.1 18 17 + nI n) ≤ (12 : Int32) then ∃ n0, wX12_letters_102 Φ n0 σ v (nI n) (0 : Int32) else Φ (-104 : Int32) σ) → wX12_letters_8 Φ (m + 1) σ v (nI many) (enI en) (nI i) := by
    intro m
    induction m with
    | zero =>
      intro i many en hi h
      have : i = 8 := by omega
      subst this
      rw [wX12_letters_8, if_pos (show (8 : Int32) ≤ nI 8 by decide)]
      rw [lsR] at h
      exact h
    | succ m ih =>
      intro i many en hi h
      rw [wX12_letters_8, if_neg (show ¬ (8 : Int32) ≤ nI i from nI_ge (b := 8) (by omega) (by omega)), by_m v i]
      rw [lsR] at h
      by_cases h1 : 126 < byN v i
      · rw [if_pos (c_126.mpr h1)]
        rw [if_pos h1] at h
        exact h
      · rw [if_neg (fun q => h1 (c_126.mp q))]
        rw [if_neg h1] at h
        cases en with
        | false =>
          rw [if_neg (fun q => absurd q.1 (by decide))] at h
          rw [show enI false = 0 from rfl, if_pos rfl]
          unfold wX12_letters_49 wX12_letters_59 wX12_letters_64 wX12_letters_77
          rw [if_pos rfl]
          by_cases h3 : byN v i = 0
          · rw [if_pos (c_0.mpr h3), if_pos (c_0.mpr h3), Int32.add_zero, nI_1]
            rw [if_pos h3] at h
            exact ih (i + 1) many true (by omega) h
          · rw [if_neg (fun q => h3 (c_0.mp q)), if_neg (fun q => h3 (c_0.mp q)), nI_1, nI_1]
            rw [if_neg h3] at h
            exact ih (i + 1) (many + 1) false (by omega) h
        | true =>
          rw [show enI true = 1 from rfl, if_neg (by decide)]
          by_cases h3 : byN v i = 0
          · rw [if_neg (fun q => q.2 h3), if_pos h3] at h
            rw [if_pos (c_0.mpr h3)]
            unfold wX12_letters_49 wX12_letters_59 wX12_letters_64 wX12_letters_77
            rw [if_neg (by decide), if_pos (c_0.mpr h3), Int32.add_zero, nI_1]
            exact ih (i + 1) many true (by omega) h
          · rw [if_neg (fun q => h3 (c_0.mp q))]
            rw [if_pos ⟨rfl, h3⟩] at h
            exact h
  exact ⟨9, key 8 0 0 false (by omega) hp⟩
/-! the bytes are put -/
def rowF (V : Nat → Nat → Int32) (k p n : Nat) (f : Nat → Int32) : Nat → Nat → Int32 := fun a b => if a = k ∧ p ≤ b ∧ b < p + n then f (b - p) else V a b
theorem rowF_0 {V : Nat → Nat → Int32} {k p : Nat} {f : Nat → Int32} : rowF V k p 0 f = V := by
  funext a b
  unfold rowF
  rw [if_neg (by omega)]
theorem rowF_s {V : Nat → Nat → Int32} {k p n : Nat} {f : Nat → Int32} : up2 (rowF V k p n f) k (p + n) (f n) = rowF V k p (n + 1) f := by
  funext a b
  unfold rowF up2 va_up
  by_cases h1 : a = k
  · subst h1
    by_cases h2 : b = p + n
    · subst h2; simp
    · simp [h2, show (b < p + (n + 1)) = (b < p + n) by apply propext; omega]
  · simp [h1]
theorem rowF_x {V : Nat → Nat → Int32} {p n : Nat} {f : Nat → Int32} {x y : Int32} : up2 (up2 (up2 (rowF V 2 p n f) 1 1 x) 2 (p + n) (f n)) 1 1 y = up2 (rowF V 2 p (n + 1) f) 1 1 y := by
  rw [← rowF_s]
  funext a b
  unfold up2 va_up
  by_cases h1 : a = 1
  · subst h1
    by_cases h2 : b = 1
    · subst h2; simp
    · simp [h2]
  · by_cases h2 : a = 2
    · subst h2; simp
    · simp [h1, h2]
theorem x_put {τ : St} {n : Nat} {v : Int32} {Φ : St → Prop} (h : τ.1 1 1 = nI n) (hn : n < 12) (hp : Φ (sV (sV τ 2 n (vp_nar .char v)) 1 1 (nI (n + 1)))) : wX7_put τ v Φ := by
  unfold wX7_put
  rw [h, if_neg (nI_pos (by omega)), if_neg (show ¬ (12 : Int32) ≤ nI n from nI_ge (b := 12) hn (by omega)), nI_clamp (by omega), show (sV τ 2 n (vp_nar .char v)).1 1 1 = nI n from h, nI_1]
  exact ⟨vp_in_nI (by omega) (by omega), hp⟩
theorem x_putL {σ : St} {v : Int64} {np N : Nat} {Φ : Int32 → St → Prop} (h1 : σ.1 1 1 = nI np) (hN : np + N ≤ 12) (hp : Φ (nI (np + N)) (up2 (rowF σ.1 2 np N (fun i => nI (byN v i))) 1 1 (nI (np + N)), σ.2)) (hN8 : N ≤ 8) : ∃ n0, wX11_letters_29 Φ n0 σ v (nI N) 0 := by
  have key : ∀ m i, i + m = N → wX11_letters_29 Φ (m + 1) (up2 (rowF σ.1 2 np i (fun i => nI (byN v i))) 1 1 (nI (np + i)), σ.2) v (nI N) (nI i) := by
    intro m
    induction m with
    | zero =>
      intro i hi
      have : i = N := by omega
      subst this
      rw [wX11_letters_29, if_pos (nI_le (Nat.le_refl _) (by omega))]
      exact hp
    | succ m ih =>
      intro i hi
      have ih' := ih (i + 1) (by omega)
      rw [wX11_letters_29, if_neg (nI_ge (by omega) (by omega))]
      unfold wX11_byteOf
      rw [by_x v i (by omega), (byN_e v i).1]
      refine x_put (n := np + i) rfl (by omega) ?_
      rw [by_c _ (byN_e v i).2, nI_1]
      have e : sV (sV (up2 (rowF σ.1 2 np i (fun i => nI (byN v i))) 1 1 (nI (np + i)), σ.2) 2 (np + i) (nI (byN v i))) 1 1 (nI (np + i + 1)) = (up2 (rowF σ.1 2 np (i + 1) (fun i => nI (byN v i))) 1 1 (nI (np + i + 1)), σ.2) := by
        unfold sV
        dsimp only
        rw [← rowF_x (x := nI (np + i))]
      rw [e]
      exact ih'
  have k0 := key N 0 (by omega)
  have e0 : ((up2 (rowF σ.1 2 np 0 (fun i => nI (byN v i))) 1 1 (nI (np + 0)), σ.2) : St) = σ := by
    rw [rowF_0, Nat.add_zero, ← h1]
    have : up2 σ.1 1 1 (σ.1 1 1) = σ.1 := by
      funext a b
      unfold up2 va_up
      by_cases q : a = 1
      · subst q
        by_cases r : b = 1
        · subst r; simp
        · simp [r]
      · simp [q]
    rw [this]
  rw [e0] at k0
  exact ⟨N + 1, k0⟩
theorem m_putL {σ : St} {v : Int64} {np N : Nat} {Φ : Int32 → St → Prop} (h1 : σ.1 18 17 = nI np) (hN : np + N ≤ 12) (hc : ∀ k, k < N → byN v k < 128) (hp : Φ (nI (np + N)) (sV (rowF σ.1 25 np N (fun i => nI (byN v i)), σ.2) 18 17 (nI (np + N)))) : ∃ n0, wX12_letters_102 Φ n0 σ v (nI N) 0 := by
  have key : ∀ m i, i + m = N → wX12_letters_102 Φ (m + 1) (rowF σ.1 25 np i (fun i => nI (byN v i)), σ.2) v (nI N) (nI i) := by
    intro m
    induction m with
    | zero =>
      intro i hi
      have : i = N := by omega
      subst this
      have e17 : (rowF σ.1 25 np i (fun i => nI (byN v i))) 18 17 = nI np := h1
      rw [wX12_letters_102, if_pos (nI_le (Nat.le_refl _) (by omega))]
      dsimp only
      rw [e17, nI_add]
      exact hp
    | succ m ih =>
      intro i hi
      have ih' := ih (i + 1) (by omega)
      have e17 : (rowF σ.1 25 np i (fun i => nI (byN v i))) 18 17 = nI np := h1
      rw [wX12_letters_102, if_neg (nI_ge (by omega) (by omega))]
      dsimp only
      rw [e17, nI_add, nI_clamp (by omega), by_put (hc i (by omega)), nI_1]
      refine ⟨vp_in_nI (by omega) (by omega), ?_⟩
      have e : sV (rowF σ.1 25 np i (fun i => nI (byN v i)), σ.2) 25 (np + i) (nI (byN v i)) = (rowF σ.1 25 np (i + 1) (fun i => nI (byN v i)), σ.2) := by
        unfold sV
        dsimp only
        rw [← rowF_s]
      rw [e]
      exact ih'
  have k0 := key N 0 (by omega)
  rw [rowF_0] at k0
  exact ⟨N + 1, k0⟩
theorem st_letters {j : Nat} {σ : St} {a1 a2 a3 : Int32} (hj : j < 512) (h : InvX j σ) : wL_0 σ a1 a2 a3 (InvX (j + 1)) := by
  have hn := inv_next h Sim.rfl'
  obtain ⟨np, nt, nk, w, hh, h1, h2, h3, h4, h5, h6⟩ := h
  have p1 : σ.1 1 1 = nI np := h1.2.1
  have p2 : σ.1 18 17 = nI np := h1.2.2.1
  have hnp := h1.1
  unfold wL_0 wX11_letters
  obtain ⟨v, hv⟩ : ∃ v, v = (a1.toInt64 <<< ((32 : Int32).toInt64 &&& 63)) ||| (a2.toInt64 &&& (4294967295 : Int64)) := ⟨_, rfl⟩
  rw [← hv]
  refine x_in ?_
  cases hls : lsR (byN v) 8 0 0 false with
  | none =>
    dsimp only
    rw [if_neg (by decide)]
    refine m_in ?_
    rw [hls]
    exact fin_ok rfl hn
  | some N =>
    obtain ⟨n8, nc⟩ := ls_ok 8 0 0 false (by omega) (by omega) (fun _ => rfl) (fun k hk => by omega) hls
    dsimp only
    rw [if_pos (nI_pos' (by omega))]
    unfold wX7_hasRoomFor
    rw [p1, nI_add]
    by_cases q : 12 < np + N
    · rw [if_pos (show (12 : Int32) < nI (np + N) from nI_lt (a := 12) q (by omega))]
      refine ⟨by decide, ?_⟩
      dsimp only
      rw [if_pos rfl]
      refine m_in ?_
      rw [hls]
      dsimp only
      rw [p2, nI_add, if_neg (show ¬ nI (np + N) ≤ (12 : Int32) from nI_ge (a := 12) (by omega) (by omega))]
      exact fin_ok rfl hn
    · rw [if_neg (show ¬ (12 : Int32) < nI (np + N) from nI_nlt (a := 12) (by omega) (by omega))]
      refine ⟨by decide, ?_⟩
      dsimp only
      rw [if_neg (by decide)]
      refine x_putL p1 (by omega) ?_ n8
      refine m_in ?_
      rw [hls]
      dsimp only
      have p2' : (up2 (rowF σ.1 2 np N (fun i => nI (byN v i))) 1 1 (nI (np + N))) 18 17 = nI np := p2
      rw [if_pos (show up2 (rowF σ.1 2 np N (fun i => nI (byN v i))) 1 1 (nI (np + N)) 18 17 + nI N ≤ (12 : Int32) by rw [p2', nI_add]; exact nI_le (b := 12) (by omega) (by omega))]
      refine m_putL p2' (by omega) (fun k hk => by have := nc k hk; omega) (fin_ok rfl ?_)
      unfold InvX
      refine ⟨np + N, nt, nk, w, hh, ⟨by omega, rfl, rfl, fun i hi => ?_⟩, h2.mono, h3.mono, h4, h5, h6.mono⟩
      by_cases hlt : i < np
      · obtain ⟨d1, c, d2, d3, d4⟩ := h1.2.2.2 i hlt
        have d1' : σ.1 2 i = σ.1 25 i := d1
        have d4' : σ.1 2 i = nI c := d4
        refine ⟨?_, c, d2, d3, ?_⟩
        · simp [cl, scr, rowF, sV, up2, va_up, d1', show ¬ np ≤ i by omega]
        · simp [cl, scr, rowF, sV, up2, va_up, d4', show ¬ np ≤ i by omega]
      · have hc := nc (i - np) (by omega)
        refine ⟨?_, byN v (i - np), hc.1, by omega, ?_⟩
        · simp [cl, scr, rowF, sV, up2, va_up, show np ≤ i by omega, hi]
        · simp [cl, scr, rowF, sV, up2, va_up, show np ≤ i by omega, hi]
