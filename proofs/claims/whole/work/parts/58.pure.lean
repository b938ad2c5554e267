/-! PURE PART 29: soonest, the reference's first wind -/
def encS (h e : Nat) : Int32 := if e = 7 then -1 else if h = 0 then 9 else nI e
def RM (τ : St) (k h : Nat) (R : Nat → Nat) : Prop := ∀ l, l < 41 → τ.1 k l = encS h (R l)
theorem enc_7 {h : Nat} : encS h 7 = -1 := by
  unfold encS
  rw [if_pos rfl]
theorem lw_10 {R : Nat → Nat} {ok : Nat → Bool} (hR : GR R) : ∀ n, n ≤ 10 → lwR R ok n = 7
  | 0, _ => rfl
  | n + 1, h => by
    have ih := lw_10 (ok := ok) hR n (by omega)
    have hr := hR n
    rw [lwR, ih, if_neg]
    rintro ⟨a, -⟩
    have := hr.2 a
    omega
theorem enc_n {h e : Nat} (he : e < 7) : ¬ encS h e = -1 := by
  unfold encS
  rw [if_neg (show ¬ e = 7 by omega)]
  split
  · decide
  · exact nI_nm1 (by omega)
theorem enc_le {h a b : Nat} (ha : a < 7) (hb : b < 7) (h0 : h = 0 → a = 0 ∧ b = 0) : encS h a ≤ encS h b ↔ a ≤ b := by
  by_cases q : h = 0
  · obtain ⟨z1, z2⟩ := h0 q
    subst z1
    subst z2
    exact ⟨fun _ => Nat.le_refl _, fun _ => Int32.le_refl _⟩
  · unfold encS
    rw [if_neg (show ¬ a = 7 by omega), if_neg (show ¬ b = 7 by omega), if_neg q, if_neg q]
    exact nI_leI (by omega) (by omega)
theorem lw_0 {R : Nat → Nat} {ok : Nat → Bool} : ∀ n, lwR R ok n < 7 → ∃ l, l < n ∧ lwR R ok n = R l
  | 0, h => absurd h (by rw [lwR]; omega)
  | n + 1, h => by
    rw [lwR] at h ⊢
    by_cases q : R n < lwR R ok n ∧ ok n = true
    · rw [if_pos q]
      exact ⟨n, by omega, rfl⟩
    · rw [if_neg q] at h ⊢
      obtain ⟨l, l1, l2⟩ := lw_0 n h
      exact ⟨l, by omega, l2⟩
theorem m_firstBy {σ τ : St} {nt hr h : Nat} {R : Nat → Nat} {sp : Int32} {Φ : Int32 → St → Prop} (hM : σ.1 18 9 = nI nt) (hsp : σ.1 18 3 = σ.1 3 1) (hB : TB σ.1 nt hr) (hS : Sim σ τ) (hR : GR R) (h0 : h = 0 → ∀ l, R l < 7 → R l = 0) (h26 : RM τ 26 h R)
    (hp : Φ (encS h (lwR R (inB σ.1 nt hr sp) 41)) τ) : wX12_firstBy τ sp (nI hr) Φ := by
  have hRel := hS.rel
  have key : ∀ m i, i + m = 41 → 10 ≤ i → wX12_firstBy_6 Φ (m + 1) τ sp (nI hr) (encS h (lwR R (inB σ.1 nt hr sp) i)) (nI i) := by
    intro m
    induction m with
    | zero =>
      intro i hi h10
      have : i = 41 := by omega
      subst this
      rw [wX12_firstBy_6, if_pos (show (40 : Int32) < nI 41 by decide)]
      exact hp
    | succ m ih =>
      intro i hi h10
      have ih' := ih (i + 1) (by omega) (by omega)
      have hin : vp_in (nI i) 41 := vp_in_nI (by omega) (by omega)
      have hr7 := (hR i).1
      have hl7 := lw_le (R := R) (ok := inB σ.1 nt hr sp) i
      rw [lwR] at ih'
      rw [wX12_firstBy_6, if_neg (show ¬ (40 : Int32) < nI i from nI_nlt (b := i) (a := 40) (by omega) (by omega)), nI_clamp (by omega), h26 i (by omega)]
      refine ⟨hin, ?_⟩
      have keep : ¬ (R i < lwR R (inB σ.1 nt hr sp) i ∧ inB σ.1 nt hr sp i = true) → wX12_firstBy_49 (wX12_firstBy_6 Φ (m + 1)) Φ τ sp (nI hr) (encS h (lwR R (inB σ.1 nt hr sp) i)) (nI i) := by
        intro hno
        unfold wX12_firstBy_49 wX12_firstBy_50 wX12_firstBy_83 wX12_firstBy_84
        rw [if_pos rfl, nI_1]
        rw [if_neg hno] at ih'
        exact ih'
      by_cases q : R i = 7
      · rw [if_pos (by rw [q]; exact enc_7)]
        exact keep (fun z => by omega)
      · rw [if_neg (enc_n (by omega))]
        have hli : 10 ≤ nI i ∧ nI i ≤ 40 := ⟨nI_le (a := 10) h10 (by omega), nI_le (b := 40) (by omega) (by omega)⟩
        refine i_floorBy ((hS.at 18 9 rfl).trans hM) (hRel.tb hB) (Or.inr hli) ?_
        rw [cab2_0 hB.1, show τ.1 18 3 = σ.1 3 1 from (hS.at 18 3 rfl).trans hsp]
        have ec : cab2 τ.1 (nI hr) noM nt (floorS (σ.1 3 1) 0 (nI i)) = cab2 σ.1 (nI hr) noM nt (floorS (σ.1 3 1) 0 (nI i)) := by
          unfold cab2
          rw [hRel.cab, hRel.cab]
        rw [ec, e_within]
        refine ⟨by decide, ?_⟩
        by_cases z : sp ≤ cab2 σ.1 (nI hr) noM nt (floorS (σ.1 3 1) 0 (nI i)) ∧ cab2 σ.1 (nI hr) noM nt (floorS (σ.1 3 1) 0 (nI i)) ≤ sp + sp / 2
        · rw [if_pos z, if_neg (by decide)]
          have hin2 : inB σ.1 nt hr sp i = true := by
            unfold inB
            rw [decide_eq_false (show ¬ cab2 σ.1 (nI hr) noM nt (floorS (σ.1 3 1) 0 (nI i)) < sp by have := z.1; grind), decide_eq_false (show ¬ sp + sp / 2 < cab2 σ.1 (nI hr) noM nt (floorS (σ.1 3 1) 0 (nI i)) by have := z.2; grind)]
            rfl
          unfold wX12_firstBy_50
          rw [if_neg (by decide)]
          have put : R i < lwR R (inB σ.1 nt hr sp) i → wX12_firstBy_73 (wX12_firstBy_6 Φ (m + 1)) Φ τ sp (nI hr) (nI i) := by
            intro y
            unfold wX12_firstBy_73 wX12_firstBy_84
            rw [nI_clamp (by omega), h26 i (by omega), nI_1]
            rw [if_pos ⟨y, hin2⟩] at ih'
            exact ⟨hin, ih'⟩
          by_cases y : lwR R (inB σ.1 nt hr sp) i = 7
          · rw [if_pos (by rw [y]; exact enc_7)]
            exact put (by omega)
          · rw [if_neg (enc_n (by omega)), nI_clamp (by omega), h26 i (by omega)]
            refine ⟨hin, ?_⟩
            obtain ⟨l, l1, l2⟩ := lw_0 i (show lwR R (inB σ.1 nt hr sp) i < 7 by omega)
            have hle := enc_le (h := h) (a := lwR R (inB σ.1 nt hr sp) i) (b := R i) (by omega) (by omega) (fun e => ⟨by rw [l2]; exact h0 e l (by omega), h0 e i (by omega)⟩)
            by_cases x : lwR R (inB σ.1 nt hr sp) i ≤ R i
            · rw [if_pos (hle.mpr x)]
              have := keep (fun w => by omega)
              unfold wX12_firstBy_49 wX12_firstBy_50 at this
              rw [if_pos rfl] at this
              exact this
            · rw [if_neg (fun w => x (hle.mp w))]
              exact put (by omega)
        · rw [if_neg z, if_pos rfl]
          refine keep (fun w => z ?_)
          have w2 := w.2
          unfold inB at w2
          simp at w2
          exact ⟨by have := w2.1; grind, by have := w2.2; grind⟩
  have k0 := key 31 10 (by omega) (Nat.le_refl _)
  rw [lw_10 hR 10 (Nat.le_refl _), enc_7] at k0
  exact ⟨32, k0⟩
