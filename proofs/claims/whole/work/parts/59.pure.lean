/-! PURE PART 30: soonest, the reference's step -/
theorem rm_ot {τ : St} {k k2 l h : Nat} {R : Nat → Nat} {s : Int32} (hr : RM τ k h R) (hk : k ≠ k2) : RM (sV τ k2 l s) k h R := by
  intro j hj
  have := hr j hj
  simpa [sV, up2, va_up, hk] using this
theorem rm_up {τ : St} {k l h : Nat} {R : Nat → Nat} {s : Nat} {v : Int32} (hr : RM τ k h R) (hv : v = encS h s) : RM (sV τ k l v) k h (fun j => if j = l then s else R j) := by
  intro j hj
  by_cases q : j = l
  · subst q; simp [sV, up2, va_up, hv]
  · have := hr j hj
    simpa [sV, up2, va_up, q] using this
theorem dr_up {V : Nat → Nat → Int32} {nt hr l s : Nat} {X : Nat → Nat} (hb : bkB V nt hr l = false) : drR V nt hr (upR X l s) = fun j => if j = l then (if s < X l then s else X l) else drR V nt hr X j := by
  funext j
  unfold drR upR
  by_cases q : j = l
  · subst q
    rw [hb, if_neg (by decide), if_pos rfl, if_pos rfl]
  · rw [if_neg q, if_neg q]
theorem dr_upB {V : Nat → Nat → Int32} {nt hr l s : Nat} {X : Nat → Nat} (hb : bkB V nt hr l = true) : drR V nt hr (upR X l s) = drR V nt hr X := by
  funext j
  unfold drR upR
  by_cases q : j = l
  · subst q
    rw [hb, if_pos rfl, if_pos rfl]
  · rw [if_neg q]
theorem encS1 {h s : Nat} (hs : s < 7) : encS (h + 1) s = nI s := by
  unfold encS
  rw [if_neg (show ¬ s = 7 by omega), if_neg (show ¬ h + 1 = 0 by omega)]
theorem m_winds {σ : St} {nt hr h v : Nat} {R X : Nat → Nat} {K24 : St → Int32 → Int32 → Prop} {Φ : St → Prop} (hM : σ.1 18 9 = nI nt) (hsp : σ.1 18 3 = σ.1 3 1) (hbe : σ.1 18 4 = σ.1 3 2) (hB : TB σ.1 nt hr) (hv : 10 ≤ v) (hv2 : v < 41) (h0 : h = 0 → ∀ l, R l < 7 → R l = 0) (hR : R v < 7) (hX : ∀ j, X j ≤ 7)
    (hp : ∀ τ, SimJ σ τ → RM τ 26 h R → RM τ 27 (h + 1) (drR σ.1 nt hr (kR (decide (h = 0)) R v 7 X)) → K24 τ (nI hr) (nI (v + 1))) :
    ∀ m k, k + m = 7 → ∀ τ, SimJ σ τ → RM τ 26 h R → RM τ 27 (h + 1) (drR σ.1 nt hr (kR (decide (h = 0)) R v k X)) → wX12_goLengths_32 K24 Φ (m + 1) τ (nI hr) (nI v) (nI k) := by
  intro m
  induction m with
  | zero =>
    intro k hk τ hS r26 r27
    have : k = 7 := by omega
    subst this
    rw [wX12_goLengths_32, if_pos (show (7 : Int32) ≤ nI 7 by decide)]
    unfold wX12_goLengths_149
    rw [nI_1]
    exact hp τ hS r26 r27
  | succ m ih =>
    intro k hk τ hS r26 r27
    have hRel := hS.rel
    obtain ⟨e, hb⟩ := wl_e v hv2 hv k (by omega)
    have hle := kR_le (first := decide (h = 0)) (R := R) (v := v) hX k
    have ih' := ih (k + 1) (by omega)
    rw [kR] at ih'
    have hin : vp_in (nI v) 41 := vp_in_nI (by omega) (by omega)
    rw [wX12_goLengths_32, if_neg (show ¬ (7 : Int32) ≤ nI k from nI_ge (b := 7) (by omega) (by omega)), nI_clamp (by omega), r26 v hv2]
    refine ⟨hin, ?_⟩
    rw [if_neg (enc_n hR), e_by, e_mayBe, e]
    unfold wX12_goLengths_143
    by_cases q : 10 ≤ wl v k ∧ wl v k ≤ 40
    · have hli : 10 ≤ nI (wl v k) ∧ nI (wl v k) ≤ 40 := ⟨nI_le (a := 10) q.1 (by omega), nI_le (b := 40) q.2 (by omega)⟩
      rw [if_pos q] at ih'
      rw [if_pos hli, if_neg (by decide)]
      refine i_strainM ((hS.at 18 9 rfl).trans hM) (hRel.tb hB) (Or.inr hli) ?_
      have ec : cab2 τ.1 (nI hr) noM nt (strainS (σ.1 3 1) (nI (wl v k))) = cab2 σ.1 (nI hr) noM nt (strainS (σ.1 3 1) (nI (wl v k))) := by
        unfold cab2
        rw [hRel.cab, hRel.cab]
      rw [show τ.1 18 3 = σ.1 3 1 from (hS.at 18 3 rfl).trans hsp, ec, show τ.1 18 4 = σ.1 3 2 from (hS.at 18 4 rfl).trans hbe]
      by_cases z : cab2 σ.1 (nI hr) noM nt (strainS (σ.1 3 1) (nI (wl v k))) ≤ σ.1 3 2
      · have hbk : bkB σ.1 nt hr (wl v k) = false := by
          unfold bkB
          rw [decide_eq_true z]
          rfl
        rw [dr_up hbk] at ih'
        rw [if_neg (show ¬ σ.1 3 2 < cab2 σ.1 (nI hr) noM nt (strainS (σ.1 3 1) (nI (wl v k))) by grind)]
        refine ⟨hin, ?_⟩
        have hx7 := hle (wl v k)
        have hdx : drR σ.1 nt hr (kR (decide (h = 0)) R v k X) (wl v k) = kR (decide (h = 0)) R v k X (wl v k) := by
          unfold drR
          rw [hbk, if_neg (by decide)]
        have e27 := r27 (wl v k) (by omega)
        rw [hdx] at e27
        have fin : wX12_goLengths_99 K24 (wX12_goLengths_32 K24 Φ (m + 1)) Φ τ (nI hr) (nI v) (nI k) (nI (wl v k)) (nI (if decide (h = 0) = true then k else R v)) := by
          have hs7 : (if decide (h = 0) = true then k else R v) < 7 := by split <;> omega
          generalize (if decide (h = 0) = true then k else R v) = s at hs7 ih' ⊢
          generalize kR (decide (h = 0)) R v k X (wl v k) = x at hx7 e27 ih' hdx
          unfold wX12_goLengths_99 wX12_goLengths_130 wX12_goLengths_142 wX12_goLengths_143
          rw [nI_clamp (by omega), e27, nI_1]
          have hinw : vp_in (nI (wl v k)) 41 := vp_in_nI (by omega) (by omega)
          refine ⟨hinw, ?_⟩
          have put : s < x → wX12_goLengths_32 K24 Φ (m + 1) (sV τ 27 (wl v k) (nI s)) (nI hr) (nI v) (nI (k + 1)) := by
            intro y
            rw [if_pos y] at ih'
            exact ih' _ (hS.sV rfl) (rm_ot r26 (by decide)) (rm_up r27 (encS1 hs7).symm)
          by_cases y : x = 7
          · rw [if_pos (by rw [y]; exact enc_7)]
            exact ⟨hinw, put (by omega)⟩
          · rw [if_neg (enc_n (by omega)), encS1 (show x < 7 by omega)]
            refine ⟨hinw, ?_⟩
            by_cases w : x ≤ s
            · rw [if_pos (nI_le w (by omega))]
              rw [if_neg (show ¬ s < x by omega)] at ih'
              exact ⟨hinw, hinw, ih' _ (hS.sV rfl) (rm_ot r26 (by decide)) (rm_up r27 (encS1 (by omega)).symm)⟩
            · rw [if_neg (nI_ge (by omega) (by omega))]
              exact ⟨hinw, put (by omega)⟩
        by_cases g : h = 0
        · have : encS h (R v) = 9 := by
            unfold encS
            rw [if_neg (show ¬ R v = 7 by omega), if_pos g]
          rw [r26 v hv2, if_pos this]
          rw [if_pos (decide_eq_true g)] at fin
          exact fin
        · have e2 : encS h (R v) = nI (R v) := by
            unfold encS
            rw [if_neg (show ¬ R v = 7 by omega), if_neg g]
          rw [r26 v hv2, e2, if_neg (show ¬ nI (R v) = 9 from fun y => by have := (nI_eq (b := 9) (by omega) (by omega)).mp y; omega)]
          rw [if_neg (show ¬ decide (h = 0) = true by rw [decide_eq_false g]; decide)] at fin
          exact ⟨hin, fin⟩
      · have hbk : bkB σ.1 nt hr (wl v k) = true := by
          unfold bkB
          rw [decide_eq_false z]
          rfl
        rw [dr_upB hbk] at ih'
        rw [if_pos (show σ.1 3 2 < cab2 σ.1 (nI hr) noM nt (strainS (σ.1 3 1) (nI (wl v k))) by grind), nI_1]
        exact ih' τ hS r26 r27
    · rw [if_neg q] at ih'
      rw [if_neg (show ¬ (10 ≤ nI (wl v k) ∧ nI (wl v k) ≤ 40) from fun z => q ⟨(nI_leI (a := 10) (by omega) (by omega)).mp z.1, (nI_leI (b := 40) (by omega) (by omega)).mp z.2⟩), if_pos rfl, nI_1]
      exact ih' τ hS r26 r27
theorem vr_10 {first : Bool} {R : Nat → Nat} (hR : GR R) : ∀ n, n ≤ 10 → vR first R n = fun _ => 7
  | 0, _ => rfl
  | n + 1, h => by
    have hr := hR n
    rw [vR, if_neg (fun z => by have := hr.2 z; omega)]
    exact vr_10 hR n (by omega)
theorem m_copyL {σ : St} {h : Nat} {X : Nat → Nat} {Φ : St → Prop} (hp : ∀ τ, SimJ σ τ → RM τ 26 h X → Φ τ) : ∀ m i, i + m = 41 → ∀ τ, SimJ σ τ → RM τ 27 h X → (∀ l, l < i → τ.1 26 l = encS h (X l)) → wX12_goLengths_157 Φ (m + 1) τ (nI i) := by
  intro m
  induction m with
  | zero =>
    intro i hi τ hS r27 r26
    have : i = 41 := by omega
    subst this
    rw [wX12_goLengths_157, if_pos (show (40 : Int32) < nI 41 by decide)]
    exact hp τ hS r26
  | succ m ih =>
    intro i hi τ hS r27 r26
    have hin : vp_in (nI i) 41 := vp_in_nI (by omega) (by omega)
    rw [wX12_goLengths_157, if_neg (show ¬ (40 : Int32) < nI i from nI_nlt (b := i) (a := 40) (by omega) (by omega)), nI_clamp (by omega), r27 i (by omega), nI_1]
    refine ⟨hin, hin, ih (i + 1) (by omega) _ (hS.sV rfl) (rm_ot r27 (by omega)) (fun l hl => ?_)⟩
    by_cases q : l = i
    · subst q; simp [sV, up2, va_up]
    · have := r26 l (by omega)
      simpa [sV, up2, va_up, q] using this
theorem m_srcL {σ : St} {nt hr h : Nat} {R : Nat → Nat} {Φ : St → Prop} (hM : σ.1 18 9 = nI nt) (hsp : σ.1 18 3 = σ.1 3 1) (hbe : σ.1 18 4 = σ.1 3 2) (hB : TB σ.1 nt hr) (hR : GR R) (h0 : h = 0 → ∀ l, R l < 7 → R l = 0)
    (hp : ∀ τ, SimJ σ τ → RM τ 26 (h + 1) (drR σ.1 nt hr (vR (decide (h = 0)) R 41)) → Φ τ) : ∀ m i, i + m = 41 → 10 ≤ i → ∀ τ, SimJ σ τ → RM τ 26 h R → RM τ 27 (h + 1) (drR σ.1 nt hr (vR (decide (h = 0)) R i)) → wX12_goLengths_24 Φ (m + 1) τ (nI hr) (nI i) := by
  intro m
  induction m with
  | zero =>
    intro i hi h10 τ hS r26 r27
    have : i = 41 := by omega
    subst this
    rw [wX12_goLengths_24, if_pos (show (40 : Int32) < nI 41 by decide)]
    exact ⟨42, m_copyL hp 41 0 (by omega) τ hS r27 (fun l hl => by omega)⟩
  | succ m ih =>
    intro i hi h10 τ hS r26 r27
    have ih' := ih (i + 1) (by omega) (by omega)
    rw [vR] at ih'
    rw [wX12_goLengths_24, if_neg (show ¬ (40 : Int32) < nI i from nI_nlt (b := i) (a := 40) (by omega) (by omega))]
    by_cases q : R i < 7
    · rw [if_pos q] at ih'
      exact ⟨8, m_winds hM hsp hbe hB h10 (by omega) h0 q (vR_le i) ih' 7 0 (by omega) τ hS r26 r27⟩
    · rw [if_neg q] at ih'
      refine ⟨1, ?_⟩
      have hin : vp_in (nI i) 41 := vp_in_nI (by omega) (by omega)
      have hr7 := (hR i).1
      rw [wX12_goLengths_32, if_neg (show ¬ (7 : Int32) ≤ 0 by decide), nI_clamp (by omega), r26 i (by omega), show R i = 7 by omega, enc_7, if_pos rfl]
      unfold wX12_goLengths_149
      rw [nI_1]
      exact ⟨hin, ih' τ hS r26 r27⟩
theorem m_goLengths {σ τ : St} {nt hr h : Nat} {R : Nat → Nat} {Φ : St → Prop} (hM : σ.1 18 9 = nI nt) (hsp : σ.1 18 3 = σ.1 3 1) (hbe : σ.1 18 4 = σ.1 3 2) (hB : TB σ.1 nt hr) (hS : SimJ σ τ) (hR : GR R) (h0 : h = 0 → ∀ l, R l < 7 → R l = 0) (r26 : RM τ 26 h R)
    (hp : ∀ τ, SimJ σ τ → RM τ 26 (h + 1) (drR σ.1 nt hr (vR (decide (h = 0)) R 41)) → Φ τ) : wX12_goLengths τ (nI hr) Φ := by
  have key : ∀ m i, i + m = 41 → ∀ τ, SimJ σ τ → RM τ 26 h R → (∀ l, l < i → τ.1 27 l = -1) → wX12_goLengths_2 Φ (m + 1) τ (nI hr) (nI i) := by
    intro m
    induction m with
    | zero =>
      intro i hi τ hS r26 r27
      have : i = 41 := by omega
      subst this
      rw [wX12_goLengths_2, if_pos (show (40 : Int32) < nI 41 by decide)]
      refine ⟨32, m_srcL hM hsp hbe hB hR h0 hp 31 10 (by omega) (by omega) τ hS r26 ?_⟩
      rw [vr_10 hR 10 (by omega)]
      intro l hl
      rw [r27 l hl]
      unfold drR
      rw [show (if bkB σ.1 nt hr l = true then 7 else 7) = 7 by split <;> rfl, enc_7]
    | succ m ih =>
      intro i hi τ hS r26 r27
      have hin : vp_in (nI i) 41 := vp_in_nI (by omega) (by omega)
      rw [wX12_goLengths_2, if_neg (show ¬ (40 : Int32) < nI i from nI_nlt (b := i) (a := 40) (by omega) (by omega)), nI_clamp (by omega), nI_1]
      refine ⟨hin, ih (i + 1) (by omega) _ (hS.sV rfl) (rm_ot r26 (by decide)) (fun l hl => ?_)⟩
      by_cases q : l = i
      · subst q; simp [sV, up2, va_up]
      · have := r27 l (by omega)
        simpa [sV, up2, va_up, q] using this
  exact ⟨42, key 41 0 (by omega) τ hS r26 (fun l hl => by omega)⟩
