/-! PURE PART 31: soonest, the reference's search; the call -/
theorem m_soonestNow {σ τ : St} {nt hh L : Nat} {sp what : Int32} {F : Int32 × Int32} {Φ : Int32 → St → Prop} (hF : soF σ.1 nt hh L sp 13 0 = F) (hM : σ.1 18 9 = nI nt) (hsp : σ.1 18 3 = σ.1 3 1) (hbe : σ.1 18 4 = σ.1 3 2) (hB : TB σ.1 nt hh) (hh6 : hh ≤ 600) (h8 : σ.1 18 8 = nI hh) (h2 : σ.1 18 2 = nI L) (hL : 10 ≤ L ∧ L ≤ 40) (hS : SimJ σ τ)
    (hp : ∀ τ, SimJ σ τ → Φ (if what = 0 then F.1 else F.2) τ) : wX12_soonestNow τ sp what Φ := by
  have key : ∀ m h, h + m = 13 → soF σ.1 nt hh L sp m h = F → ∀ τ, SimJ σ τ → RM τ 26 h (soR σ.1 nt hh L h) → wX12_soonestNow_36 Φ (m + 1) τ sp what (nI h) := by
    intro m
    induction m with
    | zero =>
      intro h hi he τ hS r26
      have : h = 13 := by omega
      subst this
      rw [wX12_soonestNow_36, if_pos (show (12 : Int32) < nI 13 by decide)]
      rw [soF] at he
      have := hp τ hS
      rw [← he] at this
      by_cases q : what = 0
      · rw [if_pos q] at this; exact this
      · rw [if_neg q] at this; exact this
    | succ m ih =>
      intro h hi he τ hS r26
      rw [wX12_soonestNow_36, if_neg (show ¬ (12 : Int32) < nI h from nI_nlt (b := h) (a := 12) (by omega) (by omega)), (hS.at 18 8 rfl).trans h8, nI_add]
      have h0 : h = 0 → ∀ l, soR σ.1 nt hh L h l < 7 → soR σ.1 nt hh L h l = 0 := by
        intro z l hl
        subst z
        rw [soR] at hl ⊢
        dsimp only at hl ⊢
        by_cases q : l = L
        · rw [if_pos q]
        · rw [if_neg q] at hl; omega
      refine m_firstBy hM hsp (hB.up (by omega) (by omega)) hS.1 (so_gr hL h) h0 r26 ?_
      have hl := lw_le (R := soR σ.1 nt hh L h) (ok := inB σ.1 nt (hh + h) sp) 41
      rw [soF] at he
      generalize lwR (soR σ.1 nt hh L h) (inB σ.1 nt (hh + h) sp) 41 = W at hl he ⊢
      by_cases q : 7 ≤ W
      · rw [if_pos q] at he
        have w7 : W = 7 := by omega
        subst w7
        rw [enc_7, if_pos rfl]
        have e8 : τ.1 18 8 + nI h + 1 = nI (hh + (h + 1)) := by rw [(hS.at 18 8 rfl).trans h8, nI_add, nI_1, Nat.add_assoc]
        rw [e8, nI_1]
        refine m_goLengths hM hsp hbe (hB.up (by omega) (by omega)) hS (so_gr hL h) h0 r26 (fun τ' hS' r' => ?_)
        refine ih (h + 1) (by omega) he τ' hS' ?_
        rw [soR]
        exact r'
      · rw [if_neg q] at he
        rw [if_neg (enc_n (by omega))]
        have hpp := hp τ hS
        rw [← he] at hpp
        by_cases w : what = 0
        · rw [if_pos w]
          rw [if_pos w] at hpp
          exact hpp
        · rw [if_neg w]
          rw [if_neg w] at hpp
          by_cases z : h = 0
          · rw [if_pos (show nI h = 0 by rw [z]; rfl)]
            rw [if_pos z] at hpp
            exact hpp
          · rw [if_neg (show ¬ nI h = 0 from fun y => z ((nI_eq (b := 0) (by omega) (by omega)).mp y))]
            rw [if_neg z] at hpp
            have e : encS h W = nI W := by
              unfold encS
              rw [if_neg (show ¬ W = 7 by omega), if_neg z]
            rw [e]
            exact hpp
  have key0 : ∀ m i, i + m = 41 → ∀ τ, SimJ σ τ → (∀ l, l < i → τ.1 26 l = encS 0 (if l = L then 0 else 7)) → wX12_soonestNow_2 Φ (m + 1) τ sp what (nI i) := by
    intro m
    induction m with
    | zero =>
      intro i hi τ hS r26
      have : i = 41 := by omega
      subst this
      rw [wX12_soonestNow_2, if_pos (show (40 : Int32) < nI 41 by decide)]
      refine ⟨14, key 13 0 (by omega) hF τ hS ?_⟩
      rw [soR]
      exact r26
    | succ m ih =>
      intro i hi τ hS r26
      have hin : vp_in (nI i) 41 := vp_in_nI (by omega) (by omega)
      rw [wX12_soonestNow_2, if_neg (show ¬ (40 : Int32) < nI i from nI_nlt (b := i) (a := 40) (by omega) (by omega)), (hS.at 18 2 rfl).trans h2]
      unfold wX12_soonestNow_27
      rw [nI_clamp (by omega), nI_1]
      have kk : ∀ v, v = encS 0 (if i = L then 0 else 7) → wX12_soonestNow_2 Φ (m + 1) (sV τ 26 i v) sp what (nI (i + 1)) := by
        intro v hv
        refine ih (i + 1) (by omega) _ (hS.sV rfl) (fun l hl => ?_)
        by_cases q : l = i
        · subst q; simp [sV, up2, va_up, hv]
        · have := r26 l (by omega)
          simpa [sV, up2, va_up, q] using this
      by_cases q : i = L
      · rw [if_pos (by rw [q])]
        exact ⟨hin, kk 9 (by rw [if_pos q]; rfl)⟩
      · rw [if_neg (fun z => q ((nI_eq (by omega) (by omega)).mp z))]
        exact ⟨hin, kk (-1) (by rw [if_neg q]; rfl)⟩
  exact ⟨42, key0 41 0 (by omega) τ hS (fun l hl => by omega)⟩
theorem so_sim {σ τ : St} {nt hh L : Nat} {sp : Int32} (hS : Sim σ τ) : ∀ m h, soF τ.1 nt hh L sp m h = soF σ.1 nt hh L sp m h := by
  have hRel := hS.rel
  have ebk : ∀ hr, bkB τ.1 nt hr = bkB σ.1 nt hr := by
    intro hr
    funext l
    unfold bkB cab2
    rw [hRel.cab, hRel.cab, hS.at 3 1 rfl, hS.at 3 2 rfl]
  have ein : ∀ hr, inB τ.1 nt hr sp = inB σ.1 nt hr sp := by
    intro hr
    funext l
    unfold inB cab2
    rw [hRel.cab, hRel.cab, hS.at 3 1 rfl]
  have eso : ∀ h, soR τ.1 nt hh L h = soR σ.1 nt hh L h := by
    intro h
    induction h with
    | zero => rw [soR, soR]
    | succ h ih =>
      rw [soR, soR, ih]
      unfold drR
      rw [ebk]
  intro m
  induction m with
  | zero => intro h; rw [soF, soF]
  | succ m ih =>
    intro h
    rw [soF, soF, ih, eso, ein]
theorem WH.sim {σ τ : St} {nt hh ss b : Nat} (hS : Sim σ τ) (h : WH σ nt hh ss b) : WH τ nt hh ss b := by
  obtain ⟨⟨hT, hM, hB, x4, x8, hl2, hsp, hL⟩, g1, g2, g3, g4, g5, g6, e4, e5⟩ := h
  have hRel := hS.rel
  refine ⟨⟨hRel.thx hT, (hS.at 18 9 rfl).trans hM, hRel.tb hB, (hS.at 3 4 rfl).trans x4, (hS.at 18 8 rfl).trans x8, ?_, ?_, ?_⟩, ?_, ?_, g3, ?_, g5, g6, ?_, ?_⟩
  · rw [hS.at 18 2 rfl, hS.at 3 0 rfl]; exact hl2
  · rw [hS.at 18 3 rfl, hS.at 3 1 rfl]; exact hsp
  · rw [hS.at 3 0 rfl]; exact hL
  · rw [hS.at 3 0 rfl]; exact g1
  · rw [hS.at 3 1 rfl]; exact g2
  · rw [hS.at 3 2 rfl]; exact g4
  · rw [hS.at 18 4 rfl, hS.at 3 2 rfl]; exact e4
  · rw [hS.at 18 5 rfl, hS.at 3 5 rfl]; exact e5
theorem nlt_of {a b : Int32} (h : a ≤ b) : ¬ b < a := by grind
theorem pos10 {v : Int32} (h : 10 ≤ v) : 0 < v := by grind
theorem x_soonC {σ : St} {nt hh ss b L : Nat} {sp what : Int32} {F : Int32 × Int32} {Φ : Int32 → St → Prop} (hF : soF σ.1 nt hh L sp 13 0 = F) (h : WH σ nt hh ss b) (hh6 : hh ≤ 600) (h0 : σ.1 3 0 = nI L) (hL : 10 ≤ L ∧ L ≤ 40) (hw : σ.1 3 6 = 0) (hs : 1 ≤ sp ∧ sp ≤ 9999) (hv : 0 ≤ what ∧ what ≤ 1) (hp : ∀ τ, Sim σ τ → Φ (if what = 0 then F.1 else F.2) τ) : wX11_soonest σ sp what Φ := by
  unfold wX11_soonest
  have l0 : 0 < σ.1 3 0 := pos10 h.2.1.1
  rw [if_neg (nlt_of hs.1), if_neg (nlt_of hs.2), if_neg (nlt_of hv.1), if_pos hv.2, e_isWhole, if_pos (show 0 < σ.1 3 0 ∧ σ.1 3 6 = 0 from ⟨l0, hw⟩), if_neg (by decide)]
  refine x_findS hF h.1.1 h.1.2.2.1 hh6 h.1.2.2.2.1 h0 hL (fun τ hS t2 t3 => ?_)
  have := hp τ hS
  by_cases q : what = 0
  · rw [if_pos q, t2]; rw [if_pos q] at this; exact this
  · rw [if_neg q, t3]; rw [if_neg q] at this; exact this
theorem m_soonC {σ : St} {nt hh ss b L : Nat} {sp what : Int32} {F : Int32 × Int32} {Φ : Int32 → St → Prop} (hF : soF σ.1 nt hh L sp 13 0 = F) (h : WH σ nt hh ss b) (hh6 : hh ≤ 600) (h0 : σ.1 3 0 = nI L) (hL : 10 ≤ L ∧ L ≤ 40) (hp : ∀ τ, SimJ σ τ → Φ (if what = 0 then F.1 else F.2) τ) : wX12_soonestNow σ sp what Φ := by
  obtain ⟨⟨hT, hM, hB, x4, x8, hl2, hsp, hL2⟩, g1, g2, g3, g4, g5, g6, e4, e5⟩ := h
  exact m_soonestNow hF hM hsp e4 hB hh6 x8 (hl2.trans h0) hL SimJ.rfl' hp
