/-! PURE PART 17: even, the two loops -/
theorem x_summed {σ : St} {q n : Nat} {Φ : Int32 → St → Prop} (hn : n < 64) (hp : Φ (smF (bitM (nI n)) (σ.1 q) 6) σ) : wX2_summed σ q (nI n) Φ := by
  have key : ∀ m i, i + m = 6 → wX2_summed_4 q Φ (m + 1) σ (nI n) (smF (bitM (nI n)) (σ.1 q) i) (nI i) := by
    intro m
    induction m with
    | zero =>
      intro i hi
      have : i = 6 := by omega
      subst this
      rw [wX2_summed_4, if_pos (show (6 : Int32) ≤ nI 6 by decide)]
      exact hp
    | succ m ih =>
      intro i hi
      have ih' := ih (i + 1) (by omega)
      rw [wX2_summed_4, if_neg (show ¬ (6 : Int32) ≤ nI i from nI_ge (b := 6) (by omega) (by omega))]
      unfold wX2_summed_24
      rw [nI_1]
      rw [smF] at ih'
      by_cases z : bitM (nI n) i = true
      · rw [if_neg (fun y => by have := (mk_bz n hn i (by omega)).mp y; rw [this] at z; exact absurd z (by decide)), nI_clamp (by omega)]
        rw [if_pos z] at ih'
        exact ⟨vp_in_nI (by omega) (by omega), ih'⟩
      · rw [if_pos ((mk_bz n hn i (by omega)).mpr (by simpa using z))]
        rw [if_neg z] at ih'
        exact ih'
  exact ⟨7, key 6 0 (by omega)⟩
/-- the evening's rows are laid -/
def Laid (σ τ : St) (nt hh i : Nat) : Prop := Sim σ τ ∧ τ.1 10 4 = nI (mkN (fun j => !bgo σ.1 nt j) i) ∧ τ.1 10 5 = cabV σ.1 0 (nI hh) noM nt ∧ τ.1 10 6 = cabV σ.1 0 (nI hh) noM nt + cabV σ.1 1 (nI hh) noM nt ∧ ∀ k, k < i → bgo σ.1 nt k = true → τ.1 11 k = wgV σ.1 (nI hh) k ∧ τ.1 12 k = gnS (σ.1 21) (fun i => wgV σ.1 (nI hh) i) k
theorem Rel.wg {σ τ : St} (h : Rel σ τ) (hr : Int32) (i : Nat) : wgV τ.1 hr i = wgV σ.1 hr i := by
  obtain ⟨r19, r20, r21, r22⟩ := h.th
  unfold wgV
  rw [r19, r20, r22]
theorem x_layL {σ : St} {nt hh : Nat} {Φ : St → Prop} (hT : ThX σ nt) (h4 : σ.1 3 4 = nI hh) (hp : ∀ τ, Laid σ τ nt hh 6 → Φ τ) : ∀ m i, i + m = 6 → ∀ τ, Laid σ τ nt hh i → wX2_setUp_44 Φ (m + 1) τ (turnsS (σ.1 3 1) (σ.1 3 0)) (nI i) := by
  intro m
  induction m with
  | zero =>
    intro i hi τ hL
    have : i = 6 := by omega
    subst this
    rw [wX2_setUp_44, if_pos (show (6 : Int32) ≤ nI 6 by decide)]
    exact hp τ hL
  | succ m ih =>
    intro i hi τ hL
    obtain ⟨hS, l4, l5, l6, lr⟩ := hL
    have hn := hT.1
    have n6 : ¬ (6 : Int32) ≤ nI i := nI_ge (b := 6) (by omega) (by omega)
    have hin : vp_in (nI i) 6 := vp_in_nI (by omega) (by omega)
    rw [wX2_setUp_44, if_neg n6, if_neg n6]
    have stay : bgo σ.1 nt i = false → wX2_setUp_86 (wX2_setUp_44 Φ (m + 1)) Φ τ (turnsS (σ.1 3 1) (σ.1 3 0)) (nI i) := by
      intro hb
      unfold wX2_setUp_86 wX2_setUp_151
      rw [l4, mk_or i (by omega) _ (mk_lt _ i), nI_1]
      refine ih (i + 1) (by omega) _ ⟨hS.sV rfl, ?_, l5, l6, fun k hk hbk => ?_⟩
      · rw [mkN, if_pos (by rw [hb]; rfl)]
        rfl
      · by_cases q : k = i
        · subst q
          rw [hb] at hbk
          exact absurd hbk (by decide)
        · exact lr k (by omega) hbk
    by_cases hlt : i < nt
    · have hTτ := hS.rel.thx hT
      obtain ⟨a, ha, hX⟩ := hTτ.2.2 i hlt
      refine i_at hTτ hlt ha ⟨(fun e => by cases e), fun b e => ?_⟩
      cases e
      refine i_goes hX ?_
      have e19 : τ.1 19 i = σ.1 19 i := hS.at 19 i rfl
      have e21 : τ.1 21 i = σ.1 21 i := hS.at 21 i rfl
      rw [e19]
      by_cases hg : σ.1 19 i = 2 ∧ 2 < turnsS (σ.1 3 1) (σ.1 3 0)
      · rw [if_pos hg, if_pos rfl]
        refine stay ?_
        unfold bgo
        rw [decide_eq_true hlt, decide_eq_true hg.1, decide_eq_true hg.2]
        rfl
      · rw [if_neg hg, if_neg (by decide)]
        have hb : bgo σ.1 nt i = true := by
          unfold bgo
          rw [decide_eq_true hlt]
          by_cases g1 : σ.1 19 i = 2
          · rw [decide_eq_false (show ¬ 2 < turnsS (σ.1 3 1) (σ.1 3 0) from fun g2 => hg ⟨g1, g2⟩)]
            simp
          · rw [decide_eq_false g1]
            rfl
        refine i_wT hX ?_
        rw [show τ.1 3 4 = nI hh from (hS.at 3 4 rfl).trans h4, hS.rel.wg, nI_clamp (by omega)]
        refine ⟨hin, hX.isT, ?_⟩
        rw [show (sV τ 11 i (wgV σ.1 (nI hh) i)).2.2.2.2.2 a 2 = σ.1 21 i from hX.2.2.2.2.trans e21]
        have kk : ∀ g, g = gnS (σ.1 21) (fun i => wgV σ.1 (nI hh) i) i → wX2_setUp_150 (wX2_setUp_44 Φ (m + 1)) Φ (sV τ 11 i (wgV σ.1 (nI hh) i)) (turnsS (σ.1 3 1) (σ.1 3 0)) (nI i) g (nI i) := by
          intro g hg
          unfold wX2_setUp_150 wX2_setUp_151
          rw [nI_clamp (by omega), nI_1]
          refine ⟨hin, ih (i + 1) (by omega) _ ⟨(hS.sV rfl).sV rfl, ?_, l5, l6, fun k hk hbk => ?_⟩⟩
          · rw [mkN, if_neg (by rw [hb]; decide)]
            exact l4
          · by_cases q : k = i
            · subst q
              simp [sV, up2, va_up, hg]
            · have := lr k (by omega) hbk
              simpa [sV, up2, va_up, q] using this
        have e11 : (sV τ 11 i (wgV σ.1 (nI hh) i)).1 11 i = wgV σ.1 (nI hh) i := by simp [sV, up2, va_up]
        rw [e11]
        by_cases z : σ.1 21 i = 0
        · rw [if_pos z]
          exact ⟨hin, kk _ (by unfold gnS; rw [if_pos z])⟩
        · rw [if_neg z]
          exact ⟨hin, kk _ (by unfold gnS; rw [if_neg z])⟩
    · refine i_atNo (hS.rel.thx hT) (Or.inr (nI_le (by omega) (by omega))) ⟨fun _ => stay (bgo_out (by omega)), (fun b e => by cases e)⟩
theorem x_setUp {σ : St} {nt hh : Nat} {Φ : St → Prop} (hT : ThX σ nt) (h4 : σ.1 3 4 = nI hh) (hp : ∀ τ, Laid σ τ nt hh 6 → Φ τ) : wX2_setUp σ Φ := by
  unfold wX2_setUp
  rw [e_turnsNow, h4]
  refine i_weighsIn hT ?_
  have hT2 : ThX (sV σ 10 5 (cabV σ.1 0 (nI hh) noM nt)) nt := hT
  rw [show (sV σ 10 5 (cabV σ.1 0 (nI hh) noM nt)).1 3 4 = nI hh from h4]
  refine i_weighsIn hT2 ?_
  exact ⟨7, x_layL hT h4 hp 6 0 (by omega) _ ⟨((Sim.rfl'.sV rfl).sV rfl).sV rfl, rfl, rfl, rfl, fun k hk => by omega⟩⟩
/-- the gap with a set that may go -/
theorem x_gap {σ τ : St} {nt hh ss b n : Nat} {Φ : Int32 → St → Prop} (h : WH σ nt hh ss b) (hP : ∀ i, i < nt → σ.1 21 i = 0 ∨ σ.1 21 i = 1) (hn : n < 64) (hok : n &&& mkN (bgo σ.1 nt) 6 = n) (hL : Laid σ τ nt hh 6) (hp : Φ (gpS σ.1 nt hh n) τ) : wX2_gapWith τ (nI n) Φ := by
  obtain ⟨hS, l4, l5, l6, lr⟩ := hL
  have h6 := h.1.1.1
  have hB := h.1.2.2.1
  unfold wX2_gapWith
  refine x_summed hn ?_
  have es : smF (bitM (nI n)) (τ.1 12) 6 = smF (bitM (nI n)) (gnS (σ.1 21) (fun i => wgV σ.1 (nI hh) i)) nt := by
    rw [sm_congr (g := gnS (σ.1 21) (fun i => wgV σ.1 (nI hh) i)) (fun i hi hb => (lr i hi (mk_sub hn hok hi hb)).2)]
    refine sm_cut h6 (fun i h1 h2 => ?_)
    by_cases z : bitM (nI n) i = true
    · have := mk_sub hn hok h2 z
      rw [bgo_out h1] at this
      exact absurd this (by decide)
    · simpa using z
  have ef : τ.1 10 5 + smF (bitM (nI n)) (τ.1 12) 6 = cabV σ.1 0 (nI hh) (bitM (nI n)) nt := by
    rw [l5, es]
    exact cab_mv.symm
  have et : τ.1 10 6 - cabV σ.1 0 (nI hh) (bitM (nI n)) nt = cabV σ.1 1 (nI hh) (bitM (nI n)) nt := by
    rw [l6]
    have := cab_tot (K := σ.1 19) (W := σ.1 20) (P := σ.1 21) (M := σ.1 22) (h := nI hh) (m := bitM (nI n)) hP
    unfold cabV
    grind
  have k0 := cw_pos hB (bitM (nI n))
  have e30 : τ.1 3 0 = σ.1 3 0 := hS.at 3 0 rfl
  have e31 : τ.1 3 1 = σ.1 3 1 := hS.at 3 1 rfl
  rw [ef, et, e_floorAt _ _ _ _ _ _ _ k0, e_floorAt _ _ _ _ _ _ _ k0, e30, e31]
  unfold wJ9_abs_0f7a4
  unfold gpS cab2 at hp
  by_cases z : 0 ≤ floorS (σ.1 3 1) 0 (σ.1 3 0) (cabV σ.1 0 (nI hh) (bitM (nI n)) nt) (cabV σ.1 1 (nI hh) (bitM (nI n)) nt) - floorS (σ.1 3 1) 1 (σ.1 3 0) (cabV σ.1 0 (nI hh) (bitM (nI n)) nt) (cabV σ.1 1 (nI hh) (bitM (nI n)) nt)
  · rw [if_pos z]; rw [if_pos z] at hp; exact hp
  · rw [if_neg z]; rw [if_neg z] at hp; exact hp
theorem x_sum11 {σ τ : St} {nt hh n : Nat} (h6 : nt ≤ 6) (hn : n < 64) (hok : n &&& mkN (bgo σ.1 nt) 6 = n) (hL : Laid σ τ nt hh 6) : smF (bitM (nI n)) (τ.1 11) 6 = smS σ.1 nt hh n := by
  obtain ⟨hS, l4, l5, l6, lr⟩ := hL
  unfold smS
  rw [sm_congr (g := fun i => wgV σ.1 (nI hh) i) (fun i hi hb => (lr i hi (mk_sub hn hok hi hb)).1)]
  refine sm_cut h6 (fun i h1 h2 => ?_)
  by_cases z : bitM (nI n) i = true
  · have := mk_sub hn hok h2 z
    rw [bgo_out h1] at this
    exact absurd this (by decide)
  · simpa using z
theorem laid_sV {σ τ : St} {nt hh i : Nat} (h : Laid σ τ nt hh i) {c : Nat} {v : Int32} (hc : c = 2 ∨ c = 3) : Laid σ (sV τ 10 c v) nt hh i := by
  obtain ⟨hS, l4, l5, l6, lr⟩ := h
  rcases hc with rfl | rfl
  · exact ⟨hS.sV rfl, l4, l5, l6, lr⟩
  · exact ⟨hS.sV rfl, l4, l5, l6, lr⟩
