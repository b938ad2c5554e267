/-! PURE PART 33: digest: what stays under scratch; the cable's side -/
theorem cb_sim {σ τ : St} (hS : Sim σ τ) (nt hh : Nat) (c what : Int32) : cabR τ.1 nt hh c what = cabR σ.1 nt hh c what := by
  have hRel := hS.rel
  unfold cabR cab2
  rw [hRel.cab, hRel.cab, hRel.cab, hS.at 3 0 rfl, hS.at 3 1 rfl, hRel.row 21 (by omega) (fun j => rfl)]
theorem ab_sim {σ τ : St} (hS : Sim σ τ) (hh i : Nat) (what : Int32) : aboutR τ.1 hh i what = aboutR σ.1 hh i what := by
  unfold aboutR
  rw [hS.at 19 i rfl, hS.at 20 i rfl, hS.at 21 i rfl, hS.rel.wg, hS.at 22 i rfl]
theorem cn_sim {σ τ : St} (hS : Sim σ τ) (nt hh : Nat) (what : Int32) : countR τ.1 nt hh what = countR σ.1 nt hh what := by
  have hRel := hS.rel
  unfold countR cab2
  rw [hRel.cab, hRel.cab, hS.at 3 0 rfl, hS.at 3 1 rfl, hS.at 3 2 rfl, hS.at 3 3 rfl, hS.at 3 4 rfl, hS.at 3 5 rfl, hS.at 3 6 rfl, hS.at 4 2 rfl, hS.at 1 1 rfl, hS.at 0 9 rfl, hS.at 7 2 rfl]
theorem hd_sim {σ τ : St} (hS : Sim σ τ) (nt hh b : Nat) : hdN τ.1 nt hh b = hdN σ.1 nt hh b := by
  have hRel := hS.rel
  unfold hdN stN cab2
  rw [hRel.cab, hRel.cab, hS.at 3 0 rfl, hS.at 3 1 rfl, hS.at 3 5 rfl]
theorem ev_sim {σ τ : St} (hS : Sim σ τ) (nt hh : Nat) (v : Int32) : evR τ.1 nt hh v = evR σ.1 nt hh v := by
  have hRel := hS.rel
  have r30 : τ.1 3 0 = σ.1 3 0 := hS.at 3 0 rfl
  have r31 : τ.1 3 1 = σ.1 3 1 := hS.at 3 1 rfl
  have eb : bgo τ.1 nt = bgo σ.1 nt := by
    funext i
    unfold bgo
    rw [hS.at 19 i rfl, r30, r31]
  have eg : ∀ n, gpS τ.1 nt hh n = gpS σ.1 nt hh n := by
    intro n
    unfold gpS cab2
    rw [r30, r31, hRel.cab, hRel.cab]
  have es : ∀ n, smS τ.1 nt hh n = smS σ.1 nt hh n := by
    intro n
    unfold smS
    rw [show (fun i => wgV τ.1 (nI hh) i) = (fun i => wgV σ.1 (nI hh) i) from funext fun i => hRel.wg _ _]
  have ev : ∀ n, evS τ.1 nt hh n = evS σ.1 nt hh n := by
    intro n
    induction n with
    | zero => rw [evS, evS]
    | succ n ih => rw [evS, evS, ih, eb, eg, es]
  unfold evR
  rw [ev]
theorem Rdy.sim {σ τ : St} {nt hh : Nat} (hS : Sim σ τ) (h : Rdy σ nt hh) : Rdy τ nt hh := by
  obtain ⟨hT, hM, hB, x4, x8, hl2, hsp, hL⟩ := h
  have hRel := hS.rel
  refine ⟨hRel.thx hT, (hS.at 18 9 rfl).trans hM, hRel.tb hB, (hS.at 3 4 rfl).trans x4, (hS.at 18 8 rfl).trans x8, ?_, ?_, ?_⟩
  · rw [hS.at 18 2 rfl, hS.at 3 0 rfl]; exact hl2
  · rw [hS.at 18 3 rfl, hS.at 3 1 rfl]; exact hsp
  · rw [hS.at 3 0 rfl]; exact hL
theorem Eqs.sim {σ τ : St} (hS : Sim σ τ) (h : Eqs σ) : Eqs τ := by
  unfold Eqs
  rw [hS.at 3 5 rfl, hS.at 3 6 rfl, hS.at 18 4 rfl, hS.at 3 2 rfl, hS.at 18 5 rfl, hS.at 18 6 rfl, hS.at 18 7 rfl, hS.at 3 3 rfl, hS.at 18 17 rfl, hS.at 1 1 rfl, hS.at 18 1 rfl, hS.at 0 9 rfl, hS.at 18 14 rfl, hS.at 7 2 rfl]
  exact h
theorem FT.sim {σ τ : St} {nk : Nat} {L T : Nat → Nat} (hS : Sim σ τ) (h : FT σ nk L T) : FT τ nk L T := by
  refine ⟨h.1, (hS.at 7 2 rfl).trans h.2.1, (hS.at 18 14 rfl).trans h.2.2.1, fun i hi => ?_⟩
  rw [hS.at 8 i rfl, hS.at 9 i rfl, hS.at 23 i rfl, hS.at 24 i rfl]
  exact h.2.2.2 i hi
/-- all that the digest's numbers rest on -/
def DG (σ : St) (np nt nk hh : Nat) (L T : Nat → Nat) : Prop := Rdy σ nt hh ∧ Eqs σ ∧ FT σ nk L T ∧ np ≤ 12 ∧ σ.1 1 1 = nI np ∧ σ.1 18 17 = nI np ∧ ∀ i, i < np → σ.1 2 i = σ.1 25 i
theorem DG.sim {σ τ : St} {np nt nk hh : Nat} {L T : Nat → Nat} (hS : Sim σ τ) (h : DG σ np nt nk hh L T) : DG τ np nt nk hh L T := by
  obtain ⟨h1, h2, h3, h4, h5, h6, h7⟩ := h
  refine ⟨h1.sim hS, h2.sim hS, h3.sim hS, h4, (hS.at 1 1 rfl).trans h5, (hS.at 18 17 rfl).trans h6, fun i hi => ?_⟩
  rw [hS.at 2 i rfl, hS.at 25 i rfl]
  exact h7 i hi
def mixN (f : Nat → Int32) : Nat → Int64 → Int64
  | 0, h => h
  | n + 1, h => 31 * mixN f n h + (f n).toInt64
def cbD (V : Nat → Nat → Int32) (nt hh : Nat) (h : Int64) : Int64 := mixN (fun k => cabR V nt hh 1 (nI k)) 4 (mixN (fun k => cabR V nt hh 0 (nI k)) 4 h)
def thD (V : Nat → Nat → Int32) (hh : Nat) : Nat → Int64 → Int64
  | 0, h => h
  | n + 1, h => mixN (fun k => aboutR V hh n (nI k)) 5 (thD V hh n h)
def tlD (V : Nat → Nat → Int32) (np nt hh A B : Nat) (h : Int64) : Int64 := mixN (fun k => countR V nt hh (nI k)) 13 (mixN (fun k => V 2 k) np (mixN (fun k => fitR A B (nI k)) 3 h))
def otD (E : Int32 → Int32) (F : Int32 × Int32) (H : Nat) (h : Int64) : Int64 := 31 * (31 * (31 * (31 * (31 * (31 * h + (E 0).toInt64) + (E 1).toInt64) + F.1.toInt64) + F.2.toInt64) + lastR H 2 0) + lastR H 2 1
theorem x_cabL {σ : St} {nt hh : Nat} {c : Int32} {K : St → Int64 → Int32 → Prop} {Φ : Int64 → St → Prop} {h0 : Int64} (hR : Rdy σ nt hh) (hc : 0 ≤ c ∧ c ≤ 1) (hl : 0 < σ.1 3 0) (hp : K σ (mixN (fun k => cabR σ.1 nt hh c (nI k)) 4 h0) (c + 1)) : ∀ m k, k + m = 4 → wX11_withCabins_14 K Φ (m + 1) σ (mixN (fun k => cabR σ.1 nt hh c (nI k)) k h0) c (nI k) := by
  intro m
  induction m with
  | zero =>
    intro k hk
    have : k = 4 := by omega
    subst this
    rw [wX11_withCabins_14, if_pos (show (3 : Int32) < nI 4 by decide)]
    exact hp
  | succ m ih =>
    intro k hk
    rw [wX11_withCabins_14, if_neg (show ¬ (3 : Int32) < nI k from nI_nlt (b := k) (a := 3) (by omega) (by omega))]
    refine x_cabin hR hc ⟨nI_pos' (by omega), nI_le (b := 3) (by omega) (by omega)⟩ hl ?_
    unfold wX11_mixed
    rw [nI_1]
    exact ih (k + 1) (by omega)
theorem x_cabins {σ : St} {nt hh : Nat} {Φ : Int64 → St → Prop} {h0 : Int64} (hR : Rdy σ nt hh) (hl : 0 < σ.1 3 0) (hp : Φ (cbD σ.1 nt hh h0) σ) : wX11_withCabins σ h0 Φ := by
  unfold wX11_withCabins
  refine ⟨0 + 1 + 1 + 1, ?_⟩
  rw [wX11_withCabins_5, if_neg (by decide)]
  refine ⟨5, x_cabL (h0 := h0) hR (by decide) hl ?_ 4 0 rfl⟩
  rw [show (0 : Int32) + 1 = 1 from rfl, wX11_withCabins_5, if_neg (by decide)]
  refine ⟨5, x_cabL hR (by decide) hl ?_ 4 0 rfl⟩
  rw [wX11_withCabins_5, if_pos (by decide)]
  exact hp
theorem x_thgL {σ : St} {nt hh i : Nat} {K : St → Int64 → Int32 → Prop} {Φ : Int64 → St → Prop} {h0 : Int64} (hR : Rdy σ nt hh) (hi : i < nt) (hp : K σ (mixN (fun k => aboutR σ.1 hh i (nI k)) 5 h0) (nI i + 1)) : ∀ m k, k + m = 5 → wX11_withThings_20 K Φ (m + 1) σ (mixN (fun k => aboutR σ.1 hh i (nI k)) k h0) (nI i) (nI k) := by
  intro m
  induction m with
  | zero =>
    intro k hk
    have : k = 5 := by omega
    subst this
    rw [wX11_withThings_20, if_pos (show (4 : Int32) < nI 5 by decide)]
    exact hp
  | succ m ih =>
    intro k hk
    rw [wX11_withThings_20, if_neg (show ¬ (4 : Int32) < nI k from nI_nlt (b := k) (a := 4) (by omega) (by omega))]
    refine x_about hR hi ⟨nI_pos' (by omega), nI_le (b := 4) (by omega) (by omega)⟩ ?_
    unfold wX11_mixed
    rw [nI_1]
    exact ih (k + 1) (by omega)
theorem x_things {σ : St} {nt hh : Nat} {Φ : Int64 → St → Prop} {h0 : Int64} (hR : Rdy σ nt hh) (hp : Φ (thD σ.1 hh nt h0) σ) : wX11_withThings σ h0 Φ := by
  have h6 := hR.1.1
  have key : ∀ m i, i + m = nt → wX11_withThings_5 Φ (m + 1) σ (thD σ.1 hh i h0) (nI i) := by
    intro m
    induction m with
    | zero =>
      intro i hi
      have : i = nt := by omega
      subst this
      rw [wX11_withThings_5, hR.1.2.1, if_pos (nI_le (Nat.le_refl _) (by omega))]
      exact hp
    | succ m ih =>
      intro i hi
      rw [wX11_withThings_5, hR.1.2.1, if_neg (nI_ge (by omega) (by omega))]
      refine ⟨6, x_thgL (h0 := thD σ.1 hh i h0) hR (by omega) ?_ 5 0 rfl⟩
      rw [nI_1]
      exact ih (i + 1) (by omega)
  exact ⟨nt + 1, key nt 0 (by omega)⟩
theorem x_evenD {σ τ : St} {nt hh ss b : Nat} {v : Int32} {Φ : Int32 → St → Prop} (S : Sim σ τ) (hW : WH σ nt hh ss b) (hw : σ.1 3 6 = 0) (hP : ∀ i, i < nt → σ.1 21 i = 0 ∨ σ.1 21 i = 1) (hv : 0 ≤ v ∧ v ≤ 1) (hp : ∀ τ, Sim σ τ → Φ (evR σ.1 nt hh v) τ) : wX11_even τ v Φ :=
  x_evenC (hW.sim S) ((S.at 3 6 rfl).trans hw) (fun i hi => by rw [S.at 21 i rfl]; exact hP i hi) hv (fun τ' S' => by rw [ev_sim S]; exact hp τ' (S.tr S'))
theorem x_soonD {σ τ : St} {nt hh ss b L : Nat} {sp what : Int32} {F : Int32 × Int32} {Φ : Int32 → St → Prop} (S : Sim σ τ) (hF : soF σ.1 nt hh L sp 13 0 = F) (hW : WH σ nt hh ss b) (hh6 : hh ≤ 600) (h0 : σ.1 3 0 = nI L) (hL : 10 ≤ L ∧ L ≤ 40) (hw : σ.1 3 6 = 0) (hs : 1 ≤ sp ∧ sp ≤ 9999) (hv : 0 ≤ what ∧ what ≤ 1) (hp : ∀ τ, Sim σ τ → Φ (if what = 0 then F.1 else F.2) τ) : wX11_soonest τ sp what Φ :=
  x_soonC ((so_sim S 13 0).trans hF) (hW.sim S) hh6 ((S.at 3 0 rfl).trans h0) hL ((S.at 3 6 rfl).trans hw) hs hv (fun τ' S' => hp τ' (S.tr S'))
theorem x_lastD {σ τ : St} {nt hh ss b : Nat} {v : Int32} {Φ : Int64 → St → Prop} (S : Sim σ τ) (hW : WH σ nt hh ss b) (hw : σ.1 3 6 = 0) (hv : 0 ≤ v ∧ v ≤ 1) (hp : Φ (lastR (hdN σ.1 nt hh b) 2 v) τ) : wX11_lasts τ (nI 2) v Φ := by
  refine x_lastsC (hW.sim S) ((S.at 3 6 rfl).trans hw) (by omega) hv ?_
  rw [hd_sim S]
  exact hp
theorem x_outlook {σ : St} {nt hh ss b L : Nat} {F : Int32 × Int32} {H : Nat} {E : Int32 → Int32} {Φ : Int64 → St → Prop} {h0 : Int64} (hF : soF σ.1 nt hh L 100 13 0 = F) (hH : hdN σ.1 nt hh b = H) (hE : ∀ v, evR σ.1 nt hh v = E v) (hW : WH σ nt hh ss b) (hh6 : hh ≤ 600) (hl : σ.1 3 0 = nI L) (hL : 10 ≤ L ∧ L ≤ 40) (hw : σ.1 3 6 = 0) (hP : ∀ i, i < nt → σ.1 21 i = 0 ∨ σ.1 21 i = 1)
    (hp : ∀ τ, Sim σ τ → Φ (otD E F H h0) τ) : wX11_withOutlook σ h0 Φ := by
  unfold otD at hp
  unfold wX11_withOutlook
  refine ⟨0 + 1 + 1 + 1, ?_⟩
  rw [wX11_withOutlook_5, if_neg (by decide)]
  refine x_evenD Sim.rfl' hW hw hP (by decide) (fun τ1 S1 => ?_)
  rw [hE]
  unfold wX11_mixed
  show wX11_withOutlook_5 Φ (0 + 1 + 1) τ1 (31 * h0 + (E 0).toInt64) 1
  rw [wX11_withOutlook_5, if_neg (by decide)]
  refine x_evenD S1 hW hw hP (by decide) (fun τ2 S2 => ?_)
  rw [hE]
  unfold wX11_mixed
  show wX11_withOutlook_5 Φ (0 + 1) τ2 (31 * (31 * h0 + (E 0).toInt64) + (E 1).toInt64) 2
  generalize 31 * (31 * h0 + (E 0).toInt64) + (E 1).toInt64 = h2 at hp ⊢
  rw [wX11_withOutlook_5, if_pos (by decide)]
  refine ⟨0 + 1 + 1 + 1, ?_⟩
  rw [wX11_withOutlook_32, if_neg (by decide)]
  refine x_soonD S2 hF hW hh6 hl hL hw (by decide) (by decide) (fun τ3 S3 => ?_)
  rw [if_pos rfl]
  unfold wX11_mixed
  show wX11_withOutlook_32 Φ (0 + 1 + 1) τ3 (31 * h2 + F.1.toInt64) 1
  rw [wX11_withOutlook_32, if_neg (by decide)]
  refine x_soonD S3 hF hW hh6 hl hL hw (by decide) (by decide) (fun τ4 S4 => ?_)
  rw [if_neg (by decide)]
  unfold wX11_mixed
  show wX11_withOutlook_32 Φ (0 + 1) τ4 (31 * (31 * h2 + F.1.toInt64) + F.2.toInt64) 2
  rw [wX11_withOutlook_32, if_pos (by decide)]
  refine ⟨0 + 1 + 1 + 1, ?_⟩
  rw [wX11_withOutlook_61, if_neg (by decide)]
  refine x_lastD S4 hW hw (by decide) ?_
  rw [hH]
  unfold wX11_mixed
  show wX11_withOutlook_61 Φ (0 + 1 + 1) τ4 (31 * (31 * (31 * h2 + F.1.toInt64) + F.2.toInt64) + lastR H 2 0) 1
  rw [wX11_withOutlook_61, if_neg (by decide)]
  refine x_lastD S4 hW hw (by decide) ?_
  rw [hH]
  unfold wX11_mixed
  show wX11_withOutlook_61 Φ (0 + 1) τ4 (31 * (31 * (31 * (31 * h2 + F.1.toInt64) + F.2.toInt64) + lastR H 2 0) + lastR H 2 1) 2
  rw [wX11_withOutlook_61, if_pos (by decide)]
  exact hp τ4 S4
theorem x_tail {σ τ : St} {np nt nk hh A B : Nat} {L T : Nat → Nat} {Φ : Int64 → St → Prop} {h0 : Int64} (hD : DG σ np nt nk hh L T) (hA : loN L T nk = A) (hB : hiN L T nk = B) (S : Sim σ τ) (hp : Φ (tlD σ.1 np nt hh A B h0) τ) : wX11_digest_42 Φ τ h0 := by
  obtain ⟨d1, d2, d3, d4, d5, d6, d7⟩ := hD.sim S
  have k3 : ∀ h1, Φ (mixN (fun k => countR σ.1 nt hh (nI k)) 13 h1) τ → ∀ m k, k + m = 13 → wX11_digest_101 Φ (m + 1) τ (mixN (fun k => countR σ.1 nt hh (nI k)) k h1) (nI k) := by
    intro h1 hp m
    induction m with
    | zero =>
      intro k hk
      have : k = 13 := by omega
      subst this
      rw [wX11_digest_101, if_pos (show (13 : Int32) ≤ nI 13 by decide)]
      exact hp
    | succ m ih =>
      intro k hk
      rw [wX11_digest_101, if_neg (show ¬ (13 : Int32) ≤ nI k from nI_ge (b := 13) (by omega) (by omega))]
      refine x_count d1 d2.1 d2.2.1 ?_
      rw [cn_sim S]
      unfold wX11_mixed
      rw [nI_1]
      exact ih (k + 1) (by omega)
  have k2 : ∀ h1, Φ (mixN (fun k => countR σ.1 nt hh (nI k)) 13 (mixN (fun k => σ.1 2 k) np h1)) τ → ∀ m k, k + m = np → wX11_digest_68 Φ (m + 1) τ (mixN (fun k => σ.1 2 k) k h1) (nI k) := by
    intro h1 hp m
    induction m with
    | zero =>
      intro k hk
      have : k = np := by omega
      subst this
      rw [wX11_digest_68, d5, if_pos (nI_le (Nat.le_refl _) (by omega))]
      exact ⟨14, k3 _ hp 13 0 (by omega)⟩
    | succ m ih =>
      intro k hk
      rw [wX11_digest_68, d5, if_neg (nI_ge (by omega) (by omega))]
      refine i_pat d5 d4 (by omega) ?_
      rw [S.at 2 k rfl]
      unfold wX11_mixed
      rw [nI_1]
      exact ih (k + 1) (by omega)
  have k1 : ∀ m k, k + m = 3 → wX11_digest_44 Φ (m + 1) τ (mixN (fun k => fitR A B (nI k)) k h0) (nI k) := by
    intro m
    induction m with
    | zero =>
      intro k hk
      have : k = 3 := by omega
      subst this
      rw [wX11_digest_44, if_pos (show (2 : Int32) < nI 3 by decide)]
      exact ⟨np + 1, k2 _ hp np 0 (by omega)⟩
    | succ m ih =>
      intro k hk
      rw [wX11_digest_44, if_neg (show ¬ (2 : Int32) < nI k from nI_nlt (b := k) (a := 2) (by omega) (by omega))]
      refine x_fits d3 ⟨nI_pos' (by omega), nI_le (b := 2) (by omega) (by omega)⟩ ?_
      rw [hA, hB]
      unfold wX11_mixed
      rw [nI_1]
      exact ih (k + 1) (by omega)
  unfold wX11_digest_42
  exact ⟨4, k1 3 0 (by omega)⟩
def dgD (V : Nat → Nat → Int32) (np nt hh A B : Nat) (OT : Int64 → Int64) : Int64 := tlD V np nt hh A B (if 0 < V 3 0 ∧ V 3 6 = 0 then OT (thD V hh nt (if 0 < V 3 0 then cbD V nt hh 683 else 683)) else thD V hh nt (if 0 < V 3 0 then cbD V nt hh 683 else 683))
theorem x_digest {σ : St} {np nt nk hh A B : Nat} {L T : Nat → Nat} {OT : Int64 → Int64} {Φ : Int64 → St → Prop} (hD : DG σ np nt nk hh L T) (hA : loN L T nk = A) (hB : hiN L T nk = B) (hO : 0 < σ.1 3 0 ∧ σ.1 3 6 = 0 → ∀ (h0 : Int64) (Ψ : Int64 → St → Prop), (∀ τ, Sim σ τ → Ψ (OT h0) τ) → wX11_withOutlook σ h0 Ψ)
    (hp : ∀ τ, Sim σ τ → Φ (dgD σ.1 np nt hh A B OT) τ) : wX11_digest σ Φ := by
  have k20 : ∀ h1, h1 = (if 0 < σ.1 3 0 then cbD σ.1 nt hh 683 else 683) → wX11_digest_20 Φ σ h1 := by
    intro h1 e1
    unfold wX11_digest_20
    refine x_things hD.1 ?_
    rw [e_isWhole]
    unfold dgD at hp
    rw [← e1] at hp
    by_cases q : 0 < σ.1 3 0 ∧ σ.1 3 6 = 0
    · rw [if_pos q] at hp
      rw [if_pos q, if_neg (by decide)]
      exact hO q _ _ (fun τ S => x_tail hD hA hB S (hp τ S))
    · rw [if_neg q] at hp
      rw [if_neg q, if_pos rfl]
      exact x_tail hD hA hB Sim.rfl' (hp σ Sim.rfl')
  unfold wX11_digest
  rw [e_isThere]
  by_cases q : 0 < σ.1 3 0
  · rw [if_pos q, if_neg (by decide)]
    refine x_cabins hD.1 q (k20 _ ?_)
    rw [if_pos q]
  · rw [if_neg q, if_pos rfl]
    refine k20 _ ?_
    rw [if_neg q]
