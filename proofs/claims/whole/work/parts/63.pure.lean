/-! PURE PART 34: digest: the reference's side -/
/-- alike but for scratch, and the reference's running number -/
def SD (σ τ : St) (h : Int64) : Prop := Sim σ τ ∧ τ.2.1 1 = h
theorem i_mix {σ τ : St} {h v : Int64} {Φ : St → Prop} (S : SD σ τ h) (hp : ∀ τ, SD σ τ (31 * h + v) → Φ τ) : wX12_mix τ v Φ := by
  unfold wX12_mix
  refine hp _ ⟨S.1.sJ, ?_⟩
  rw [← S.2]
  rfl
theorem sd_tr {σ τ τ' : St} {h : Int64} (S : SD σ τ h) (S' : SimJ τ τ') : SD σ τ' h := ⟨S.1.tr S'.1, by rw [S'.2]; exact S.2⟩
theorem m_cabL {σ : St} {np nt nk hh : Nat} {L T : Nat → Nat} {c : Int32} {K : St → Int32 → Prop} {Φ : Int64 → St → Prop} {h0 : Int64} (hD : DG σ np nt nk hh L T) (hp : ∀ τ, SD σ τ (mixN (fun k => cabR σ.1 nt hh c (nI k)) 4 h0) → K τ (c + 1)) : ∀ m k, k + m = 4 → ∀ τ, SD σ τ (mixN (fun k => cabR σ.1 nt hh c (nI k)) k h0) → wX12_digest_23 K Φ (m + 1) τ c (nI k) := by
  intro m
  induction m with
  | zero =>
    intro k hk τ S
    have : k = 4 := by omega
    subst this
    rw [wX12_digest_23, if_pos (show (4 : Int32) ≤ nI 4 by decide)]
    exact hp τ S
  | succ m ih =>
    intro k hk τ S
    rw [wX12_digest_23, if_neg (show ¬ (4 : Int32) ≤ nI k from nI_ge (b := 4) (by omega) (by omega))]
    refine m_cabinNow (hD.1.sim S.1) ⟨nI_pos' (by omega), nI_le (b := 3) (by omega) (by omega)⟩ ?_
    rw [cb_sim S.1]
    refine i_mix S (fun τ' S' => ?_)
    rw [nI_1]
    exact ih (k + 1) (by omega) τ' S'
theorem m_thgL {σ : St} {np nt nk hh i : Nat} {L T : Nat → Nat} {K : St → Int32 → Prop} {Φ : Int64 → St → Prop} {h0 : Int64} (hD : DG σ np nt nk hh L T) (hi : i < nt) (hp : ∀ τ, SD σ τ (mixN (fun k => aboutR σ.1 hh i (nI k)) 5 h0) → K τ (nI i + 1)) : ∀ m k, k + m = 5 → ∀ τ, SD σ τ (mixN (fun k => aboutR σ.1 hh i (nI k)) k h0) → wX12_digest_63 K Φ (m + 1) τ (nI i) (nI k) := by
  intro m
  induction m with
  | zero =>
    intro k hk τ S
    have : k = 5 := by omega
    subst this
    rw [wX12_digest_63, if_pos (show (5 : Int32) ≤ nI 5 by decide)]
    exact hp τ S
  | succ m ih =>
    intro k hk τ S
    rw [wX12_digest_63, if_neg (show ¬ (5 : Int32) ≤ nI k from nI_ge (b := 5) (by omega) (by omega))]
    refine m_thingNow (hD.1.sim S.1) hi ⟨nI_pos' (by omega), nI_le (b := 4) (by omega) (by omega)⟩ ?_
    rw [ab_sim S.1]
    refine i_mix S (fun τ' S' => ?_)
    rw [nI_1]
    exact ih (k + 1) (by omega) τ' S'
theorem m_things {σ τ : St} {np nt nk hh : Nat} {L T : Nat → Nat} {Φ : Int64 → St → Prop} {h0 : Int64} (hD : DG σ np nt nk hh L T) (S : SD σ τ h0) (hp : ∀ τ, SD σ τ (thD σ.1 hh nt h0) → wX12_digest_53 Φ (0 + 1) τ (nI nt)) : wX12_digest_51 Φ τ := by
  have h6 := hD.1.1.1
  have key : ∀ m i, i + m = nt → ∀ τ, SD σ τ (thD σ.1 hh i h0) → wX12_digest_53 Φ (m + 1) τ (nI i) := by
    intro m
    induction m with
    | zero =>
      intro i hi τ S
      have : i = nt := by omega
      subst this
      exact hp τ S
    | succ m ih =>
      intro i hi τ S
      rw [wX12_digest_53, (S.1.at 18 9 rfl).trans hD.1.2.1, if_neg (nI_ge (by omega) (by omega))]
      refine ⟨6, m_thgL (h0 := thD σ.1 hh i h0) hD (by omega) (fun τ' S' => ?_) 5 0 rfl τ S⟩
      rw [nI_1]
      exact ih (i + 1) (by omega) τ' S'
  unfold wX12_digest_51
  exact ⟨nt + 1, key nt 0 (by omega) τ S⟩
theorem m_evenD {σ τ : St} {nt hh ss b : Nat} {v : Int32} {h : Int64} {Φ : Int32 → St → Prop} (S : SD σ τ h) (hW : WH σ nt hh ss b) (hp : ∀ τ, SD σ τ h → Φ (evR σ.1 nt hh v) τ) : wX12_evenNow τ v Φ :=
  m_evenNow (hW.sim S.1) (fun τ' S' => by rw [ev_sim S.1]; exact hp τ' (sd_tr S S'))
theorem m_soonD {σ τ : St} {nt hh ss b L : Nat} {sp what : Int32} {h : Int64} {F : Int32 × Int32} {Φ : Int32 → St → Prop} (S : SD σ τ h) (hF : soF σ.1 nt hh L sp 13 0 = F) (hW : WH σ nt hh ss b) (hh6 : hh ≤ 600) (h0 : σ.1 3 0 = nI L) (hL : 10 ≤ L ∧ L ≤ 40) (hp : ∀ τ, SD σ τ h → Φ (if what = 0 then F.1 else F.2) τ) : wX12_soonestNow τ sp what Φ :=
  m_soonC ((so_sim S.1 13 0).trans hF) (hW.sim S.1) hh6 ((S.1.at 3 0 rfl).trans h0) hL (fun τ' S' => hp τ' (sd_tr S S'))
theorem m_lastD {σ τ : St} {nt hh ss b : Nat} {v : Int32} {Φ : Int64 → St → Prop} (S : Sim σ τ) (hW : WH σ nt hh ss b) (hp : Φ (lastR (hdN σ.1 nt hh b) 2 v) τ) : wX12_lastsNow τ (nI 2) v Φ := by
  refine m_lastsNow (hW.sim S) (by omega) ?_
  rw [hd_sim S]
  exact hp
theorem m_outlook {σ τ : St} {nt hh ss b L : Nat} {F : Int32 × Int32} {H : Nat} {E : Int32 → Int32} {Φ : Int64 → St → Prop} {h0 : Int64} (S : SD σ τ h0) (hF : soF σ.1 nt hh L 100 13 0 = F) (hH : hdN σ.1 nt hh b = H) (hE : ∀ v, evR σ.1 nt hh v = E v) (hW : WH σ nt hh ss b) (hh6 : hh ≤ 600) (hl : σ.1 3 0 = nI L) (hL : 10 ≤ L ∧ L ≤ 40) (hM : σ.1 18 9 = nI nt) (hwi : ¬ σ.1 18 0 = 0) (hw : σ.1 18 6 = 0)
    (hp : ∀ τ, SD σ τ (otD E F H h0) → wX12_digest_169 Φ τ) : wX12_digest_53 Φ (0 + 1) τ (nI nt) := by
  have h6 : nt ≤ 6 := hW.1.1.1
  rw [wX12_digest_53, (S.1.at 18 9 rfl).trans hM, if_pos (nI_le (Nat.le_refl _) (by omega)), S.1.at 18 0 rfl, if_neg hwi, S.1.at 18 6 rfl, if_pos hw]
  refine m_evenD S hW (fun τ1 S1 => ?_)
  rw [hE]
  refine i_mix S1 (fun τ2 S2 => ?_)
  refine m_evenD S2 hW (fun τ3 S3 => ?_)
  rw [hE]
  refine i_mix S3 (fun τ4 S4 => ?_)
  refine m_soonD S4 hF hW hh6 hl hL (fun τ5 S5 => ?_)
  rw [if_pos rfl]
  refine i_mix S5 (fun τ6 S6 => ?_)
  refine m_soonD S6 hF hW hh6 hl hL (fun τ7 S7 => ?_)
  rw [if_neg (by decide)]
  refine i_mix S7 (fun τ8 S8 => ?_)
  refine m_lastD S8.1 hW ?_
  rw [hH]
  refine i_mix S8 (fun τ9 S9 => ?_)
  refine m_lastD S9.1 hW ?_
  rw [hH]
  refine i_mix S9 (fun τ10 S10 => ?_)
  exact hp τ10 S10
theorem m_tail {σ τ : St} {np nt nk hh A B : Nat} {L T : Nat → Nat} {Φ : Int64 → St → Prop} {h0 : Int64} (hD : DG σ np nt nk hh L T) (hA : loN L T nk = A) (hB : hiN L T nk = B) (S : SD σ τ h0) (hp : ∀ τ, Sim σ τ → Φ (tlD σ.1 np nt hh A B h0) τ) : wX12_digest_169 Φ τ := by
  obtain ⟨d1, d2, d3, d4, d5, d6, d7⟩ := hD
  have k3 : ∀ h1, (∀ τ, Sim σ τ → Φ (mixN (fun k => countR σ.1 nt hh (nI k)) 13 h1) τ) → ∀ m k, k + m = 13 → ∀ τ, SD σ τ (mixN (fun k => countR σ.1 nt hh (nI k)) k h1) → wX12_digest_221 Φ (m + 1) τ (nI k) := by
    intro h1 hp m
    induction m with
    | zero =>
      intro k hk τ S
      have : k = 13 := by omega
      subst this
      rw [wX12_digest_221, if_pos (show (13 : Int32) ≤ nI 13 by decide), S.2]
      exact hp τ S.1
    | succ m ih =>
      intro k hk τ S
      rw [wX12_digest_221, if_neg (show ¬ (13 : Int32) ≤ nI k from nI_ge (b := 13) (by omega) (by omega))]
      obtain ⟨q5, q6, e4, e5, e6, e7, e17, e1, e14⟩ := d2.sim S.1
      refine m_howMany (d1.sim S.1) q5 q6 e4 e5 e6 e7 e17 e1 e14 ?_
      rw [cn_sim S.1]
      refine i_mix S (fun τ' S' => ?_)
      rw [nI_1]
      exact ih (k + 1) (by omega) τ' S'
  have k2 : ∀ h1, (∀ τ, Sim σ τ → Φ (mixN (fun k => countR σ.1 nt hh (nI k)) 13 (mixN (fun k => σ.1 2 k) np h1)) τ) → ∀ m k, k + m = np → ∀ τ, SD σ τ (mixN (fun k => σ.1 2 k) k h1) → wX12_digest_194 Φ (m + 1) τ (nI k) := by
    intro h1 hp m
    induction m with
    | zero =>
      intro k hk τ S
      have : k = np := by omega
      subst this
      rw [wX12_digest_194, (S.1.at 18 17 rfl).trans d6, if_pos (nI_le (Nat.le_refl _) (by omega))]
      exact ⟨14, k3 _ hp 13 0 (by omega) τ S⟩
    | succ m ih =>
      intro k hk τ S
      rw [wX12_digest_194, (S.1.at 18 17 rfl).trans d6, if_neg (nI_ge (by omega) (by omega)), nI_clamp (by omega), S.1.at 25 k rfl, ← d7 k (by omega)]
      refine ⟨vp_in_nI (by omega) (by omega), i_mix S (fun τ' S' => ?_)⟩
      rw [nI_1]
      exact ih (k + 1) (by omega) τ' S'
  have k1 : ∀ m k, k + m = 3 → ∀ τ, SD σ τ (mixN (fun k => fitR A B (nI k)) k h0) → wX12_digest_171 Φ (m + 1) τ (nI k) := by
    intro m
    induction m with
    | zero =>
      intro k hk τ S
      have : k = 3 := by omega
      subst this
      rw [wX12_digest_171, if_pos (show (3 : Int32) ≤ nI 3 by decide)]
      exact ⟨np + 1, k2 _ hp np 0 (by omega) τ S⟩
    | succ m ih =>
      intro k hk τ S
      rw [wX12_digest_171, if_neg (show ¬ (3 : Int32) ≤ nI k from nI_ge (b := 3) (by omega) (by omega))]
      refine m_fitsNow (d3.sim S.1) ?_
      rw [hA, hB]
      refine i_mix S (fun τ' S' => ?_)
      rw [nI_1]
      exact ih (k + 1) (by omega) τ' S'
  unfold wX12_digest_169
  exact ⟨4, k1 3 0 (by omega) τ S⟩
theorem m_digest {σ τ : St} {np nt nk hh A B : Nat} {L T : Nat → Nat} {OT : Int64 → Int64} {Φ : Int64 → St → Prop} (hD : DG σ np nt nk hh L T) (hA : loN L T nk = A) (hB : hiN L T nk = B) (hwi : (σ.1 18 0 = 0 ∧ ¬ 0 < σ.1 3 0) ∨ (¬ σ.1 18 0 = 0 ∧ 0 < σ.1 3 0)) (S : Sim σ τ)
    (hO : 0 < σ.1 3 0 ∧ σ.1 3 6 = 0 → ∀ (h0 : Int64) (τ : St) (Ψ : Int64 → St → Prop), SD σ τ h0 → (∀ τ, SD σ τ (OT h0) → wX12_digest_169 Ψ τ) → wX12_digest_53 Ψ (0 + 1) τ (nI nt))
    (hp : ∀ τ, Sim σ τ → Φ (dgD σ.1 np nt hh A B OT) τ) : wX12_digest τ Φ := by
  have h6 := hD.1.1.1
  have e6 : σ.1 18 6 = σ.1 3 6 := hD.2.1.2.2.2.2.1
  have k51 : ∀ h1, h1 = (if 0 < σ.1 3 0 then cbD σ.1 nt hh 683 else 683) → ∀ τ, SD σ τ h1 → wX12_digest_51 Φ τ := by
    intro h1 e1 τ S
    unfold dgD at hp
    rw [← e1] at hp
    refine m_things hD S (fun τ' S' => ?_)
    by_cases q : 0 < σ.1 3 0 ∧ σ.1 3 6 = 0
    · rw [if_pos q] at hp
      exact hO q _ τ' Φ S' (fun τ2 S2 => m_tail hD hA hB S2 hp)
    · rw [if_neg q] at hp
      rw [wX12_digest_53, (S'.1.at 18 9 rfl).trans hD.1.2.1, if_pos (nI_le (Nat.le_refl _) (by omega)), S'.1.at 18 0 rfl, S'.1.at 18 6 rfl, e6]
      have t := m_tail hD hA hB S' hp
      rcases hwi with ⟨a, -⟩ | ⟨a, b⟩
      · rw [if_pos a]; exact t
      · rw [if_neg a, if_neg (fun z => q ⟨b, z⟩)]; exact t
  have S0 : SD σ (sJ τ 1 683) 683 := ⟨S.sJ, rfl⟩
  unfold wX12_digest
  refine ⟨0 + 1 + 1 + 1, ?_⟩
  rw [wX12_digest_9, if_neg (by decide), S0.1.at 18 0 rfl]
  rcases hwi with ⟨a, b⟩ | ⟨a, b⟩
  · rw [if_pos a]
    refine k51 683 ?_ _ S0
    rw [if_neg b]
  · rw [if_neg a]
    refine ⟨5, m_cabL (h0 := 683) hD (fun τ1 S1 => ?_) 4 0 rfl _ S0⟩
    rw [show (0 : Int32) + 1 = 1 from rfl, wX12_digest_9, if_neg (by decide), S1.1.at 18 0 rfl, if_neg a]
    refine ⟨5, m_cabL hD (fun τ2 S2 => ?_) 4 0 rfl _ S1⟩
    rw [wX12_digest_9, if_pos (by decide)]
    refine k51 _ ?_ _ S2
    rw [if_pos b]
    rfl
