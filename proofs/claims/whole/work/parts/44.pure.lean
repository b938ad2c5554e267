/-! PURE PART 15: lasts -/
theorem strain_nat {V : Nat → Nat → Int32} {nt hh ss : Nat} {l : Int32} (hB : TB V nt hh) (hs : ss ≤ 14400) (hl : 10 ≤ l ∧ l ≤ 40) : ∃ n : Nat, cab2 V (nI hh) noM nt (strainS (nI ss) l) = nI n ∧ n ≤ 19989504 := by
  obtain ⟨f, f1, f2, f3⟩ := cw_nat hB 0 noM nt (Nat.le_refl _)
  obtain ⟨s, s1, s2, s3⟩ := cw_nat hB 1 noM nt (Nat.le_refl _)
  obtain ⟨t, t1, t2⟩ := turns_nat hs hl
  obtain ⟨n, rfl, n1, n2⟩ := len_nat hl
  have h6 := hB.1
  unfold cab2 strainS floorS armS
  rw [f1, s1, t1, if_pos rfl, nI_mul, nI_add]
  have b1 : n * s ≤ 40 * 2410 := Nat.mul_le_mul n2 (by omega)
  have b2 : n * s / (f + s) ≤ 40 := by
    refine Nat.div_le_of_le_mul ?_
    calc n * s ≤ 40 * s := Nat.mul_le_mul n2 (Nat.le_refl _)
      _ ≤ (f + s) * 40 := by omega
  rw [pk_div (by omega) (by omega) (by omega), nI_mul, nI_mul, nI_mul]
  have b3 : n * s / (f + s) * t ≤ 40 * 144 := Nat.mul_le_mul b2 t2
  have b4 : n * s / (f + s) * t * t ≤ 40 * 144 * 144 := Nat.mul_le_mul b3 t2
  have b5 : f * (n * s / (f + s) * t * t) ≤ 2410 * (40 * 144 * 144) := Nat.mul_le_mul (by omega) b4
  rw [show (100 : Int32) = nI 100 from rfl, pk_div (by omega) (by omega) (by omega)]
  exact ⟨_, rfl, by omega⟩
/-- a wire that is there -/
def WH (σ : St) (nt hh ss b : Nat) : Prop := Rdy σ nt hh ∧ (10 ≤ σ.1 3 0 ∧ σ.1 3 0 ≤ 40) ∧ σ.1 3 1 = nI ss ∧ ss ≤ 14400 ∧ σ.1 3 2 = nI b ∧ 100 ≤ b ∧ b ≤ 999 ∧ σ.1 18 4 = σ.1 3 2 ∧ σ.1 18 5 = σ.1 3 5
def stN (V : Nat → Nat → Int32) (nt hh : Nat) : Nat := (cab2 V (nI hh) noM nt (strainS (V 3 1) (V 3 0))).toNatClampNeg
def hdN (V : Nat → Nat → Int32) (nt hh b : Nat) : Nat := if V 3 5 = 0 then (if stN V nt hh ≤ b then 0 else 100) else if stN V nt hh * 100 / b < 100 then stN V nt hh * 100 / b else 100
theorem hd_le (V : Nat → Nat → Int32) (nt hh b : Nat) : hdN V nt hh b ≤ 100 := by
  unfold hdN
  split
  · split <;> omega
  · split <;> omega
theorem WH.st {σ : St} {nt hh ss b : Nat} (h : WH σ nt hh ss b) : cab2 σ.1 (nI hh) noM nt (strainS (σ.1 3 1) (σ.1 3 0)) = nI (stN σ.1 nt hh) ∧ stN σ.1 nt hh ≤ 19989504 := by
  obtain ⟨hR, hl, hs, hs2, -⟩ := h
  obtain ⟨n, e1, e2⟩ := strain_nat hR.2.2.1 hs2 hl
  unfold stN
  rw [hs, e1, nI_clamp (by omega)]
  exact ⟨rfl, e2⟩
theorem x_breaking {σ : St} {nt hh ss b : Nat} {Φ : Int32 → St → Prop} (h : WH σ nt hh ss b) (hp : Φ (nI (hdN σ.1 nt hh b)) σ) : wX0_breakingHundredths σ 3 (nI (stN σ.1 nt hh)) Φ := by
  obtain ⟨e1, e2⟩ := h.st
  obtain ⟨hR, hl, hs, hs2, hb, hb1, hb2, h4, h5⟩ := h
  obtain ⟨hT, hM, hB, x4, x8, hl2, hsp, hL⟩ := hR
  unfold wX0_breakingHundredths
  rw [hb]
  unfold hdN at hp
  by_cases q : σ.1 3 5 = 0
  · rw [if_pos q]
    rw [if_pos q] at hp
    unfold wX0_breakingHundredths_15
    rw [hb]
    by_cases z : stN σ.1 nt hh ≤ b
    · rw [if_pos (nI_le z (by omega))]
      rw [if_pos z] at hp
      exact hp
    · rw [if_neg (nI_ge (by omega) (by omega))]
      rw [if_neg z] at hp
      exact hp
  · rw [if_neg q]
    rw [if_neg q] at hp
    rw [if_pos (show (1 : Int32) ≤ nI b from nI_le (a := 1) (by omega) (by omega))]
    refine ⟨fun z => ?_, ?_⟩
    · have := (nI_eq (b := 0) (by omega) (by omega)).mp z
      omega
    · rw [show (100 : Int32) = nI 100 from rfl, nI_mul, pk_div (by omega) (by omega) (by omega), e_min]
      have hd : stN σ.1 nt hh * 100 / b ≤ stN σ.1 nt hh * 100 := Nat.div_le_self _ _
      by_cases z : stN σ.1 nt hh * 100 / b < 100
      · rw [if_pos (nI_lt z (by omega))]
        rw [if_pos z] at hp
        exact hp
      · rw [if_neg (nI_nlt (by omega) (by omega))]
        rw [if_neg z] at hp
        exact hp
theorem m_breaks {σ : St} {nt hh ss b : Nat} {Φ : Int32 → St → Prop} (h : WH σ nt hh ss b) (hp : Φ (nI (hdN σ.1 nt hh b)) σ) : wX12_breaksBy σ Φ := by
  obtain ⟨e1, e2⟩ := h.st
  obtain ⟨hR, hl, hs, hs2, hb, hb1, hb2, h4, h5⟩ := h
  obtain ⟨hT, hM, hB, x4, x8, hl2, hsp, hL⟩ := hR
  unfold wX12_breaksBy
  rw [hl2, x8]
  refine i_strainM hM hB hL ?_
  rw [hsp, e1, h5, h4, hb]
  unfold hdN at hp
  by_cases q : σ.1 3 5 = 0
  · rw [if_pos q]
    rw [if_pos q] at hp
    by_cases z : stN σ.1 nt hh ≤ b
    · rw [if_pos (nI_le z (by omega))]
      rw [if_pos z] at hp
      exact hp
    · rw [if_neg (nI_ge (by omega) (by omega))]
      rw [if_neg z] at hp
      exact hp
  · rw [if_neg q]
    rw [if_neg q] at hp
    rw [nI_l (by omega), nI_l (by omega)]
    refine ⟨fun z => ?_, ?_⟩
    · have := (lN_eq (b := 0) (by omega) (by omega)).mp z
      omega
    · rw [show (100 : Int64) = lN 100 from rfl, lN_mul, lN_div (by omega) (by omega) (by omega), Nat.mul_comm 100]
      have hd : stN σ.1 nt hh * 100 / b ≤ stN σ.1 nt hh * 100 := Nat.div_le_self _ _
      rw [lN_i]
      have hc : lg_cmp (lN (stN σ.1 nt hh * 100 / b)) (lN 100) ≤ 0 ↔ stN σ.1 nt hh * 100 / b ≤ 100 := by
        rw [lg_cmp_le, lN_le (by omega) (by omega)]
      by_cases z : stN σ.1 nt hh * 100 / b < 100
      · rw [if_pos (hc.mpr (by omega))]
        rw [if_pos z] at hp
        exact hp
      · rw [if_neg z] at hp
        by_cases y : stN σ.1 nt hh * 100 / b ≤ 100
        · rw [if_pos (hc.mpr y), show stN σ.1 nt hh * 100 / b = 100 by omega]
          exact hp
        · rw [if_neg (fun z => y (hc.mp z))]
          exact hp
def redN (a b : Nat) : Nat → Nat
  | 0 => a
  | k + 1 => if k = 0 then a else if a % (k + 1) = 0 ∧ b % (k + 1) = 0 then a / (k + 1) else redN a b k
theorem x_reduced {σ : St} {a b : Nat} {Φ : Int32 → St → Prop} (ha : a ≤ 100) (hb : b ≤ 100) (hp : Φ (nI (redN a b 100)) σ) : wX11_reduced σ (nI a) (nI b) Φ := by
  have key : ∀ k, k < 100 → Φ (nI (redN a b (k + 1))) σ → wX11_reduced_3 Φ (k + 1) σ (nI a) (nI b) (nI (k + 1)) := by
    intro k
    induction k with
    | zero =>
      intro _ h
      rw [wX11_reduced_3, if_pos (show nI (0 + 1) ≤ (1 : Int32) by decide)]
      rw [redN, if_pos rfl] at h
      exact h
    | succ k ih =>
      intro hk h
      rw [wX11_reduced_3, if_neg (show ¬ nI (k + 1 + 1) ≤ (1 : Int32) from nI_ge (a := 1) (by omega) (by omega))]
      have nz : ¬ nI (k + 1 + 1) = 0 := fun z => by
        have := (nI_eq (b := 0) (by omega) (by omega)).mp z
        omega
      have step : wX11_reduced_24 (wX11_reduced_3 Φ (k + 1)) Φ σ (nI a) (nI b) (nI (k + 1 + 1)) ↔ wX11_reduced_3 Φ (k + 1) σ (nI a) (nI b) (nI (k + 1)) := by
        unfold wX11_reduced_24
        rw [show nI (k + 1 + 1) + -1 = nI (k + 1) by rw [← nI_1 (k + 1)]; grind]
      rw [redN, if_neg (by omega)] at h
      rw [pk_rem (by omega) (by omega) (by omega), pk_rem (by omega) (by omega) (by omega)]
      have l1 : a % (k + 1 + 1) ≤ a := Nat.mod_le _ _
      have l2 : b % (k + 1 + 1) ≤ b := Nat.mod_le _ _
      refine ⟨nz, ?_⟩
      by_cases q : a % (k + 1 + 1) = 0
      · rw [if_pos (show nI (a % (k + 1 + 1)) = 0 by rw [q]; rfl)]
        refine ⟨nz, ?_⟩
        by_cases r : b % (k + 1 + 1) = 0
        · rw [if_pos (show nI (b % (k + 1 + 1)) = 0 by rw [r]; rfl), pk_div (by omega) (by omega) (by omega)]
          rw [if_pos ⟨q, r⟩] at h
          exact ⟨nz, h⟩
        · rw [if_neg (show ¬ nI (b % (k + 1 + 1)) = 0 from fun z => r ((nI_eq (b := 0) (by omega) (by omega)).mp z))]
          rw [if_neg (fun z => r z.2)] at h
          have h9 := ih (by omega) h
          rw [step]; exact h9
      · rw [if_neg (show ¬ nI (a % (k + 1 + 1)) = 0 from fun z => q ((nI_eq (b := 0) (by omega) (by omega)).mp z))]
        rw [if_neg (fun z => q z.1)] at h
        have h9 := ih (by omega) h
        rw [step]; exact h9
  exact ⟨100, key 99 (by omega) hp⟩
theorem x_power {σ : St} {a N : Nat} {Φ : Int64 → St → Prop} (ha : a ≤ 100) (hN : N ≤ 100) (hp : Φ (lN (a ^ N)) σ) : wX11_power σ (nI a) (nI N) Φ := by
  have key : ∀ m i, i + m = N → wX11_power_5 Φ (m + 1) σ (nI a) (nI N) (lN (a ^ i)) (nI i) := by
    intro m
    induction m with
    | zero =>
      intro i hi
      have : i = N := by omega
      subst this
      rw [wX11_power_5, if_pos (nI_le (Nat.le_refl _) (by omega))]
      exact hp
    | succ m ih =>
      intro i hi
      rw [wX11_power_5, if_neg (nI_ge (by omega) (by omega)), nI_l (by omega), lN_mul, nI_1, ← Nat.pow_succ]
      exact ih (i + 1) (by omega)
  exact ⟨N + 1, key N 0 (by omega)⟩
theorem lN_z {y : Nat} (hy : y < 2 ^ 63) : lN y = 0 ↔ y = 0 := by
  constructor
  · intro e
    have := congrArg Int64.toInt e
    rw [lN_toB hy, show (0 : Int64).toInt = 0 by decide] at this
    omega
  · rintro rfl
    rfl
theorem m_lowest {σ : St} {A B G : Nat} {v4 : Int32} {Φ : Int64 → St → Prop} (hA : A < 2 ^ 63) (hB : B < 2 ^ 63) (hG : 0 < G) (hp : Φ (lN (if v4 = 0 then A / G else B / G)) σ) :
    ∀ y x, x < 2 ^ 63 → y < 2 ^ 63 → Nat.gcd x y = G → ∃ n, wX12_lowest_6 Φ n σ (lN A) (lN B) v4 (lN x) (lN y) := by
  intro y
  induction y using Nat.strongRecOn with
  | ind y ih =>
    intro x hx hy hg
    by_cases q : y = 0
    · subst q
      rw [Nat.gcd_zero_right] at hg
      subst hg
      refine ⟨1, ?_⟩
      rw [wX12_lowest_6, if_pos (by rw [lg_cmp_eq]; rfl), lN_div hA hG hx, lN_div hB hG hx]
      have nz : ¬ lN x = 0 := fun z => by
        have := (lN_z hx).mp z
        omega
      by_cases r : v4 = 0
      · rw [if_pos r]; rw [if_pos r] at hp; exact ⟨nz, hp⟩
      · rw [if_neg r]; rw [if_neg r] at hp; exact ⟨nz, hp⟩
    · have hlt : x % y < y := Nat.mod_lt _ (by omega)
      obtain ⟨n, hn⟩ := ih (x % y) hlt y hy (by omega) (by rw [Nat.gcd_comm, ← Nat.gcd_rec, Nat.gcd_comm]; exact hg)
      refine ⟨n + 1, ?_⟩
      rw [wX12_lowest_6, if_neg (by rw [lg_cmp_eq]; exact fun z => q ((lN_z hy).mp z)), lN_rem hx (by omega) hy]
      exact ⟨fun z => q ((lN_z hy).mp z), hn⟩
def lastR (H N : Nat) (v : Int32) : Int64 := if v = 0 then lN (redN (100 - H) 100 100 ^ N) else lN (redN 100 (100 - H) 100 ^ N)
theorem last0 : ∀ a, a < 101 → ∀ N, N < 5 → a ^ N / Nat.gcd (a ^ N) (100 ^ N) = redN a 100 100 ^ N := by decide +kernel
theorem last1 : ∀ a, a < 101 → ∀ N, N < 5 → 100 ^ N / Nat.gcd (a ^ N) (100 ^ N) = redN 100 a 100 ^ N := by decide +kernel
theorem x_lastsC {σ : St} {nt hh ss b N : Nat} {v : Int32} {Φ : Int64 → St → Prop} (h : WH σ nt hh ss b) (hw : σ.1 3 6 = 0) (hN : 1 ≤ N ∧ N ≤ 4) (hv : 0 ≤ v ∧ v ≤ 1) (hp : Φ (lastR (hdN σ.1 nt hh b) N v) σ) : wX11_lasts σ (nI N) v Φ := by
  unfold wX11_lasts
  rw [if_neg (show ¬ nI N < 1 from nI_nlt (b := 1) (by omega) (by omega)), if_neg (show ¬ (4 : Int32) < nI N from nI_nlt (a := 4) (by omega) (by omega)), if_neg (show ¬ v < 0 by grind), if_pos hv.2, e_isWhole]
  have l0 : 0 < σ.1 3 0 := by have := h.2.1.1; grind
  rw [if_pos (show 0 < σ.1 3 0 ∧ σ.1 3 6 = 0 from ⟨l0, hw⟩), if_neg (by decide)]
  refine i_strainNow h.1.1 h.1.2.2.1 h.1.2.2.2.1 ?_
  rw [h.st.1]
  refine x_breaking h ?_
  have hle := hd_le σ.1 nt hh b
  rw [show (100 : Int32) = nI 100 from rfl, nI_sub hle]
  unfold lastR at hp
  unfold wX11_lasts_78
  have r1 : ∀ a, a < 101 → redN a 100 100 ≤ 100 := by decide +kernel
  have r2 : ∀ a, a < 101 → redN 100 a 100 ≤ 100 := by decide +kernel
  by_cases q : v = 0
  · rw [if_pos q]
    rw [if_pos q] at hp
    exact x_reduced (by omega) (by omega) (x_power (r1 _ (by omega)) (by omega) hp)
  · rw [if_neg q]
    rw [if_neg q] at hp
    exact x_reduced (by omega) (by omega) (x_power (r2 _ (by omega)) (by omega) hp)
theorem m_lastsNow {σ : St} {nt hh ss b N : Nat} {v : Int32} {Φ : Int64 → St → Prop} (h : WH σ nt hh ss b) (hN : 1 ≤ N ∧ N ≤ 4) (hp : Φ (lastR (hdN σ.1 nt hh b) N v) σ) : wX12_lastsNow σ (nI N) v Φ := by
  have hle := hd_le σ.1 nt hh b
  obtain ⟨a, ea⟩ : ∃ a, a = 100 - hdN σ.1 nt hh b := ⟨_, rfl⟩
  have ha : a < 101 := by omega
  have key : ∀ m i, i + m = N → wX12_lastsNow_8 Φ (m + 1) σ (nI N) v (lN (a ^ i)) (lN (100 ^ i)) (nI i) := by
    intro m
    induction m with
    | zero =>
      intro i hi
      have : i = N := by omega
      subst this
      rw [wX12_lastsNow_8, if_pos (nI_le (Nat.le_refl _) (by omega))]
      have bA : a ^ i ≤ 100 ^ i := Nat.pow_le_pow_left (by omega) i
      have bB : 100 ^ i ≤ 100 ^ 4 := Nat.pow_le_pow_right (by omega) hN.2
      have bP : 0 < 100 ^ i := Nat.pow_pos (by omega)
      refine m_lowest (A := a ^ i) (B := 100 ^ i) (G := Nat.gcd (a ^ i) (100 ^ i)) (by omega) (by omega) (Nat.gcd_pos_of_pos_right _ bP) ?_ (100 ^ i) (a ^ i) (by omega) (by omega) rfl
      unfold lastR at hp
      rw [← ea] at hp
      by_cases q : v = 0
      · rw [if_pos q, last0 a ha i (by omega)]; rw [if_pos q] at hp; exact hp
      · rw [if_neg q, last1 a ha i (by omega)]; rw [if_neg q] at hp; exact hp
    | succ m ih =>
      intro i hi
      rw [wX12_lastsNow_8, if_neg (nI_ge (by omega) (by omega))]
      refine m_breaks h ?_
      rw [show (100 : Int32) = nI 100 from rfl, nI_sub hle, ← ea, nI_l (by omega), lN_mul, show (100 : Int64) = lN 100 from rfl, lN_mul, nI_1, ← Nat.pow_succ, ← Nat.pow_succ]
      exact ih (i + 1) (by omega)
  exact ⟨N + 1, key N 0 (by omega)⟩
theorem st_lasts {j : Nat} {σ : St} {a1 a2 a3 : Int32} (hj : j < 512) (h : InvX j σ) : wL_16 σ a1 a2 a3 (InvX (j + 1)) := by
  have hn := inv_next h Sim.rfl'
  obtain ⟨np, nt, nk, w, hh, h1, h2, h3, h4, h5, h6⟩ := h
  have hR := inv_rdy (by omega) h2 h4
  obtain ⟨q5, q6, e4, e5, e6, e7, -⟩ := inv_eqs h1 h2 h3 h5
  unfold wL_16
  by_cases c1 : 1 ≤ a1 ∧ a1 ≤ 4
  · by_cases c2 : 0 ≤ a2 ∧ a2 ≤ 1
    · rcases h2.2.2.2.2.2 with ⟨g0, g1, -⟩ | ⟨g0, g1, s, b, p, g2, g3, g4, g5, g6, g7, g8⟩
      · unfold wX11_lasts
        rw [if_neg (show ¬ a1 < 1 by grind), if_neg (show ¬ 4 < a1 by grind), if_neg (show ¬ a2 < 0 by grind), if_pos c2.2, e_isWhole]
        rw [if_neg (show ¬ (0 < σ.1 3 0 ∧ σ.1 3 6 = 0) from fun q => by rw [show σ.1 3 0 = 0 from g1] at q; exact absurd q.1 (by decide)), if_pos rfl]
        unfold wX12_lasts
        dsimp only
        rw [e_within, if_pos c1, if_neg (by decide), e_within, if_pos c2, if_neg (by decide), if_pos (show σ.1 18 0 = 0 from g0)]
        exact fin_okL rfl hn
      · have w0 : ¬ σ.1 18 0 = 0 := by rw [show σ.1 18 0 = 1 from g0]; decide
        have hW : WH σ nt hh s b := ⟨hR, g1, g2, g3, g4, g5, g6, e4, e5⟩
        by_cases hbr : σ.1 3 6 = 0
        · obtain ⟨N, rfl, n1, n2⟩ := bound_nat (lo := 1) (hi := 4) c1.1 c1.2 (by omega) (by omega)
          refine x_lastsC hW hbr ⟨n1, n2⟩ c2 ?_
          unfold wX12_lasts
          rw [e_within, if_pos c1, if_neg (by decide), e_within, if_pos c2, if_neg (by decide), if_neg w0, if_pos (e6.trans hbr)]
          exact m_lastsNow hW ⟨n1, n2⟩ (fin_okL rfl hn)
        · unfold wX11_lasts
          rw [if_neg (show ¬ a1 < 1 by grind), if_neg (show ¬ 4 < a1 by grind), if_neg (show ¬ a2 < 0 by grind), if_pos c2.2, e_isWhole]
          rw [if_neg (show ¬ (0 < σ.1 3 0 ∧ σ.1 3 6 = 0) from fun q => hbr q.2), if_pos rfl]
          unfold wX12_lasts
          dsimp only
          rw [e_within, if_pos c1, if_neg (by decide), e_within, if_pos c2, if_neg (by decide), if_neg w0, if_neg (show ¬ σ.1 18 6 = 0 by rw [e6]; exact hbr)]
          exact fin_okL rfl hn
    · have m : wX12_lasts σ a1 a2 (fun r2 σ2 => if lg_cmp (-102 : Int64) r2 = 0 then InvX (j + 1) σ2 else False) := by
        unfold wX12_lasts
        rw [e_within, if_pos c1, if_neg (by decide), e_within, if_neg c2, if_pos rfl]
        exact fin_okL rfl hn
      unfold wX11_lasts
      rw [if_neg (show ¬ a1 < 1 by grind), if_neg (show ¬ 4 < a1 by grind)]
      by_cases q : a2 < 0
      · rw [if_pos q]; exact m
      · rw [if_neg q, if_neg (show ¬ a2 ≤ 1 by grind)]; exact m
  · have m : wX12_lasts σ a1 a2 (fun r2 σ2 => if lg_cmp (-102 : Int64) r2 = 0 then InvX (j + 1) σ2 else False) := by
      unfold wX12_lasts
      rw [e_within, if_neg c1, if_pos rfl]
      exact fin_okL rfl hn
    unfold wX11_lasts
    by_cases q : a1 < 1
    · rw [if_pos q]; exact m
    · rw [if_neg q, if_pos (show 4 < a1 by grind)]; exact m
