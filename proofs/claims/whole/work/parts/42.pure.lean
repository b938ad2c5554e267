/-! PURE PART 13: fits -/
def loN (L T : Nat → Nat) : Nat → Nat
  | 0 => 1
  | n + 1 => if loN L T n < T n * L n * L n then T n * L n * L n else loN L T n
def hiN (L T : Nat → Nat) : Nat → Nat
  | 0 => 14400
  | n + 1 => if (T n + 1) * L n * L n - 1 < hiN L T n then (T n + 1) * L n * L n - 1 else hiN L T n
def FT (σ : St) (nk : Nat) (L T : Nat → Nat) : Prop := nk ≤ 6 ∧ σ.1 7 2 = nI nk ∧ σ.1 18 14 = nI nk ∧ ∀ i, i < nk → σ.1 8 i = nI (L i) ∧ σ.1 9 i = nI (T i) ∧ σ.1 23 i = nI (L i) ∧ σ.1 24 i = nI (T i) ∧ 10 ≤ L i ∧ L i ≤ 40 ∧ T i ≤ 99
theorem lq_bd {l t : Nat} (h1 : l ≤ 40) (h2 : t ≤ 99) : t * l * l ≤ 160000 ∧ (t + 1) * l * l ≤ 160000 := by
  have a : t * l ≤ 99 * 40 := Nat.mul_le_mul h2 h1
  have b : (t + 1) * l ≤ 100 * 40 := Nat.mul_le_mul (by omega) h1
  have c : t * l * l ≤ 99 * 40 * 40 := Nat.mul_le_mul a h1
  have d : (t + 1) * l * l ≤ 100 * 40 * 40 := Nat.mul_le_mul b h1
  exact ⟨by omega, by omega⟩
theorem lq_pos {l t : Nat} (h1 : 10 ≤ l) : 100 ≤ (t + 1) * l * l := by
  have a : 1 * 10 ≤ (t + 1) * l := Nat.mul_le_mul (by omega) h1
  have b : 1 * 10 * 10 ≤ (t + 1) * l * l := Nat.mul_le_mul a h1
  omega
theorem lo_bd {L T : Nat → Nat} : ∀ {n : Nat}, (∀ i, i < n → 10 ≤ L i ∧ L i ≤ 40 ∧ T i ≤ 99) → 1 ≤ loN L T n ∧ loN L T n ≤ 160000
  | 0, _ => ⟨Nat.le_refl _, by unfold loN; omega⟩
  | n + 1, h => by
    have ih := lo_bd (L := L) (T := T) (n := n) (fun i hi => h i (by omega))
    obtain ⟨h1, h2, h3⟩ := h n (by omega)
    have := lq_bd h2 h3
    unfold loN
    split
    · omega
    · exact ih
theorem hi_bd {L T : Nat → Nat} : ∀ {n : Nat}, (∀ i, i < n → 10 ≤ L i ∧ L i ≤ 40 ∧ T i ≤ 99) → hiN L T n ≤ 14400
  | 0, _ => Nat.le_refl _
  | n + 1, h => by
    have ih := hi_bd (L := L) (T := T) (n := n) (fun i hi => h i (by omega))
    unfold hiN
    split
    · omega
    · exact ih
theorem x_least {σ : St} {nk : Nat} {L T : Nat → Nat} {Φ : Int32 → St → Prop} (h : FT σ nk L T) (hp : Φ (nI (loN L T nk)) σ) : wX10_leastSpin σ Φ := by
  obtain ⟨h6, hn, -, hi⟩ := h
  have key : ∀ m i, i + m = nk → wX10_leastSpin_4 Φ (m + 1) σ (nI (loN L T i)) (nI i) := by
    intro m
    induction m with
    | zero =>
      intro i hi'
      have : i = nk := by omega
      subst this
      rw [wX10_leastSpin_4, hn, if_pos (nI_le (Nat.le_refl _) (by omega))]
      exact hp
    | succ m ih =>
      intro i hi'
      have ih' := ih (i + 1) (by omega)
      obtain ⟨d1, d2, -, -, d3, d4, d5⟩ := hi i (by omega)
      have hin : vp_in (nI i) 6 := vp_in_nI (by omega) (by omega)
      have n6 : ¬ (6 : Int32) ≤ nI i := nI_ge (b := 6) (by omega) (by omega)
      rw [wX10_leastSpin_4, hn, if_neg (nI_ge (by omega) (by omega)), if_neg n6, if_neg n6, nI_clamp (by omega), d1, d2, nI_mul, nI_mul]
      refine ⟨hin, hin, hin, ?_⟩
      have b1 := lo_bd (L := L) (T := T) (n := i) (fun i' hi2 => (hi i' (by omega)).2.2.2.2)
      have b2 := lq_bd d4 d5
      unfold wJ9_max_7cf53
      rw [nI_1]
      by_cases q : loN L T i < T i * L i * L i
      · rw [if_pos (nI_lt q (by omega))]
        rw [loN, if_pos q] at ih'
        exact ih'
      · rw [if_neg (nI_nlt (by omega) (by omega))]
        rw [loN, if_neg q] at ih'
        exact ih'
  exact ⟨nk + 1, key nk 0 (by omega)⟩
theorem x_great {σ : St} {nk : Nat} {L T : Nat → Nat} {Φ : Int32 → St → Prop} (h : FT σ nk L T) (hp : Φ (nI (hiN L T nk)) σ) : wX10_greatestSpin σ Φ := by
  obtain ⟨h6, hn, -, hi⟩ := h
  have key : ∀ m i, i + m = nk → wX10_greatestSpin_6 Φ (m + 1) σ (nI (hiN L T i)) (nI i) := by
    intro m
    induction m with
    | zero =>
      intro i hi'
      have : i = nk := by omega
      subst this
      rw [wX10_greatestSpin_6, hn, if_pos (nI_le (Nat.le_refl _) (by omega))]
      exact hp
    | succ m ih =>
      intro i hi'
      have ih' := ih (i + 1) (by omega)
      obtain ⟨d1, d2, -, -, d3, d4, d5⟩ := hi i (by omega)
      have hin : vp_in (nI i) 6 := vp_in_nI (by omega) (by omega)
      have n6 : ¬ (6 : Int32) ≤ nI i := nI_ge (b := 6) (by omega) (by omega)
      have b1 := hi_bd (L := L) (T := T) (n := i) (fun i' hi2 => (hi i' (by omega)).2.2.2.2)
      have b2 := lq_bd d4 d5
      have b3 := lq_pos (t := T i) d3
      rw [wX10_greatestSpin_6, hn, if_neg (nI_ge (by omega) (by omega)), if_neg n6, if_neg n6, nI_clamp (by omega), d1, d2, nI_1, nI_1, nI_mul, nI_mul, show (1 : Int32) = nI 1 from rfl, nI_sub (by omega)]
      refine ⟨hin, hin, hin, ?_⟩
      rw [e_min]
      by_cases q : (T i + 1) * L i * L i - 1 < hiN L T i
      · rw [if_pos (nI_lt q (by omega))]
        rw [hiN, if_pos q] at ih'
        exact ih'
      · rw [if_neg (nI_nlt (by omega) (by omega))]
        rw [hiN, if_neg q] at ih'
        exact ih'
  exact ⟨nk + 1, key nk 0 (by omega)⟩
def fitR (A B : Nat) (v : Int32) : Int32 := if v = 0 then (if A ≤ B then nI (B - A + 1) else 0) else if A ≤ B then (if v = 1 then nI A else nI B) else -1
theorem FT.ab {σ : St} {nk : Nat} {L T : Nat → Nat} (h : FT σ nk L T) : 1 ≤ loN L T nk ∧ loN L T nk ≤ 160000 ∧ hiN L T nk ≤ 14400 := by
  have a := lo_bd (L := L) (T := T) (n := nk) (fun i hi => (h.2.2.2 i hi).2.2.2.2)
  have b := hi_bd (L := L) (T := T) (n := nk) (fun i hi => (h.2.2.2 i hi).2.2.2.2)
  exact ⟨a.1, a.2, b⟩
theorem x_fits {σ : St} {nk : Nat} {L T : Nat → Nat} {v : Int32} {Φ : Int32 → St → Prop} (h : FT σ nk L T) (hv : 0 ≤ v ∧ v ≤ 2) (hp : Φ (fitR (loN L T nk) (hiN L T nk) v) σ) : wX11_fits σ v Φ := by
  unfold wX11_fits
  rw [if_neg (show ¬ v < 0 by grind), if_pos hv.2]
  refine x_least h (x_great h ?_)
  obtain ⟨a1, a2, b1⟩ := h.ab
  unfold fitR at hp
  by_cases v0 : v = 0
  · rw [if_pos v0]
    rw [if_pos v0] at hp
    by_cases q : loN L T nk ≤ hiN L T nk
    · rw [if_pos (nI_le q (by omega)), nI_sub q, nI_1]
      rw [if_pos q] at hp
      exact hp
    · rw [if_neg (nI_ge (by omega) (by omega))]
      rw [if_neg q] at hp
      exact hp
  · rw [if_neg v0]
    rw [if_neg v0] at hp
    by_cases q : loN L T nk ≤ hiN L T nk
    · rw [if_pos (nI_le q (by omega))]
      rw [if_pos q] at hp
      by_cases v1 : v = 1
      · rw [if_pos v1]; rw [if_pos v1] at hp; exact hp
      · rw [if_neg v1]; rw [if_neg v1] at hp; exact hp
    · rw [if_neg (nI_ge (by omega) (by omega))]
      rw [if_neg q] at hp
      exact hp
/-! the reference's scan -/
theorem div_in {s k t : Nat} (hk : 0 < k) : s / k = t ↔ t * k ≤ s ∧ s < (t + 1) * k := by
  have a := Nat.le_div_iff_mul_le (x := t) (y := s) hk
  have b := Nat.div_lt_iff_lt_mul (x := s) (y := t + 1) hk
  constructor
  · rintro rfl
    exact ⟨a.mp (Nat.le_refl _), b.mp (Nat.lt_succ_self _)⟩
  · rintro ⟨c, d⟩
    have e := a.mpr c
    have f := b.mpr d
    omega
theorem ok_iff {L T : Nat → Nat} {s : Nat} (hs : 1 ≤ s ∧ s ≤ 14400) : ∀ {n : Nat}, (∀ i, i < n → 10 ≤ L i ∧ L i ≤ 40 ∧ T i ≤ 99) → ((∀ i, i < n → s / (L i * L i) = T i) ↔ loN L T n ≤ s ∧ s ≤ hiN L T n)
  | 0, _ => by
    unfold loN hiN
    exact ⟨fun _ => hs, fun _ i hi => by omega⟩
  | n + 1, h => by
    have ih := ok_iff (L := L) (T := T) hs (n := n) (fun i hi => h i (by omega))
    obtain ⟨h1, h2, h3⟩ := h n (by omega)
    have hk : 0 < L n * L n := Nat.mul_pos (by omega) (by omega)
    have b3 := lq_pos (t := T n) h1
    have hd := div_in (s := s) (t := T n) hk
    rw [← Nat.mul_assoc, ← Nat.mul_assoc] at hd
    have split1 : (∀ i, i < n + 1 → s / (L i * L i) = T i) ↔ (∀ i, i < n → s / (L i * L i) = T i) ∧ s / (L n * L n) = T n := by
      constructor
      · intro a
        exact ⟨fun i hi => a i (by omega), a n (by omega)⟩
      · rintro ⟨a, b⟩ i hi
        by_cases q : i = n
        · subst q; exact b
        · exact a i (by omega)
    rw [split1, ih, hd, loN, hiN]
    by_cases q1 : loN L T n < T n * L n * L n <;> by_cases q2 : (T n + 1) * L n * L n - 1 < hiN L T n
    · rw [if_pos q1, if_pos q2]; omega
    · rw [if_pos q1, if_neg q2]; omega
    · rw [if_neg q1, if_pos q2]; omega
    · rw [if_neg q1, if_neg q2]; omega
theorem m_fitsIn {σ : St} {nk : Nat} {L T : Nat → Nat} {s : Nat} {v1 v2 v3 v4 : Int32} {K : St → Int32 → Int32 → Int32 → Int32 → Int32 → Prop} {Φ : Int32 → St → Prop} (h : FT σ nk L T) (hs : 1 ≤ s ∧ s ≤ 14400)
    (hp : K σ v1 (v2 + if loN L T nk ≤ s ∧ s ≤ hiN L T nk then 1 else 0) (if loN L T nk ≤ s ∧ s ≤ hiN L T nk then (if v3 = -1 then nI s else v3) else v3) (if loN L T nk ≤ s ∧ s ≤ hiN L T nk then nI s else v4) (nI (s + 1))) :
    ∃ n0, wX12_fitsNow_24 K Φ n0 σ v1 v2 v3 v4 (nI s) 1 0 := by
  obtain ⟨h6, -, hn, hi⟩ := h
  have hall : ∀ i, i < nk → 10 ≤ L i ∧ L i ≤ 40 ∧ T i ≤ 99 := fun i h => (hi i h).2.2.2.2
  have key : ∀ m i, i + m = nk → wX12_fitsNow_24 K Φ (m + 1) σ v1 v2 v3 v4 (nI s) (if loN L T i ≤ s ∧ s ≤ hiN L T i then 1 else 0) (nI i) := by
    intro m
    induction m with
    | zero =>
      intro i hi'
      have : i = nk := by omega
      subst this
      rw [wX12_fitsNow_24, hn, if_pos (nI_le (Nat.le_refl _) (by omega))]
      unfold wX12_fitsNow_90 wX12_fitsNow_107 wX12_fitsNow_108 wX12_fitsNow_121
      by_cases q : loN L T i ≤ s ∧ s ≤ hiN L T i
      · have z1 : ¬ (1 : Int32) = 0 := by decide
        by_cases q3 : v3 = -1
        · simp only [if_pos q, if_pos q3, if_neg z1, nI_1] at hp ⊢; exact hp
        · simp only [if_pos q, if_neg q3, if_neg z1, nI_1] at hp ⊢; exact hp
      · simp only [if_neg q, nI_1, if_true] at hp ⊢
        exact hp
    | succ m ih =>
      intro i hi'
      have ih' := ih (i + 1) (by omega)
      obtain ⟨-, -, d1, d2, d3, d4, d5⟩ := hi i (by omega)
      have hin : vp_in (nI i) 6 := vp_in_nI (by omega) (by omega)
      rw [wX12_fitsNow_24, hn, if_neg (nI_ge (by omega) (by omega)), nI_clamp (by omega), d1, d2, nI_mul]
      have e0 := ok_iff (L := L) (T := T) hs (n := i) (fun i' h => hall i' (by omega))
      have e1 := ok_iff (L := L) (T := T) hs (n := i + 1) (fun i' h => hall i' (by omega))
      have hk : 100 ≤ L i * L i := Nat.mul_le_mul d3 d3
      have hk2 : L i * L i ≤ 40 * 40 := Nat.mul_le_mul d4 d4
      have hd : s / (L i * L i) ≤ s := Nat.div_le_self _ _
      by_cases q : loN L T i ≤ s ∧ s ≤ hiN L T i
      · rw [if_pos q, if_neg (by decide)]
        refine ⟨hin, hin, fun z => ?_, hin, ?_⟩
        · have := (nI_eq (b := 0) (by omega) (by omega)).mp z
          omega
        · rw [pk_div (by omega) (by omega) (by omega)]
          unfold wX12_fitsNow_70 wX12_fitsNow_71
          rw [nI_1]
          by_cases r : s / (L i * L i) = T i
          · rw [if_pos (by rw [r])]
            have : loN L T (i + 1) ≤ s ∧ s ≤ hiN L T (i + 1) := e1.mp (fun i' h => by
              by_cases z : i' = i
              · subst z; exact r
              · exact e0.mpr q i' (by omega))
            rw [if_pos this] at ih'
            exact ih'
          · rw [if_neg (fun z => r ((nI_eq (by omega) (by omega)).mp z))]
            have : ¬ (loN L T (i + 1) ≤ s ∧ s ≤ hiN L T (i + 1)) := fun z => r (e1.mpr z i (by omega))
            rw [if_neg this] at ih'
            exact ih'
      · rw [if_neg q, if_pos rfl]
        unfold wX12_fitsNow_70 wX12_fitsNow_71
        rw [nI_1]
        have : ¬ (loN L T (i + 1) ≤ s ∧ s ≤ hiN L T (i + 1)) := fun z => q (e0.mp (fun i' h => e1.mpr z i' (by omega)))
        rw [if_neg this] at ih'
        exact ih'
  refine ⟨nk + 1, ?_⟩
  have k0 := key nk 0 (by omega)
  rw [if_pos (by unfold loN hiN; exact hs)] at k0
  exact k0
def cntS (A B S : Nat) : Nat := (if S < B then S else B) + 1 - A
def fstS (A B S : Nat) : Int32 := if A ≤ (if S < B then S else B) then nI A else -1
def lstS (A B S : Nat) : Int32 := if A ≤ (if S < B then S else B) then nI (if S < B then S else B) else -1
theorem nI_nm1 {a : Nat} (h : a < 2 ^ 31) : ¬ nI a = -1 := fun e => by
  have : (nI a).toInt = (-1 : Int32).toInt := by rw [e]
  rw [nI_toInt h] at this
  have e2 : (-1 : Int32).toInt = -1 := by decide
  omega
theorem m_fitsNow {σ : St} {nk : Nat} {L T : Nat → Nat} {v : Int32} {Φ : Int32 → St → Prop} (h : FT σ nk L T) (hp : Φ (fitR (loN L T nk) (hiN L T nk) v) σ) : wX12_fitsNow σ v Φ := by
  obtain ⟨a1, a2, b1⟩ := h.ab
  have key : ∀ m S, S + m = 14400 → wX12_fitsNow_10 Φ (m + 1) σ v (nI (cntS (loN L T nk) (hiN L T nk) S)) (fstS (loN L T nk) (hiN L T nk) S) (lstS (loN L T nk) (hiN L T nk) S) (nI (S + 1)) := by
    intro m
    induction m with
    | zero =>
      intro S hS
      have : S = 14400 := by omega
      subst this
      rw [wX12_fitsNow_10, if_pos (show (14400 : Int32) < nI (14400 + 1) by decide)]
      unfold fitR at hp
      unfold cntS fstS lstS
      have e : (if 14400 < hiN L T nk then 14400 else hiN L T nk) = hiN L T nk := if_neg (by omega)
      rw [e]
      by_cases v0 : v = 0
      · rw [if_pos v0]
        rw [if_pos v0] at hp
        by_cases q : loN L T nk ≤ hiN L T nk
        · rw [if_pos q] at hp
          rw [show hiN L T nk + 1 - loN L T nk = hiN L T nk - loN L T nk + 1 by omega]
          exact hp
        · rw [if_neg q] at hp
          rw [show hiN L T nk + 1 - loN L T nk = 0 by omega]
          exact hp
      · rw [if_neg v0]
        rw [if_neg v0] at hp
        by_cases q : loN L T nk ≤ hiN L T nk
        · rw [if_pos q] at hp ⊢
          rw [if_pos q]
          exact (by by_cases v1 : v = 1; · rw [if_pos v1] at hp ⊢; exact hp
                    · rw [if_neg v1] at hp ⊢; exact hp)
        · rw [if_neg q] at hp ⊢
          rw [if_neg q]
          exact (by by_cases v1 : v = 1; · rw [if_pos v1]; exact hp
                    · rw [if_neg v1]; exact hp)
    | succ m ih =>
      intro S hS
      have ih' := ih (S + 1) (by omega)
      rw [wX12_fitsNow_10, if_neg (show ¬ (14400 : Int32) < nI (S + 1) from nI_nlt (b := S + 1) (a := 14400) (by omega) (by omega))]
      refine m_fitsIn h ⟨by omega, by omega⟩ ?_
      obtain ⟨A, eA⟩ : ∃ A, A = loN L T nk := ⟨_, rfl⟩
      obtain ⟨B, eB⟩ : ∃ B, B = hiN L T nk := ⟨_, rfl⟩
      rw [← eA, ← eB] at ih' ⊢
      rw [← eA] at a1 a2
      rw [← eB] at b1
      by_cases q : A ≤ S + 1 ∧ S + 1 ≤ B
      · rw [if_pos q, if_pos q, if_pos q]
        have c1 : nI (cntS A B S) + 1 = nI (cntS A B (S + 1)) := by
          rw [nI_1]
          unfold cntS
          congr 1
          rw [if_pos (by omega)]
          split <;> omega
        have c2 : (if fstS A B S = -1 then nI (S + 1) else fstS A B S) = fstS A B (S + 1) := by
          unfold fstS
          rw [if_pos (show S < B by omega)]
          rw [if_pos (show A ≤ (if S + 1 < B then S + 1 else B) by split <;> omega)]
          by_cases z : A ≤ S
          · rw [if_pos z, if_neg (nI_nm1 (by omega))]
          · rw [if_neg z, if_pos rfl]
            congr 1
            omega
        have c3 : nI (S + 1) = lstS A B (S + 1) := by
          unfold lstS
          rw [if_pos (show A ≤ (if S + 1 < B then S + 1 else B) by split <;> omega)]
          congr 1
          split <;> omega
        rw [c1, c2]
        rw [← c3] at ih'
        exact ih'
      · rw [if_neg q, if_neg q, if_neg q, Int32.add_zero]
        have c1 : cntS A B (S + 1) = cntS A B S := by
          unfold cntS
          split <;> split <;> omega
        have c2 : fstS A B (S + 1) = fstS A B S := by
          unfold fstS
          by_cases z : A ≤ (if S < B then S else B)
          · rw [if_pos z, if_pos (by split <;> split at z <;> omega)]
          · rw [if_neg z, if_neg (by split <;> split at z <;> omega)]
        have c3 : lstS A B (S + 1) = lstS A B S := by
          unfold lstS
          by_cases z : A ≤ (if S < B then S else B)
          · have hb : ¬ S < B := by split at z <;> omega
            rw [if_neg hb] at z
            rw [if_neg hb, if_neg (show ¬ S + 1 < B by omega)]
          · rw [if_neg z, if_neg (by split <;> split at z <;> omega)]
        rw [c1, c2, c3] at ih'
        exact ih'
  refine ⟨14401, ?_⟩
  have k0 := key 14400 0 (by omega)
  have z1 : cntS (loN L T nk) (hiN L T nk) 0 = 0 := by unfold cntS; split <;> omega
  have z2 : fstS (loN L T nk) (hiN L T nk) 0 = -1 := by unfold fstS; rw [if_neg (by split <;> omega)]
  have z3 : lstS (loN L T nk) (hiN L T nk) 0 = -1 := by unfold lstS; rw [if_neg (by split <;> omega)]
  rw [z1, z2, z3] at k0
  exact k0
theorem inv_ft {σ : St} {nk : Nat} (h5 : ITd (cl σ.1) nk) : FT σ nk (fun i => (σ.1 23 i).toNatClampNeg) (fun i => (σ.1 24 i).toNatClampNeg) := by
  obtain ⟨d1, d2, d3, d4⟩ := h5
  refine ⟨d1, d2, d3, fun i hi => ?_⟩
  obtain ⟨f1, f2, l, t, f3, f4, f5, f6, f7⟩ := d4 i hi
  have f3' : σ.1 23 i = nI l := f3
  have f6' : σ.1 24 i = nI t := f6
  have f1' : σ.1 8 i = σ.1 23 i := f1
  have f2' : σ.1 9 i = σ.1 24 i := f2
  dsimp only
  rw [f1', f2', f3', f6', nI_clamp (by omega), nI_clamp (by omega)]
  exact ⟨rfl, rfl, rfl, rfl, f4, f5, f7⟩
theorem st_fits {j : Nat} {σ : St} {a1 a2 a3 : Int32} (hj : j < 512) (h : InvX j σ) : wL_15 σ a1 a2 a3 (InvX (j + 1)) := by
  have hn := inv_next h Sim.rfl'
  obtain ⟨np, nt, nk, w, hh, h1, h2, h3, h4, h5, h6⟩ := h
  have hF := inv_ft h5
  unfold wL_15
  by_cases c : 0 ≤ a1 ∧ a1 ≤ 2
  · refine x_fits hF c ?_
    unfold wX12_fits
    rw [e_within, if_pos c, if_neg (by decide)]
    exact m_fitsNow hF (fin_ok rfl hn)
  · have m : wX12_fits σ a1 (fun r2 σ2 => if (-102 : Int32) = r2 then InvX (j + 1) σ2 else False) := by
      unfold wX12_fits
      rw [e_within, if_neg c, if_pos rfl]
      exact fin_ok rfl hn
    unfold wX11_fits
    by_cases q : a1 < 0
    · rw [if_pos q]; exact m
    · rw [if_neg q, if_neg (show ¬ a1 ≤ 2 by grind)]; exact m
