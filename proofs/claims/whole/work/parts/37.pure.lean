/-! PURE PART 8: image and restore -/
def rowW (V : Nat → Nat → Int32) (k n : Nat) (f : Nat → Int32) : Nat → Nat → Int32 := fun a b => if a = k ∧ b < n then f b else V a b
theorem rowW_0 {V : Nat → Nat → Int32} {k : Nat} {f : Nat → Int32} : rowW V k 0 f = V := by
  funext a b
  unfold rowW
  rw [if_neg (by omega)]
theorem rowW_s {V : Nat → Nat → Int32} {k n : Nat} {f : Nat → Int32} : up2 (rowW V k n f) k n (f n) = rowW V k (n + 1) f := by
  funext a b
  unfold rowW up2 va_up
  by_cases h1 : a = k
  · subst h1
    by_cases h2 : b = n
    · subst h2; simp
    · simp [h2, show (b < n + 1) = (b < n) by apply propext; omega]
  · simp [h1]
theorem rowW2_s {V : Nat → Nat → Int32} {k k2 n : Nat} {f g : Nat → Int32} (hk : k ≠ k2) : up2 (up2 (rowW (rowW V k n f) k2 n g) k n (f n)) k2 n (g n) = rowW (rowW V k (n + 1) f) k2 (n + 1) g := by
  funext a b
  unfold rowW up2 va_up
  by_cases h1 : a = k
  · subst h1
    by_cases h2 : b = n
    · subst h2; simp [hk]
    · simp [hk, h2, show (b < n + 1) = (b < n) by apply propext; omega]
  · by_cases h3 : a = k2
    · subst h3
      by_cases h2 : b = n
      · subst h2; simp
      · simp [h1, h2, show (b < n + 1) = (b < n) by apply propext; omega]
    · simp [h1, h3]
theorem i_keep {σ : St} {nt : Nat} {Φ : St → Prop} (hT : ThX σ nt) (hp : Φ (rowW (up2 σ.1 4 3 (nI nt)) 6 6 (fun i => if i < nt then σ.1 21 i else 0), σ.2)) : wX6_keepPlaces σ Φ := by
  unfold wX6_keepPlaces
  rw [hT.2.1]
  have hn := hT.1
  have key : ∀ m i, i + m = 6 → wX6_keepPlaces_10 Φ (m + 1) (rowW (up2 σ.1 4 3 (nI nt)) 6 i (fun i => if i < nt then σ.1 21 i else 0), σ.2) (nI i) := by
    intro m
    induction m with
    | zero =>
      intro i hi
      have : i = 6 := by omega
      subst this
      rw [wX6_keepPlaces_10, if_pos (show (6 : Int32) ≤ nI 6 by decide)]
      exact hp
    | succ m ih =>
      intro i hi
      have ih' := ih (i + 1) (by omega)
      rw [wX6_keepPlaces_10, if_neg (show ¬ (6 : Int32) ≤ nI i from nI_ge (b := 6) (by omega) (by omega))]
      have hT' : ThX (rowW (up2 σ.1 4 3 (nI nt)) 6 i (fun i => if i < nt then σ.1 21 i else 0), σ.2) nt := hT
      have hin : vp_in (nI i) 6 := vp_in_nI (by omega) (by omega)
      by_cases hlt : i < nt
      · obtain ⟨a, ha, hX⟩ := hT'.2.2 i hlt
        refine i_at hT' hlt ha ⟨(fun e => by cases e), fun b e => ?_⟩
        cases e
        refine ⟨hX.isT, ?_⟩
        rw [hX.2.2.2.2]
        unfold wX6_keepPlaces_42
        rw [nI_clamp (by omega), nI_1]
        refine ⟨hin, ?_⟩
        rw [← rowW_s] at ih'
        simp only [if_pos hlt] at ih'
        exact ih'
      · refine i_atNo hT' (Or.inr (nI_le (by omega) (by omega))) ⟨fun _ => ?_, (fun b e => by cases e)⟩
        unfold wX6_keepPlaces_42
        rw [nI_clamp (by omega), nI_1]
        refine ⟨hin, ?_⟩
        rw [← rowW_s] at ih'
        simp only [if_neg hlt] at ih'
        exact ih'
  have k0 := key 6 0 (by omega)
  rw [rowW_0] at k0
  exact ⟨7, k0⟩
theorem i_keepM {σ : St} {Φ : Int32 → St → Prop} (hp : Φ (σ.1 18 8) (rowW (rowW σ.1 28 6 (σ.1 21)) 29 6 (σ.1 22), σ.2)) : ∃ n0, wX12_image_65 Φ n0 σ 0 := by
  have key : ∀ m i, i + m = 6 → wX12_image_65 Φ (m + 1) (rowW (rowW σ.1 28 i (σ.1 21)) 29 i (σ.1 22), σ.2) (nI i) := by
    intro m
    induction m with
    | zero =>
      intro i hi
      have : i = 6 := by omega
      subst this
      rw [wX12_image_65, if_pos (show (6 : Int32) ≤ nI 6 by decide)]
      exact hp
    | succ m ih =>
      intro i hi
      have ih' := ih (i + 1) (by omega)
      rw [wX12_image_65, if_neg (show ¬ (6 : Int32) ≤ nI i from nI_ge (b := 6) (by omega) (by omega)), nI_clamp (by omega), nI_1]
      have hin : vp_in (nI i) 6 := vp_in_nI (by omega) (by omega)
      refine ⟨hin, hin, hin, hin, ?_⟩
      rw [← rowW2_s (by decide)] at ih'
      exact ih'
  have k0 := key 6 0 (by omega)
  rw [rowW_0, rowW_0] at k0
  exact ⟨7, k0⟩
theorem i_backM {σ : St} {Φ : Int32 → St → Prop} (hp : Φ (σ.1 18 8) (rowW (rowW σ.1 21 6 (σ.1 28)) 22 6 (σ.1 29), σ.2)) : ∃ n0, wX12_restore_63 Φ n0 σ 0 := by
  have key : ∀ m i, i + m = 6 → wX12_restore_63 Φ (m + 1) (rowW (rowW σ.1 21 i (σ.1 28)) 22 i (σ.1 29), σ.2) (nI i) := by
    intro m
    induction m with
    | zero =>
      intro i hi
      have : i = 6 := by omega
      subst this
      rw [wX12_restore_63, if_pos (show (6 : Int32) ≤ nI 6 by decide)]
      exact hp
    | succ m ih =>
      intro i hi
      have ih' := ih (i + 1) (by omega)
      rw [wX12_restore_63, if_neg (show ¬ (6 : Int32) ≤ nI i from nI_ge (b := 6) (by omega) (by omega)), nI_clamp (by omega), nI_1]
      have hin : vp_in (nI i) 6 := vp_in_nI (by omega) (by omega)
      refine ⟨hin, hin, hin, hin, ?_⟩
      rw [← rowW2_s (by decide)] at ih'
      exact ih'
  have k0 := key 6 0 (by omega)
  rw [rowW_0, rowW_0] at k0
  exact ⟨7, k0⟩
theorem i_cut {σ : St} {nt ks : Nat} {Φ : St → Prop} (hn : nt ≤ 6) (hk : ks ≤ nt) (h2 : σ.1 4 2 = nI nt) (hp : ∀ th : Nat → Option Nat, (∀ i, i < ks → th i = σ.2.2.1 i) → Φ (up2 σ.1 4 2 (nI ks), σ.2.1, th, σ.2.2.2)) : wX6_cutTo σ (nI ks) Φ := by
  have key : ∀ m i, i + m = 6 → ∀ th : Nat → Option Nat, (∀ i, i < ks → th i = σ.2.2.1 i) → wX6_cutTo_2 Φ (m + 1) (σ.1, σ.2.1, th, σ.2.2.2) (nI ks) (nI i) := by
    intro m
    induction m with
    | zero =>
      intro i hi th hth
      have : i = 6 := by omega
      subst this
      rw [wX6_cutTo_2, if_pos (show (6 : Int32) ≤ nI 6 by decide), e_min]
      dsimp only
      rw [h2]
      have e : (if nI ks < nI nt then nI ks else nI nt) = nI ks := by
        by_cases q : ks = nt
        · subst q; simp
        · rw [if_pos (nI_lt (by omega) (by omega))]
      rw [e]
      exact hp th hth
    | succ m ih =>
      intro i hi th hth
      rw [wX6_cutTo_2, if_neg (show ¬ (6 : Int32) ≤ nI i from nI_ge (b := 6) (by omega) (by omega))]
      by_cases hlt : i < ks
      · rw [if_pos (nI_lt hlt (by omega))]
        unfold wX6_cutTo_23
        rw [nI_1]
        exact ih (i + 1) (by omega) th hth
      · rw [if_neg (nI_nlt (by omega) (by omega)), nI_clamp (by omega)]
        refine ⟨vp_in_nI (by omega) (by omega), ?_⟩
        unfold wX6_cutTo_23
        rw [nI_1]
        refine ih (i + 1) (by omega) (va_up th i none) (fun i' hi' => ?_)
        unfold va_up
        rw [if_neg (by omega)]
        exact hth i' hi'
  exact ⟨7, key 6 0 (by omega) σ.2.2.1 (fun i hi => rfl)⟩
