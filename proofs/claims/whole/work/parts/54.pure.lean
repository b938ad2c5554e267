/-! PURE PART 25: wire -/
theorem dv09 : ∀ n, n < 127 → btB (nI n) 48 57 = true → nI n - 48 = nI (n - 48) ∧ 48 ≤ n ∧ n ≤ 57 := by decide +kernel
theorem dv19 : ∀ n, n < 127 → btB (nI n) 49 57 = true → nI n - 48 = nI (n - 48) ∧ 49 ≤ n ∧ n ≤ 57 := by decide +kernel
theorem dv14 : ∀ n, n < 127 → btB (nI n) 49 52 = true → nI n - 48 = nI (n - 48) ∧ 49 ≤ n ∧ n ≤ 52 := by decide +kernel
theorem fw_all {c : Nat → Int32} : ∀ m i, fwN c m i = i + m → ∀ k, i ≤ k → k < i + m → okB c k = true
  | 0, i, _, k, h1, h2 => by omega
  | m + 1, i, h, k, h1, h2 => by
    rw [fwN] at h
    by_cases q : okB c i = true
    · rw [if_pos q] at h
      by_cases r : k = i
      · rw [r]; exact q
      · exact fw_all m (i + 1) (by omega) k (by omega) (by omega)
    · rw [if_neg q] at h
      omega
def lenW (c : Nat → Int32) : Int32 := 10 * (c 0 - 48) + (c 1 - 48)
def spnW (c : Nat → Int32) : Int32 := (lenW c * lenW c) * (c 3 - 48)
def beaW (c : Nat → Int32) : Int32 := (100 * (c 5 - 48) + 10 * (c 6 - 48)) + (c 7 - 48)
theorem w_nat {c : Nat → Int32} {np : Nat} (h8 : 8 ≤ np) (hc : ∀ k, k < np → ∃ n, n < 127 ∧ c k = nI n) (ok : ∀ k, k < np → okB c k = true) : (10 ≤ lenW c ∧ lenW c ≤ 40) ∧ ∃ s b : Nat, spnW c = nI s ∧ s ≤ 14400 ∧ beaW c = nI b ∧ 100 ≤ b ∧ b ≤ 999 := by
  obtain ⟨n0, a0, b0⟩ := hc 0 (by omega)
  obtain ⟨n1, a1, b1⟩ := hc 1 (by omega)
  obtain ⟨n3, a3, b3⟩ := hc 3 (by omega)
  obtain ⟨n5, a5, b5⟩ := hc 5 (by omega)
  obtain ⟨n6, a6, b6⟩ := hc 6 (by omega)
  obtain ⟨n7, a7, b7⟩ := hc 7 (by omega)
  have o0 : btB (nI n0) 49 52 = true := by rw [← b0]; exact ok 0 (by omega)
  have o1 : btB (nI n1) 48 (if nI n0 = 52 then 48 else 57) = true := by rw [← b0, ← b1]; exact ok 1 (by omega)
  have o3 : btB (nI n3) 49 57 = true := by rw [← b3]; exact ok 3 (by omega)
  have o5 : btB (nI n5) 49 57 = true := by rw [← b5]; exact ok 5 (by omega)
  have o6 : btB (nI n6) 48 57 = true := by rw [← b6]; exact ok 6 (by omega)
  have o7 : btB (nI n7) 48 57 = true := by rw [← b7]; exact ok 7 (by omega)
  obtain ⟨e0, f0, g0⟩ := dv14 n0 a0 o0
  have hk := (dg40 n0 a0 o0 n1 a1).mpr o1
  obtain ⟨e1, f1, f1b⟩ := dv09 n1 a1 ((dg09 n1 a1).mp hk.1)
  have g1 : 10 * (n0 - 48) + (n1 - 48) ≤ 40 := by
    have h2 := hk.2
    rw [e0, e1, show (10 : Int32) = nI 10 from rfl, nI_mul, nI_add] at h2
    by_cases z : 10 * (n0 - 48) + (n1 - 48) ≤ 40
    · exact z
    · exact absurd (show (40 : Int32) < nI _ from nI_lt (a := 40) (by omega) (by omega)) h2
  obtain ⟨e3, f3, g3⟩ := dv19 n3 a3 o3
  obtain ⟨e5, f5, g5⟩ := dv19 n5 a5 o5
  obtain ⟨e6, f6, g6⟩ := dv09 n6 a6 o6
  obtain ⟨e7, f7, g7⟩ := dv09 n7 a7 o7
  unfold spnW beaW
  have el : lenW c = nI (10 * (n0 - 48) + (n1 - 48)) := by
    unfold lenW
    rw [b0, b1, e0, e1, show (10 : Int32) = nI 10 from rfl, nI_mul, nI_add]
  rw [el, b3, b5, b6, b7, e3, e5, e6, e7, show (10 : Int32) = nI 10 from rfl, show (100 : Int32) = nI 100 from rfl, show (40 : Int32) = nI 40 from rfl, nI_mul, nI_mul, nI_mul, nI_mul, nI_add, nI_add]
  have m1 : (10 * (n0 - 48) + (n1 - 48)) * (10 * (n0 - 48) + (n1 - 48)) ≤ 40 * 40 := Nat.mul_le_mul g1 g1
  have m2 : (10 * (n0 - 48) + (n1 - 48)) * (10 * (n0 - 48) + (n1 - 48)) * (n3 - 48) ≤ 40 * 40 * 9 := Nat.mul_le_mul m1 (by omega)
  exact ⟨⟨nI_le (by omega) (by omega), nI_le (by omega) (by omega)⟩, _, _, rfl, m2, rfl, by omega, by omega⟩
def hgX (σ : St) (c : Nat → Int32) (o : Int32) : St := sV (sV (sV (sV (sV (sV (sV σ 3 0 (lenW c)) 3 1 (spnW c)) 3 2 (beaW c)) 3 5 o) 3 3 0) 3 4 0) 3 6 0
theorem x_hang {σ : St} {np : Nat} {Φ : St → Prop} (h : σ.1 1 1 = nI np) (h8 : 8 ≤ np) (hn : np ≤ 12) (hp : Φ (hgX σ (σ.1 2) (if np ≤ 8 then 0 else 1))) : wX0_hang σ 3 Φ := by
  unfold wX0_hang wX7_digitAt
  refine i_pat (i := 0) h hn (by omega) (i_pat (i := 1) h hn (by omega) (i_pat (i := 3) h hn (by omega) (i_pat (i := 5) h hn (by omega) (i_pat (i := 6) h hn (by omega) (i_pat (i := 7) h hn (by omega) ?_)))))
  have key : (if σ.1 1 1 ≤ 8 then wX0_hang_81 3 Φ (sV (sV (sV σ 3 0 (lenW (σ.1 2))) 3 1 (spnW (σ.1 2))) 3 2 (beaW (σ.1 2))) 0 else wX0_hang_81 3 Φ (sV (sV (sV σ 3 0 (lenW (σ.1 2))) 3 1 (spnW (σ.1 2))) 3 2 (beaW (σ.1 2))) 1) := by
    unfold wX0_hang_81
    rw [h]
    by_cases q : np ≤ 8
    · rw [if_pos (show nI np ≤ 8 from nI_le (b := 8) q (by omega))]
      rw [if_pos q] at hp
      exact ⟨by decide, by decide, hp⟩
    · rw [if_neg (show ¬ nI np ≤ 8 from nI_ge (a := 8) (by omega) (by omega))]
      rw [if_neg q] at hp
      exact ⟨by decide, by decide, hp⟩
  exact key
def WM (τ : St) (l s b o w : Int32) : St := sV (sV (sV (sV (sV (sV (sV (sV (sV (sV (sV (sV τ 18 2 l) 18 3 s) 18 4 b) 18 5 o) 18 6 0) 18 0 1) 18 1 w) 18 7 0) 18 8 0) 18 9 0) 18 14 0) 18 17 0
theorem m_wireC {σ : St} {np : Nat} {Φ : Int32 → St → Prop} (h17 : σ.1 18 17 = nI np) (hn : np ≤ 12) (h8 : 8 ≤ np) (hc : ∀ k, k < np → ∃ n, n < 127 ∧ σ.1 2 k = nI n) (h25 : ∀ k, k < np → σ.1 25 k = σ.1 2 k) (hf : fwN (σ.1 2) np 0 = np)
    (hp : ∀ τ, Sim σ τ → Φ (spnW (σ.1 2)) (WM τ (lenW (σ.1 2)) (spnW (σ.1 2)) (beaW (σ.1 2)) (if np ≤ 8 then 0 else 1) (σ.1 18 1 + 1))) : wX12_wire σ Φ := by
  unfold wX12_wire
  refine m_read h17 hn hc h25 (fun τ hS e1 e2 e3 => ?_)
  obtain ⟨-, m1, m2, m3, m4, m5, m6, m7, m8, m9⟩ := e3 hf
  rw [hf, if_pos ⟨rfl, h8⟩] at e2
  rw [e2, if_neg (by decide)]
  have v21 : τ.1 18 21 = lenW (σ.1 2) := m2 (by omega)
  have v22 : τ.1 18 22 = σ.1 2 3 - 48 := m3 (by omega)
  have v23 : τ.1 18 23 = beaW (σ.1 2) := by
    rw [m6 (by omega)]
    unfold beaW
    grind
  have v24 : τ.1 18 24 = if np ≤ 8 then 0 else 1 := by
    by_cases q : np ≤ 8
    · rw [if_pos q]; exact m7 q
    · rw [if_neg q]; exact m8 (by omega)
  have v1 : τ.1 18 1 = σ.1 18 1 := hS.at 18 1 rfl
  have fin := hp τ hS
  refine ⟨?_, by decide, by decide, ?_⟩
  · show τ.1 18 24 = 0 ∨ τ.1 18 24 = 1
    rw [v24]
    split
    · exact Or.inl rfl
    · exact Or.inr rfl
  · show Φ ((τ.1 18 21 * τ.1 18 21) * τ.1 18 22) (WM τ (τ.1 18 21) ((τ.1 18 21 * τ.1 18 21) * τ.1 18 22) (τ.1 18 23) (τ.1 18 24) (τ.1 18 1 + 1))
    rw [v21, v22, v23, v24, v1]
    exact fin
theorem st_wire {j : Nat} {σ : St} {a1 a2 a3 : Int32} (hj : j < 512) (h : InvX j σ) : wL_3 σ a1 a2 a3 (InvX (j + 1)) := by
  have hI := h
  obtain ⟨np, nt, nk, w, hh, h1, h2, h3, h4, h5, h6⟩ := h
  obtain ⟨k1, k2⟩ := inv_pg h1
  have p1 : σ.1 1 1 = nI np := h1.2.1
  have p2 : σ.1 18 17 = nI np := h1.2.2.1
  have hnp := h1.1
  unfold wL_3 wX11_wire wX7_isWire
  have hno : ¬ (fwN (σ.1 2) np 0 = np ∧ 8 ≤ fwN (σ.1 2) np 0) → wX12_wire σ (fun r2 σ2 => if (-103 : Int32) = r2 then InvX (j + 1) σ2 else False) := by
    intro hf
    unfold wX12_wire
    refine m_read p2 hnp k1 k2 (fun τ hS e1 e2 e3 => ?_)
    rw [if_neg hf] at e2
    rw [if_pos e2]
    exact fin_ok rfl (inv_next hI hS)
  have hle := fw_le (c := σ.1 2) np 0
  by_cases h8 : np < 8
  · rw [p1, if_pos (show nI np < 8 from nI_lt (b := 8) h8 (by omega))]
    refine ⟨by decide, ?_⟩
    dsimp only
    rw [if_pos rfl]
    exact hno (by omega)
  · rw [if_neg (show ¬ σ.1 1 1 < 8 by rw [p1]; exact nI_nlt (b := 8) (by omega) (by omega))]
    refine x_first p1 hnp ?_
    rw [p1]
    by_cases hf : fwN (σ.1 2) np 0 = np
    · rw [if_pos (by rw [hf])]
      refine ⟨by decide, ?_⟩
      dsimp only
      rw [if_neg (by decide)]
      refine x_hang p1 (by omega) hnp ?_
      unfold wX7_emptied
      have hn6 := h4.1
      have h42 : σ.1 4 2 = nI nt := h4.2.1
      refine i_cut (σ := sV (hgX σ (σ.1 2) (if np ≤ 8 then 0 else 1)) 1 1 0) (nt := nt) (ks := 0) hn6 (Nat.zero_le _) h42 (fun th _ => ?_)
      unfold wX10_emptied
      refine ⟨by decide, ?_⟩
      obtain ⟨μ, hμ⟩ : ∃ μ : St, μ = (up2 (sV (hgX σ (σ.1 2) (if np ≤ 8 then 0 else 1)) 1 1 0).1 4 2 (nI 0), (sV (hgX σ (σ.1 2) (if np ≤ 8 then 0 else 1)) 1 1 0).2.1, th, (sV (hgX σ (σ.1 2) (if np ≤ 8 then 0 else 1)) 1 1 0).2.2.2) := ⟨_, rfl⟩
      rw [← hμ]
      have e09 : (sV (sV μ 7 2 0) 0 8 0).1 0 9 = nI w := by rw [hμ]; exact h3.1
      rw [e09, nI_1]
      have e31 : (sV (sV (sV μ 7 2 0) 0 8 0) 0 9 (nI (w + 1))).1 3 1 = spnW (σ.1 2) := by rw [hμ]; rfl
      rw [e31]
      have r2 : (sV (sV (sV μ 7 2 0) 0 8 0) 0 9 (nI (w + 1))).1 2 = σ.1 2 := by rw [hμ]; rfl
      have r25 : (sV (sV (sV μ 7 2 0) 0 8 0) 0 9 (nI (w + 1))).1 25 = σ.1 25 := by rw [hμ]; rfl
      have r17 : (sV (sV (sV μ 7 2 0) 0 8 0) 0 9 (nI (w + 1))).1 18 17 = nI np := by rw [hμ]; exact p2
      have r1 : (sV (sV (sV μ 7 2 0) 0 8 0) 0 9 (nI (w + 1))).1 18 1 = nI w := by rw [hμ]; exact h3.2.1
      refine m_wireC r17 hnp (by omega) (by rw [r2]; exact k1) (by rw [r2, r25]; exact k2) (by rw [r2]; exact hf) (fun τ hS => ?_)
      rw [r2, r1, nI_1]
      refine fin_ok rfl ?_
      obtain ⟨wl, s, b, w1, w2, w3, w4, w5⟩ := w_nat (c := σ.1 2) (np := np) (by omega) k1 (fun k hk => fw_all np 0 (by omega) k (Nat.zero_le _) (by omega))
      unfold InvX WM
      rw [cl_sV rfl, cl_sV rfl, cl_sV rfl, cl_sV rfl, cl_sV rfl, cl_sV rfl, cl_sV rfl, cl_sV rfl, cl_sV rfl, cl_sV rfl, cl_sV rfl, cl_sV rfl, hS.1, hμ]
      have o01 : (if np ≤ 8 then (0 : Int32) else 1) = 0 ∨ (if np ≤ 8 then (0 : Int32) else 1) = 1 := by
        split
        · exact Or.inl rfl
        · exact Or.inr rfl
      have hw := h3.2.2
      refine ⟨0, 0, 0, w + 1, 0, ⟨by omega, rfl, rfl, fun i hi => by omega⟩, ⟨⟨rfl, rfl, rfl, rfl, rfl, rfl, rfl⟩, rfl, by omega, o01, Or.inl rfl, Or.inr ⟨rfl, wl, s, b, 0, w1, w2, w3, w4, w5, rfl, by omega⟩⟩, ⟨rfl, rfl, by omega⟩, ⟨by omega, rfl, rfl, fun h => by omega, fun i h => by omega, fun i h => by omega, fun i h => by omega, fun i i' h => by omega⟩, ⟨by omega, rfl, rfl, fun i h => by omega⟩, Or.inl ⟨rfl, ?_⟩⟩
      rcases h6 with ⟨-, q | ⟨kw, q1, q2⟩⟩ | ⟨-, -, q, -⟩
      · exact Or.inl q
      · exact Or.inr ⟨kw, by omega, q2⟩
      · exact Or.inr ⟨w, by omega, q⟩
    · rw [if_neg (fun z => hf ((nI_eq (by omega) (by omega)).mp z))]
      refine ⟨by decide, ?_⟩
      dsimp only
      rw [if_pos rfl]
      exact hno (fun z => hf z.1)
