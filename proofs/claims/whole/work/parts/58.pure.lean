/-! PURE PART 29: soonest, the reference's first wind -/
def encS (h e : Nat) : Int32 := if e = 7 then -1 else if h = 0 then 9 else nI e
def RM (τ : St) (k h : Nat) (R : Nat → Nat) : Prop := ∀ l, l < 41 → τ.1 k l = encS h (R l)
theorem enc_7 {h : Nat} : encS h 7 = -1 := by
  unfold encS
  rw [if_pos rfl]
theorem lw_10 {R : Nat → Nat} {ok : Nat → Bool} (hR : GR R) : ∀ n, n ≤ 10 → lwR R ok n = 7
  | 0, _ => rfl
  | n + 1, h => by
    have ih := lw_10 (ok := ok) hR n (by omega)
    have hr := hR n
    rw [lwR, ih, if_neg]
    rintro ⟨a, -⟩
    have := hr.2 a
    omega
