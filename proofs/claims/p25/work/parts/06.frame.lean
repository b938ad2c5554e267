/-! THE STATE: V (object's number, place) an int; J a long of the reference; th the row of things; L the things that were made, tk their class, T their fields -/
abbrev St : Type := (Nat → Nat → Int32) × (Nat → Int64) × (Nat → Option Nat) × List Nat × (Nat → Nat) × (Nat → Nat → Int32)
abbrev sL (σ : St) : List Nat := σ.2.2.2.1
abbrev sK (σ : St) : Nat → Nat := σ.2.2.2.2.1
abbrev sF (σ : St) : Nat → Nat → Int32 := σ.2.2.2.2.2
abbrev sR (σ : St) : Nat → Option Nat := σ.2.2.1
def up2 (V : Nat → Nat → Int32) (a b : Nat) (v : Int32) : Nat → Nat → Int32 := va_up V a (va_up (V a) b v)
def sV (σ : St) (a b : Nat) (v : Int32) : St := (up2 σ.1 a b v, σ.2)
def sJ (σ : St) (a : Nat) (v : Int64) : St := (σ.1, va_up σ.2.1 a v, σ.2.2)
def sH (σ : St) (i : Nat) (r : Option Nat) : St := (σ.1, σ.2.1, va_up σ.2.2.1 i r, σ.2.2.2)
def sT (σ : St) (a j : Nat) (v : Int32) : St := (σ.1, σ.2.1, σ.2.2.1, σ.2.2.2.1, σ.2.2.2.2.1, up2 σ.2.2.2.2.2 a j v)
def sN (σ : St) (a kd : Nat) : St := (σ.1, σ.2.1, σ.2.2.1, σ.2.2.2.1 ++ [a], va_up σ.2.2.2.2.1 a kd, va_up σ.2.2.2.2.2 a (fun _ => 0))
/-- a thing that was made, and of one of the five classes -/
def isT (σ : St) (a : Nat) : Prop := a ∈ σ.2.2.2.1 ∧ (σ.2.2.2.2.1 a = 1 ∨ σ.2.2.2.2.1 a = 3 ∨ σ.2.2.2.2.1 a = 4 ∨ σ.2.2.2.2.1 a = 5 ∨ σ.2.2.2.2.1 a = 9)
def isC (k : Nat) : Prop := k = 3 ∨ k = 16 ∨ k = 17

/-! THE WORLD: twenty fixed cells (18, 19: two rows of the law), and the things -/
abbrev tcell (σ : St) : Nat → va_E := fun a => .inr (σ.2.2.2.2.1 a, [.int (σ.2.2.2.2.2 a 0), .int (σ.2.2.2.2.2 a 1), .int (σ.2.2.2.2.2 a 2)])
def gX (cy : Nat → ClassId) (A : Nat → Nat) (σ : St) : va_W := [(A 0, .inr (11, [.ref (A 1), .ref (A 3), .ref (A 4), .ref (A 7), .ref (A 10), .ref (A 13), .ref (A 16), .ref (A 17), .int (σ.1 0 8), .int (σ.1 0 9)])), (A 1, .inr (7, [.ref (A 2), .int (σ.1 1 1)])), (A 2, .inl (cy 1, 12, .inl (σ.1 2))), (A 3, .inr (0, [.int (σ.1 3 0), .int (σ.1 3 1), .int (σ.1 3 2), .int (σ.1 3 3), .int (σ.1 3 4), .int (σ.1 3 5), .int (σ.1 3 6)])), (A 4, .inr (6, [.ref (A 5), .ref (A 6), .int (σ.1 4 2), .int (σ.1 4 3)])), (A 5, .inl (cy 3, 6, .inr (.inr (.inr (.inr σ.2.2.1))))), (A 6, .inl (cy 2, 6, .inl (σ.1 6))), (A 7, .inr (10, [.ref (A 8), .ref (A 9), .int (σ.1 7 2)])), (A 8, .inl (cy 2, 6, .inl (σ.1 8))), (A 9, .inl (cy 2, 6, .inl (σ.1 9))), (A 10, .inr (2, [.ref (A 11), .ref (A 12), .int (σ.1 10 2), .int (σ.1 10 3), .int (σ.1 10 4), .int (σ.1 10 5), .int (σ.1 10 6)])), (A 11, .inl (cy 2, 6, .inl (σ.1 11))), (A 12, .inl (cy 2, 6, .inl (σ.1 12))), (A 13, .inr (8, [.ref (A 14), .ref (A 15), .int (σ.1 13 2), .int (σ.1 13 3)])), (A 14, .inl (cy 2, 41, .inl (σ.1 14))), (A 15, .inl (cy 2, 41, .inl (σ.1 15))), (A 16, .inr (0, [.int (σ.1 16 0), .int (σ.1 16 1), .int (σ.1 16 2), .int (σ.1 16 3), .int (σ.1 16 4), .int (σ.1 16 5), .int (σ.1 16 6)])), (A 17, .inr (0, [.int (σ.1 17 0), .int (σ.1 17 1), .int (σ.1 17 2), .int (σ.1 17 3), .int (σ.1 17 4), .int (σ.1 17 5), .int (σ.1 17 6)])), (A 18, .inl (cy 2, 32, .inl (σ.1 18))), (A 19, .inl (cy 2, 32, .inl (σ.1 19)))]
def gW (cy : Nat → ClassId) (A : Nat → Nat) (σ : St) : va_W := gX cy A σ ++ va_pl σ.2.2.2.1 (tcell σ)
def gty (cy : Nat → ClassId) : List (ClassId × FieldType) := [(cy 0, .int), (cy 1, .char), (cy 2, .int), (cy 3, .object "TwoOnACable$Thing")]
theorem ga_0 (cy : Nat → ClassId) (A : Nat → Nat) (σ : St) : (gW cy A σ)[0]? = some (A 0, .inr (11, [.ref (A 1), .ref (A 3), .ref (A 4), .ref (A 7), .ref (A 10), .ref (A 13), .ref (A 16), .ref (A 17), .int (σ.1 0 8), .int (σ.1 0 9)])) := rfl
theorem ga_1 (cy : Nat → ClassId) (A : Nat → Nat) (σ : St) : (gW cy A σ)[1]? = some (A 1, .inr (7, [.ref (A 2), .int (σ.1 1 1)])) := rfl
theorem ga_2 (cy : Nat → ClassId) (A : Nat → Nat) (σ : St) : (gW cy A σ)[2]? = some (A 2, .inl (cy 1, 12, .inl (σ.1 2))) := rfl
theorem ga_3 (cy : Nat → ClassId) (A : Nat → Nat) (σ : St) : (gW cy A σ)[3]? = some (A 3, .inr (0, [.int (σ.1 3 0), .int (σ.1 3 1), .int (σ.1 3 2), .int (σ.1 3 3), .int (σ.1 3 4), .int (σ.1 3 5), .int (σ.1 3 6)])) := rfl
theorem ga_4 (cy : Nat → ClassId) (A : Nat → Nat) (σ : St) : (gW cy A σ)[4]? = some (A 4, .inr (6, [.ref (A 5), .ref (A 6), .int (σ.1 4 2), .int (σ.1 4 3)])) := rfl
theorem ga_5 (cy : Nat → ClassId) (A : Nat → Nat) (σ : St) : (gW cy A σ)[5]? = some (A 5, .inl (cy 3, 6, .inr (.inr (.inr (.inr σ.2.2.1))))) := rfl
theorem ga_6 (cy : Nat → ClassId) (A : Nat → Nat) (σ : St) : (gW cy A σ)[6]? = some (A 6, .inl (cy 2, 6, .inl (σ.1 6))) := rfl
theorem ga_7 (cy : Nat → ClassId) (A : Nat → Nat) (σ : St) : (gW cy A σ)[7]? = some (A 7, .inr (10, [.ref (A 8), .ref (A 9), .int (σ.1 7 2)])) := rfl
theorem ga_8 (cy : Nat → ClassId) (A : Nat → Nat) (σ : St) : (gW cy A σ)[8]? = some (A 8, .inl (cy 2, 6, .inl (σ.1 8))) := rfl
theorem ga_9 (cy : Nat → ClassId) (A : Nat → Nat) (σ : St) : (gW cy A σ)[9]? = some (A 9, .inl (cy 2, 6, .inl (σ.1 9))) := rfl
theorem ga_10 (cy : Nat → ClassId) (A : Nat → Nat) (σ : St) : (gW cy A σ)[10]? = some (A 10, .inr (2, [.ref (A 11), .ref (A 12), .int (σ.1 10 2), .int (σ.1 10 3), .int (σ.1 10 4), .int (σ.1 10 5), .int (σ.1 10 6)])) := rfl
theorem ga_11 (cy : Nat → ClassId) (A : Nat → Nat) (σ : St) : (gW cy A σ)[11]? = some (A 11, .inl (cy 2, 6, .inl (σ.1 11))) := rfl
theorem ga_12 (cy : Nat → ClassId) (A : Nat → Nat) (σ : St) : (gW cy A σ)[12]? = some (A 12, .inl (cy 2, 6, .inl (σ.1 12))) := rfl
theorem ga_13 (cy : Nat → ClassId) (A : Nat → Nat) (σ : St) : (gW cy A σ)[13]? = some (A 13, .inr (8, [.ref (A 14), .ref (A 15), .int (σ.1 13 2), .int (σ.1 13 3)])) := rfl
theorem ga_14 (cy : Nat → ClassId) (A : Nat → Nat) (σ : St) : (gW cy A σ)[14]? = some (A 14, .inl (cy 2, 41, .inl (σ.1 14))) := rfl
theorem ga_15 (cy : Nat → ClassId) (A : Nat → Nat) (σ : St) : (gW cy A σ)[15]? = some (A 15, .inl (cy 2, 41, .inl (σ.1 15))) := rfl
theorem ga_16 (cy : Nat → ClassId) (A : Nat → Nat) (σ : St) : (gW cy A σ)[16]? = some (A 16, .inr (0, [.int (σ.1 16 0), .int (σ.1 16 1), .int (σ.1 16 2), .int (σ.1 16 3), .int (σ.1 16 4), .int (σ.1 16 5), .int (σ.1 16 6)])) := rfl
theorem ga_17 (cy : Nat → ClassId) (A : Nat → Nat) (σ : St) : (gW cy A σ)[17]? = some (A 17, .inr (0, [.int (σ.1 17 0), .int (σ.1 17 1), .int (σ.1 17 2), .int (σ.1 17 3), .int (σ.1 17 4), .int (σ.1 17 5), .int (σ.1 17 6)])) := rfl
theorem ga_18 (cy : Nat → ClassId) (A : Nat → Nat) (σ : St) : (gW cy A σ)[18]? = some (A 18, .inl (cy 2, 32, .inl (σ.1 18))) := rfl
theorem ga_19 (cy : Nat → ClassId) (A : Nat → Nat) (σ : St) : (gW cy A σ)[19]? = some (A 19, .inl (cy 2, 32, .inl (σ.1 19))) := rfl
theorem ga_c (cy : Nat → ClassId) (A : Nat → Nat) (σ : St) {k : Nat} (h : isC k) : (gW cy A σ)[k]? = some (A k, .inr (0, [.int (σ.1 k 0), .int (σ.1 k 1), .int (σ.1 k 2), .int (σ.1 k 3), .int (σ.1 k 4), .int (σ.1 k 5), .int (σ.1 k 6)])) := by
  rcases h with rfl | rfl | rfl <;> rfl
theorem gp_0_8 (cy : Nat → ClassId) (A : Nat → Nat) (σ : St) (v : Int32) : (gW cy A σ).set 0 (A 0, .inr (11, [.ref (A 1), .ref (A 3), .ref (A 4), .ref (A 7), .ref (A 10), .ref (A 13), .ref (A 16), .ref (A 17), .int v, .int (σ.1 0 9)])) = gW cy A (sV σ 0 8 v) := rfl
theorem gp_0_9 (cy : Nat → ClassId) (A : Nat → Nat) (σ : St) (v : Int32) : (gW cy A σ).set 0 (A 0, .inr (11, [.ref (A 1), .ref (A 3), .ref (A 4), .ref (A 7), .ref (A 10), .ref (A 13), .ref (A 16), .ref (A 17), .int (σ.1 0 8), .int v])) = gW cy A (sV σ 0 9 v) := rfl
theorem gp_1_1 (cy : Nat → ClassId) (A : Nat → Nat) (σ : St) (v : Int32) : (gW cy A σ).set 1 (A 1, .inr (7, [.ref (A 2), .int v])) = gW cy A (sV σ 1 1 v) := rfl
theorem gp_4_2 (cy : Nat → ClassId) (A : Nat → Nat) (σ : St) (v : Int32) : (gW cy A σ).set 4 (A 4, .inr (6, [.ref (A 5), .ref (A 6), .int v, .int (σ.1 4 3)])) = gW cy A (sV σ 4 2 v) := rfl
theorem gp_4_3 (cy : Nat → ClassId) (A : Nat → Nat) (σ : St) (v : Int32) : (gW cy A σ).set 4 (A 4, .inr (6, [.ref (A 5), .ref (A 6), .int (σ.1 4 2), .int v])) = gW cy A (sV σ 4 3 v) := rfl
theorem gp_7_2 (cy : Nat → ClassId) (A : Nat → Nat) (σ : St) (v : Int32) : (gW cy A σ).set 7 (A 7, .inr (10, [.ref (A 8), .ref (A 9), .int v])) = gW cy A (sV σ 7 2 v) := rfl
theorem gp_10_2 (cy : Nat → ClassId) (A : Nat → Nat) (σ : St) (v : Int32) : (gW cy A σ).set 10 (A 10, .inr (2, [.ref (A 11), .ref (A 12), .int v, .int (σ.1 10 3), .int (σ.1 10 4), .int (σ.1 10 5), .int (σ.1 10 6)])) = gW cy A (sV σ 10 2 v) := rfl
theorem gp_10_3 (cy : Nat → ClassId) (A : Nat → Nat) (σ : St) (v : Int32) : (gW cy A σ).set 10 (A 10, .inr (2, [.ref (A 11), .ref (A 12), .int (σ.1 10 2), .int v, .int (σ.1 10 4), .int (σ.1 10 5), .int (σ.1 10 6)])) = gW cy A (sV σ 10 3 v) := rfl
theorem gp_10_4 (cy : Nat → ClassId) (A : Nat → Nat) (σ : St) (v : Int32) : (gW cy A σ).set 10 (A 10, .inr (2, [.ref (A 11), .ref (A 12), .int (σ.1 10 2), .int (σ.1 10 3), .int v, .int (σ.1 10 5), .int (σ.1 10 6)])) = gW cy A (sV σ 10 4 v) := rfl
theorem gp_10_5 (cy : Nat → ClassId) (A : Nat → Nat) (σ : St) (v : Int32) : (gW cy A σ).set 10 (A 10, .inr (2, [.ref (A 11), .ref (A 12), .int (σ.1 10 2), .int (σ.1 10 3), .int (σ.1 10 4), .int v, .int (σ.1 10 6)])) = gW cy A (sV σ 10 5 v) := rfl
theorem gp_10_6 (cy : Nat → ClassId) (A : Nat → Nat) (σ : St) (v : Int32) : (gW cy A σ).set 10 (A 10, .inr (2, [.ref (A 11), .ref (A 12), .int (σ.1 10 2), .int (σ.1 10 3), .int (σ.1 10 4), .int (σ.1 10 5), .int v])) = gW cy A (sV σ 10 6 v) := rfl
theorem gp_13_2 (cy : Nat → ClassId) (A : Nat → Nat) (σ : St) (v : Int32) : (gW cy A σ).set 13 (A 13, .inr (8, [.ref (A 14), .ref (A 15), .int v, .int (σ.1 13 3)])) = gW cy A (sV σ 13 2 v) := rfl
theorem gp_13_3 (cy : Nat → ClassId) (A : Nat → Nat) (σ : St) (v : Int32) : (gW cy A σ).set 13 (A 13, .inr (8, [.ref (A 14), .ref (A 15), .int (σ.1 13 2), .int v])) = gW cy A (sV σ 13 3 v) := rfl
theorem gp_c_0 (cy : Nat → ClassId) (A : Nat → Nat) (σ : St) (v : Int32) {k : Nat} (h : isC k) : (gW cy A σ).set k (A k, .inr (0, [.int v, .int (σ.1 k 1), .int (σ.1 k 2), .int (σ.1 k 3), .int (σ.1 k 4), .int (σ.1 k 5), .int (σ.1 k 6)])) = gW cy A (sV σ k 0 v) := by
  rcases h with rfl | rfl | rfl <;> rfl
theorem gp_c_1 (cy : Nat → ClassId) (A : Nat → Nat) (σ : St) (v : Int32) {k : Nat} (h : isC k) : (gW cy A σ).set k (A k, .inr (0, [.int (σ.1 k 0), .int v, .int (σ.1 k 2), .int (σ.1 k 3), .int (σ.1 k 4), .int (σ.1 k 5), .int (σ.1 k 6)])) = gW cy A (sV σ k 1 v) := by
  rcases h with rfl | rfl | rfl <;> rfl
theorem gp_c_2 (cy : Nat → ClassId) (A : Nat → Nat) (σ : St) (v : Int32) {k : Nat} (h : isC k) : (gW cy A σ).set k (A k, .inr (0, [.int (σ.1 k 0), .int (σ.1 k 1), .int v, .int (σ.1 k 3), .int (σ.1 k 4), .int (σ.1 k 5), .int (σ.1 k 6)])) = gW cy A (sV σ k 2 v) := by
  rcases h with rfl | rfl | rfl <;> rfl
theorem gp_c_3 (cy : Nat → ClassId) (A : Nat → Nat) (σ : St) (v : Int32) {k : Nat} (h : isC k) : (gW cy A σ).set k (A k, .inr (0, [.int (σ.1 k 0), .int (σ.1 k 1), .int (σ.1 k 2), .int v, .int (σ.1 k 4), .int (σ.1 k 5), .int (σ.1 k 6)])) = gW cy A (sV σ k 3 v) := by
  rcases h with rfl | rfl | rfl <;> rfl
theorem gp_c_4 (cy : Nat → ClassId) (A : Nat → Nat) (σ : St) (v : Int32) {k : Nat} (h : isC k) : (gW cy A σ).set k (A k, .inr (0, [.int (σ.1 k 0), .int (σ.1 k 1), .int (σ.1 k 2), .int (σ.1 k 3), .int v, .int (σ.1 k 5), .int (σ.1 k 6)])) = gW cy A (sV σ k 4 v) := by
  rcases h with rfl | rfl | rfl <;> rfl
theorem gp_c_5 (cy : Nat → ClassId) (A : Nat → Nat) (σ : St) (v : Int32) {k : Nat} (h : isC k) : (gW cy A σ).set k (A k, .inr (0, [.int (σ.1 k 0), .int (σ.1 k 1), .int (σ.1 k 2), .int (σ.1 k 3), .int (σ.1 k 4), .int v, .int (σ.1 k 6)])) = gW cy A (sV σ k 5 v) := by
  rcases h with rfl | rfl | rfl <;> rfl
theorem gp_c_6 (cy : Nat → ClassId) (A : Nat → Nat) (σ : St) (v : Int32) {k : Nat} (h : isC k) : (gW cy A σ).set k (A k, .inr (0, [.int (σ.1 k 0), .int (σ.1 k 1), .int (σ.1 k 2), .int (σ.1 k 3), .int (σ.1 k 4), .int (σ.1 k 5), .int v])) = gW cy A (sV σ k 6 v) := by
  rcases h with rfl | rfl | rfl <;> rfl
theorem gs_2 (cy : Nat → ClassId) (A : Nat → Nat) (σ : St) (b : Nat) (v : Int32) : (gW cy A σ).set 2 (A 2, .inl (cy 1, 12, .inl (upd (σ.1 2) b v))) = gW cy A (sV σ 2 b v) := rfl
theorem gs_6 (cy : Nat → ClassId) (A : Nat → Nat) (σ : St) (b : Nat) (v : Int32) : (gW cy A σ).set 6 (A 6, .inl (cy 2, 6, .inl (upd (σ.1 6) b v))) = gW cy A (sV σ 6 b v) := rfl
theorem gs_8 (cy : Nat → ClassId) (A : Nat → Nat) (σ : St) (b : Nat) (v : Int32) : (gW cy A σ).set 8 (A 8, .inl (cy 2, 6, .inl (upd (σ.1 8) b v))) = gW cy A (sV σ 8 b v) := rfl
theorem gs_9 (cy : Nat → ClassId) (A : Nat → Nat) (σ : St) (b : Nat) (v : Int32) : (gW cy A σ).set 9 (A 9, .inl (cy 2, 6, .inl (upd (σ.1 9) b v))) = gW cy A (sV σ 9 b v) := rfl
theorem gs_11 (cy : Nat → ClassId) (A : Nat → Nat) (σ : St) (b : Nat) (v : Int32) : (gW cy A σ).set 11 (A 11, .inl (cy 2, 6, .inl (upd (σ.1 11) b v))) = gW cy A (sV σ 11 b v) := rfl
theorem gs_12 (cy : Nat → ClassId) (A : Nat → Nat) (σ : St) (b : Nat) (v : Int32) : (gW cy A σ).set 12 (A 12, .inl (cy 2, 6, .inl (upd (σ.1 12) b v))) = gW cy A (sV σ 12 b v) := rfl
theorem gs_14 (cy : Nat → ClassId) (A : Nat → Nat) (σ : St) (b : Nat) (v : Int32) : (gW cy A σ).set 14 (A 14, .inl (cy 2, 41, .inl (upd (σ.1 14) b v))) = gW cy A (sV σ 14 b v) := rfl
theorem gs_15 (cy : Nat → ClassId) (A : Nat → Nat) (σ : St) (b : Nat) (v : Int32) : (gW cy A σ).set 15 (A 15, .inl (cy 2, 41, .inl (upd (σ.1 15) b v))) = gW cy A (sV σ 15 b v) := rfl
theorem gs_18 (cy : Nat → ClassId) (A : Nat → Nat) (σ : St) (b : Nat) (v : Int32) : (gW cy A σ).set 18 (A 18, .inl (cy 2, 32, .inl (upd (σ.1 18) b v))) = gW cy A (sV σ 18 b v) := rfl
theorem gs_19 (cy : Nat → ClassId) (A : Nat → Nat) (σ : St) (b : Nat) (v : Int32) : (gW cy A σ).set 19 (A 19, .inl (cy 2, 32, .inl (upd (σ.1 19) b v))) = gW cy A (sV σ 19 b v) := rfl
theorem gs_5 (cy : Nat → ClassId) (A : Nat → Nat) (σ : St) (b : Nat) (r : Option Nat) : (gW cy A σ).set 5 (A 5, .inl (cy 3, 6, .inr (.inr (.inr (.inr (va_up σ.2.2.1 b r)))))) = gW cy A (sH σ b r) := rfl
theorem gt_0 (cy : Nat → ClassId) (A : Nat → Nat) (σ : St) (A0 : Nat → Prop) {a k : Nat} (v : Int32) (hD : va_D A0 (gW cy A σ)) (h : a ∈ σ.2.2.2.1) (hk : (gW cy A σ)[k]? = some (a, tcell σ a)) : (gW cy A σ).set k (a, .inr (σ.2.2.2.2.1 a, [.int v, .int (σ.2.2.2.2.2 a 1), .int (σ.2.2.2.2.2 a 2)])) = gW cy A (sT σ a 0 v) := by
  refine (va_pl_set (X := gX cy A σ) hD h hk).trans ?_
  refine congrArg (fun l => gX cy A σ ++ l) (va_pl_congr fun b => ?_)
  by_cases hb : b = a
  · subst hb
    simp [va_up, sT, up2, tcell]
  · simp [va_up, sT, up2, hb, tcell]
theorem gt_1 (cy : Nat → ClassId) (A : Nat → Nat) (σ : St) (A0 : Nat → Prop) {a k : Nat} (v : Int32) (hD : va_D A0 (gW cy A σ)) (h : a ∈ σ.2.2.2.1) (hk : (gW cy A σ)[k]? = some (a, tcell σ a)) : (gW cy A σ).set k (a, .inr (σ.2.2.2.2.1 a, [.int (σ.2.2.2.2.2 a 0), .int v, .int (σ.2.2.2.2.2 a 2)])) = gW cy A (sT σ a 1 v) := by
  refine (va_pl_set (X := gX cy A σ) hD h hk).trans ?_
  refine congrArg (fun l => gX cy A σ ++ l) (va_pl_congr fun b => ?_)
  by_cases hb : b = a
  · subst hb
    simp [va_up, sT, up2, tcell]
  · simp [va_up, sT, up2, hb, tcell]
theorem gt_2 (cy : Nat → ClassId) (A : Nat → Nat) (σ : St) (A0 : Nat → Prop) {a k : Nat} (v : Int32) (hD : va_D A0 (gW cy A σ)) (h : a ∈ σ.2.2.2.1) (hk : (gW cy A σ)[k]? = some (a, tcell σ a)) : (gW cy A σ).set k (a, .inr (σ.2.2.2.2.1 a, [.int (σ.2.2.2.2.2 a 0), .int (σ.2.2.2.2.2 a 1), .int v])) = gW cy A (sT σ a 2 v) := by
  refine (va_pl_set (X := gX cy A σ) hD h hk).trans ?_
  refine congrArg (fun l => gX cy A σ ++ l) (va_pl_congr fun b => ?_)
  by_cases hb : b = a
  · subst hb
    simp [va_up, sT, up2, tcell]
  · simp [va_up, sT, up2, hb, tcell]
theorem gn_T (cy : Nat → ClassId) (A : Nat → Nat) (σ : St) {a : Nat} (kd : Nat) (h : a ∉ σ.2.2.2.1) : gW cy A σ ++ [(a, .inr (kd, [.int 0, .int 0, .int 0]))] = gW cy A (sN σ a kd) := by
  unfold gW
  rw [List.append_assoc, va_pl_push h]
  refine congrArg (fun l => gX cy A σ ++ l) ?_
  show va_pl (σ.2.2.2.1 ++ [a]) _ = va_pl (σ.2.2.2.1 ++ [a]) _
  refine va_pl_congr fun b => ?_
  by_cases hb : b = a
  · subst hb
    simp [va_up, sN, tcell]
  · simp [va_up, sN, hb, tcell]

/-! words that ride beside the tables' -/
def nwM : List Cond := [.methodLinkNest RX11 9 yX7_init RX11, .methodLinkNest RX11 18 yX0_init RX11, .methodLinkNest RX11 25 yX6_init RX11, .methodLinkNest RX11 32 yX10_init RX11, .methodLinkNest RX11 39 yX2_init RX11, .methodLinkNest RX11 46 yX8_init RX11]
def nwC : List (String × String) := [(RX1, RX9), (RX3, RX9), (RX4, RX9), (RX5, RX9), (RX4, RX5)]
def nwN : List (String × String) := [(RX9, RX1), (RX9, RX3), (RX9, RX5), (RX9, RX4), (RX1, RX3), (RX1, RX5), (RX1, RX4), (RX3, RX1), (RX3, RX5), (RX3, RX4), (RX5, RX1), (RX5, RX3), (RX5, RX4), (RX4, RX1), (RX4, RX3)]
def NW (U : State) : Prop := (∀ w ∈ nwM, va_Nw w U) ∧ (∀ q ∈ nwC, va_Nw (.castable q.1 q.2) U) ∧ (∀ q ∈ nwN, va_Nc q.1 q.2 U) ∧ va_AO RX9 U
theorem NW.warm {s U : State} (hW : s.WarmedH U.vm) (h : NW s) : NW U := by
  refine ⟨fun w hw => ?_, fun q hq => va_Nw.warmC hW (h.2.1 q hq), fun q hq => va_Nc.moved hW.alike (h.2.2.1 q hq), va_AO.moved hW.alike h.2.2.2⟩
  have h1 := h.1 w hw
  simp only [nwM, List.mem_cons, List.mem_nil_iff, or_false, List.not_mem_nil] at hw
  rcases hw with rfl | rfl | rfl | rfl | rfl | rfl <;> exact va_Nw.warmM hW h1
theorem NW.calling {U : State} {g : JFrame} {mk : MethodId} {a : Array Value} (h : NW U) : NW (U.calling g mk a) := by
  refine ⟨fun w hw => ?_, fun q hq => va_Nw.same rfl (u := U) rfl (h.2.1 q hq), fun q hq => va_Nc.moved (u := U) (U := U.calling g mk a) (Vm.Alike.refl U.vm) (h.2.2.1 q hq), va_AO.moved (u := U) (U := U.calling g mk a) (Vm.Alike.refl U.vm) h.2.2.2⟩
  have h1 := h.1 w hw
  simp only [nwM, List.mem_cons, List.mem_nil_iff, or_false, List.not_mem_nil] at hw
  rcases hw with rfl | rfl | rfl | rfl | rfl | rfl <;> exact va_Nw.same rfl (u := U) rfl h1

/-! THE CONTEXT of a walk, in one row -/
abbrev qC : Type := Program × Launch × Env × Room × State × MethodId × Array Value × List Frame × Method × Code × (Nat → Prop) × va_G × (State → Prop) × Nat
abbrev q_p (κ : qC) : Program := κ.1
abbrev q_l (κ : qC) : Launch := κ.2.1
abbrev q_e (κ : qC) : Env := κ.2.2.1
abbrev q_R (κ : qC) : Room := κ.2.2.2.1
abbrev q_s (κ : qC) : State := κ.2.2.2.2.1
abbrev q_m (κ : qC) : MethodId := κ.2.2.2.2.2.1
abbrev q_a (κ : qC) : Array Value := κ.2.2.2.2.2.2.1
abbrev q_b (κ : qC) : List Frame := κ.2.2.2.2.2.2.2.1
abbrev q_M (κ : qC) : Method := κ.2.2.2.2.2.2.2.2.1
abbrev q_c (κ : qC) : Code := κ.2.2.2.2.2.2.2.2.2.1
abbrev q_A (κ : qC) : Nat → Prop := κ.2.2.2.2.2.2.2.2.2.2.1
abbrev q_D (κ : qC) : va_G := κ.2.2.2.2.2.2.2.2.2.2.2.1
abbrev q_Q (κ : qC) : State → Prop := κ.2.2.2.2.2.2.2.2.2.2.2.2.1
abbrev q_n (κ : qC) : Nat := κ.2.2.2.2.2.2.2.2.2.2.2.2.2
def GW (κ : qC) (k n : Nat) (ws : va_W) (pc : Nat) (lv : List (Nat × Value)) (st : List Value) : Prop :=
  ∀ (H : Heap) (locs : List Loc), va_P (q_D κ) vwCl ws H → va_D (q_A κ) ws → va_S (q_A κ) (q_s κ).heap H locs → ∀ ls : Array Slot, lv_has ls (q_n κ) lv → W (q_p κ) (q_l κ) (q_e κ) (q_R κ) (q_s κ) (q_m κ) (q_a κ) (q_b κ) (q_M κ) (q_c κ) H locs k n (q_Q κ) (F0 (q_m κ) pc ls st)
/-- what holds all along a walk -/
def Cx (κ : qC) (cc : ByteArray) (own : String) (Ts : List Cond) (Rm : Room) : Prop :=
  (q_p κ).tables.exec = Jvm.exec ∧ (q_c κ).code = cc ∧ (q_c κ).maxLocals = q_n κ ∧ (q_s κ).vm.findClass own = some (q_m κ).cls ∧ (∀ w ∈ Ts, w.before (q_a κ) (q_s κ) = true) ∧ (∀ q, (q_s κ).heap.size ≤ q → q_A κ q) ∧ NW (q_s κ) ∧ (q_M κ).locks = false ∧ q_R κ = Rm
section GR
variable {κ : qC} {cc : ByteArray} {own : String} {Ts : List Cond} {Rm : Room} {k n : Nat} {ws : va_W} {pc : Nat} {lv : List (Nat × Value)} {st : List Value}
theorem g_widen {k' n' : Nat} (h1 : k ≤ k') (h2 : n ≤ n') (h : GW κ k' n' ws pc lv st) : GW κ k n ws pc lv st := fun H locs hP hD hS ls hl => W.widen h1 h2 (h H locs hP hD hS ls hl)
theorem g_eqs {ws' : va_W} (e : ws = ws') (h : GW κ k n ws' pc lv st) : GW κ k n ws pc lv st := e ▸ h
theorem g_eqv {st' : List Value} (e : st = st') (h : GW κ k n ws pc lv st') : GW κ k n ws pc lv st := e ▸ h
theorem g_eql {lv' : List (Nat × Value)} (ks : List Nat) (e : lv_pick lv ks = lv') (h : GW κ k n ws pc lv' st) : GW κ k n ws pc lv st := fun H locs hP hD hS ls hl => h H locs hP hD hS ls (lv_sub hl ks e)

theorem g_iconst (C : Cx κ cc own Ts Rm) {i : Int} {v : Int32} (hdg : decode cc pc = .ok (.iconst i, 1)) (hv : Int32.ofInt i = v) (h : GW κ k n ws (pc + 1) lv (.int v :: st)) : GW κ k n ws pc lv (st) := fun H locs hP hD hS ls hl => lv_iconst C.1 C.2.1 hdg hv (h H locs hP hD hS ls hl)
theorem g_bipush (C : Cx κ cc own Ts Rm) {i : Int} {v : Int32} (hdg : decode cc pc = .ok (.bipush i, 2)) (hv : (Int8.ofInt i).toInt32 = v) (h : GW κ k n ws (pc + 2) lv (.int v :: st)) : GW κ k n ws pc lv (st) := fun H locs hP hD hS ls hl => lv_bipush C.1 C.2.1 hdg hv (h H locs hP hD hS ls hl)
theorem g_sipush (C : Cx κ cc own Ts Rm) {i : Int} {v : Int32} (hdg : decode cc pc = .ok (.sipush i, 3)) (hv : (Int16.ofInt i).toInt32 = v) (h : GW κ k n ws (pc + 3) lv (.int v :: st)) : GW κ k n ws pc lv (st) := fun H locs hP hD hS ls hl => lv_sipush C.1 C.2.1 hdg hv (h H locs hP hD hS ls hl)
theorem g_lconst (C : Cx κ cc own Ts Rm) {i : Fin 2} {v : Int64} (hdg : decode cc pc = .ok (.lconst i, 1)) (hv : Int64.ofNat (i : Nat) = v) (h : GW κ k n ws (pc + 1) lv (.long v :: st)) : GW κ k n ws pc lv (st) := fun H locs hP hD hS ls hl => lv_lconst C.1 C.2.1 hdg hv (h H locs hP hD hS ls hl)
theorem g_null (C : Cx κ cc own Ts Rm)  (hdg : decode cc pc = .ok (.aconst_null, 1)) (h : GW κ k n ws (pc + 1) lv (.null :: st)) : GW κ k n ws pc lv (st) := fun H locs hP hD hS ls hl => lv_null C.1 C.2.1 hdg (h H locs hP hD hS ls hl)
theorem g_ldc (C : Cx κ cc own Ts Rm) {i : Nat} {v : Int32} (hdg : decode cc pc = .ok (.ldc i, 2)) (hw : Cond.constant own i v ∈ Ts) (h : GW κ k n ws (pc + 2) lv (.int v :: st)) : GW κ k n ws pc lv (st) := fun H locs hP hD hS ls hl => lv_ldc C.1 C.2.1 C.2.2.2.1 (C.2.2.2.2.1 _ hw) hdg (h H locs hP hD hS ls hl)
theorem g_ldcw (C : Cx κ cc own Ts Rm) {i : Nat} {v : Int32} (hdg : decode cc pc = .ok (.ldc_w i, 3)) (hw : Cond.constant own i v ∈ Ts) (h : GW κ k n ws (pc + 3) lv (.int v :: st)) : GW κ k n ws pc lv (st) := fun H locs hP hD hS ls hl => lv_ldcw C.1 C.2.1 C.2.2.2.1 (C.2.2.2.2.1 _ hw) hdg (h H locs hP hD hS ls hl)
theorem g_ldc2 (C : Cx κ cc own Ts Rm) {i : Nat} {v : Int64} (hdg : decode cc pc = .ok (.ldc2_w i, 3)) (hw : Cond.constantLong own i v ∈ Ts) (h : GW κ k n ws (pc + 3) lv (.long v :: st)) : GW κ k n ws pc lv (st) := fun H locs hP hD hS ls hl => lv_ldc2 C.1 C.2.1 C.2.2.2.1 (C.2.2.2.2.1 _ hw) hdg (h H locs hP hD hS ls hl)
theorem g_iload_n (C : Cx κ cc own Ts Rm) {f : Fin 4} {i : Nat} {x : Int32} (j : Nat) (hj : lv[j]? = some (i, .int x)) (hi : (f : Nat) = i) (hdg : decode cc pc = .ok (.iload_n f, 1)) (h : GW κ k n ws (pc + 1) lv (.int x :: st)) : GW κ k n ws pc lv (st) := fun H locs hP hD hS ls hl => lv_iload_n C.1 C.2.1 hdg hi (lv_at hl j hj) (h H locs hP hD hS ls hl)
theorem g_iload (C : Cx κ cc own Ts Rm) {i : Nat} {x : Int32} (j : Nat) (hj : lv[j]? = some (i, .int x)) (hdg : decode cc pc = .ok (.iload i, 2)) (h : GW κ k n ws (pc + 2) lv (.int x :: st)) : GW κ k n ws pc lv (st) := fun H locs hP hD hS ls hl => lv_iload C.1 C.2.1 hdg (lv_at hl j hj) (h H locs hP hD hS ls hl)
theorem g_istore_n (C : Cx κ cc own Ts Rm) {f : Fin 4} {i N : Nat} {x : Int32} (lv' : List (Nat × Value)) (hN : q_n κ = N) (hi : (f : Nat) = i) (hn : i < N) (hl' : (i, Value.int x) :: lv.filter (fun q => !(q.1 == i) && !(q.1 + 1 == i && q.2.category == 2)) = lv') (hdg : decode cc pc = .ok (.istore_n f, 1)) (h : GW κ k n ws (pc + 1) lv' st) : GW κ k n ws pc lv (.int x :: st) := fun H locs hP hD hS ls hl => lv_istore_n C.1 C.2.1 hdg hi hl (by rw [hN]; exact hn) hl' (fun ls' hls => h H locs hP hD hS ls' hls)
theorem g_istore (C : Cx κ cc own Ts Rm) {i N : Nat} {x : Int32} (lv' : List (Nat × Value)) (hN : q_n κ = N) (hn : i < N) (hl' : (i, Value.int x) :: lv.filter (fun q => !(q.1 == i) && !(q.1 + 1 == i && q.2.category == 2)) = lv') (hdg : decode cc pc = .ok (.istore i, 2)) (h : GW κ k n ws (pc + 2) lv' st) : GW κ k n ws pc lv (.int x :: st) := fun H locs hP hD hS ls hl => lv_istore C.1 C.2.1 hdg hl (by rw [hN]; exact hn) hl' (fun ls' hls => h H locs hP hD hS ls' hls)
theorem g_lload_n (C : Cx κ cc own Ts Rm) {f : Fin 4} {i : Nat} {x : Int64} (j : Nat) (hj : lv[j]? = some (i, .long x)) (hi : (f : Nat) = i) (hdg : decode cc pc = .ok (.lload_n f, 1)) (h : GW κ k n ws (pc + 1) lv (.long x :: st)) : GW κ k n ws pc lv (st) := fun H locs hP hD hS ls hl => lv_lload_n C.1 C.2.1 hdg hi (lv_at hl j hj) (h H locs hP hD hS ls hl)
theorem g_lload (C : Cx κ cc own Ts Rm) {i : Nat} {x : Int64} (j : Nat) (hj : lv[j]? = some (i, .long x)) (hdg : decode cc pc = .ok (.lload i, 2)) (h : GW κ k n ws (pc + 2) lv (.long x :: st)) : GW κ k n ws pc lv (st) := fun H locs hP hD hS ls hl => lv_lload C.1 C.2.1 hdg (lv_at hl j hj) (h H locs hP hD hS ls hl)
theorem g_lstore_n (C : Cx κ cc own Ts Rm) {f : Fin 4} {i N : Nat} {x : Int64} (lv' : List (Nat × Value)) (hN : q_n κ = N) (hi : (f : Nat) = i) (hn : i + 1 < N) (hl' : (i, Value.long x) :: lv.filter (fun q => !(q.1 == i) && (!(q.1 == i + 1) && !(q.1 + 1 == i && q.2.category == 2))) = lv') (hdg : decode cc pc = .ok (.lstore_n f, 1)) (h : GW κ k n ws (pc + 1) lv' st) : GW κ k n ws pc lv (.long x :: st) := fun H locs hP hD hS ls hl => lv_lstore_n C.1 C.2.1 hdg hi hl (by rw [hN]; exact hn) hl' (fun ls' hls => h H locs hP hD hS ls' hls)
theorem g_lstore (C : Cx κ cc own Ts Rm) {i N : Nat} {x : Int64} (lv' : List (Nat × Value)) (hN : q_n κ = N) (hn : i + 1 < N) (hl' : (i, Value.long x) :: lv.filter (fun q => !(q.1 == i) && (!(q.1 == i + 1) && !(q.1 + 1 == i && q.2.category == 2))) = lv') (hdg : decode cc pc = .ok (.lstore i, 2)) (h : GW κ k n ws (pc + 2) lv' st) : GW κ k n ws pc lv (.long x :: st) := fun H locs hP hD hS ls hl => lv_lstore C.1 C.2.1 hdg hl (by rw [hN]; exact hn) hl' (fun ls' hls => h H locs hP hD hS ls' hls)
theorem g_aload_n (C : Cx κ cc own Ts Rm) {f : Fin 4} {i : Nat} {x : Nat} (j : Nat) (hj : lv[j]? = some (i, .ref x)) (hi : (f : Nat) = i) (hdg : decode cc pc = .ok (.aload_n f, 1)) (h : GW κ k n ws (pc + 1) lv (.ref x :: st)) : GW κ k n ws pc lv (st) := fun H locs hP hD hS ls hl => lv_aload_n C.1 C.2.1 hdg hi (lv_at hl j hj) (h H locs hP hD hS ls hl)
theorem g_aload (C : Cx κ cc own Ts Rm) {i : Nat} {x : Nat} (j : Nat) (hj : lv[j]? = some (i, .ref x)) (hdg : decode cc pc = .ok (.aload i, 2)) (h : GW κ k n ws (pc + 2) lv (.ref x :: st)) : GW κ k n ws pc lv (st) := fun H locs hP hD hS ls hl => lv_aload C.1 C.2.1 hdg (lv_at hl j hj) (h H locs hP hD hS ls hl)
theorem g_astore_n (C : Cx κ cc own Ts Rm) {f : Fin 4} {i N : Nat} {x : Nat} (lv' : List (Nat × Value)) (hN : q_n κ = N) (hi : (f : Nat) = i) (hn : i < N) (hl' : (i, Value.ref x) :: lv.filter (fun q => !(q.1 == i) && !(q.1 + 1 == i && q.2.category == 2)) = lv') (hdg : decode cc pc = .ok (.astore_n f, 1)) (h : GW κ k n ws (pc + 1) lv' st) : GW κ k n ws pc lv (.ref x :: st) := fun H locs hP hD hS ls hl => lv_astore_n C.1 C.2.1 hdg hi hl (by rw [hN]; exact hn) hl' (fun ls' hls => h H locs hP hD hS ls' hls)
theorem g_astore (C : Cx κ cc own Ts Rm) {i N : Nat} {x : Nat} (lv' : List (Nat × Value)) (hN : q_n κ = N) (hn : i < N) (hl' : (i, Value.ref x) :: lv.filter (fun q => !(q.1 == i) && !(q.1 + 1 == i && q.2.category == 2)) = lv') (hdg : decode cc pc = .ok (.astore i, 2)) (h : GW κ k n ws (pc + 2) lv' st) : GW κ k n ws pc lv (.ref x :: st) := fun H locs hP hD hS ls hl => lv_astore C.1 C.2.1 hdg hl (by rw [hN]; exact hn) hl' (fun ls' hls => h H locs hP hD hS ls' hls)
theorem g_rload_n (C : Cx κ cc own Ts Rm) {f : Fin 4} {i : Nat} {r : Option Nat} (j : Nat) (hj : lv[j]? = some (i, va_rf r)) (hi : (f : Nat) = i) (hdg : decode cc pc = .ok (.aload_n f, 1)) (h : GW κ k n ws (pc + 1) lv (va_rf r :: st)) : GW κ k n ws pc lv st := by
  intro H locs hP hD hS ls hl
  have h1 := h H locs hP hD hS ls hl
  cases r with
  | none => exact lv_aload_nN C.1 C.2.1 hdg hi (lv_at hl j hj) h1
  | some a => exact lv_aload_n C.1 C.2.1 hdg hi (lv_at hl j hj) h1
theorem g_rload (C : Cx κ cc own Ts Rm) {i : Nat} {r : Option Nat} (j : Nat) (hj : lv[j]? = some (i, va_rf r)) (hdg : decode cc pc = .ok (.aload i, 2)) (h : GW κ k n ws (pc + 2) lv (va_rf r :: st)) : GW κ k n ws pc lv st := by
  intro H locs hP hD hS ls hl
  have h1 := h H locs hP hD hS ls hl
  cases r with
  | none => exact lv_aloadN C.1 C.2.1 hdg (lv_at hl j hj) h1
  | some a => exact lv_aload C.1 C.2.1 hdg (lv_at hl j hj) h1
theorem g_rstore_n (C : Cx κ cc own Ts Rm) {f : Fin 4} {i N : Nat} {r : Option Nat} (lv' : List (Nat × Value)) (hN : q_n κ = N) (hi : (f : Nat) = i) (hn : i < N) (hl' : (i, va_rf r) :: lv.filter (fun q => !(q.1 == i) && !(q.1 + 1 == i && q.2.category == 2)) = lv') (hdg : decode cc pc = .ok (.astore_n f, 1)) (h : GW κ k n ws (pc + 1) lv' st) : GW κ k n ws pc lv (va_rf r :: st) := by
  intro H locs hP hD hS ls hl
  cases r with
  | none => exact lv_astore_nN C.1 C.2.1 hdg hi hl (by rw [hN]; exact hn) hl' (fun ls' hls => h H locs hP hD hS ls' hls)
  | some a => exact lv_astore_n C.1 C.2.1 hdg hi hl (by rw [hN]; exact hn) hl' (fun ls' hls => h H locs hP hD hS ls' hls)
theorem g_rstore (C : Cx κ cc own Ts Rm) {i N : Nat} {r : Option Nat} (lv' : List (Nat × Value)) (hN : q_n κ = N) (hn : i < N) (hl' : (i, va_rf r) :: lv.filter (fun q => !(q.1 == i) && !(q.1 + 1 == i && q.2.category == 2)) = lv') (hdg : decode cc pc = .ok (.astore i, 2)) (h : GW κ k n ws (pc + 2) lv' st) : GW κ k n ws pc lv (va_rf r :: st) := by
  intro H locs hP hD hS ls hl
  cases r with
  | none => exact lv_astoreN C.1 C.2.1 hdg hl (by rw [hN]; exact hn) hl' (fun ls' hls => h H locs hP hD hS ls' hls)
  | some a => exact lv_astore C.1 C.2.1 hdg hl (by rw [hN]; exact hn) hl' (fun ls' hls => h H locs hP hD hS ls' hls)
theorem g_iinc (C : Cx κ cc own Ts Rm) {i N j : Nat} {d : Int} {x v : Int32} (lv' : List (Nat × Value)) (hN : q_n κ = N) (hj : lv[j]? = some (i, .int x)) (hv : x + Int32.ofInt d = v) (hn : i < N) (hl' : (i, Value.int v) :: lv.filter (fun q => !(q.1 == i) && !(q.1 + 1 == i && q.2.category == 2)) = lv') (hdg : decode cc pc = .ok (.iinc i d, 3)) (h : GW κ k n ws (pc + 3) lv' st) : GW κ k n ws pc lv st := fun H locs hP hD hS ls hl => lv_iinc C.1 C.2.1 hdg hl hj hv (by rw [hN]; exact hn) hl' (fun ls' hls => h H locs hP hD hS ls' hls)
theorem g_iadd (C : Cx κ cc own Ts Rm) {x y : Int32} (hdg : decode cc pc = .ok (.iadd, 1)) (h : GW κ k n ws (pc + 1) lv (.int (x + y) :: st)) : GW κ k n ws pc lv (.int y :: .int x :: st) := fun H locs hP hD hS ls hl => lv_iadd C.1 C.2.1 hdg (h H locs hP hD hS ls hl)
theorem g_isub (C : Cx κ cc own Ts Rm) {x y : Int32} (hdg : decode cc pc = .ok (.isub, 1)) (h : GW κ k n ws (pc + 1) lv (.int (x - y) :: st)) : GW κ k n ws pc lv (.int y :: .int x :: st) := fun H locs hP hD hS ls hl => lv_isub C.1 C.2.1 hdg (h H locs hP hD hS ls hl)
theorem g_imul (C : Cx κ cc own Ts Rm) {x y : Int32} (hdg : decode cc pc = .ok (.imul, 1)) (h : GW κ k n ws (pc + 1) lv (.int (x * y) :: st)) : GW κ k n ws pc lv (.int y :: .int x :: st) := fun H locs hP hD hS ls hl => lv_imul C.1 C.2.1 hdg (h H locs hP hD hS ls hl)
theorem g_iand (C : Cx κ cc own Ts Rm) {x y : Int32} (hdg : decode cc pc = .ok (.iand, 1)) (h : GW κ k n ws (pc + 1) lv (.int (x &&& y) :: st)) : GW κ k n ws pc lv (.int y :: .int x :: st) := fun H locs hP hD hS ls hl => lv_iand C.1 C.2.1 hdg (h H locs hP hD hS ls hl)
theorem g_ior (C : Cx κ cc own Ts Rm) {x y : Int32} (hdg : decode cc pc = .ok (.ior, 1)) (h : GW κ k n ws (pc + 1) lv (.int (x ||| y) :: st)) : GW κ k n ws pc lv (.int y :: .int x :: st) := fun H locs hP hD hS ls hl => lv_ior C.1 C.2.1 hdg (h H locs hP hD hS ls hl)
theorem g_ixor (C : Cx κ cc own Ts Rm) {x y : Int32} (hdg : decode cc pc = .ok (.ixor, 1)) (h : GW κ k n ws (pc + 1) lv (.int (x ^^^ y) :: st)) : GW κ k n ws pc lv (.int y :: .int x :: st) := fun H locs hP hD hS ls hl => lv_ixor C.1 C.2.1 hdg (h H locs hP hD hS ls hl)
theorem g_ishl (C : Cx κ cc own Ts Rm) {x y : Int32} (hdg : decode cc pc = .ok (.ishl, 1)) (h : GW κ k n ws (pc + 1) lv (.int (x <<< (y &&& 31)) :: st)) : GW κ k n ws pc lv (.int y :: .int x :: st) := fun H locs hP hD hS ls hl => lv_ishl C.1 C.2.1 hdg (h H locs hP hD hS ls hl)
theorem g_ishr (C : Cx κ cc own Ts Rm) {x y : Int32} (hdg : decode cc pc = .ok (.ishr, 1)) (h : GW κ k n ws (pc + 1) lv (.int (x >>> (y &&& 31)) :: st)) : GW κ k n ws pc lv (.int y :: .int x :: st) := fun H locs hP hD hS ls hl => lv_ishr C.1 C.2.1 hdg (h H locs hP hD hS ls hl)
theorem g_ladd (C : Cx κ cc own Ts Rm) {x y : Int64} (hdg : decode cc pc = .ok (.ladd, 1)) (h : GW κ k n ws (pc + 1) lv (.long (x + y) :: st)) : GW κ k n ws pc lv (.long y :: .long x :: st) := fun H locs hP hD hS ls hl => lv_ladd C.1 C.2.1 hdg (h H locs hP hD hS ls hl)
theorem g_lsub (C : Cx κ cc own Ts Rm) {x y : Int64} (hdg : decode cc pc = .ok (.lsub, 1)) (h : GW κ k n ws (pc + 1) lv (.long (x - y) :: st)) : GW κ k n ws pc lv (.long y :: .long x :: st) := fun H locs hP hD hS ls hl => lv_lsub C.1 C.2.1 hdg (h H locs hP hD hS ls hl)
theorem g_lmul (C : Cx κ cc own Ts Rm) {x y : Int64} (hdg : decode cc pc = .ok (.lmul, 1)) (h : GW κ k n ws (pc + 1) lv (.long (x * y) :: st)) : GW κ k n ws pc lv (.long y :: .long x :: st) := fun H locs hP hD hS ls hl => lv_lmul C.1 C.2.1 hdg (h H locs hP hD hS ls hl)
theorem g_land (C : Cx κ cc own Ts Rm) {x y : Int64} (hdg : decode cc pc = .ok (.land, 1)) (h : GW κ k n ws (pc + 1) lv (.long (x &&& y) :: st)) : GW κ k n ws pc lv (.long y :: .long x :: st) := fun H locs hP hD hS ls hl => lv_land C.1 C.2.1 hdg (h H locs hP hD hS ls hl)
theorem g_lor (C : Cx κ cc own Ts Rm) {x y : Int64} (hdg : decode cc pc = .ok (.lor, 1)) (h : GW κ k n ws (pc + 1) lv (.long (x ||| y) :: st)) : GW κ k n ws pc lv (.long y :: .long x :: st) := fun H locs hP hD hS ls hl => lv_lor C.1 C.2.1 hdg (h H locs hP hD hS ls hl)
theorem g_idiv (C : Cx κ cc own Ts Rm) {x y : Int32} (hne : ¬ y = 0) (hdg : decode cc pc = .ok (.idiv, 1)) (h : GW κ k n ws (pc + 1) lv (.int (x / y) :: st)) : GW κ k n ws pc lv (.int y :: .int x :: st) := fun H locs hP hD hS ls hl => lv_idiv C.1 C.2.1 hdg hne (h H locs hP hD hS ls hl)
theorem g_irem (C : Cx κ cc own Ts Rm) {x y : Int32} (hne : ¬ y = 0) (hdg : decode cc pc = .ok (.irem, 1)) (h : GW κ k n ws (pc + 1) lv (.int (x - x / y * y) :: st)) : GW κ k n ws pc lv (.int y :: .int x :: st) := fun H locs hP hD hS ls hl => lv_irem C.1 C.2.1 hdg hne (h H locs hP hD hS ls hl)
theorem g_ldiv (C : Cx κ cc own Ts Rm) {x y : Int64} (hne : ¬ y = 0) (hdg : decode cc pc = .ok (.ldiv, 1)) (h : GW κ k n ws (pc + 1) lv (.long (x / y) :: st)) : GW κ k n ws pc lv (.long y :: .long x :: st) := fun H locs hP hD hS ls hl => lv_ldiv C.1 C.2.1 hdg hne (h H locs hP hD hS ls hl)
theorem g_lrem (C : Cx κ cc own Ts Rm) {x y : Int64} (hne : ¬ y = 0) (hdg : decode cc pc = .ok (.lrem, 1)) (h : GW κ k n ws (pc + 1) lv (.long (x - x / y * y) :: st)) : GW κ k n ws pc lv (.long y :: .long x :: st) := fun H locs hP hD hS ls hl => lv_lrem C.1 C.2.1 hdg hne (h H locs hP hD hS ls hl)
theorem g_ineg (C : Cx κ cc own Ts Rm) {x : Int32} (hdg : decode cc pc = .ok (.ineg, 1)) (h : GW κ k n ws (pc + 1) lv (.int (-x) :: st)) : GW κ k n ws pc lv (.int x :: st) := fun H locs hP hD hS ls hl => lv_ineg C.1 C.2.1 hdg (h H locs hP hD hS ls hl)
theorem g_i2l (C : Cx κ cc own Ts Rm) {x : Int32} (hdg : decode cc pc = .ok (.i2l, 1)) (h : GW κ k n ws (pc + 1) lv (.long x.toInt64 :: st)) : GW κ k n ws pc lv (.int x :: st) := fun H locs hP hD hS ls hl => lv_i2l C.1 C.2.1 hdg rfl (h H locs hP hD hS ls hl)
theorem g_l2i (C : Cx κ cc own Ts Rm) {x : Int64} (hdg : decode cc pc = .ok (.l2i, 1)) (h : GW κ k n ws (pc + 1) lv (.int x.toInt32 :: st)) : GW κ k n ws pc lv (.long x :: st) := fun H locs hP hD hS ls hl => lv_l2i C.1 C.2.1 hdg rfl (h H locs hP hD hS ls hl)
theorem g_i2b (C : Cx κ cc own Ts Rm) {x : Int32} (hdg : decode cc pc = .ok (.i2b, 1)) (h : GW κ k n ws (pc + 1) lv (.int x.toInt8.toInt32 :: st)) : GW κ k n ws pc lv (.int x :: st) := fun H locs hP hD hS ls hl => lv_i2b C.1 C.2.1 hdg rfl (h H locs hP hD hS ls hl)
theorem g_i2c (C : Cx κ cc own Ts Rm) {x : Int32} (hdg : decode cc pc = .ok (.i2c, 1)) (h : GW κ k n ws (pc + 1) lv (.int (x.toUInt32 % 65536).toInt32 :: st)) : GW κ k n ws pc lv (.int x :: st) := fun H locs hP hD hS ls hl => lv_i2c C.1 C.2.1 hdg rfl (h H locs hP hD hS ls hl)
theorem g_lushr (C : Cx κ cc own Ts Rm) {x : Int64} {y : Int32} (hdg : decode cc pc = .ok (.lushr, 1)) (h : GW κ k n ws (pc + 1) lv (.long (x.toUInt64 >>> (y.toInt64.toUInt64 &&& Int64.toUInt64 63)).toInt64 :: st)) : GW κ k n ws pc lv (.int y :: .long x :: st) := fun H locs hP hD hS ls hl => lv_lushr C.1 C.2.1 hdg rfl (h H locs hP hD hS ls hl)
theorem g_lshl (C : Cx κ cc own Ts Rm) {x : Int64} {y : Int32} (hdg : decode cc pc = .ok (.lshl, 1)) (h : GW κ k n ws (pc + 1) lv (.long (x <<< (y.toInt64 &&& 63)) :: st)) : GW κ k n ws pc lv (.int y :: .long x :: st) := fun H locs hP hD hS ls hl => lv_lshl C.1 C.2.1 hdg rfl (h H locs hP hD hS ls hl)
theorem g_lshr (C : Cx κ cc own Ts Rm) {x : Int64} {y : Int32} (hdg : decode cc pc = .ok (.lshr, 1)) (h : GW κ k n ws (pc + 1) lv (.long (x >>> (y.toInt64 &&& 63)) :: st)) : GW κ k n ws pc lv (.int y :: .long x :: st) := fun H locs hP hD hS ls hl => lv_lshr C.1 C.2.1 hdg rfl (h H locs hP hD hS ls hl)
theorem g_dup (C : Cx κ cc own Ts Rm) {v : Value} (hv : v.category = 1) (hdg : decode cc pc = .ok (.dup, 1)) (h : GW κ k n ws (pc + 1) lv (v :: v :: st)) : GW κ k n ws pc lv (v :: st) := fun H locs hP hD hS ls hl => lv_dup C.1 C.2.1 hdg hv (h H locs hP hD hS ls hl)
theorem g_dup2 (C : Cx κ cc own Ts Rm) {va vb : Value} (hva : va.category = 1) (hvb : vb.category = 1) (hdg : decode cc pc = .ok (.dup2, 1)) (h : GW κ k n ws (pc + 1) lv (va :: vb :: va :: vb :: st)) : GW κ k n ws pc lv (va :: vb :: st) := fun H locs hP hD hS ls hl => lv_dup2_11 C.1 C.2.1 hdg hva hvb (h H locs hP hD hS ls hl)
theorem g_pop (C : Cx κ cc own Ts Rm) {v : Value} (hv : v.category = 1) (hdg : decode cc pc = .ok (.pop, 1)) (h : GW κ k n ws (pc + 1) lv (st)) : GW κ k n ws pc lv (v :: st) := fun H locs hP hD hS ls hl => lv_pop C.1 C.2.1 hdg hv (h H locs hP hD hS ls hl)
theorem g_goto (C : Cx κ cc own Ts Rm) {off : Int} (tgt : Nat) (ht : (pc : Int) + off = (tgt : Int)) (hdg : decode cc pc = .ok (.goto off, 3)) (h : GW κ k n ws tgt lv st) : GW κ k n ws pc lv st := fun H locs hP hD hS ls hl => lv_goto C.1 C.2.1 hdg ht (h H locs hP hD hS ls hl)
theorem g_if_eq (C : Cx κ cc own Ts Rm) {x : Int32} {off : Int} {wa wb : Prop} (tgt : Nat) (ht : (pc : Int) + off = (tgt : Int)) (hw : if x = 0 then wa else wb) (hdg : decode cc pc = .ok (.ifCond .eq off, 3)) (kt : wa → GW κ k n ws tgt lv st) (kf : wb → GW κ k n ws (pc + 3) lv st) : GW κ k n ws pc lv (.int x :: st) := fun H locs hP hD hS ls hl => lv_if_eq C.1 C.2.1 hdg ht (fun e => kt (by rw [if_pos e] at hw; exact hw) H locs hP hD hS ls hl) (fun e => kf (by rw [if_neg e] at hw; exact hw) H locs hP hD hS ls hl)
theorem g_icmp_eq (C : Cx κ cc own Ts Rm) {x y : Int32} {off : Int} {wa wb : Prop} (tgt : Nat) (ht : (pc : Int) + off = (tgt : Int)) (hw : if x = y then wa else wb) (hdg : decode cc pc = .ok (.if_icmp .eq off, 3)) (kt : wa → GW κ k n ws tgt lv st) (kf : wb → GW κ k n ws (pc + 3) lv st) : GW κ k n ws pc lv (.int y :: .int x :: st) := fun H locs hP hD hS ls hl => lv_icmp_eq C.1 C.2.1 hdg ht (fun e => kt (by rw [if_pos e] at hw; exact hw) H locs hP hD hS ls hl) (fun e => kf (by rw [if_neg e] at hw; exact hw) H locs hP hD hS ls hl)
theorem g_if_ne (C : Cx κ cc own Ts Rm) {x : Int32} {off : Int} {wa wb : Prop} (tgt : Nat) (ht : (pc : Int) + off = (tgt : Int)) (hw : if x = 0 then wa else wb) (hdg : decode cc pc = .ok (.ifCond .ne off, 3)) (kt : wb → GW κ k n ws tgt lv st) (kf : wa → GW κ k n ws (pc + 3) lv st) : GW κ k n ws pc lv (.int x :: st) := fun H locs hP hD hS ls hl => lv_if_ne C.1 C.2.1 hdg ht (fun e => kt (by rw [if_neg e] at hw; exact hw) H locs hP hD hS ls hl) (fun e => kf (by rw [if_pos e] at hw; exact hw) H locs hP hD hS ls hl)
theorem g_icmp_ne (C : Cx κ cc own Ts Rm) {x y : Int32} {off : Int} {wa wb : Prop} (tgt : Nat) (ht : (pc : Int) + off = (tgt : Int)) (hw : if x = y then wa else wb) (hdg : decode cc pc = .ok (.if_icmp .ne off, 3)) (kt : wb → GW κ k n ws tgt lv st) (kf : wa → GW κ k n ws (pc + 3) lv st) : GW κ k n ws pc lv (.int y :: .int x :: st) := fun H locs hP hD hS ls hl => lv_icmp_ne C.1 C.2.1 hdg ht (fun e => kt (by rw [if_neg e] at hw; exact hw) H locs hP hD hS ls hl) (fun e => kf (by rw [if_pos e] at hw; exact hw) H locs hP hD hS ls hl)
theorem g_if_lt (C : Cx κ cc own Ts Rm) {x : Int32} {off : Int} {wa wb : Prop} (tgt : Nat) (ht : (pc : Int) + off = (tgt : Int)) (hw : if x < 0 then wa else wb) (hdg : decode cc pc = .ok (.ifCond .lt off, 3)) (kt : wa → GW κ k n ws tgt lv st) (kf : wb → GW κ k n ws (pc + 3) lv st) : GW κ k n ws pc lv (.int x :: st) := fun H locs hP hD hS ls hl => lv_if_lt C.1 C.2.1 hdg ht (fun e => kt (by rw [if_pos e] at hw; exact hw) H locs hP hD hS ls hl) (fun e => kf (by rw [if_neg e] at hw; exact hw) H locs hP hD hS ls hl)
theorem g_icmp_lt (C : Cx κ cc own Ts Rm) {x y : Int32} {off : Int} {wa wb : Prop} (tgt : Nat) (ht : (pc : Int) + off = (tgt : Int)) (hw : if x < y then wa else wb) (hdg : decode cc pc = .ok (.if_icmp .lt off, 3)) (kt : wa → GW κ k n ws tgt lv st) (kf : wb → GW κ k n ws (pc + 3) lv st) : GW κ k n ws pc lv (.int y :: .int x :: st) := fun H locs hP hD hS ls hl => lv_icmp_lt C.1 C.2.1 hdg ht (fun e => kt (by rw [if_pos e] at hw; exact hw) H locs hP hD hS ls hl) (fun e => kf (by rw [if_neg e] at hw; exact hw) H locs hP hD hS ls hl)
theorem g_if_ge (C : Cx κ cc own Ts Rm) {x : Int32} {off : Int} {wa wb : Prop} (tgt : Nat) (ht : (pc : Int) + off = (tgt : Int)) (hw : if 0 ≤ x then wa else wb) (hdg : decode cc pc = .ok (.ifCond .ge off, 3)) (kt : wa → GW κ k n ws tgt lv st) (kf : wb → GW κ k n ws (pc + 3) lv st) : GW κ k n ws pc lv (.int x :: st) := fun H locs hP hD hS ls hl => lv_if_ge C.1 C.2.1 hdg ht (fun e => kt (by rw [if_pos e] at hw; exact hw) H locs hP hD hS ls hl) (fun e => kf (by rw [if_neg e] at hw; exact hw) H locs hP hD hS ls hl)
theorem g_icmp_ge (C : Cx κ cc own Ts Rm) {x y : Int32} {off : Int} {wa wb : Prop} (tgt : Nat) (ht : (pc : Int) + off = (tgt : Int)) (hw : if y ≤ x then wa else wb) (hdg : decode cc pc = .ok (.if_icmp .ge off, 3)) (kt : wa → GW κ k n ws tgt lv st) (kf : wb → GW κ k n ws (pc + 3) lv st) : GW κ k n ws pc lv (.int y :: .int x :: st) := fun H locs hP hD hS ls hl => lv_icmp_ge C.1 C.2.1 hdg ht (fun e => kt (by rw [if_pos e] at hw; exact hw) H locs hP hD hS ls hl) (fun e => kf (by rw [if_neg e] at hw; exact hw) H locs hP hD hS ls hl)
theorem g_if_gt (C : Cx κ cc own Ts Rm) {x : Int32} {off : Int} {wa wb : Prop} (tgt : Nat) (ht : (pc : Int) + off = (tgt : Int)) (hw : if 0 < x then wa else wb) (hdg : decode cc pc = .ok (.ifCond .gt off, 3)) (kt : wa → GW κ k n ws tgt lv st) (kf : wb → GW κ k n ws (pc + 3) lv st) : GW κ k n ws pc lv (.int x :: st) := fun H locs hP hD hS ls hl => lv_if_gt C.1 C.2.1 hdg ht (fun e => kt (by rw [if_pos e] at hw; exact hw) H locs hP hD hS ls hl) (fun e => kf (by rw [if_neg e] at hw; exact hw) H locs hP hD hS ls hl)
theorem g_icmp_gt (C : Cx κ cc own Ts Rm) {x y : Int32} {off : Int} {wa wb : Prop} (tgt : Nat) (ht : (pc : Int) + off = (tgt : Int)) (hw : if y < x then wa else wb) (hdg : decode cc pc = .ok (.if_icmp .gt off, 3)) (kt : wa → GW κ k n ws tgt lv st) (kf : wb → GW κ k n ws (pc + 3) lv st) : GW κ k n ws pc lv (.int y :: .int x :: st) := fun H locs hP hD hS ls hl => lv_icmp_gt C.1 C.2.1 hdg ht (fun e => kt (by rw [if_pos e] at hw; exact hw) H locs hP hD hS ls hl) (fun e => kf (by rw [if_neg e] at hw; exact hw) H locs hP hD hS ls hl)
theorem g_if_le (C : Cx κ cc own Ts Rm) {x : Int32} {off : Int} {wa wb : Prop} (tgt : Nat) (ht : (pc : Int) + off = (tgt : Int)) (hw : if x ≤ 0 then wa else wb) (hdg : decode cc pc = .ok (.ifCond .le off, 3)) (kt : wa → GW κ k n ws tgt lv st) (kf : wb → GW κ k n ws (pc + 3) lv st) : GW κ k n ws pc lv (.int x :: st) := fun H locs hP hD hS ls hl => lv_if_le C.1 C.2.1 hdg ht (fun e => kt (by rw [if_pos e] at hw; exact hw) H locs hP hD hS ls hl) (fun e => kf (by rw [if_neg e] at hw; exact hw) H locs hP hD hS ls hl)
theorem g_icmp_le (C : Cx κ cc own Ts Rm) {x y : Int32} {off : Int} {wa wb : Prop} (tgt : Nat) (ht : (pc : Int) + off = (tgt : Int)) (hw : if x ≤ y then wa else wb) (hdg : decode cc pc = .ok (.if_icmp .le off, 3)) (kt : wa → GW κ k n ws tgt lv st) (kf : wb → GW κ k n ws (pc + 3) lv st) : GW κ k n ws pc lv (.int y :: .int x :: st) := fun H locs hP hD hS ls hl => lv_icmp_le C.1 C.2.1 hdg ht (fun e => kt (by rw [if_pos e] at hw; exact hw) H locs hP hD hS ls hl) (fun e => kf (by rw [if_neg e] at hw; exact hw) H locs hP hD hS ls hl)
theorem g_lcmp (C : Cx κ cc own Ts Rm) {x y : Int64} (hdg : decode cc pc = .ok (.lcmp, 1)) (h : GW κ k n ws (pc + 1) lv (.int (lg_cmp x y) :: st)) : GW κ k n ws pc lv (.long y :: .long x :: st) := fun H locs hP hD hS ls hl => W.lcmp C.1 C.2.1 hdg (h H locs hP hD hS ls hl)
/-- a reference to a thing, or null -/
theorem g_ifnull (C : Cx κ cc own Ts Rm) {r : Option Nat} {off : Int} {wa : Prop} {wb : Nat → Prop} (tgt : Nat) (ht : (pc : Int) + off = (tgt : Int)) (hw : (r = none → wa) ∧ ∀ a, r = some a → wb a) (hdg : decode cc pc = .ok (.ifnull off, 3)) (kt : wa → r = none → GW κ k n ws tgt lv st) (kf : ∀ a, r = some a → wb a → GW κ k n ws (pc + 3) lv st) : GW κ k n ws pc lv (va_rf r :: st) := by
  intro H locs hP hD hS ls hl
  cases r with
  | none => exact lv_ifnullN C.1 C.2.1 hdg ht (kt (hw.1 rfl) rfl H locs hP hD hS ls hl)
  | some a => exact lv_ifnull C.1 C.2.1 hdg (kf a rfl (hw.2 a rfl) H locs hP hD hS ls hl)
theorem g_ifnonnull (C : Cx κ cc own Ts Rm) {r : Option Nat} {off : Int} {wa : Prop} {wb : Nat → Prop} (tgt : Nat) (ht : (pc : Int) + off = (tgt : Int)) (hw : (r = none → wa) ∧ ∀ a, r = some a → wb a) (hdg : decode cc pc = .ok (.ifnonnull off, 3)) (kt : ∀ a, r = some a → wb a → GW κ k n ws tgt lv st) (kf : wa → r = none → GW κ k n ws (pc + 3) lv st) : GW κ k n ws pc lv (va_rf r :: st) := by
  intro H locs hP hD hS ls hl
  cases r with
  | none => exact lv_ifnonnullN C.1 C.2.1 hdg (kf (hw.1 rfl) rfl H locs hP hD hS ls hl)
  | some a => exact lv_ifnonnull C.1 C.2.1 hdg ht (kt a rfl (hw.2 a rfl) H locs hP hD hS ls hl)
/-- a switch: out of its range, or at one of its numbers -/
theorem g_swOut (C : Cx κ cc own Ts Rm) {dflt lo hi : Int} {offs : Array Int} {len : Nat} {x : Int32} (tgt : Nat) (h : x.toInt < lo ∨ hi < x.toInt) (ht : (pc : Int) + dflt = (tgt : Int)) (hdg : decode cc pc = .ok (.tableswitch dflt lo hi offs, len)) (hk : GW κ k n ws tgt lv st) : GW κ k n ws pc lv (.int x :: st) := fun H locs hP hD hS ls hl => lv_tableOut C.1 C.2.1 hdg h ht (hk H locs hP hD hS ls hl)
theorem g_swIn (C : Cx κ cc own Ts Rm) {dflt lo hi off : Int} {offs : Array Int} {len : Nat} {x : Int32} (y : Int) (tgt : Nat) (h : x.toInt = y) (h1 : ¬ y < lo) (h2 : ¬ hi < y) (ho : offs[(y - lo).toNat]? = some off) (ht : (pc : Int) + off = (tgt : Int)) (hdg : decode cc pc = .ok (.tableswitch dflt lo hi offs, len)) (hk : GW κ k n ws tgt lv st) : GW κ k n ws pc lv (.int x :: st) := by
  subst h
  exact fun H locs hP hD hS ls hl => lv_tableIn C.1 C.2.1 hdg h1 h2 ho ht (hk H locs hP hD hS ls hl)
/-! fields -/
variable {tys : List (ClassId × FieldType)} {Cn ref : String} {T : u_T} {N ci idx : Nat} {a : Nat} {fs : List Value}
theorem g_get (C : Cx κ cc own Ts Rm) (hK : va_K (q_D κ) vwCl tys (q_s κ)) (hin : ∀ w ∈ u_ws Cn T N, w ∈ Ts) (hc : vwCl[ci]? = some (Cn, T, N)) (q0 : Nat) (he : ws[q0]? = some (a, .inr (ci, fs))) (f : Nat) (hf : f < N) (hsame : ∀ x, (q_s κ).fieldFound? (T f).1 (T f).2.1 (T f).2.2.1 = some x → (q_s κ).fieldFound? ref (T f).2.1 (T f).2.2.1 = some x) (hlk : Cond.fieldLink own idx ref (T f).2.1 (T f).2.2.1 ∈ Ts) {v : Value} (hv : fs[f]? = some v) (hdg : decode cc pc = .ok (.getfield idx, 3)) (h : GW κ k n ws (pc + 3) lv (v :: st)) : GW κ k n ws pc lv (.ref a :: st) :=
  fun H locs hP hD hS ls hl => va_get C.1 C.2.1 C.2.2.2.2.1 hin C.2.2.2.1 hK hP q0 he hc f hf (C.2.2.2.2.1 _ hlk) hsame hv hdg (h H locs hP hD hS ls hl)
theorem g_put (C : Cx κ cc own Ts Rm) (hK : va_K (q_D κ) vwCl tys (q_s κ)) (hin : ∀ w ∈ u_ws Cn T N, w ∈ Ts) (hc : vwCl[ci]? = some (Cn, T, N)) (ty0 : Nat → FieldType) (hty : ∀ k, k < N → parseFieldDescriptor (T k).2.2.1 = some (ty0 k)) (hnm : ∀ a, a < N → ∀ b, b < N → a ≠ b → (T a).2.1 ≠ (T b).2.1) (q0 : Nat) (he : ws[q0]? = some (a, .inr (ci, fs))) (f : Nat) (hf : f < N) (hsame : ∀ x, (q_s κ).fieldFound? (T f).1 (T f).2.1 (T f).2.2.1 = some x → (q_s κ).fieldFound? ref (T f).2.1 (T f).2.2.1 = some x) (hlk : Cond.fieldLink own idx ref (T f).2.1 (T f).2.2.1 ∈ Ts) (hfin : (T f).2.2.2 = false) {v : Value} (hn : narrow (ty0 f) v = v) (hfit : fits (ty0 f) v = true) (hlen : f < fs.length) {ws' : va_W} (e : ws.set q0 (a, .inr (ci, fs.set f v)) = ws') (hdg : decode cc pc = .ok (.putfield idx, 3)) (h : GW κ k n ws' (pc + 3) lv st) : GW κ k n ws pc lv (v :: .ref a :: st) :=
  fun H locs hP hD hS ls hl => va_put C.1 C.2.1 C.2.2.2.2.1 hin ty0 hty hnm C.2.2.2.1 hK hP hD hS q0 he hc f hf (C.2.2.2.2.1 _ hlk) hsame hfin (hty f hf) hn hfit hlen hdg (fun H1 locs1 hP1 hD1 hS1 => h H1 locs1 (e ▸ hP1) (e ▸ hD1) hS1 ls hl)
theorem g_putF (C : Cx κ cc own Ts Rm) (hK : va_K (q_D κ) vwCl tys (q_s κ)) (hin : ∀ w ∈ u_ws Cn T N, w ∈ Ts) (hc : vwCl[ci]? = some (Cn, T, N)) (ty0 : Nat → FieldType) (hty : ∀ k, k < N → parseFieldDescriptor (T k).2.2.1 = some (ty0 k)) (hnm : ∀ a, a < N → ∀ b, b < N → a ≠ b → (T a).2.1 ≠ (T b).2.1) (hi : (q_M κ).name = "<init>") (q0 : Nat) (he : ws[q0]? = some (a, .inr (ci, fs))) (f : Nat) (hf : f < N) (hdecl : (T f).1 = own) (hsame : ∀ x, (q_s κ).fieldFound? (T f).1 (T f).2.1 (T f).2.2.1 = some x → (q_s κ).fieldFound? ref (T f).2.1 (T f).2.2.1 = some x) (hlk : Cond.fieldLink own idx ref (T f).2.1 (T f).2.2.1 ∈ Ts) (hfin : (T f).2.2.2 = true) {v : Value} (hn : narrow (ty0 f) v = v) (hfit : fits (ty0 f) v = true) (hlen : f < fs.length) {ws' : va_W} (e : ws.set q0 (a, .inr (ci, fs.set f v)) = ws') (hdg : decode cc pc = .ok (.putfield idx, 3)) (h : GW κ k n ws' (pc + 3) lv st) : GW κ k n ws pc lv (v :: .ref a :: st) :=
  fun H locs hP hD hS ls hl => va_putF C.1 C.2.1 C.2.2.2.2.1 hin ty0 hty hnm C.2.2.2.1 hK hP hD hS q0 he hc f hf (C.2.2.2.2.1 _ hlk) hsame hfin hi hdecl (hty f hf) hn hfit hlen hdg (fun H1 locs1 hP1 hD1 hS1 => h H1 locs1 (e ▸ hP1) (e ▸ hD1) hS1 ls hl)
/-! arrays -/
variable {cA : ClassId} {L : Nat} {i : Int32}
theorem g_iald (C : Cx κ cc own Ts Rm) (hK : va_K (q_D κ) vwCl tys (q_s κ)) (q0 t0 : Nat) {f : Nat → Int32} (ha : ws[q0]? = some (a, .inl (cA, L, .inl f))) (ht : tys[t0]? = some (cA, .int)) (hin : vp_in i L) (hdg : decode cc pc = .ok (.iaload, 1)) (h : GW κ k n ws (pc + 1) lv (.int (f i.toNatClampNeg) :: st)) : GW κ k n ws pc lv (.int i :: .ref a :: st) := fun H locs hP hD hS ls hl => va_iald C.1 C.2.1 hK hP q0 t0 ha ht hin hdg (h H locs hP hD hS ls hl)
theorem g_bald (C : Cx κ cc own Ts Rm) (hK : va_K (q_D κ) vwCl tys (q_s κ)) (q0 t0 : Nat) {f : Nat → Int32} (ha : ws[q0]? = some (a, .inl (cA, L, .inl f))) (ht : tys[t0]? = some (cA, .byte)) (hin : vp_in i L) (hdg : decode cc pc = .ok (.baload, 1)) (h : GW κ k n ws (pc + 1) lv (.int (f i.toNatClampNeg) :: st)) : GW κ k n ws pc lv (.int i :: .ref a :: st) := fun H locs hP hD hS ls hl => va_bald C.1 C.2.1 hK hP q0 t0 ha ht hin hdg (h H locs hP hD hS ls hl)
theorem g_cald (C : Cx κ cc own Ts Rm) (hK : va_K (q_D κ) vwCl tys (q_s κ)) (q0 t0 : Nat) {f : Nat → Int32} (ha : ws[q0]? = some (a, .inl (cA, L, .inl f))) (ht : tys[t0]? = some (cA, .char)) (hin : vp_in i L) (hdg : decode cc pc = .ok (.caload, 1)) (h : GW κ k n ws (pc + 1) lv (.int (f i.toNatClampNeg) :: st)) : GW κ k n ws pc lv (.int i :: .ref a :: st) := fun H locs hP hD hS ls hl => va_cald C.1 C.2.1 hK hP q0 t0 ha ht hin hdg (h H locs hP hD hS ls hl)
theorem g_aald (C : Cx κ cc own Ts Rm) (hK : va_K (q_D κ) vwCl tys (q_s κ)) (q0 t0 : Nat) {E : String} {f : Nat → Option Nat} (ha : ws[q0]? = some (a, .inl (cA, L, .inr (.inr (.inr (.inr f)))))) (ht : tys[t0]? = some (cA, .object E)) (hin : vp_in i L) (hdg : decode cc pc = .ok (.aaload, 1)) (h : GW κ k n ws (pc + 1) lv (va_rf (f i.toNatClampNeg) :: st)) : GW κ k n ws pc lv (.int i :: .ref a :: st) := fun H locs hP hD hS ls hl => va_aldq C.1 C.2.1 hK hP q0 t0 ha ht hin hdg (h H locs hP hD hS ls hl)
theorem g_iast (C : Cx κ cc own Ts Rm) (hK : va_K (q_D κ) vwCl tys (q_s κ)) (q0 t0 : Nat) {x : Int32} {f : Nat → Int32} (ha : ws[q0]? = some (a, .inl (cA, L, .inl f))) (ht : tys[t0]? = some (cA, .int)) (hin : vp_in i L) {ws' : va_W} (e : ws.set q0 (a, .inl (cA, L, .inl (upd f i.toNatClampNeg x))) = ws') (hdg : decode cc pc = .ok (.iastore, 1)) (h : GW κ k n ws' (pc + 1) lv st) : GW κ k n ws pc lv (.int x :: .int i :: .ref a :: st) := fun H locs hP hD hS ls hl => va_iast C.1 C.2.1 hK hP hD hS q0 t0 ha ht hin hdg (fun H1 locs1 hP1 hD1 hS1 => h H1 locs1 (e ▸ hP1) (e ▸ hD1) hS1 ls hl)
theorem g_bast (C : Cx κ cc own Ts Rm) (hK : va_K (q_D κ) vwCl tys (q_s κ)) (q0 t0 : Nat) {x : Int32} {f : Nat → Int32} (ha : ws[q0]? = some (a, .inl (cA, L, .inl f))) (ht : tys[t0]? = some (cA, .byte)) (hin : vp_in i L) {ws' : va_W} (e : ws.set q0 (a, .inl (cA, L, .inl (upd f i.toNatClampNeg (vp_nar .byte x)))) = ws') (hdg : decode cc pc = .ok (.bastore, 1)) (h : GW κ k n ws' (pc + 1) lv st) : GW κ k n ws pc lv (.int x :: .int i :: .ref a :: st) := fun H locs hP hD hS ls hl => va_bast C.1 C.2.1 hK hP hD hS q0 t0 ha ht hin hdg (fun H1 locs1 hP1 hD1 hS1 => h H1 locs1 (e ▸ hP1) (e ▸ hD1) hS1 ls hl)
theorem g_cast (C : Cx κ cc own Ts Rm) (hK : va_K (q_D κ) vwCl tys (q_s κ)) (q0 t0 : Nat) {x : Int32} {f : Nat → Int32} (ha : ws[q0]? = some (a, .inl (cA, L, .inl f))) (ht : tys[t0]? = some (cA, .char)) (hin : vp_in i L) {ws' : va_W} (e : ws.set q0 (a, .inl (cA, L, .inl (upd f i.toNatClampNeg (vp_nar .char x)))) = ws') (hdg : decode cc pc = .ok (.castore, 1)) (h : GW κ k n ws' (pc + 1) lv st) : GW κ k n ws pc lv (.int x :: .int i :: .ref a :: st) := fun H locs hP hD hS ls hl => va_cast C.1 C.2.1 hK hP hD hS q0 t0 ha ht hin hdg (fun H1 locs1 hP1 hD1 hS1 => h H1 locs1 (e ▸ hP1) (e ▸ hD1) hS1 ls hl)
theorem g_aastN (C : Cx κ cc own Ts Rm) (hK : va_K (q_D κ) vwCl tys (q_s κ)) (q0 t0 : Nat) {E : String} {f : Nat → Option Nat} (ha : ws[q0]? = some (a, .inl (cA, L, .inr (.inr (.inr (.inr f)))))) (ht : tys[t0]? = some (cA, .object E)) (hin : vp_in i L) {ws' : va_W} (e : ws.set q0 (a, .inl (cA, L, .inr (.inr (.inr (.inr (va_up f i.toNatClampNeg none)))))) = ws') (hdg : decode cc pc = .ok (.aastore, 1)) (h : GW κ k n ws' (pc + 1) lv st) : GW κ k n ws pc lv (.null :: .int i :: .ref a :: st) := fun H locs hP hD hS ls hl => va_astqN C.1 C.2.1 hK hP hD hS q0 t0 ha ht hin hdg (fun H1 locs1 hP1 hD1 hS1 => h H1 locs1 (e ▸ hP1) (e ▸ hD1) hS1 ls hl)
theorem g_alen (C : Cx κ cc own Ts Rm) (hK : va_K (q_D κ) vwCl tys (q_s κ)) (q0 t0 : Nat) {x : vp_A} (ha : ws[q0]? = some (a, .inl (cA, x))) {ty : FieldType} (ht : tys[t0]? = some (cA, ty)) {v : Int32} (hv : Int32.ofNat x.1 = v) (hdg : decode cc pc = .ok (.arraylength, 1)) (h : GW κ k n ws (pc + 1) lv (.int v :: st)) : GW κ k n ws pc lv (.ref a :: st) := fun H locs hP hD hS ls hl => va_alen C.1 C.2.1 hK hP q0 t0 ha ht hv hdg (h H locs hP hD hS ls hl)
end GR

