/-! PURE PART 20: letters: the bytes of a long -/
theorem lb_se {x : BitVec 64} {j : Nat} (hj : j < 32) : (BitVec.signExtend 32 x).getLsbD j = x.getLsbD j := by
  rw [BitVec.getLsbD_signExtend]
  simp [hj, show j < 64 by omega]
theorem lb_and (V : Int64) : (V &&& 255).toInt32 = V.toInt32 &&& 255 := by
  apply Int32.toBitVec_inj.1
  rw [Int64.toBitVec_toInt32, Int64.toBitVec_and, Int32.toBitVec_and, Int64.toBitVec_toInt32]
  apply BitVec.eq_of_getLsbD_eq
  intro j hj
  rw [lb_se hj, BitVec.getLsbD_and, BitVec.getLsbD_and, lb_se hj]
  have h255 : (255 : Int64).toBitVec.getLsbD j = (255 : Int32).toBitVec.getLsbD j := by
    have : ∀ j, j < 32 → (255 : Int64).toBitVec.getLsbD j = (255 : Int32).toBitVec.getLsbD j := by decide
    exact this j hj
  rw [h255]
theorem lb_hi : ∀ j, j < 32 → 8 ≤ j → (255 : Int32).toBitVec.getLsbD j = false := by decide
theorem lb_sh {v : Int64} {k : Nat} {a : UInt64} {b : Int64} (hk : k + 8 ≤ 64) (e1 : (a.toBitVec % 64).toNat = k) (e2 : (b.toBitVec.smod 64).toNat = k) : (v.toUInt64 >>> a).toInt64.toInt32 &&& 255 = (v >>> b).toInt32 &&& 255 := by
  apply Int32.toBitVec_inj.1
  rw [Int32.toBitVec_and, Int32.toBitVec_and, Int64.toBitVec_toInt32, Int64.toBitVec_toInt32, Int64.toBitVec_shiftRight]
  rw [show (v.toUInt64 >>> a).toInt64.toBitVec = v.toBitVec >>> (a.toBitVec % 64) from rfl]
  apply BitVec.eq_of_getLsbD_eq
  intro j hj
  rw [BitVec.getLsbD_and, BitVec.getLsbD_and, lb_se hj, lb_se hj]
  by_cases h8 : 8 ≤ j
  · rw [lb_hi j hj h8, Bool.and_false, Bool.and_false]
  · congr 1
    show (v.toBitVec >>> (a.toBitVec % 64).toNat).getLsbD j = (v.toBitVec.sshiftRight (b.toBitVec.smod 64).toNat).getLsbD j
    rw [e1, e2, BitVec.getLsbD_ushiftRight, BitVec.getLsbD_sshiftRight]
    simp [show ¬ 64 ≤ j by omega, show k + j < 64 by omega]
/-- the byte -/
def byS (v : Int64) (i : Nat) : Int32 := (v >>> (((8 : Int32) * nI i).toInt64 &&& 63)).toInt32 &&& 255
theorem by_x (v : Int64) : ∀ i, i < 8 → (v.toUInt64 >>> (((8 : Int32) * nI i).toInt64.toUInt64 &&& Int64.toUInt64 63)).toInt64.toInt32 &&& 255 = byS v i := by
  intro i hi
  unfold byS
  have hi' : i = 0 ∨ i = 1 ∨ i = 2 ∨ i = 3 ∨ i = 4 ∨ i = 5 ∨ i = 6 ∨ i = 7 := by omega
  rcases hi' with rfl | rfl | rfl | rfl | rfl | rfl | rfl | rfl
  · exact lb_sh (k := 0) (by omega) (by decide) (by decide)
  · exact lb_sh (k := 8) (by omega) (by decide) (by decide)
  · exact lb_sh (k := 16) (by omega) (by decide) (by decide)
  · exact lb_sh (k := 24) (by omega) (by decide) (by decide)
  · exact lb_sh (k := 32) (by omega) (by decide) (by decide)
  · exact lb_sh (k := 40) (by omega) (by decide) (by decide)
  · exact lb_sh (k := 48) (by omega) (by decide) (by decide)
  · exact lb_sh (k := 56) (by omega) (by decide) (by decide)
theorem by_m (v : Int64) (i : Nat) : ((v >>> (((8 : Int32) * nI i).toInt64 &&& 63)) &&& 255).toInt32 = byS v i := lb_and _
theorem by_nat (x : Int32) : ∃ c : Nat, x &&& 255 = nI c ∧ c < 256 := by
  refine ⟨(x &&& 255).toBitVec.toNat, ?_, ?_⟩
  · apply Int32.toBitVec_inj.1
    show (x &&& 255).toBitVec = BitVec.ofNat 32 (x &&& 255).toBitVec.toNat
    rw [BitVec.ofNat_toNat]
    simp
  · rw [Int32.toBitVec_and, BitVec.toNat_and]
    have : x.toBitVec.toNat &&& (255 : Int32).toBitVec.toNat ≤ (255 : Int32).toBitVec.toNat := Nat.and_le_right
    have e : (255 : Int32).toBitVec.toNat = 255 := by decide
    omega
theorem lb_8 (x : Int32) : x.toInt8 = (x &&& 255).toInt8 := by
  apply Int8.toBitVec_inj.1
  show x.toBitVec.signExtend 8 = (x &&& 255).toBitVec.signExtend 8
  rw [Int32.toBitVec_and]
  apply BitVec.eq_of_getLsbD_eq
  intro j hj
  rw [BitVec.getLsbD_signExtend, BitVec.getLsbD_signExtend, BitVec.getLsbD_and]
  have h255 : ∀ j, j < 8 → (255 : Int32).toBitVec.getLsbD j = true := by decide
  rw [h255 j hj]
  simp [hj, show j < 32 by omega]
theorem by_s8 : ∀ c, c < 128 → vp_nar .byte (nI c).toInt8.toInt32 = nI c := by decide +kernel
theorem by_c : ∀ c, c < 256 → vp_nar .char ((nI c).toUInt32 % 65536).toInt32 = nI c := by decide +kernel
theorem by_b {x : Int32} {c : Nat} (h : x &&& 255 = nI c) (hc : c < 128) : vp_nar .byte x.toInt8.toInt32 = nI c := by
  rw [lb_8, h, by_s8 c hc]
theorem by_of (v : Int64) (i : Nat) : ∃ c : Nat, byS v i = nI c ∧ c < 256 := by_nat _
def byN (v : Int64) (i : Nat) : Nat := (byS v i).toNatClampNeg
theorem byN_e (v : Int64) (i : Nat) : byS v i = nI (byN v i) ∧ byN v i < 256 := by
  obtain ⟨c, e, hc⟩ := by_of v i
  unfold byN
  rw [e, nI_clamp (by omega)]
  exact ⟨rfl, hc⟩
theorem by_put {v : Int64} {i : Nat} (hc : byN v i < 128) : vp_nar .byte (v >>> (((8 : Int32) * nI i).toInt64 &&& 63)).toInt32.toInt8.toInt32 = nI (byN v i) := by_b (byN_e v i).1 hc
