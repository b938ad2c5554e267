section GLaw
variable {κ : qC} {cc : ByteArray} {own : String} {Rm : Room} {k n : Nat} {ws : va_W} {pc : Nat} {lv : List (Nat × Value)} {st : List Value} {b L : Nat} {xs : Nat → Int32}
theorem g_sld (C : Cx κ cc own gL Rm) (hX : va_X b L xs (q_s κ) (q_s κ).heap) (hbl : b < (q_s κ).heap.size) (hbA : ¬ q_A κ b) {i : Int32} (hin : vp_in i L) (hdg : decode cc pc = .ok (.iaload, 1)) (h : GW κ k n ws (pc + 1) lv (.int (xs i.toNatClampNeg) :: st)) : GW κ k n ws pc lv (.int i :: .ref b :: st) := fun H locs hP hD hS ls hl => va_sld C.1 C.2.1 hX hbl hbA hS hin hdg (h H locs hP hD hS ls hl)
theorem g_slen (C : Cx κ cc own gL Rm) (hX : va_X b L xs (q_s κ) (q_s κ).heap) (hbl : b < (q_s κ).heap.size) (hbA : ¬ q_A κ b) (hdg : decode cc pc = .ok (.arraylength, 1)) (h : GW κ k n ws (pc + 1) lv (.int (nI L) :: st)) : GW κ k n ws pc lv (.ref b :: st) := fun H locs hP hD hS ls hl => va_slen C.1 C.2.1 hX hbl hbA hS hdg (h H locs hP hD hS ls hl)
end GLaw
theorem hs_L_cell : yL_cell.cls ≠ "java/lang/invoke/MethodHandle" ∧ yL_cell.cls ≠ "java/lang/invoke/VarHandle" ∧ (parseMethodDescriptor yL_cell.desc).map (fun d => d.parameters.length) = some 2 := by decide +kernel
abbrev rm_L_cell : Room := { frames := 0, cells := 0, slots := 0, locals := 0 }
abbrev wsC : List Cond := .code yL_cell cL_cell 2 (some .int) :: gL
def sPc (b L : Nat) (xs : Nat → Int32) (sz : Nat) (av : List Value) : Array Value → State → Prop := va_Pc av (fun U => U.heap.size = sz ∧ va_X b L xs U U.heap ∧ NW U)
theorem sPc_blind {b L : Nat} {xs : Nat → Int32} {sz : Nat} {av : List Value} : FrameBlind (sPc b L xs sz av) := fun a U g mk q => ⟨q.1, q.2.1, va_X.moved (u := U) (U := U.calling g mk a) (Vm.Alike.refl U.vm) q.2.2.1, NW.calling q.2.2.2⟩
abbrev cQ (xs : Nat → Int32) (L : Nat) (v : Int32) (sz : Nat) : Array Value → State → Outcome → State → Prop := va_Qi (fun (r : Int32) (_ : Unit) => r = cellV xs L v) (fun _ _ => True) (fun q => sz ≤ q)
theorem gq_C {κ : qC} {cc : ByteArray} {own : String} {Rm : Room} {k n : Nat} {ws : va_W} {pc : Nat} {lv : List (Nat × Value)} {D : va_G} {Z : Nat → Prop} {maxL mc ms : Nat} {R0 : Int32} (C : Cx κ cc own gL Rm) (F : Fx κ D Z (some .int) maxL (va_Qi (fun (r : Int32) (_ : Unit) => r = R0) (fun _ _ => True) Z) mc ms) (hk : k ≤ mc) (hn : n ≤ ms) {v : Int32} (hw : v = R0) (hdg : decode cc pc = .ok (.ireturn, 1)) : GW κ k n ws pc lv [.int v] := by
  intro H locs hP hD hS ls hl
  obtain ⟨rfl, rfl, f3, f4, f5⟩ := F
  rw [f5]
  refine W.widen hk hn ?_
  exact W.iret (hlocks := C.2.2.2.2.2.2.2.1) C.1 C.2.1 f3 (fun t ht hW => ⟨⟨v, (), rfl, hw, trivial⟩, hS.F ht⟩) hS.2.2 hdg
set_option maxHeartbeats 4000000 in
theorem c_L_cell (l : Launch) (D : va_G) {b L : Nat} {xs : Nat → Int32} {v : Int32} (hL : L < 2 ^ 31) (h0 : ¬ v < 0) : ∀ sz, Met l yL_cell wsC rm_L_cell (sPc b L xs sz [.ref b, .int v]) (cQ xs L v sz) 0 0 (fun q => sz ≤ q) := by
  intro sz
  refine va_MetF (cc := cL_cell) (maxL := 2) (ret := some .int) (by decide +kernel) rfl ?_
  intro p e s m args below meth c s₁ B hml hv
  obtain ⟨rfl, hsz, hX, hN⟩ := hv
  have hts := atoms_spec (ws := wsC) B.pre
  subst hsz
  have hl := lv_entry [.ref b, .int v] (n := 2) (Nat.le_of_ble_eq_true rfl)
  rw [lg_entry_eq]
  generalize (lg_sl [.ref b, .int v] ++ List.replicate (2 - (lg_sl [.ref b, .int v]).length) Slot.unset).toArray = ls at hl ⊢
  have hbl : b < s.heap.size := by
    obtain ⟨scr, h1, -⟩ := hX
    exact (Array.getElem?_eq_some_iff.mp h1).1
  obtain ⟨κ, hκ⟩ : ∃ κ : qC, κ = (p, l, e, (headSpec wsC rm_L_cell).room, s, m, [Value.ref b, Value.int v].toArray, below, meth, c, (fun q => s.heap.size ≤ q), D, MQ below (cQ xs L v s.heap.size) [Value.ref b, Value.int v].toArray s 0 0 (fun q => s.heap.size ≤ q), 2) := ⟨_, rfl⟩
  have C : Cx κ cL_cell RL gL rm_L_cell := by rw [hκ]; exact ⟨B.exec, B.bytes, hml, findClass_of_methodNamed B.named, fun w h => hts w (List.mem_cons_of_mem _ h), fun q h => h, hN, B.notSynchronized, rfl⟩
  have hX1 : va_X b L xs (q_s κ) (q_s κ).heap := by rw [hκ]; exact hX
  have hbl1 : b < (q_s κ).heap.size := by rw [hκ]; exact hbl
  have hbA : ¬ q_A κ b := by rw [hκ]; exact Nat.not_le.mpr hbl
  have F : Fx κ D (fun q => s.heap.size ≤ q) (some .int) 2 (cQ xs L v s.heap.size) 0 0 := by rw [hκ]; exact ⟨rfl, rfl, B.returns, rfl, rfl⟩
  suffices G : GW κ 0 0 [] 0 [(0, .ref b), (1, .int v)] [] by
    rw [hκ] at G
    exact G s.heap [] (fun k q h => by simp at h) ⟨fun i j p q h => by simp at h, fun k q h => by simp at h⟩ va_S.rf ls hl
  clear hκ
  refine g_iload_n C 1 rfl rfl dL_cell_0 ?_
  refine g_aload_n C 0 rfl rfl dL_cell_1 ?_
  refine g_slen C hX1 hbl1 hbA dL_cell_2 ?_
  have fin : ∀ r : Int32, r = (if nI L ≤ v then 7919 * v + 13 else xs v.toNatClampNeg) → GW κ 0 0 [] 20 [(0, .ref b), (1, .int v)] [.int r] := by
    intro r hr
    refine g_ldc (v := (2147483647 : Int32)) C dL_cell_20 wt_286 ?_
    refine g_iand C dL_cell_22 ?_
    exact gq_C C F (by decide) (by decide) (by rw [hr]; rfl) dL_cell_23
  by_cases hc : nI L ≤ v
  · refine g_icmp_ge (wa := True) (wb := False) C 12 (by decide) (by rw [if_pos hc]; trivial) dL_cell_3 (fun _ => ?_) (fun h => h.elim)
    refine g_sipush (v := (7919 : Int32)) C dL_cell_12 (by decide) ?_
    refine g_iload_n C 1 rfl rfl dL_cell_15 ?_
    refine g_imul C dL_cell_16 ?_
    refine g_bipush (v := (13 : Int32)) C dL_cell_17 (by decide) ?_
    refine g_iadd C dL_cell_19 ?_
    exact fin _ (by rw [if_pos hc])
  · refine g_icmp_ge (wa := False) (wb := True) C 12 (by decide) (by rw [if_neg hc]; trivial) dL_cell_3 (fun h => h.elim) (fun _ => ?_)
    refine g_aload_n C 0 rfl rfl dL_cell_6 ?_
    refine g_iload_n C 1 rfl rfl dL_cell_7 ?_
    refine g_sld C hX1 hbl1 hbA ?_ dL_cell_8 ?_
    · obtain ⟨j, hj, rfl⟩ := nI_of h0
      refine vp_in_nI ?_ hL
      by_cases q : j < L
      · exact q
      · exact absurd (nI_le (Nat.le_of_not_lt q) hj) hc
    refine g_goto C 20 (by decide) dL_cell_9 ?_
    exact fin _ (by rw [if_neg hc])
set_option maxHeartbeats 4000000 in
theorem g_cell {κ : qC} {cc : ByteArray} {own : String} {Rm : Room} {k n : Nat} {ws : va_W} {pc : Nat} {lv : List (Nat × Value)} {b L idx : Nat} {xs : Nat → Int32} {rest : List Value} {i : Int32} (C : Cx κ cc own gL Rm) (hX : va_X b L xs (q_s κ) (q_s κ).heap) (hbl : b < (q_s κ).heap.size) (hbA : ¬ q_A κ b) (hL : L < 2 ^ 31) (h0 : ¬ i < 0) (hg : GoodIn gL (va_wsS own idx yL_cell wsC)) (hroom : (rm_L_cell.frames + 1 ≤ Rm.frames ∧ 8 + (2 + 11) + rm_L_cell.locals ≤ Rm.locals) ∧ k + 0 ≤ Rm.cells ∧ n + 0 ≤ Rm.slots) (hcat : (rest.map fun v => v.category).sum ≤ 8) (hdg : decode cc pc = .ok (.invokestatic idx, 3)) (h : GW κ k n ws (pc + 3) lv (.int (cellV xs L i) :: rest)) : GW κ k n ws pc lv (.int i :: .ref b :: rest) := by
  intro H locs hP hD hS ls hl
  obtain ⟨c1, c2, c3, c4, c5, c6, c7, c8, c9⟩ := C
  rw [← c9] at hroom
  have hXH : ∀ U : State, U.heap = H → (q_s κ).WarmedH U.vm → sPc b L xs H.size [.ref b, .int i] [Value.ref b, Value.int i].toArray U := fun U hU hW => ⟨rfl, by rw [hU], by rw [hU]; exact (hX.kept (hS.2.1 b hbl hbA)).moved hW.alike, NW.warm hW c7⟩
  refine va_calli (va_runS (Ts := gL) (As := [.ref b, .int i]) (rest := rest) ⟨c1, c2, c3, c4, c5⟩ (c_L_cell (q_l κ) (q_D κ) hL h0 H.size) (va_cwS 2 c5 hg rfl rfl rfl hs_L_cell hroom.1) ⟨sPc_blind, hXH⟩ rfl rfl hl.1 rfl (lv_room hcat) hdg hroom.2) hS (fun q h1 h2 => absurd h1 (Nat.not_lt.mpr h2)) (fun q h2 => c6 q (Nat.le_trans hS.1 h2)) (fun r u t H1 locs1 ht hvm hw hB hz hk1 hS1 => ?_)
  subst hw
  exact h H1 locs1 (fun k q hq => (hP k q hq).kept (hk1 q.1 (hP k q hq).lt (Nat.not_le.mpr (hP k q hq).lt))) hD hS1 ls hl
