/-! CONTRACTS over the world, calls and ends over the context -/
def HG (D : va_G) (cy : Nat → ClassId) (A : Nat → Nat) (σ : St) (U : State) : Prop := va_P D vwCl (gW cy A σ) U.heap ∧ va_K D vwCl (gty cy) U ∧ va_D (fun _ => True) (gW cy A σ) ∧ NW U
def HE (D : va_G) (cy : Nat → ClassId) (A : Nat → Nat) (Z : Nat → Prop) (σ : St) (t : State) : Prop := va_P D vwCl (gW cy A σ) t.heap ∧ va_D Z (gW cy A σ)
def gPc (D : va_G) (cy : Nat → ClassId) (A : Nat → Nat) (σ : St) (sz : Nat) (av : List Value) : Array Value → State → Prop := va_Pc av (fun U => U.heap.size = sz ∧ HG D cy A σ U)
def gZ (cy : Nat → ClassId) (A : Nat → Nat) (σ : St) (sz : Nat) : Nat → Prop := va_A (gW cy A σ) sz
def CtI (l : Launch) (y : MethodName) (ws : List Cond) (rm : Room) (mc ms : Nat) (av : List Value) (D : va_G) (cy : Nat → ClassId) (A : Nat → Nat) (σ : St) (Φ : Int32 → St → Prop) : Prop := ∀ sz, Met l y ws rm (gPc D cy A σ sz av) (va_Qi Φ (HE D cy A (gZ cy A σ sz)) (gZ cy A σ sz)) mc ms (gZ cy A σ sz)
def CtL (l : Launch) (y : MethodName) (ws : List Cond) (rm : Room) (mc ms : Nat) (av : List Value) (D : va_G) (cy : Nat → ClassId) (A : Nat → Nat) (σ : St) (Φ : Int64 → St → Prop) : Prop := ∀ sz, Met l y ws rm (gPc D cy A σ sz av) (va_Ql Φ (HE D cy A (gZ cy A σ sz)) (gZ cy A σ sz)) mc ms (gZ cy A σ sz)
def CtV (l : Launch) (y : MethodName) (ws : List Cond) (rm : Room) (mc ms : Nat) (av : List Value) (D : va_G) (cy : Nat → ClassId) (A : Nat → Nat) (σ : St) (Φ : St → Prop) : Prop := ∀ sz, Met l y ws rm (gPc D cy A σ sz av) (va_Qv Φ (HE D cy A (gZ cy A σ sz)) (gZ cy A σ sz)) mc ms (gZ cy A σ sz)
def CtQ (l : Launch) (y : MethodName) (ws : List Cond) (rm : Room) (mc ms : Nat) (av : List Value) (D : va_G) (cy : Nat → ClassId) (A : Nat → Nat) (σ : St) (Φ : Option Nat → St → Prop) : Prop := ∀ sz, Met l y ws rm (gPc D cy A σ sz av) (va_Qq Φ (HE D cy A (gZ cy A σ sz)) (gZ cy A σ sz)) mc ms (gZ cy A σ sz)
theorem gPc_blind {D : va_G} {cy : Nat → ClassId} {A : Nat → Nat} {σ : St} {sz : Nat} {av : List Value} : FrameBlind (gPc D cy A σ sz av) := fun a U g mk q => ⟨q.1, q.2.1, q.2.2.1, va_K.moved (u := U) (U := U.calling g mk a) (Vm.Alike.refl U.vm) q.2.2.2.1, q.2.2.2.2.1, NW.calling q.2.2.2.2.2⟩
theorem gPc_at {D : va_G} {cy : Nat → ClassId} {A : Nat → Nat} {σ : St} {av : List Value} {s : State} {H : Heap} {Z : Nat → Prop} (hP : va_P D vwCl (gW cy A σ) H) (hK : va_K D vwCl (gty cy) s) (hD : va_D Z (gW cy A σ)) (hN : NW s) : ∀ U : State, U.heap = H → s.WarmedH U.vm → gPc D cy A σ H.size av av.toArray U := fun U hU hW => ⟨rfl, by rw [hU], by rw [hU]; exact hP, va_K.moved hW.alike hK, hD.weaken (fun _ _ _ _ => trivial), NW.warm hW hN⟩
theorem gF {Z : Nat → Prop} {ws : va_W} {H0 H : Heap} {locs : List Loc} (hD : va_D Z ws) (hS : va_S Z H0 H locs) (hA : ∀ q, H0.size ≤ q → Z q) : ∀ q, va_A ws H.size q → Z q := by
  intro q h
  rcases h with ⟨k, e, h⟩ | h
  · exact hD.2 k (q, e) h
  · exact hA q (Nat.le_trans hS.1 h)
theorem ga_T (cy : Nat → ClassId) (A : Nat → Nat) (σ : St) {a kd : Nat} (h : a ∈ σ.2.2.2.1) (hk : σ.2.2.2.2.1 a = kd) : ∃ q0 : Nat, (gW cy A σ)[q0]? = some (a, tcell σ a) ∧ (gW cy A σ)[q0]? = some (a, .inr (kd, [.int (σ.2.2.2.2.2 a 0), .int (σ.2.2.2.2.2 a 1), .int (σ.2.2.2.2.2 a 2)])) := by
  subst hk
  obtain ⟨k, hk⟩ := va_pl_get (X := gX cy A σ) (f := tcell σ) h
  exact ⟨k, hk, hk⟩
def Fx (κ : qC) (D : va_G) (Z : Nat → Prop) (ret : Option FieldType) (maxL : Nat) (Qc : Array Value → State → Outcome → State → Prop) (mc ms : Nat) : Prop := q_D κ = D ∧ q_A κ = Z ∧ (q_M κ).sig.returnType = ret ∧ q_n κ = maxL ∧ q_Q κ = MQ (q_b κ) Qc (q_a κ) (q_s κ) mc ms Z
theorem ct_any {l : Launch} {y : MethodName} {ws : List Cond} {rm : Room} {mc ms : Nat} {av : List Value} {D : va_G} {cy : Nat → ClassId} {A : Nat → Nat} {σ : St} {cc : ByteArray} {maxL : Nat} {own : String} {ret : Option FieldType} (Qc : Nat → Array Value → State → Outcome → State → Prop) (hy : plainFor y = true) (hw : ws = Cond.code y cc maxL ret :: gL) (hcl : y.cls = own) (lv0 : List (Nat × Value)) (hlv : lv_args 0 av = lv0) (hlen : (lg_sl av).length ≤ maxL)
    (body : ∀ κ : qC, q_l κ = l → (q_M κ).name = y.name → Cx κ cc own gL rm → va_K (q_D κ) vwCl (gty cy) (q_s κ) → ∀ sz, Fx κ D (gZ cy A σ sz) ret maxL (Qc sz) mc ms → GW κ 0 0 (gW cy A σ) 0 lv0 []) : ∀ sz, Met l y ws rm (gPc D cy A σ sz av) (Qc sz) mc ms (gZ cy A σ sz) := by
  intro sz
  refine va_MetF (cc := cc) (maxL := maxL) (ret := ret) hy hw ?_
  intro p e s m args below meth c s₁ B hml hv
  obtain ⟨rfl, hsz, hP, hK, hD0, hN⟩ := hv
  have hts := atoms_spec (ws := ws) B.pre
  subst hsz
  have hD := hD0.self (sz := s.heap.size)
  have hA : ∀ q : Nat, s.heap.size ≤ q → gZ cy A σ s.heap.size q := fun q h => Or.inr h
  have hl := lv_entry av (n := maxL) hlen
  rw [lg_entry_eq]
  generalize (lg_sl av ++ List.replicate (maxL - (lg_sl av).length) Slot.unset).toArray = ls at hl ⊢
  rw [hlv] at hl
  exact body (p, l, e, (headSpec ws rm).room, s, m, av.toArray, below, meth, c, gZ cy A σ s.heap.size, D, MQ below (Qc s.heap.size) av.toArray s mc ms (gZ cy A σ s.heap.size), maxL) rfl (name_of_methodNamed B.named B.method).1 ⟨B.exec, B.bytes, hml, by rw [← hcl]; exact findClass_of_methodNamed B.named, fun w h => hts w (by rw [hw]; exact List.mem_cons_of_mem _ h), hA, hN, B.notSynchronized, rfl⟩ hK s.heap.size ⟨rfl, rfl, B.returns, rfl, rfl⟩ s.heap [] hP hD va_S.rf ls hl
section GC
variable {κ : qC} {cc : ByteArray} {own : String} {Rm : Room} {k n mc ms : Nat} {cy : Nat → ClassId} {A : Nat → Nat} {σ : St} {pc : Nat} {lv : List (Nat × Value)} {st0 rest av : List Value}
def GRun (κ : qC) (k n mc ms : Nat) (cy : Nat → ClassId) (A : Nat → Nat) (σ : St) (pc : Nat) (lv : List (Nat × Value)) (st0 rest av : List Value) (Qc : Nat → Array Value → State → Outcome → State → Prop) : Prop :=
  ∀ (H : Heap) (locs : List Loc), va_P (q_D κ) vwCl (gW cy A σ) H → va_D (q_A κ) (gW cy A σ) → va_S (q_A κ) (q_s κ).heap H locs → ∀ ls : Array Slot, lv_has ls (q_n κ) lv → va_Run (q_p κ) (q_l κ) (q_e κ) (q_R κ) (q_s κ) (q_m κ) (q_a κ) (q_b κ) (q_M κ) (q_c κ) H locs k n mc ms (F0 (q_m κ) pc ls st0) rest (Qc H.size av.toArray) (gZ cy A σ H.size)
theorem gc_I (C : Cx κ cc own gL Rm) {Φ : Int32 → St → Prop} (hr : GRun κ k n mc ms cy A σ pc lv st0 rest av (fun sz => va_Qi Φ (HE (q_D κ) cy A (gZ cy A σ sz)) (gZ cy A σ sz))) (h : ∀ r σ', Φ r σ' → GW κ (k + mc) (n + ms) (gW cy A σ') (pc + 3) lv (.int r :: rest)) : GW κ k n (gW cy A σ) pc lv st0 := by
  intro H locs hP hD hS ls hl
  have hF := gF hD hS C.2.2.2.2.2.1
  refine va_calli (hr H locs hP hD hS ls hl) hS (fun q _ h => hF q h) hF (fun r u t H1 locs1 ht hvm hw hB hz hk1 hS1 => ?_)
  exact h r u hw H1 locs1 (ht ▸ hB.1) (hB.2.weaken (fun k q _ h => hF q.1 h)) hS1 ls hl
theorem gc_L (C : Cx κ cc own gL Rm) {Φ : Int64 → St → Prop} (hr : GRun κ k n mc ms cy A σ pc lv st0 rest av (fun sz => va_Ql Φ (HE (q_D κ) cy A (gZ cy A σ sz)) (gZ cy A σ sz))) (h : ∀ r σ', Φ r σ' → GW κ (k + mc) (n + ms) (gW cy A σ') (pc + 3) lv (.long r :: rest)) : GW κ k n (gW cy A σ) pc lv st0 := by
  intro H locs hP hD hS ls hl
  have hF := gF hD hS C.2.2.2.2.2.1
  refine va_calll (hr H locs hP hD hS ls hl) hS (fun q _ h => hF q h) hF (fun r u t H1 locs1 ht hvm hw hB hz hk1 hS1 => ?_)
  exact h r u hw H1 locs1 (ht ▸ hB.1) (hB.2.weaken (fun k q _ h => hF q.1 h)) hS1 ls hl
theorem gc_V (C : Cx κ cc own gL Rm) {Φ : St → Prop} (hr : GRun κ k n mc ms cy A σ pc lv st0 rest av (fun sz => va_Qv Φ (HE (q_D κ) cy A (gZ cy A σ sz)) (gZ cy A σ sz))) (h : ∀ σ', Φ σ' → GW κ (k + mc) (n + ms) (gW cy A σ') (pc + 3) lv rest) : GW κ k n (gW cy A σ) pc lv st0 := by
  intro H locs hP hD hS ls hl
  have hF := gF hD hS C.2.2.2.2.2.1
  refine va_callv (hr H locs hP hD hS ls hl) hS (fun q _ h => hF q h) hF (fun u t H1 locs1 ht hvm hw hB hz hk1 hS1 => ?_)
  exact h u hw H1 locs1 (ht ▸ hB.1) (hB.2.weaken (fun k q _ h => hF q.1 h)) hS1 ls hl
theorem gc_Q (C : Cx κ cc own gL Rm) {Φ : Option Nat → St → Prop} (hr : GRun κ k n mc ms cy A σ pc lv st0 rest av (fun sz => va_Qq Φ (HE (q_D κ) cy A (gZ cy A σ sz)) (gZ cy A σ sz))) (h : ∀ r σ', Φ r σ' → GW κ (k + mc) (n + ms) (gW cy A σ') (pc + 3) lv (va_rf r :: rest)) : GW κ k n (gW cy A σ) pc lv st0 := by
  intro H locs hP hD hS ls hl
  have hF := gF hD hS C.2.2.2.2.2.1
  refine va_callq (hr H locs hP hD hS ls hl) hS (fun q _ h => hF q h) hF (fun r u t H1 locs1 ht hvm hw hB hz hk1 hS1 => ?_)
  exact h r u hw H1 locs1 (ht ▸ hB.1) (hB.2.weaken (fun k q _ h => hF q.1 h)) hS1 ls hl
variable {y : MethodName} {bytes : ByteArray} {maxL idx : Nat} {ret : Option FieldType} {ws ws' : List Cond} {rm : Room} {Qc : Nat → Array Value → State → Outcome → State → Prop}
theorem gr_V (C : Cx κ cc own gL Rm) (hK : va_K (q_D κ) vwCl (gty cy) (q_s κ)) {Cn : String} (nA : Nat) (hg : GoodIn gL (wsV own idx Cn y ws)) (hw : ws = Cond.code y bytes maxL ret :: ws') (hrc : rm.cells = mc) (hrs : rm.slots = ms) (hd : y.cls = Cn ∧ y.cls ≠ "java/lang/invoke/MethodHandle" ∧ y.cls ≠ "java/lang/invoke/VarHandle" ∧ (parseMethodDescriptor y.desc).map (fun d => d.parameters.length) = some nA) (hroom : (rm.frames + 1 ≤ Rm.frames ∧ 8 + (maxL + 11) + rm.locals ≤ Rm.locals) ∧ k + mc ≤ Rm.cells ∧ n + ms ≤ Rm.slots) {As : List Value} {b : Nat} (hn : As.length = nA) (q0 : Nat) {ci : Nat} {fs : List Value} {T : u_T} {N : Nat} (he : (gW cy A σ)[q0]? = some (b, .inr (ci, fs))) (hc : vwCl[ci]? = some (Cn, T, N)) (hst : st0 = As.reverse ++ .ref b :: rest) (hcat : (rest.map fun v => v.category).sum ≤ 8) (hdg : decode cc pc = .ok (.invokevirtual idx, 3)) (hM : ∀ sz, Met (q_l κ) y ws rm (gPc (q_D κ) cy A σ sz (.ref b :: As)) (Qc sz) mc ms (gZ cy A σ sz)) : GRun κ k n mc ms cy A σ pc lv st0 rest (.ref b :: As) Qc := by
  intro H locs hP hD hS ls hl
  obtain ⟨c1, c2, c3, c4, c5, c6, c7, c8, c9⟩ := C
  rw [← c9] at hroom
  exact va_runV (Ts := gL) ⟨c1, c2, c3, c4, c5⟩ (hM H.size) (cwV nA c5 hg hw hrc hrs hd hroom.1) ⟨gPc_blind, va_recv hK hP hc he, gPc_at hP hK hD c7⟩ rfl hn hl.1 hst (lv_room hcat) hdg hroom.2
theorem gr_U (C : Cx κ cc own gL Rm) (hK : va_K (q_D κ) vwCl (gty cy) (q_s κ)) {Cn owner : String} {x : MethodName} (nA : Nat) (hg : GoodIn gL (va_wsU own idx Cn owner x y ws)) (hw : ws = Cond.code y bytes maxL ret :: ws') (hrc : rm.cells = mc) (hrs : rm.slots = ms) (hyx : y = ⟨owner, x.name, x.desc⟩) (hd : owner ≠ "java/lang/invoke/MethodHandle" ∧ owner ≠ "java/lang/invoke/VarHandle" ∧ (parseMethodDescriptor x.desc).map (fun d => d.parameters.length) = some nA) (hroom : (rm.frames + 1 ≤ Rm.frames ∧ 8 + (maxL + 11) + rm.locals ≤ Rm.locals) ∧ k + mc ≤ Rm.cells ∧ n + ms ≤ Rm.slots) {As : List Value} {b : Nat} (hn : As.length = nA) (q0 : Nat) {ci : Nat} {fs : List Value} {T : u_T} {N : Nat} (he : (gW cy A σ)[q0]? = some (b, .inr (ci, fs))) (hc : vwCl[ci]? = some (Cn, T, N)) (hst : st0 = As.reverse ++ .ref b :: rest) (hcat : (rest.map fun v => v.category).sum ≤ 8) (hdg : decode cc pc = .ok (.invokevirtual idx, 3)) (hM : ∀ sz, Met (q_l κ) y ws rm (gPc (q_D κ) cy A σ sz (.ref b :: As)) (Qc sz) mc ms (gZ cy A σ sz)) : GRun κ k n mc ms cy A σ pc lv st0 rest (.ref b :: As) Qc := by
  intro H locs hP hD hS ls hl
  obtain ⟨c1, c2, c3, c4, c5, c6, c7, c8, c9⟩ := C
  rw [← c9] at hroom
  exact va_runU (Ts := gL) ⟨c1, c2, c3, c4, c5⟩ (hM H.size) (va_cwU nA c5 hg hw hrc hrs hyx hd hroom.1) ⟨gPc_blind, va_recv hK hP hc he, gPc_at hP hK hD c7⟩ rfl hn hl.1 hst (lv_room hcat) hdg hroom.2
theorem gr_O (C : Cx κ cc own gL Rm) (hK : va_K (q_D κ) vwCl (gty cy) (q_s κ)) {Cn owner : String} {x : MethodName} (nA : Nat) (hg : GoodIn gL (va_wsO own idx Cn owner x y ws)) (hw : ws = Cond.code y bytes maxL ret :: ws') (hrc : rm.cells = mc) (hrs : rm.slots = ms) {b0 : ByteArray} {m0 : Nat} {r0 : Option FieldType} (h0 : Cond.code ⟨owner, x.name, x.desc⟩ b0 m0 r0 ∈ gL) (hd : owner ≠ "java/lang/invoke/MethodHandle" ∧ owner ≠ "java/lang/invoke/VarHandle" ∧ (parseMethodDescriptor x.desc).map (fun d => d.parameters.length) = some nA) (hroom : (rm.frames + 1 ≤ Rm.frames ∧ 8 + (maxL + 11) + rm.locals ≤ Rm.locals) ∧ k + mc ≤ Rm.cells ∧ n + ms ≤ Rm.slots) {As : List Value} {b : Nat} (hn : As.length = nA) (q0 : Nat) {ci : Nat} {fs : List Value} {T : u_T} {N : Nat} (he : (gW cy A σ)[q0]? = some (b, .inr (ci, fs))) (hc : vwCl[ci]? = some (Cn, T, N)) (hst : st0 = As.reverse ++ .ref b :: rest) (hcat : (rest.map fun v => v.category).sum ≤ 8) (hdg : decode cc pc = .ok (.invokevirtual idx, 3)) (hM : ∀ sz, Met (q_l κ) y ws rm (gPc (q_D κ) cy A σ sz (.ref b :: As)) (Qc sz) mc ms (gZ cy A σ sz)) : GRun κ k n mc ms cy A σ pc lv st0 rest (.ref b :: As) Qc := by
  intro H locs hP hD hS ls hl
  obtain ⟨c1, c2, c3, c4, c5, c6, c7, c8, c9⟩ := C
  rw [← c9] at hroom
  exact va_runU (Ts := gL) ⟨c1, c2, c3, c4, c5⟩ (hM H.size) (va_cwO nA c5 hg hw hrc hrs h0 hd hroom.1) ⟨gPc_blind, va_recv hK hP hc he, gPc_at hP hK hD c7⟩ rfl hn hl.1 hst (lv_room hcat) hdg hroom.2
theorem gr_S (C : Cx κ cc own gL Rm) (hK : va_K (q_D κ) vwCl (gty cy) (q_s κ)) (nA : Nat) (hg : GoodIn gL (va_wsS own idx y ws)) (hw : ws = Cond.code y bytes maxL ret :: ws') (hrc : rm.cells = mc) (hrs : rm.slots = ms) (hd : y.cls ≠ "java/lang/invoke/MethodHandle" ∧ y.cls ≠ "java/lang/invoke/VarHandle" ∧ (parseMethodDescriptor y.desc).map (fun d => d.parameters.length) = some nA) (hroom : (rm.frames + 1 ≤ Rm.frames ∧ 8 + (maxL + 11) + rm.locals ≤ Rm.locals) ∧ k + mc ≤ Rm.cells ∧ n + ms ≤ Rm.slots) {As : List Value} (hn : As.length = nA) (hst : st0 = As.reverse ++ rest) (hcat : (rest.map fun v => v.category).sum ≤ 8) (hdg : decode cc pc = .ok (.invokestatic idx, 3)) (hM : ∀ sz, Met (q_l κ) y ws rm (gPc (q_D κ) cy A σ sz As) (Qc sz) mc ms (gZ cy A σ sz)) : GRun κ k n mc ms cy A σ pc lv st0 rest As Qc := by
  intro H locs hP hD hS ls hl
  obtain ⟨c1, c2, c3, c4, c5, c6, c7, c8, c9⟩ := C
  rw [← c9] at hroom
  exact va_runS (Ts := gL) ⟨c1, c2, c3, c4, c5⟩ (hM H.size) (va_cwS nA c5 hg hw hrc hrs hd hroom.1) ⟨gPc_blind, gPc_at hP hK hD c7⟩ rfl hn hl.1 hst (lv_room hcat) hdg hroom.2
theorem gr_SN (C : Cx κ cc own gL Rm) (hK : va_K (q_D κ) vwCl (gty cy) (q_s κ)) {host : String} (nA : Nat) (hg : GoodIn gL ws) (hw : ws = Cond.code y bytes maxL ret :: ws') (hrc : rm.cells = mc) (hrs : rm.slots = ms) (hl0 : Cond.methodLinkNest own idx y host ∈ nwM) (hini : Cond.initialized y.cls ∈ gL) (hst1 : Cond.static y ∈ gL) (hd : y.cls ≠ "java/lang/invoke/MethodHandle" ∧ y.cls ≠ "java/lang/invoke/VarHandle" ∧ (parseMethodDescriptor y.desc).map (fun d => d.parameters.length) = some nA) (hroom : (rm.frames + 1 ≤ Rm.frames ∧ 8 + (maxL + 11) + rm.locals ≤ Rm.locals) ∧ k + mc ≤ Rm.cells ∧ n + ms ≤ Rm.slots) {As : List Value} (hn : As.length = nA) (hst : st0 = As.reverse ++ rest) (hcat : (rest.map fun v => v.category).sum ≤ 8) (hdg : decode cc pc = .ok (.invokestatic idx, 3)) (hM : ∀ sz, Met (q_l κ) y ws rm (gPc (q_D κ) cy A σ sz As) (Qc sz) mc ms (gZ cy A σ sz)) : GRun κ k n mc ms cy A σ pc lv st0 rest As Qc := by
  intro H locs hP hD hS ls hl
  obtain ⟨c1, c2, c3, c4, c5, c6, c7, c8, c9⟩ := C
  rw [← c9] at hroom
  exact va_runSN (Ts := gL) ⟨c1, c2, c3, c4, c5⟩ (hM H.size) ⟨va_cnB nA c5 hg hw hrc hrs (c7.1 _ hl0) (c5 _ hini) hd hroom.1, c5 _ hst1, trivial⟩ ⟨gPc_blind, gPc_at hP hK hD c7⟩ rfl hn hl.1 hst (lv_room hcat) hdg hroom.2
theorem gr_N (C : Cx κ cc own gL Rm) (hK : va_K (q_D κ) vwCl (gty cy) (q_s κ)) (nA : Nat) (hg : GoodIn gL ws) (hw : ws = Cond.code y bytes maxL none :: ws') (hrc : rm.cells = mc) (hrs : rm.slots = ms) (hini : Cond.initialized y.cls ∈ gL) (hlk : Cond.methodLink own idx y ∈ gL) (hin : Cond.instanceMethod y ∈ gL) (hy1 : y.name = "<init>") (hd : y.cls ≠ "java/lang/invoke/MethodHandle" ∧ y.cls ≠ "java/lang/invoke/VarHandle" ∧ (parseMethodDescriptor y.desc).map (fun d => d.parameters.length) = some nA) (hroom : (rm.frames + 1 ≤ Rm.frames ∧ 8 + (maxL + 11) + rm.locals ≤ Rm.locals) ∧ k + mc ≤ Rm.cells ∧ n + ms ≤ Rm.slots) {As : List Value} {b : Nat} (hn : As.length = nA) (hst : st0 = As.reverse ++ .ref b :: rest) (hcat : (rest.map fun v => v.category).sum ≤ 8) (hdg : decode cc pc = .ok (.invokespecial idx, 3)) (hM : ∀ sz, Met (q_l κ) y ws rm (gPc (q_D κ) cy A σ sz (.ref b :: As)) (Qc sz) mc ms (gZ cy A σ sz)) : GRun κ k n mc ms cy A σ pc lv st0 rest (.ref b :: As) Qc := by
  intro H locs hP hD hS ls hl
  obtain ⟨c1, c2, c3, c4, c5, c6, c7, c8, c9⟩ := C
  rw [← c9] at hroom
  exact va_runI (Ts := gL) ⟨c1, c2, c3, c4, c5⟩ (hM H.size) (cwI nA c5 hg hw hrc hrs (c5 _ hini) (c5 _ hlk) (c5 _ hin) hy1 hd hroom.1) ⟨gPc_blind, gPc_at hP hK hD c7⟩ rfl hn hl.1 hst (lv_room hcat) hdg hroom.2
/-! ends -/
variable {D : va_G} {Z : Nat → Prop}
theorem gq_I (C : Cx κ cc own gL Rm) {Φ : Int32 → St → Prop} (F : Fx κ D Z (some .int) maxL (va_Qi Φ (HE D cy A Z) Z) mc ms) (hk : k ≤ mc) (hn : n ≤ ms) {v : Int32} (hw : Φ v σ) (hdg : decode cc pc = .ok (.ireturn, 1)) : GW κ k n (gW cy A σ) pc lv [.int v] := by
  intro H locs hP hD hS ls hl
  obtain ⟨rfl, rfl, f3, f4, f5⟩ := F
  rw [f5]
  refine W.widen hk hn ?_
  exact W.iret (hlocks := C.2.2.2.2.2.2.2.1) C.1 C.2.1 f3 (fun t ht hW => ⟨⟨v, σ, rfl, hw, by rw [ht]; exact hP, hD⟩, hS.F ht⟩) hS.2.2 hdg
theorem gq_Z (C : Cx κ cc own gL Rm) {Φ : Int32 → St → Prop} (F : Fx κ D Z (some .boolean) maxL (va_Qi Φ (HE D cy A Z) Z) mc ms) (hk : k ≤ mc) (hn : n ≤ ms) {v : Int32} (hw : (v = 0 ∨ v = 1) ∧ Φ v σ) (hdg : decode cc pc = .ok (.ireturn, 1)) : GW κ k n (gW cy A σ) pc lv [.int v] := by
  intro H locs hP hD hS ls hl
  obtain ⟨rfl, rfl, f3, f4, f5⟩ := F
  rw [f5]
  refine W.widen hk hn ?_
  exact W.zret (hlocks := C.2.2.2.2.2.2.2.1) C.1 C.2.1 f3 (by rcases hw.1 with rfl | rfl <;> rfl) (fun t ht hW => ⟨⟨v, σ, rfl, hw.2, by rw [ht]; exact hP, hD⟩, hS.F ht⟩) hS.2.2 hdg
theorem gq_L (C : Cx κ cc own gL Rm) {Φ : Int64 → St → Prop} (F : Fx κ D Z (some .long) maxL (va_Ql Φ (HE D cy A Z) Z) mc ms) (hk : k ≤ mc) (hn : n ≤ ms) {v : Int64} (hw : Φ v σ) (hdg : decode cc pc = .ok (.lreturn, 1)) : GW κ k n (gW cy A σ) pc lv [.long v] := by
  intro H locs hP hD hS ls hl
  obtain ⟨rfl, rfl, f3, f4, f5⟩ := F
  rw [f5]
  refine W.widen hk hn ?_
  exact W.lret (hlocks := C.2.2.2.2.2.2.2.1) C.1 C.2.1 f3 (fun t ht hW => ⟨⟨v, σ, rfl, hw, by rw [ht]; exact hP, hD⟩, hS.F ht⟩) hS.2.2 hdg
theorem gq_V (C : Cx κ cc own gL Rm) {Φ : St → Prop} (F : Fx κ D Z none maxL (va_Qv Φ (HE D cy A Z) Z) mc ms) (hk : k ≤ mc) (hn : n ≤ ms) (hw : Φ σ) (hdg : decode cc pc = .ok (.return_, 1)) : GW κ k n (gW cy A σ) pc lv [] := by
  intro H locs hP hD hS ls hl
  obtain ⟨rfl, rfl, f3, f4, f5⟩ := F
  rw [f5]
  refine W.widen hk hn ?_
  exact W.vret (hlocks := C.2.2.2.2.2.2.2.1) C.1 C.2.1 f3 (fun t ht hW => ⟨⟨σ, rfl, hw, by rw [ht]; exact hP, hD⟩, hS.F ht⟩) hS.2.2 hdg
theorem gq_Q (C : Cx κ cc own gL Rm) {Φ : Option Nat → St → Prop} {nm : String} (F : Fx κ D Z (some (.object nm)) maxL (va_Qq Φ (HE D cy A Z) Z) mc ms) (hk : k ≤ mc) (hn : n ≤ ms) {r : Option Nat} (hw : Φ r σ) (hdg : decode cc pc = .ok (.areturn, 1)) : GW κ k n (gW cy A σ) pc lv [va_rf r] := by
  intro H locs hP hD hS ls hl
  obtain ⟨rfl, rfl, f3, f4, f5⟩ := F
  rw [f5]
  refine W.widen hk hn ?_
  exact W.aret (hlocks := C.2.2.2.2.2.2.2.1) C.1 C.2.1 f3 (Or.inl ⟨_, rfl⟩) (by cases r with | none => exact Or.inl rfl | some a => exact Or.inr ⟨a, rfl⟩) (fun t ht hW => ⟨⟨r, σ, rfl, hw, by rw [ht]; exact hP, hD⟩, hS.F ht⟩) hS.2.2 hdg
/-! things: their fields, their classes, a new one -/
variable {st : List Value} {a : Nat} {ref : String}
theorem g_getT0 (C : Cx κ cc own gL Rm) (hK : va_K (q_D κ) vwCl (gty cy) (q_s κ)) (hT : isT σ a) (hsame : ∀ x, (q_s κ).fieldFound? "TwoOnACable$Thing" "weight" "I" = some x → (q_s κ).fieldFound? ref "weight" "I" = some x) (hlk : Cond.fieldLink own idx ref "weight" "I" ∈ gL) (hdg : decode cc pc = .ok (.getfield idx, 3)) (h : GW κ k n (gW cy A σ) (pc + 3) lv (.int (σ.2.2.2.2.2 a 0) :: st)) : GW κ k n (gW cy A σ) pc lv (.ref a :: st) := by
  obtain ⟨ha, hk⟩ := hT
  rcases hk with hk | hk | hk | hk | hk <;> obtain ⟨q0, -, he⟩ := ga_T cy A σ ha hk
  · exact g_get C hK inX1 rfl q0 he 0 (by decide) hsame hlk rfl hdg h
  · exact g_get C hK inX3 rfl q0 he 0 (by decide) hsame hlk rfl hdg h
  · exact g_get C hK inX4 rfl q0 he 0 (by decide) hsame hlk rfl hdg h
  · exact g_get C hK inX5 rfl q0 he 0 (by decide) hsame hlk rfl hdg h
  · exact g_get C hK inX9 rfl q0 he 0 (by decide) hsame hlk rfl hdg h
theorem g_getT1 (C : Cx κ cc own gL Rm) (hK : va_K (q_D κ) vwCl (gty cy) (q_s κ)) (hT : isT σ a) (hsame : ∀ x, (q_s κ).fieldFound? "TwoOnACable$Thing" "came" "I" = some x → (q_s κ).fieldFound? ref "came" "I" = some x) (hlk : Cond.fieldLink own idx ref "came" "I" ∈ gL) (hdg : decode cc pc = .ok (.getfield idx, 3)) (h : GW κ k n (gW cy A σ) (pc + 3) lv (.int (σ.2.2.2.2.2 a 1) :: st)) : GW κ k n (gW cy A σ) pc lv (.ref a :: st) := by
  obtain ⟨ha, hk⟩ := hT
  rcases hk with hk | hk | hk | hk | hk <;> obtain ⟨q0, -, he⟩ := ga_T cy A σ ha hk
  · exact g_get C hK inX1 rfl q0 he 1 (by decide) hsame hlk rfl hdg h
  · exact g_get C hK inX3 rfl q0 he 1 (by decide) hsame hlk rfl hdg h
  · exact g_get C hK inX4 rfl q0 he 1 (by decide) hsame hlk rfl hdg h
  · exact g_get C hK inX5 rfl q0 he 1 (by decide) hsame hlk rfl hdg h
  · exact g_get C hK inX9 rfl q0 he 1 (by decide) hsame hlk rfl hdg h
theorem g_getT2 (C : Cx κ cc own gL Rm) (hK : va_K (q_D κ) vwCl (gty cy) (q_s κ)) (hT : isT σ a) (hsame : ∀ x, (q_s κ).fieldFound? "TwoOnACable$Thing" "place" "I" = some x → (q_s κ).fieldFound? ref "place" "I" = some x) (hlk : Cond.fieldLink own idx ref "place" "I" ∈ gL) (hdg : decode cc pc = .ok (.getfield idx, 3)) (h : GW κ k n (gW cy A σ) (pc + 3) lv (.int (σ.2.2.2.2.2 a 2) :: st)) : GW κ k n (gW cy A σ) pc lv (.ref a :: st) := by
  obtain ⟨ha, hk⟩ := hT
  rcases hk with hk | hk | hk | hk | hk <;> obtain ⟨q0, -, he⟩ := ga_T cy A σ ha hk
  · exact g_get C hK inX1 rfl q0 he 2 (by decide) hsame hlk rfl hdg h
  · exact g_get C hK inX3 rfl q0 he 2 (by decide) hsame hlk rfl hdg h
  · exact g_get C hK inX4 rfl q0 he 2 (by decide) hsame hlk rfl hdg h
  · exact g_get C hK inX5 rfl q0 he 2 (by decide) hsame hlk rfl hdg h
  · exact g_get C hK inX9 rfl q0 he 2 (by decide) hsame hlk rfl hdg h
/-- a put on a thing: the world behind it, whatever the class -/
theorem g_putT2 (C : Cx κ cc own gL Rm) (hK : va_K (q_D κ) vwCl (gty cy) (q_s κ)) (hT : isT σ a) (hsame : ∀ x, (q_s κ).fieldFound? "TwoOnACable$Thing" "place" "I" = some x → (q_s κ).fieldFound? ref "place" "I" = some x) (hlk : Cond.fieldLink own idx ref "place" "I" ∈ gL) (hdg : decode cc pc = .ok (.putfield idx, 3)) {v : Int32} (h : GW κ k n (gW cy A (sT σ a 2 v)) (pc + 3) lv st) : GW κ k n (gW cy A σ) pc lv (.int v :: .ref a :: st) := by
  intro H locs hP hD hS ls hl
  obtain ⟨ha, hk⟩ := hT
  rcases hk with hk | hk | hk | hk | hk <;> obtain ⟨q0, he0, he⟩ := ga_T cy A σ ha hk
  · exact g_put C hK inX1 rfl tyX1 tyX1_ok nmX1 q0 he 2 (by decide) hsame hlk rfl rfl rfl (Nat.le_of_ble_eq_true rfl) (by have e := gt_2 cy A σ _ v hD ha he0; rw [hk] at e; exact e) hdg h H locs hP hD hS ls hl
  · exact g_put C hK inX3 rfl tyX3 tyX3_ok nmX3 q0 he 2 (by decide) hsame hlk rfl rfl rfl (Nat.le_of_ble_eq_true rfl) (by have e := gt_2 cy A σ _ v hD ha he0; rw [hk] at e; exact e) hdg h H locs hP hD hS ls hl
  · exact g_put C hK inX4 rfl tyX4 tyX4_ok nmX4 q0 he 2 (by decide) hsame hlk rfl rfl rfl (Nat.le_of_ble_eq_true rfl) (by have e := gt_2 cy A σ _ v hD ha he0; rw [hk] at e; exact e) hdg h H locs hP hD hS ls hl
  · exact g_put C hK inX5 rfl tyX5 tyX5_ok nmX5 q0 he 2 (by decide) hsame hlk rfl rfl rfl (Nat.le_of_ble_eq_true rfl) (by have e := gt_2 cy A σ _ v hD ha he0; rw [hk] at e; exact e) hdg h H locs hP hD hS ls hl
  · exact g_put C hK inX9 rfl tyX9 tyX9_ok nmX9 q0 he 2 (by decide) hsame hlk rfl rfl rfl (Nat.le_of_ble_eq_true rfl) (by have e := gt_2 cy A σ _ v hD ha he0; rw [hk] at e; exact e) hdg h H locs hP hD hS ls hl
theorem g_putT0 (C : Cx κ cc "TwoOnACable$Thing" gL Rm) (hK : va_K (q_D κ) vwCl (gty cy) (q_s κ)) (hi : (q_M κ).name = "<init>") (hT : isT σ a) (hlk : Cond.fieldLink "TwoOnACable$Thing" idx "TwoOnACable$Thing" "weight" "I" ∈ gL) (hdg : decode cc pc = .ok (.putfield idx, 3)) {v : Int32} (h : GW κ k n (gW cy A (sT σ a 0 v)) (pc + 3) lv st) : GW κ k n (gW cy A σ) pc lv (.int v :: .ref a :: st) := by
  intro H locs hP hD hS ls hl
  obtain ⟨ha, hk⟩ := hT
  rcases hk with hk | hk | hk | hk | hk <;> obtain ⟨q0, he0, he⟩ := ga_T cy A σ ha hk
  · exact g_putF C hK inX1 rfl tyX1 tyX1_ok nmX1 hi q0 he 0 (by decide) rfl (fun _ h => h) hlk rfl rfl rfl (Nat.le_of_ble_eq_true rfl) (by have e := gt_0 cy A σ _ v hD ha he0; rw [hk] at e; exact e) hdg h H locs hP hD hS ls hl
  · exact g_putF C hK inX3 rfl tyX3 tyX3_ok nmX3 hi q0 he 0 (by decide) rfl (fun _ h => h) hlk rfl rfl rfl (Nat.le_of_ble_eq_true rfl) (by have e := gt_0 cy A σ _ v hD ha he0; rw [hk] at e; exact e) hdg h H locs hP hD hS ls hl
  · exact g_putF C hK inX4 rfl tyX4 tyX4_ok nmX4 hi q0 he 0 (by decide) rfl (fun _ h => h) hlk rfl rfl rfl (Nat.le_of_ble_eq_true rfl) (by have e := gt_0 cy A σ _ v hD ha he0; rw [hk] at e; exact e) hdg h H locs hP hD hS ls hl
  · exact g_putF C hK inX5 rfl tyX5 tyX5_ok nmX5 hi q0 he 0 (by decide) rfl (fun _ h => h) hlk rfl rfl rfl (Nat.le_of_ble_eq_true rfl) (by have e := gt_0 cy A σ _ v hD ha he0; rw [hk] at e; exact e) hdg h H locs hP hD hS ls hl
  · exact g_putF C hK inX9 rfl tyX9 tyX9_ok nmX9 hi q0 he 0 (by decide) rfl (fun _ h => h) hlk rfl rfl rfl (Nat.le_of_ble_eq_true rfl) (by have e := gt_0 cy A σ _ v hD ha he0; rw [hk] at e; exact e) hdg h H locs hP hD hS ls hl
theorem g_putT1 (C : Cx κ cc "TwoOnACable$Thing" gL Rm) (hK : va_K (q_D κ) vwCl (gty cy) (q_s κ)) (hi : (q_M κ).name = "<init>") (hT : isT σ a) (hlk : Cond.fieldLink "TwoOnACable$Thing" idx "TwoOnACable$Thing" "came" "I" ∈ gL) (hdg : decode cc pc = .ok (.putfield idx, 3)) {v : Int32} (h : GW κ k n (gW cy A (sT σ a 1 v)) (pc + 3) lv st) : GW κ k n (gW cy A σ) pc lv (.int v :: .ref a :: st) := by
  intro H locs hP hD hS ls hl
  obtain ⟨ha, hk⟩ := hT
  rcases hk with hk | hk | hk | hk | hk <;> obtain ⟨q0, he0, he⟩ := ga_T cy A σ ha hk
  · exact g_putF C hK inX1 rfl tyX1 tyX1_ok nmX1 hi q0 he 1 (by decide) rfl (fun _ h => h) hlk rfl rfl rfl (Nat.le_of_ble_eq_true rfl) (by have e := gt_1 cy A σ _ v hD ha he0; rw [hk] at e; exact e) hdg h H locs hP hD hS ls hl
  · exact g_putF C hK inX3 rfl tyX3 tyX3_ok nmX3 hi q0 he 1 (by decide) rfl (fun _ h => h) hlk rfl rfl rfl (Nat.le_of_ble_eq_true rfl) (by have e := gt_1 cy A σ _ v hD ha he0; rw [hk] at e; exact e) hdg h H locs hP hD hS ls hl
  · exact g_putF C hK inX4 rfl tyX4 tyX4_ok nmX4 hi q0 he 1 (by decide) rfl (fun _ h => h) hlk rfl rfl rfl (Nat.le_of_ble_eq_true rfl) (by have e := gt_1 cy A σ _ v hD ha he0; rw [hk] at e; exact e) hdg h H locs hP hD hS ls hl
  · exact g_putF C hK inX5 rfl tyX5 tyX5_ok nmX5 hi q0 he 1 (by decide) rfl (fun _ h => h) hlk rfl rfl rfl (Nat.le_of_ble_eq_true rfl) (by have e := gt_1 cy A σ _ v hD ha he0; rw [hk] at e; exact e) hdg h H locs hP hD hS ls hl
  · exact g_putF C hK inX9 rfl tyX9 tyX9_ok nmX9 hi q0 he 1 (by decide) rfl (fun _ h => h) hlk rfl rfl rfl (Nat.le_of_ble_eq_true rfl) (by have e := gt_1 cy A σ _ v hD ha he0; rw [hk] at e; exact e) hdg h H locs hP hD hS ls hl
theorem g_newT (C : Cx κ cc own gL Rm) (hK : va_K (q_D κ) vwCl (gty cy) (q_s κ)) {Cn : String} {T : u_T} (kd : Nat) (hin : ∀ w ∈ u_ws Cn T 3, w ∈ gL) (ty : Nat → FieldType) (hty : ∀ k, k < 3 → parseFieldDescriptor (T k).2.2.1 = some (ty k)) (hc : vwCl[kd]? = some (Cn, T, 3)) (h0 : ty 0 = .int ∧ ty 1 = .int ∧ ty 2 = .int) (hcl : Cond.classLink own idx Cn ∈ gL) (hinst : Cond.instantiable Cn 3 ∈ gL) (hini : Cond.initialized Cn ∈ gL) (hcs : k + 1 ≤ Rm.cells ∧ n + 3 ≤ Rm.slots) (hdg : decode cc pc = .ok (.new idx, 3)) (h : ∀ a, a ∉ σ.2.2.2.1 → GW κ (k + 1) (n + 3) (gW cy A (sN σ a kd)) (pc + 3) lv (.ref a :: st)) : GW κ k n (gW cy A σ) pc lv st := by
  intro H locs hP hD hS ls hl
  obtain ⟨c1, c2, c3, c4, c5, c6, c7, c8, c9⟩ := C
  rw [← c9] at hcs
  refine va_new (ci := kd) (fs := [.int 0, .int 0, .int 0]) (N := 3) c1 c2 c5 hin ty hty c4 (c5 _ hcl) (c5 _ hinst) (c5 _ hini) hK hP hD hS c6 hc (fun j hj => by
    rcases (show j = 0 ∨ j = 1 ∨ j = 2 by omega) with rfl | rfl | rfl
    · rw [h0.1]; rfl
    · rw [h0.2.1]; rfl
    · rw [h0.2.2]; rfl) hcs.1 hcs.2 hdg (fun q H1 hP1 hD1 hS1 => ?_)
  have hq : q ∉ σ.2.2.2.1 := by
    intro hm
    obtain ⟨i, hi⟩ := va_pl_get (X := gX cy A σ) (f := tcell σ) hm
    have hil : i < (gW cy A σ).length := (List.getElem?_eq_some_iff.mp hi).1
    have e1 : (gW cy A σ ++ [(q, (.inr (kd, [.int 0, .int 0, .int 0]) : va_E))])[i]? = some (q, tcell σ q) := by rw [List.getElem?_append_left hil]; exact hi
    have e2 : (gW cy A σ ++ [(q, (.inr (kd, [.int 0, .int 0, .int 0]) : va_E))])[(gW cy A σ).length]? = some (q, .inr (kd, [.int 0, .int 0, .int 0])) := by rw [List.getElem?_append_right (Nat.le_refl _), Nat.sub_self]; rfl
    have := hD1.1 _ _ _ _ e1 e2 rfl
    omega
  rw [gn_T cy A σ kd hq] at hP1 hD1
  exact h q hq H1 locs hP1 hD1 hS1 ls hl
/-- a thing is put into the row of things -/
theorem g_aastT (C : Cx κ cc own gL Rm) (hK : va_K (q_D κ) vwCl (gty cy) (q_s κ)) (hT : isT σ a) {i : Int32} (hin : vp_in i 6) (hdg : decode cc pc = .ok (.aastore, 1)) (h : GW κ k n (gW cy A (sH σ i.toNatClampNeg (some a))) (pc + 1) lv st) : GW κ k n (gW cy A σ) pc lv (.ref a :: .int i :: .ref (A 5) :: st) := by
  intro H locs hP hD hS ls hl
  obtain ⟨c1, c2, c3, c4, c5, c6, c7, c8, c9⟩ := C
  obtain ⟨ha, hk⟩ := hT
  rcases hk with hk | hk | hk | hk | hk <;> obtain ⟨q0, -, he⟩ := ga_T cy A σ ha hk
  · exact va_astqO (r := (RX1, TX1, 3)) c1 c2 hK hP hD hS 5 3 q0 1 (ga_5 cy A σ) rfl (c7.2.1 (RX1, RX9) (by decide)) he rfl hin hdg (fun H1 locs1 hP1 hD1 hS1 => h H1 locs1 hP1 hD1 hS1 ls hl)
  · exact va_astqO (r := (RX3, TX3, 3)) c1 c2 hK hP hD hS 5 3 q0 3 (ga_5 cy A σ) rfl (c7.2.1 (RX3, RX9) (by decide)) he rfl hin hdg (fun H1 locs1 hP1 hD1 hS1 => h H1 locs1 hP1 hD1 hS1 ls hl)
  · exact va_astqO (r := (RX4, TX4, 3)) c1 c2 hK hP hD hS 5 3 q0 4 (ga_5 cy A σ) rfl (c7.2.1 (RX4, RX9) (by decide)) he rfl hin hdg (fun H1 locs1 hP1 hD1 hS1 => h H1 locs1 hP1 hD1 hS1 ls hl)
  · exact va_astqO (r := (RX5, TX5, 3)) c1 c2 hK hP hD hS 5 3 q0 5 (ga_5 cy A σ) rfl (c7.2.1 (RX5, RX9) (by decide)) he rfl hin hdg (fun H1 locs1 hP1 hD1 hS1 => h H1 locs1 hP1 hD1 hS1 ls hl)
  · exact va_astq (r := (RX9, TX9, 3)) c1 c2 hK hP hD hS 5 3 q0 9 (ga_5 cy A σ) rfl he rfl hin hdg (fun H1 locs1 hP1 hD1 hS1 => h H1 locs1 hP1 hD1 hS1 ls hl)
end GC
