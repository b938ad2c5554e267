/-! THE CLAIM OUT OF ONE WALK OF THE LAW'S BODY. Your part is whole_start (and what it stands on); all else here is the same for every law, but numbers. -/
def R_law : String := "TwoOnACableLaw"
def lw_P (b : Addr) (xs : List Int32) (args : Array Value) (s : State) : Prop := args = #[.ref b] ∧ s.IntsAt b xs ∧ xs.length ≤ 260 ∧ (Jvm.Cond.and given_1 narrow_1).before args s = true
def lw_Q (_ : Array Value) (s : State) (o : Outcome) (t : State) : Prop := o = .returned (some (.int 1)) ∧ Framed s o t [] 888223 6437580
def lw_Z (below : List Frame) (a : Array Value) (s : State) : State → Prop := fun t => ∃ o, t.status = .running ∧ Ended t below o ∧ lw_Q a s o t
/-- the law's own end, with 1 on the stack, nothing written that was there before, its room as the claim has it -/
theorem lw_ret {p : Program} {l : Launch} {e : Env} {s : State} {m : MethodId} {below : List Frame} {meth : Method} {c : Code} {b : Nat} (hx : p.tables.exec = Jvm.exec) (hb : c.code = code) (hr : meth.sig.returnType = ret) (hlocks : meth.locks = false) {pc : Nat} {H : Heap} {ls : Array Slot} (hdg : decode code pc = .ok (.ireturn, 1)) : W p l e room_1 s m #[Value.ref b] below meth c H [] 888223 6437580 (lw_Z below #[Value.ref b] s) (F0 m pc ls [.int 1]) := by
  intro T hT X
  obtain ⟨fs, hret, hrun, hended, hW, hframe⟩ := X.leave (v := some (.int 1)) (hlocks := hlocks) (fun h => by rw [hr] at h; cases h)
  have hmeth' : T.vm.method? m = some meth := X.method'
  refine ⟨T.setFrames fs, ?_, .returned (some (.int 1)), hrun, hended, rfl, ⟨_, rfl⟩, hW, hframe⟩
  jvm_step X.here [X.here.top, hx, hb, hdg, hmeth', hr, ret, narrow_b1]
  (try refine ⟨rfl, ?_⟩); (try refine ⟨rfl, ?_⟩)
  first | (intro acts; rw [hret _ acts rfl rfl rfl]) | rw [hret _ _ rfl rfl rfl]
  exact Steps.refl _
/-- what holds at the law's entry: the machine, the code, the tables' words (any of lw_tbl by 'hts w (by decide +kernel)'), the script of L ints xs at the cell b, what the Statement gives of the start (any of its parts by flat_of_before) -/
def lw_At (p : Program) (s : State) (m : MethodId) (meth : Method) (c : Code) (b L : Nat) (xs : Nat → Int32) : Prop :=
  p.tables.exec = Jvm.exec ∧ c.code = code ∧ meth.sig.returnType = ret ∧ c.maxLocals = 20 ∧ s.vm.findClass R_law = some m.cls ∧ (∀ w ∈ lw_tbl, w.before #[Value.ref b] s = true) ∧ va_X b L xs s s.heap ∧ b < s.heap.size ∧ meth.locks = false ∧ (Jvm.Cond.and given_1 narrow_1).before #[Value.ref b] s = true
def st0 : St := (fun _ _ => 0, fun _ => 0, fun _ => none, [], fun _ => 0, fun _ _ => 0)
theorem lw_nwM : ∀ w ∈ nwM, w ∈ lw_tbl := by decide +kernel
theorem lw_nwC : ∀ q ∈ nwC, Cond.castable q.1 q.2 ∈ lw_tbl := by decide +kernel
theorem lw_nwN : ∀ q ∈ nwN, Cond.not (.castable q.1 q.2) ∈ flatC (Jvm.Cond.and given_1 narrow_1) := by decide +kernel
theorem lw_nwA : Cond.arrayOver (.object RX9) ∈ lw_tbl := by decide +kernel
theorem lw_NW {s : State} {args : Array Value} (hts : ∀ w ∈ lw_tbl, w.before args s = true) (hg : (Jvm.Cond.and given_1 narrow_1).before args s = true) : NW s := by
  refine ⟨fun w hw => ?_, fun q hq => va_Nw.of rfl (hts _ (lw_nwC q hq)), fun q hq => va_Nc.of (flat_of_before _ hg _ (lw_nwN q hq)), va_AO.of (hts _ lw_nwA)⟩
  have h1 := hts w (lw_nwM w hw)
  simp only [nwM, List.mem_cons, List.mem_nil_iff, or_false, List.not_mem_nil] at hw
  rcases hw with rfl | rfl | rfl | rfl | rfl | rfl <;> exact va_Nw.of rfl h1
theorem lw_sub {w : Cond} (h : w ∈ gL) : w ∈ lw_tbl := (List.mem_filter.mp h).1

theorem lw_known {s : State} {args : Array Value} (hts : ∀ w ∈ lw_tbl, w.before args s = true) : ∃ (dC : Nat → ClassId) (dI : Nat → Nat → Nat), ∀ (k : Nat) (q : vw_C), vwCl[k]? = some q → u_Kn s q.1 q.2.1 q.2.2 (dC k) (dI k) := by
  obtain ⟨c0, i0, h0⟩ := u_known (C := RX0) (T := TX0) (N := 7) (n := 7) hts (fun w h => lw_sub (inX0 w h)) (hts (.instantiable RX0 7) (by decide +kernel))
  obtain ⟨c1, i1, h1⟩ := u_known (C := RX1) (T := TX1) (N := 3) (n := 3) hts (fun w h => lw_sub (inX1 w h)) (hts (.instantiable RX1 3) (by decide +kernel))
  obtain ⟨c2, i2, h2⟩ := u_known (C := RX2) (T := TX2) (N := 7) (n := 7) hts (fun w h => lw_sub (inX2 w h)) (hts (.instantiable RX2 7) (by decide +kernel))
  obtain ⟨c3, i3, h3⟩ := u_known (C := RX3) (T := TX3) (N := 3) (n := 3) hts (fun w h => lw_sub (inX3 w h)) (hts (.instantiable RX3 3) (by decide +kernel))
  obtain ⟨c4, i4, h4⟩ := u_known (C := RX4) (T := TX4) (N := 3) (n := 3) hts (fun w h => lw_sub (inX4 w h)) (hts (.instantiable RX4 3) (by decide +kernel))
  obtain ⟨c5, i5, h5⟩ := u_known (C := RX5) (T := TX5) (N := 3) (n := 3) hts (fun w h => lw_sub (inX5 w h)) (hts (.instantiable RX5 3) (by decide +kernel))
  obtain ⟨c6, i6, h6⟩ := u_known (C := RX6) (T := TX6) (N := 4) (n := 4) hts (fun w h => lw_sub (inX6 w h)) (hts (.instantiable RX6 4) (by decide +kernel))
  obtain ⟨c7, i7, h7⟩ := u_known (C := RX7) (T := TX7) (N := 2) (n := 2) hts (fun w h => lw_sub (inX7 w h)) (hts (.instantiable RX7 2) (by decide +kernel))
  obtain ⟨c8, i8, h8⟩ := u_known (C := RX8) (T := TX8) (N := 4) (n := 4) hts (fun w h => lw_sub (inX8 w h)) (hts (.instantiable RX8 4) (by decide +kernel))
  obtain ⟨c9, i9, h9⟩ := u_known (C := RX9) (T := TX9) (N := 3) (n := 3) hts (fun w h => lw_sub (inX9 w h)) (hts (.instantiable RX9 3) (by decide +kernel))
  obtain ⟨c10, i10, h10⟩ := u_known (C := RX10) (T := TX10) (N := 3) (n := 3) hts (fun w h => lw_sub (inX10 w h)) (hts (.instantiable RX10 3) (by decide +kernel))
  obtain ⟨c11, i11, h11⟩ := u_known (C := RX11) (T := TX11) (N := 10) (n := 10) hts (fun w h => lw_sub (inX11 w h)) (hts (.instantiable RX11 10) (by decide +kernel))
  have h : ∀ k : Nat, ∃ q0 : ClassId × (Nat → Nat), ∀ q : vw_C, vwCl[k]? = some q → u_Kn s q.1 q.2.1 q.2.2 q0.1 q0.2 := by
    intro k
    match k with
    | 0 => exact ⟨(c0, i0), fun q hq => by cases hq; exact h0⟩
    | 1 => exact ⟨(c1, i1), fun q hq => by cases hq; exact h1⟩
    | 2 => exact ⟨(c2, i2), fun q hq => by cases hq; exact h2⟩
    | 3 => exact ⟨(c3, i3), fun q hq => by cases hq; exact h3⟩
    | 4 => exact ⟨(c4, i4), fun q hq => by cases hq; exact h4⟩
    | 5 => exact ⟨(c5, i5), fun q hq => by cases hq; exact h5⟩
    | 6 => exact ⟨(c6, i6), fun q hq => by cases hq; exact h6⟩
    | 7 => exact ⟨(c7, i7), fun q hq => by cases hq; exact h7⟩
    | 8 => exact ⟨(c8, i8), fun q hq => by cases hq; exact h8⟩
    | 9 => exact ⟨(c9, i9), fun q hq => by cases hq; exact h9⟩
    | 10 => exact ⟨(c10, i10), fun q hq => by cases hq; exact h10⟩
    | 11 => exact ⟨(c11, i11), fun q hq => by cases hq; exact h11⟩
    | k + 12 => exact ⟨(c0, i0), fun q hq => by simp [vwCl] at hq⟩
  obtain ⟨f, hf⟩ := Classical.axiomOfChoice h
  exact ⟨fun k => (f k).1, fun k => (f k).2, fun k q hq => hf k q hq⟩
theorem lw_end {κ : qC} {meth : Method} {below : List Frame} {b : Nat} {s : State} (hκ : ∃ p l e m c, κ = (p, l, e, room_1, s, m, #[Value.ref b], below, meth, c, (fun q => s.heap.size ≤ q), q_D κ, lw_Z below #[Value.ref b] s, 20)) (C : Cx κ code RL gL room_1) (hr : meth.sig.returnType = ret) : ∀ (k n : Nat) (ws : va_W) (lv : List (Nat × Value)) (pc : Nat) (v : Int32), k ≤ 888223 → n ≤ 6437580 → v = 1 → decode code pc = .ok (.ireturn, 1) → GW κ k n ws pc lv [.int v] := by
  obtain ⟨p, l, e, m, c, hκ⟩ := hκ
  intro k n ws lv pc v hk hn hv hdg H locs hP hD hS ls hl
  subst hv
  rw [hκ] at hS C ⊢
  refine W.widen hk hn ?_
  refine va_forget hS.2.2 ?_
  exact lw_ret C.1 C.2.1 hr C.2.2.2.2.2.2.2.1 hdg
set_option maxHeartbeats 4000000 in
set_option maxRecDepth 100000 in
theorem law_start {p : Program} {e : Env} {s : State} {m : MethodId} {below : List Frame} {meth : Method} {c : Code} (l : Launch) {b L : Nat} {xs : Nat → Int32} (hL : L ≤ 260) (C0 : lw_At p s m meth c b L xs) (hw : wL_law L xs st0 0) : W p l e room_1 s m #[Value.ref b] below meth c s.heap [] 0 0 (lw_Z below #[Value.ref b] s) (entryFrame m ([Value.ref b] : List Value).toArray 20) := by
  obtain ⟨hx, hb, hr, hml, hown, hts, hX, hbl, hlocks, hgv⟩ := id C0
  obtain ⟨dC, dI, hKc⟩ := lw_known hts
  have hK : va_K (dC, dI) vwCl [] s := ⟨hKc, fun k q h => by simp at h⟩
  have hl := lv_entry ([.ref b]) (n := 20) (Nat.le_of_ble_eq_true rfl)
  rw [lg_entry_eq]
  generalize (lg_sl ([.ref b]) ++ List.replicate (20 - (lg_sl ([.ref b])).length) Slot.unset).toArray = ls at hl ⊢
  have hl : lv_has ls 20 [(0, .ref b)] := hl
  obtain ⟨κ, hκ⟩ : ∃ κ : qC, κ = (p, l, e, room_1, s, m, #[Value.ref b], below, meth, c, (fun q => s.heap.size ≤ q), (dC, dI), lw_Z below #[Value.ref b] s, 20) := ⟨_, rfl⟩
  have C : Cx κ code RL gL room_1 := by rw [hκ]; exact ⟨hx, hb, hml, hown, fun w hw => hts w (lw_sub hw), fun q h => h, lw_NW hts hgv, hlocks, rfl⟩
  have hK : va_K (q_D κ) vwCl [] (q_s κ) := by rw [hκ]; exact hK
  have hX : va_X b L xs (q_s κ) (q_s κ).heap := by rw [hκ]; exact hX
  have hbl' : b < (q_s κ).heap.size := by rw [hκ]; exact hbl
  have hbA : ¬ q_A κ b := by rw [hκ]; exact Nat.not_le.mpr hbl
  have hret := lw_end (κ := κ) ⟨p, l, e, m, c, by rw [hκ]⟩ C hr
  have hN4 : q_n κ = 20 := by rw [hκ]
  suffices G : GW κ 0 0 [] 0 [(0, .ref b)] [] by
    rw [hκ] at G
    exact G s.heap [] (fun k q h => by simp at h) ⟨fun i j p q h => by simp at h, fun k q h => by simp at h⟩ va_S.rf ls hl
  clear hκ hl hbl C0 hgv hts

  refine g_new (N := 10) C hK 11 [.null, .null, .null, .null, .null, .null, .null, .null, .int 0, .int 0] inX11 tyX11 tyX11_ok rfl (by decide) wt_14 wt_15 wt_1 ⟨Nat.le_of_ble_eq_true rfl, Nat.le_of_ble_eq_true rfl⟩ dL_law_0 (fun xx => ?_)
  refine g_eqs (ws' := [(xx, .inr (11, [.null, .null, .null, .null, .null, .null, .null, .null, .int 0, .int 0]))]) rfl ?_
  refine g_dup C rfl dL_law_3 ?_
  refine gc_NI C hK (gd_N wt_18) rfl rfl rfl wt_16 wt_1 wt_17 rfl hs_X11_init ⟨⟨Nat.le_of_ble_eq_true rfl, Nat.le_of_ble_eq_true rfl⟩, Nat.le_of_ble_eq_true rfl, Nat.le_of_ble_eq_true rfl⟩ (Nat.le_of_ble_eq_true rfl) dL_law_4 (c_X11_init (q_l κ) (q_D κ)) (fun ws1 ty1 hp1 hK1 => ?_)
  obtain ⟨xr1, xr1_2, xc1_2, xr3, xr5, xr1_6, xc1_6, xr2_6, xc2_6, xr7, xr1_8, xc1_8, xr2_8, xc2_8, xr9, xr1_10, xc1_10, xr2_10, xc2_10, xr11, xr1_12, xc1_12, xr2_12, xc2_12, xr13, xr15, rfl, rfl⟩ := hp1
  refine g_astore_n C [(1, .ref xx), (0, .ref b)] hN4 rfl (by decide) rfl dL_law_7 ?_
  refine g_bipush (v := (32 : Int32)) C dL_law_8 (by decide) ?_
  refine g_newI (N := 32) C hK1 .int .int rfl wt_61 (fun _ => rfl) (by decide) (by decide) (by decide) ⟨Nat.le_of_ble_eq_true rfl, Nat.le_of_ble_eq_true rfl⟩ dL_law_10 (fun ra ca hK11 => ?_)
  refine g_eqs (ws' := [(xx, .inr (11, [.ref xr1, .ref xr3, .ref xr5, .ref xr7, .ref xr9, .ref xr11, .ref xr13, .ref xr15, .int 0, .int 0])), (xr1, .inr (7, [.ref xr1_2, .int 0])), (xr1_2, .inl (xc1_2, 12, .inl (fun _ => (0 : Int32)))), (xr3, .inr (0, [.int 0, .int 0, .int 0, .int 0, .int 0, .int 0, .int 0])), (xr5, .inr (6, [.ref xr1_6, .ref xr2_6, .int 0, .int 0])), (xr1_6, .inl (xc1_6, 6, .inr (.inr (.inr (.inr (fun _ => none)))))), (xr2_6, .inl (xc2_6, 6, .inl (fun _ => (0 : Int32)))), (xr7, .inr (10, [.ref xr1_8, .ref xr2_8, .int 0])), (xr1_8, .inl (xc1_8, 6, .inl (fun _ => (0 : Int32)))), (xr2_8, .inl (xc2_8, 6, .inl (fun _ => (0 : Int32)))), (xr9, .inr (2, [.ref xr1_10, .ref xr2_10, .int 0, .int 0, .int 0, .int 0, .int 0])), (xr1_10, .inl (xc1_10, 6, .inl (fun _ => (0 : Int32)))), (xr2_10, .inl (xc2_10, 6, .inl (fun _ => (0 : Int32)))), (xr11, .inr (8, [.ref xr1_12, .ref xr2_12, .int 0, .int 0])), (xr1_12, .inl (xc1_12, 41, .inl (fun _ => (0 : Int32)))), (xr2_12, .inl (xc2_12, 41, .inl (fun _ => (0 : Int32)))), (xr13, .inr (0, [.int 0, .int 0, .int 0, .int 0, .int 0, .int 0, .int 0])), (xr15, .inr (0, [.int 0, .int 0, .int 0, .int 0, .int 0, .int 0, .int 0])), (ra, .inl (ca, 32, .inl (fun _ => (0 : Int32))))]) rfl ?_
  refine g_astore_n C [(2, .ref ra), (1, .ref xx), (0, .ref b)] hN4 rfl (by decide) rfl dL_law_12 ?_
  refine g_bipush (v := (32 : Int32)) C dL_law_13 (by decide) ?_
  refine g_newI (N := 32) C hK11 .int .int rfl wt_61 (fun _ => rfl) (by decide) (by decide) (by decide) ⟨Nat.le_of_ble_eq_true rfl, Nat.le_of_ble_eq_true rfl⟩ dL_law_15 (fun rb cb hK111 => ?_)
  refine g_eqs (ws' := [(xx, .inr (11, [.ref xr1, .ref xr3, .ref xr5, .ref xr7, .ref xr9, .ref xr11, .ref xr13, .ref xr15, .int 0, .int 0])), (xr1, .inr (7, [.ref xr1_2, .int 0])), (xr1_2, .inl (xc1_2, 12, .inl (fun _ => (0 : Int32)))), (xr3, .inr (0, [.int 0, .int 0, .int 0, .int 0, .int 0, .int 0, .int 0])), (xr5, .inr (6, [.ref xr1_6, .ref xr2_6, .int 0, .int 0])), (xr1_6, .inl (xc1_6, 6, .inr (.inr (.inr (.inr (fun _ => none)))))), (xr2_6, .inl (xc2_6, 6, .inl (fun _ => (0 : Int32)))), (xr7, .inr (10, [.ref xr1_8, .ref xr2_8, .int 0])), (xr1_8, .inl (xc1_8, 6, .inl (fun _ => (0 : Int32)))), (xr2_8, .inl (xc2_8, 6, .inl (fun _ => (0 : Int32)))), (xr9, .inr (2, [.ref xr1_10, .ref xr2_10, .int 0, .int 0, .int 0, .int 0, .int 0])), (xr1_10, .inl (xc1_10, 6, .inl (fun _ => (0 : Int32)))), (xr2_10, .inl (xc2_10, 6, .inl (fun _ => (0 : Int32)))), (xr11, .inr (8, [.ref xr1_12, .ref xr2_12, .int 0, .int 0])), (xr1_12, .inl (xc1_12, 41, .inl (fun _ => (0 : Int32)))), (xr2_12, .inl (xc2_12, 41, .inl (fun _ => (0 : Int32)))), (xr13, .inr (0, [.int 0, .int 0, .int 0, .int 0, .int 0, .int 0, .int 0])), (xr15, .inr (0, [.int 0, .int 0, .int 0, .int 0, .int 0, .int 0, .int 0])), (ra, .inl (ca, 32, .inl (fun _ => (0 : Int32)))), (rb, .inl (cb, 32, .inl (fun _ => (0 : Int32))))]) rfl ?_
  refine g_astore_n C [(3, .ref rb), (2, .ref ra), (1, .ref xx), (0, .ref b)] hN4 rfl (by decide) rfl dL_law_17 ?_
  refine g_eql (lv' := [(0, .ref b), (1, .ref xx), (2, .ref ra), (3, .ref rb)]) [3, 2, 1, 0] rfl ?_
  have hK2 : va_K (q_D κ) vwCl [(xc1_2, .char), (xc1_6, .object RX9), (xc2_6, .int), (xc1_8, .int), (xc2_8, .int), (xc1_10, .int), (xc2_10, .int), (xc1_12, .int), (xc2_12, .int), (ca, .int), (cb, .int)] (q_s κ) := hK111
  have f0 : (q_s κ).vm.findClass ("[" ++ FieldType.int.toString) = some xc2_6 := (hK2.2 2 _ rfl).2
  have f3 : (q_s κ).vm.findClass ("[" ++ FieldType.int.toString) = some xc1_8 := (hK2.2 3 _ rfl).2
  have e3 : xc2_6 = xc1_8 := Option.some.inj (f0.symm.trans f3)
  have f4 : (q_s κ).vm.findClass ("[" ++ FieldType.int.toString) = some xc2_8 := (hK2.2 4 _ rfl).2
  have e4 : xc2_6 = xc2_8 := Option.some.inj (f0.symm.trans f4)
  have f5 : (q_s κ).vm.findClass ("[" ++ FieldType.int.toString) = some xc1_10 := (hK2.2 5 _ rfl).2
  have e5 : xc2_6 = xc1_10 := Option.some.inj (f0.symm.trans f5)
  have f6 : (q_s κ).vm.findClass ("[" ++ FieldType.int.toString) = some xc2_10 := (hK2.2 6 _ rfl).2
  have e6 : xc2_6 = xc2_10 := Option.some.inj (f0.symm.trans f6)
  have f7 : (q_s κ).vm.findClass ("[" ++ FieldType.int.toString) = some xc1_12 := (hK2.2 7 _ rfl).2
  have e7 : xc2_6 = xc1_12 := Option.some.inj (f0.symm.trans f7)
  have f8 : (q_s κ).vm.findClass ("[" ++ FieldType.int.toString) = some xc2_12 := (hK2.2 8 _ rfl).2
  have e8 : xc2_6 = xc2_12 := Option.some.inj (f0.symm.trans f8)
  have f9 : (q_s κ).vm.findClass ("[" ++ FieldType.int.toString) = some ca := (hK2.2 9 _ rfl).2
  have e9 : xc2_6 = ca := Option.some.inj (f0.symm.trans f9)
  have f10 : (q_s κ).vm.findClass ("[" ++ FieldType.int.toString) = some cb := (hK2.2 10 _ rfl).2
  have e10 : xc2_6 = cb := Option.some.inj (f0.symm.trans f10)
  subst e3
  subst e4
  subst e5
  subst e6
  subst e7
  subst e8
  subst e9
  subst e10
  have hK3 := hK2.sub (tys' := gty (fun k => match k with | 0 => xc2_6 | 1 => xc1_2 | 2 => xc2_6 | _ => xc1_6)) [2, 0, 2, 1] rfl
  refine g_eqs (ws' := gW (fun k => match k with | 0 => xc2_6 | 1 => xc1_2 | 2 => xc2_6 | _ => xc1_6) (fun k => match k with | 0 => xx | 1 => xr1 | 2 => xr1_2 | 3 => xr3 | 4 => xr5 | 5 => xr1_6 | 6 => xr2_6 | 7 => xr7 | 8 => xr1_8 | 9 => xr2_8 | 10 => xr9 | 11 => xr1_10 | 12 => xr2_10 | 13 => xr11 | 14 => xr1_12 | 15 => xr2_12 | 16 => xr13 | 17 => xr15 | 18 => ra | _ => rb) st0) rfl ?_
  refine g_widen (k' := 20 + 0) (n' := 245 + 3 * 0) (by decide) (by decide) ?_
  exact law_body C hN4 hK3 hX hbl' hbA (by omega) hret (by omega) hw
