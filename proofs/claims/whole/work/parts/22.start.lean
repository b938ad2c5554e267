/-! THE CLAIM OUT OF ONE WALK OF THE LAW'S BODY. Your part is whole_start (and what it stands on); all else here is the same for every law, but numbers. -/
def R_law : String := "TwoOnACableLaw"
def lw_P (b : Addr) (xs : List Int32) (args : Array Value) (s : State) : Prop := args = #[.ref b] ∧ s.IntsAt b xs ∧ xs.length ≤ 2048 ∧ (Jvm.Cond.and given_1 narrow_1).before args s = true
def lw_Q (_ : Array Value) (s : State) (o : Outcome) (t : State) : Prop := o = .returned (some (.int 1)) ∧ Framed s o t [] 600000 7302250
def lw_Z (below : List Frame) (a : Array Value) (s : State) : State → Prop := fun t => ∃ o, t.status = .running ∧ Ended t below o ∧ lw_Q a s o t
/-- the law's own end, with 1 on the stack, nothing written that was there before, its room as the claim has it -/
theorem lw_ret {p : Program} {l : Launch} {e : Env} {s : State} {m : MethodId} {below : List Frame} {meth : Method} {c : Code} {b : Nat} (hx : p.tables.exec = Jvm.exec) (hb : c.code = code) (hr : meth.sig.returnType = ret) (hlocks : meth.locks = false) {pc : Nat} {H : Heap} {ls : Array Slot} (hdg : decode code pc = .ok (.ireturn, 1)) : W p l e room_1 s m #[Value.ref b] below meth c H [] 600000 7302250 (lw_Z below #[Value.ref b] s) (F0 m pc ls [.int 1]) := by
  intro T hT X
  obtain ⟨fs, hret, hrun, hended, hW, hframe⟩ := X.leave (v := some (.int 1)) (hlocks := hlocks) (fun h => by rw [hr] at h; cases h)
  have hmeth' : T.vm.method? m = some meth := X.method'
  refine ⟨T.setFrames fs, ?_, .returned (some (.int 1)), hrun, hended, rfl, ⟨_, rfl⟩, hW, hframe⟩
  jvm_step X.here [X.here.top, hx, hb, hdg, hmeth', hr, ret, narrow_b1]
  (try refine ⟨rfl, ?_⟩); (try refine ⟨rfl, ?_⟩)
  first | (intro acts; rw [hret _ acts rfl rfl rfl]) | rw [hret _ _ rfl rfl rfl]
  exact Steps.refl _
/-- what holds at the law's entry: the machine, the code, the tables' words (any of lw_tbl by 'hts w (by decide +kernel)'), the script of L ints xs at the cell b, what the Statement gives of the start (any of its parts by flat_of_before) -/
def lw_At (p : Program) (s : State) (m : MethodId) (meth : Method) (c : Code) (b L : Nat) (xs : Nat → Int32) : Prop :=
  p.tables.exec = Jvm.exec ∧ c.code = code ∧ meth.sig.returnType = ret ∧ c.maxLocals = 4 ∧ s.vm.findClass R_law = some m.cls ∧ (∀ w ∈ lw_tbl, w.before #[Value.ref b] s = true) ∧ va_X b L xs s s.heap ∧ b < s.heap.size ∧ meth.locks = false ∧ (Jvm.Cond.and given_1 narrow_1).before #[Value.ref b] s = true
def st0 : St := (fun _ _ => 0, fun _ => 0, fun _ => none, [], fun _ => 0, fun _ _ => 0)
theorem lw_nwM : ∀ w ∈ nwM, w ∈ lw_tbl := by decide +kernel
theorem lw_nwC : ∀ q ∈ nwC, Cond.castable q.1 q.2 ∈ lw_tbl := by decide +kernel
theorem lw_nwN : ∀ q ∈ nwN, Cond.not (.castable q.1 q.2) ∈ flatC (Jvm.Cond.and given_1 narrow_1) := by decide +kernel
theorem lw_nwA : Cond.arrayOver (.object RX9) ∈ lw_tbl := by decide +kernel
theorem lw_NW {s : State} {args : Array Value} (hts : ∀ w ∈ lw_tbl, w.before args s = true) (hg : (Jvm.Cond.and given_1 narrow_1).before args s = true) : NW s := by
  refine ⟨fun w hw => ?_, fun q hq => va_Nw.of rfl (hts _ (lw_nwC q hq)), fun q hq => va_Nc.of (flat_of_before _ hg _ (lw_nwN q hq)), va_AO.of (hts _ lw_nwA)⟩
  have h1 := hts w (lw_nwM w hw)
  simp only [nwM, List.mem_cons, List.mem_nil_iff, or_false, List.not_mem_nil] at hw
  rcases hw with rfl | rfl | rfl | rfl | rfl | rfl | rfl | rfl <;> exact va_Nw.of rfl h1
theorem lw_sub {w : Cond} (h : w ∈ gL) : w ∈ lw_tbl := (List.mem_filter.mp h).1

theorem lw_known {s : State} {args : Array Value} (hts : ∀ w ∈ lw_tbl, w.before args s = true) : ∃ (dC : Nat → ClassId) (dI : Nat → Nat → Nat), ∀ (k : Nat) (q : vw_C), vwCl[k]? = some q → u_Kn s q.1 q.2.1 q.2.2 (dC k) (dI k) := by
  obtain ⟨c0, i0, h0⟩ := u_known (C := RX0) (T := TX0) (N := 7) (n := 7) hts (fun w h => lw_sub (inX0 w h)) (hts (.instantiable RX0 7) (by decide +kernel))
  obtain ⟨c1, i1, h1⟩ := u_known (C := RX1) (T := TX1) (N := 3) (n := 3) hts (fun w h => lw_sub (inX1 w h)) (hts (.instantiable RX1 3) (by decide +kernel))
  obtain ⟨c2, i2, h2⟩ := u_known (C := RX2) (T := TX2) (N := 7) (n := 7) hts (fun w h => lw_sub (inX2 w h)) (hts (.instantiable RX2 7) (by decide +kernel))
  obtain ⟨c3, i3, h3⟩ := u_known (C := RX3) (T := TX3) (N := 3) (n := 3) hts (fun w h => lw_sub (inX3 w h)) (hts (.instantiable RX3 3) (by decide +kernel))
  obtain ⟨c4, i4, h4⟩ := u_known (C := RX4) (T := TX4) (N := 3) (n := 3) hts (fun w h => lw_sub (inX4 w h)) (hts (.instantiable RX4 3) (by decide +kernel))
  obtain ⟨c5, i5, h5⟩ := u_known (C := RX5) (T := TX5) (N := 3) (n := 3) hts (fun w h => lw_sub (inX5 w h)) (hts (.instantiable RX5 3) (by decide +kernel))
  obtain ⟨c6, i6, h6⟩ := u_known (C := RX6) (T := TX6) (N := 4) (n := 4) hts (fun w h => lw_sub (inX6 w h)) (hts (.instantiable RX6 4) (by decide +kernel))
  obtain ⟨c7, i7, h7⟩ := u_known (C := RX7) (T := TX7) (N := 2) (n := 2) hts (fun w h => lw_sub (inX7 w h)) (hts (.instantiable RX7 2) (by decide +kernel))
  obtain ⟨c8, i8, h8⟩ := u_known (C := RX8) (T := TX8) (N := 4) (n := 4) hts (fun w h => lw_sub (inX8 w h)) (hts (.instantiable RX8 4) (by decide +kernel))
  obtain ⟨c9, i9, h9⟩ := u_known (C := RX9) (T := TX9) (N := 3) (n := 3) hts (fun w h => lw_sub (inX9 w h)) (hts (.instantiable RX9 3) (by decide +kernel))
  obtain ⟨c10, i10, h10⟩ := u_known (C := RX10) (T := TX10) (N := 3) (n := 3) hts (fun w h => lw_sub (inX10 w h)) (hts (.instantiable RX10 3) (by decide +kernel))
  obtain ⟨c11, i11, h11⟩ := u_known (C := RX11) (T := TX11) (N := 10) (n := 10) hts (fun w h => lw_sub (inX11 w h)) (hts (.instantiable RX11 10) (by decide +kernel))
  obtain ⟨c12, i12, h12⟩ := u_known (C := RX12) (T := TX12) (N := 40) (n := 40) hts (fun w h => lw_sub (inX12 w h)) (hts (.instantiable RX12 40) (by decide +kernel))
  have h : ∀ k : Nat, ∃ q0 : ClassId × (Nat → Nat), ∀ q : vw_C, vwCl[k]? = some q → u_Kn s q.1 q.2.1 q.2.2 q0.1 q0.2 := by
    intro k
    match k with
    | 0 => exact ⟨(c0, i0), fun q hq => by cases hq; exact h0⟩
    | 1 => exact ⟨(c1, i1), fun q hq => by cases hq; exact h1⟩
    | 2 => exact ⟨(c2, i2), fun q hq => by cases hq; exact h2⟩
    | 3 => exact ⟨(c3, i3), fun q hq => by cases hq; exact h3⟩
    | 4 => exact ⟨(c4, i4), fun q hq => by cases hq; exact h4⟩
    | 5 => exact ⟨(c5, i5), fun q hq => by cases hq; exact h5⟩
    | 6 => exact ⟨(c6, i6), fun q hq => by cases hq; exact h6⟩
    | 7 => exact ⟨(c7, i7), fun q hq => by cases hq; exact h7⟩
    | 8 => exact ⟨(c8, i8), fun q hq => by cases hq; exact h8⟩
    | 9 => exact ⟨(c9, i9), fun q hq => by cases hq; exact h9⟩
    | 10 => exact ⟨(c10, i10), fun q hq => by cases hq; exact h10⟩
    | 11 => exact ⟨(c11, i11), fun q hq => by cases hq; exact h11⟩
    | 12 => exact ⟨(c12, i12), fun q hq => by cases hq; exact h12⟩
    | k + 13 => exact ⟨(c0, i0), fun q hq => by simp [vwCl] at hq⟩
  obtain ⟨f, hf⟩ := Classical.axiomOfChoice h
  exact ⟨fun k => (f k).1, fun k => (f k).2, fun k q hq => hf k q hq⟩
theorem lw_end {κ : qC} {meth : Method} {below : List Frame} {b : Nat} {s : State} (hκ : ∃ p l e m c, κ = (p, l, e, room_1, s, m, #[Value.ref b], below, meth, c, (fun q => s.heap.size ≤ q), q_D κ, lw_Z below #[Value.ref b] s, 4)) (C : Cx κ code RL gL room_1) (hr : meth.sig.returnType = ret) : ∀ (k n : Nat) (ws : va_W) (lv : List (Nat × Value)), k ≤ 600000 → n ≤ 7302250 → GW κ k n ws 711 lv [.int 1] := by
  obtain ⟨p, l, e, m, c, hκ⟩ := hκ
  intro k n ws lv hk hn H locs hP hD hS ls hl
  rw [hκ] at hS C ⊢
  refine W.widen hk hn ?_
  refine va_forget hS.2.2 ?_
  exact lw_ret C.1 C.2.1 hr C.2.2.2.2.2.2.2.1 dL_law_711
set_option maxHeartbeats 4000000 in
set_option maxRecDepth 100000 in
theorem law_start {p : Program} {e : Env} {s : State} {m : MethodId} {below : List Frame} {meth : Method} {c : Code} (l : Launch) {b L : Nat} {xs : Nat → Int32} (hL : L ≤ 2048) (C0 : lw_At p s m meth c b L xs) {Inv : Nat → St → Prop} (h00 : Inv 0 st0) (hstep : ∀ j σ c a1 a2 a3, j < 512 → Inv j σ → wLaw σ c a1 a2 a3 (Inv (j + 1))) : W p l e room_1 s m #[Value.ref b] below meth c s.heap [] 0 0 (lw_Z below #[Value.ref b] s) (entryFrame m ([Value.ref b] : List Value).toArray 4) := by
  obtain ⟨hx, hb, hr, hml, hown, hts, hX, hbl, hlocks, hgv⟩ := id C0
  obtain ⟨dC, dI, hKc⟩ := lw_known hts
  have hK : va_K (dC, dI) vwCl [] s := ⟨hKc, fun k q h => by simp at h⟩
  have hl := lv_entry ([.ref b]) (n := 4) (Nat.le_of_ble_eq_true rfl)
  rw [lg_entry_eq]
  generalize (lg_sl ([.ref b]) ++ List.replicate (4 - (lg_sl ([.ref b])).length) Slot.unset).toArray = ls at hl ⊢
  have hl : lv_has ls 4 [(0, .ref b)] := hl
  obtain ⟨κ, hκ⟩ : ∃ κ : qC, κ = (p, l, e, room_1, s, m, #[Value.ref b], below, meth, c, (fun q => s.heap.size ≤ q), (dC, dI), lw_Z below #[Value.ref b] s, 4) := ⟨_, rfl⟩
  have C : Cx κ code RL gL room_1 := by rw [hκ]; exact ⟨hx, hb, hml, hown, fun w hw => hts w (lw_sub hw), fun q h => h, lw_NW hts hgv, hlocks, rfl⟩
  have hK : va_K (q_D κ) vwCl [] (q_s κ) := by rw [hκ]; exact hK
  have hX : va_X b L xs (q_s κ) (q_s κ).heap := by rw [hκ]; exact hX
  have hbl' : b < (q_s κ).heap.size := by rw [hκ]; exact hbl
  have hbA : ¬ q_A κ b := by rw [hκ]; exact Nat.not_le.mpr hbl
  have hret := lw_end (κ := κ) ⟨p, l, e, m, c, by rw [hκ]⟩ C hr
  have hN4 : q_n κ = 4 := by rw [hκ]
  suffices G : GW κ 0 0 [] 0 [(0, .ref b)] [] by
    rw [hκ] at G
    exact G s.heap [] (fun k q h => by simp at h) ⟨fun i j p q h => by simp at h, fun k q h => by simp at h⟩ va_S.rf ls hl
  clear hκ hl hbl C0 hgv hts

  refine g_new (N := 10) C hK 11 [.null, .null, .null, .null, .null, .null, .null, .null, .int 0, .int 0] inX11 tyX11 tyX11_ok rfl (by decide) wt_15 wt_16 wt_1 ⟨Nat.le_of_ble_eq_true rfl, Nat.le_of_ble_eq_true rfl⟩ dL_law_0 (fun xx => ?_)
  refine g_eqs (ws' := [(xx, .inr (11, [.null, .null, .null, .null, .null, .null, .null, .null, .int 0, .int 0]))]) rfl ?_
  refine g_dup C rfl dL_law_3 ?_
  refine gc_NI C hK (gd_N wt_19) rfl rfl rfl wt_17 wt_1 wt_18 rfl hs_X11_init ⟨⟨Nat.le_of_ble_eq_true rfl, Nat.le_of_ble_eq_true rfl⟩, Nat.le_of_ble_eq_true rfl, Nat.le_of_ble_eq_true rfl⟩ (Nat.le_of_ble_eq_true rfl) dL_law_4 (c_X11_init (q_l κ) (q_D κ)) (fun ws1 ty1 hp1 hK1 => ?_)
  obtain ⟨xr1, xr1_2, xc1_2, xr3, xr5, xr1_6, xc1_6, xr2_6, xc2_6, xr7, xr1_8, xc1_8, xr2_8, xc2_8, xr9, xr1_10, xc1_10, xr2_10, xc2_10, xr11, xr1_12, xc1_12, xr2_12, xc2_12, xr13, xr15, rfl, rfl⟩ := hp1
  refine g_astore_n C [(1, .ref xx), (0, .ref b)] hN4 rfl (by decide) rfl dL_law_7 ?_
  refine g_new (N := 40) C hK1 12 [.int 0, .int 0, .int 0, .int 0, .int 0, .int 0, .int 0, .int 0, .int 0, .int 0, .null, .null, .null, .null, .int 0, .null, .null, .int 0, .null, .int 0, .int 0, .int 0, .int 0, .int 0, .int 0, .int 0, .int 0, .null, .null, .long 0, .int 0, .int 0, .int 0, .int 0, .int 0, .int 0, .int 0, .null, .null, .long 0] inX12 tyX12 tyX12_ok rfl (by decide) wt_579 wt_580 wt_8 ⟨Nat.le_of_ble_eq_true rfl, Nat.le_of_ble_eq_true rfl⟩ dL_law_8 (fun mm => ?_)
  refine g_eqs (ws' := [(xx, .inr (11, [.ref xr1, .ref xr3, .ref xr5, .ref xr7, .ref xr9, .ref xr11, .ref xr13, .ref xr15, .int 0, .int 0])), (xr1, .inr (7, [.ref xr1_2, .int 0])), (xr1_2, .inl (xc1_2, 12, .inl (fun _ => (0 : Int32)))), (xr3, .inr (0, [.int 0, .int 0, .int 0, .int 0, .int 0, .int 0, .int 0])), (xr5, .inr (6, [.ref xr1_6, .ref xr2_6, .int 0, .int 0])), (xr1_6, .inl (xc1_6, 6, .inr (.inr (.inr (.inr (fun _ => none)))))), (xr2_6, .inl (xc2_6, 6, .inl (fun _ => (0 : Int32)))), (xr7, .inr (10, [.ref xr1_8, .ref xr2_8, .int 0])), (xr1_8, .inl (xc1_8, 6, .inl (fun _ => (0 : Int32)))), (xr2_8, .inl (xc2_8, 6, .inl (fun _ => (0 : Int32)))), (xr9, .inr (2, [.ref xr1_10, .ref xr2_10, .int 0, .int 0, .int 0, .int 0, .int 0])), (xr1_10, .inl (xc1_10, 6, .inl (fun _ => (0 : Int32)))), (xr2_10, .inl (xc2_10, 6, .inl (fun _ => (0 : Int32)))), (xr11, .inr (8, [.ref xr1_12, .ref xr2_12, .int 0, .int 0])), (xr1_12, .inl (xc1_12, 41, .inl (fun _ => (0 : Int32)))), (xr2_12, .inl (xc2_12, 41, .inl (fun _ => (0 : Int32)))), (xr13, .inr (0, [.int 0, .int 0, .int 0, .int 0, .int 0, .int 0, .int 0])), (xr15, .inr (0, [.int 0, .int 0, .int 0, .int 0, .int 0, .int 0, .int 0])), (mm, .inr (12, [.int 0, .int 0, .int 0, .int 0, .int 0, .int 0, .int 0, .int 0, .int 0, .int 0, .null, .null, .null, .null, .int 0, .null, .null, .int 0, .null, .int 0, .int 0, .int 0, .int 0, .int 0, .int 0, .int 0, .int 0, .null, .null, .long 0, .int 0, .int 0, .int 0, .int 0, .int 0, .int 0, .int 0, .null, .null, .long 0]))]) rfl ?_
  refine g_dup C rfl dL_law_11 ?_
  refine gc_NI C hK1 (gd_N wt_583) rfl rfl rfl wt_581 wt_8 wt_582 rfl hs_X12_init ⟨⟨Nat.le_of_ble_eq_true rfl, Nat.le_of_ble_eq_true rfl⟩, Nat.le_of_ble_eq_true rfl, Nat.le_of_ble_eq_true rfl⟩ (Nat.le_of_ble_eq_true rfl) dL_law_12 (c_X12_init (X := [(xx, .inr (11, [.ref xr1, .ref xr3, .ref xr5, .ref xr7, .ref xr9, .ref xr11, .ref xr13, .ref xr15, .int 0, .int 0])), (xr1, .inr (7, [.ref xr1_2, .int 0])), (xr1_2, .inl (xc1_2, 12, .inl (fun _ => (0 : Int32)))), (xr3, .inr (0, [.int 0, .int 0, .int 0, .int 0, .int 0, .int 0, .int 0])), (xr5, .inr (6, [.ref xr1_6, .ref xr2_6, .int 0, .int 0])), (xr1_6, .inl (xc1_6, 6, .inr (.inr (.inr (.inr (fun _ => none)))))), (xr2_6, .inl (xc2_6, 6, .inl (fun _ => (0 : Int32)))), (xr7, .inr (10, [.ref xr1_8, .ref xr2_8, .int 0])), (xr1_8, .inl (xc1_8, 6, .inl (fun _ => (0 : Int32)))), (xr2_8, .inl (xc2_8, 6, .inl (fun _ => (0 : Int32)))), (xr9, .inr (2, [.ref xr1_10, .ref xr2_10, .int 0, .int 0, .int 0, .int 0, .int 0])), (xr1_10, .inl (xc1_10, 6, .inl (fun _ => (0 : Int32)))), (xr2_10, .inl (xc2_10, 6, .inl (fun _ => (0 : Int32)))), (xr11, .inr (8, [.ref xr1_12, .ref xr2_12, .int 0, .int 0])), (xr1_12, .inl (xc1_12, 41, .inl (fun _ => (0 : Int32)))), (xr2_12, .inl (xc2_12, 41, .inl (fun _ => (0 : Int32)))), (xr13, .inr (0, [.int 0, .int 0, .int 0, .int 0, .int 0, .int 0, .int 0])), (xr15, .inr (0, [.int 0, .int 0, .int 0, .int 0, .int 0, .int 0, .int 0]))]) (tys := [(xc1_2, .char), (xc1_6, .object RX9), (xc2_6, .int), (xc1_8, .int), (xc2_8, .int), (xc1_10, .int), (xc2_10, .int), (xc1_12, .int), (xc2_12, .int)]) (q_l κ) (q_D κ)) (fun ws2 ty2 hp2 hK2 => ?_)
  obtain ⟨mr1, mc1, mr2, mc2, mr3, mc3, mr4, mc4, mr5, mc5, mr6, mc6, mr7, mc7, mr8, mc8, mr9, mc9, mr10, mc10, mr11, mc11, rfl, rfl⟩ := hp2
  refine g_astore_n C [(2, .ref mm), (1, .ref xx), (0, .ref b)] hN4 rfl (by decide) rfl dL_law_15 ?_
  refine g_iconst (v := (0 : Int32)) C dL_law_16 (by decide) ?_
  refine g_istore_n C [(3, .int (0 : Int32)), (2, .ref mm), (1, .ref xx), (0, .ref b)] hN4 rfl (by decide) rfl dL_law_17 ?_
  refine g_eql (lv' := [(0, .ref b), (1, .ref xx), (2, .ref mm), (3, .int (0 : Int32))]) [3, 2, 1, 0] rfl ?_
  have hK2 : va_K (q_D κ) vwCl [(xc1_2, .char), (xc1_6, .object RX9), (xc2_6, .int), (xc1_8, .int), (xc2_8, .int), (xc1_10, .int), (xc2_10, .int), (xc1_12, .int), (xc2_12, .int), (mc1, .int), (mc2, .int), (mc3, .int), (mc4, .int), (mc5, .int), (mc6, .int), (mc7, .byte), (mc8, .int), (mc9, .int), (mc10, .int), (mc11, .int)] (q_s κ) := hK2
  have f0 : (q_s κ).vm.findClass ("[" ++ FieldType.int.toString) = some xc2_6 := (hK2.2 2 _ rfl).2
  have f3 : (q_s κ).vm.findClass ("[" ++ FieldType.int.toString) = some xc1_8 := (hK2.2 3 _ rfl).2
  have e3 : xc2_6 = xc1_8 := Option.some.inj (f0.symm.trans f3)
  have f4 : (q_s κ).vm.findClass ("[" ++ FieldType.int.toString) = some xc2_8 := (hK2.2 4 _ rfl).2
  have e4 : xc2_6 = xc2_8 := Option.some.inj (f0.symm.trans f4)
  have f5 : (q_s κ).vm.findClass ("[" ++ FieldType.int.toString) = some xc1_10 := (hK2.2 5 _ rfl).2
  have e5 : xc2_6 = xc1_10 := Option.some.inj (f0.symm.trans f5)
  have f6 : (q_s κ).vm.findClass ("[" ++ FieldType.int.toString) = some xc2_10 := (hK2.2 6 _ rfl).2
  have e6 : xc2_6 = xc2_10 := Option.some.inj (f0.symm.trans f6)
  have f7 : (q_s κ).vm.findClass ("[" ++ FieldType.int.toString) = some xc1_12 := (hK2.2 7 _ rfl).2
  have e7 : xc2_6 = xc1_12 := Option.some.inj (f0.symm.trans f7)
  have f8 : (q_s κ).vm.findClass ("[" ++ FieldType.int.toString) = some xc2_12 := (hK2.2 8 _ rfl).2
  have e8 : xc2_6 = xc2_12 := Option.some.inj (f0.symm.trans f8)
  have f9 : (q_s κ).vm.findClass ("[" ++ FieldType.int.toString) = some mc1 := (hK2.2 9 _ rfl).2
  have e9 : xc2_6 = mc1 := Option.some.inj (f0.symm.trans f9)
  have f10 : (q_s κ).vm.findClass ("[" ++ FieldType.int.toString) = some mc2 := (hK2.2 10 _ rfl).2
  have e10 : xc2_6 = mc2 := Option.some.inj (f0.symm.trans f10)
  have f11 : (q_s κ).vm.findClass ("[" ++ FieldType.int.toString) = some mc3 := (hK2.2 11 _ rfl).2
  have e11 : xc2_6 = mc3 := Option.some.inj (f0.symm.trans f11)
  have f12 : (q_s κ).vm.findClass ("[" ++ FieldType.int.toString) = some mc4 := (hK2.2 12 _ rfl).2
  have e12 : xc2_6 = mc4 := Option.some.inj (f0.symm.trans f12)
  have f13 : (q_s κ).vm.findClass ("[" ++ FieldType.int.toString) = some mc5 := (hK2.2 13 _ rfl).2
  have e13 : xc2_6 = mc5 := Option.some.inj (f0.symm.trans f13)
  have f14 : (q_s κ).vm.findClass ("[" ++ FieldType.int.toString) = some mc6 := (hK2.2 14 _ rfl).2
  have e14 : xc2_6 = mc6 := Option.some.inj (f0.symm.trans f14)
  have f16 : (q_s κ).vm.findClass ("[" ++ FieldType.int.toString) = some mc8 := (hK2.2 16 _ rfl).2
  have e16 : xc2_6 = mc8 := Option.some.inj (f0.symm.trans f16)
  have f17 : (q_s κ).vm.findClass ("[" ++ FieldType.int.toString) = some mc9 := (hK2.2 17 _ rfl).2
  have e17 : xc2_6 = mc9 := Option.some.inj (f0.symm.trans f17)
  have f18 : (q_s κ).vm.findClass ("[" ++ FieldType.int.toString) = some mc10 := (hK2.2 18 _ rfl).2
  have e18 : xc2_6 = mc10 := Option.some.inj (f0.symm.trans f18)
  have f19 : (q_s κ).vm.findClass ("[" ++ FieldType.int.toString) = some mc11 := (hK2.2 19 _ rfl).2
  have e19 : xc2_6 = mc11 := Option.some.inj (f0.symm.trans f19)
  subst e3
  subst e4
  subst e5
  subst e6
  subst e7
  subst e8
  subst e9
  subst e10
  subst e11
  subst e12
  subst e13
  subst e14
  subst e16
  subst e17
  subst e18
  subst e19
  have hK3 := hK2.sub (tys' := gty (fun k => match k with | 0 => mc7 | 1 => xc1_2 | 2 => xc2_6 | _ => xc1_6)) [15, 0, 2, 1] rfl
  refine g_eqs (ws' := gW (fun k => match k with | 0 => mc7 | 1 => xc1_2 | 2 => xc2_6 | _ => xc1_6) (fun k => match k with | 0 => xx | 1 => xr1 | 2 => xr1_2 | 3 => xr3 | 4 => xr5 | 5 => xr1_6 | 6 => xr2_6 | 7 => xr7 | 8 => xr1_8 | 9 => xr2_8 | 10 => xr9 | 11 => xr1_10 | 12 => xr2_10 | 13 => xr11 | 14 => xr1_12 | 15 => xr2_12 | 16 => xr13 | 17 => xr15 | 18 => mm | 19 => mr1 | 20 => mr2 | 21 => mr3 | 22 => mr4 | 23 => mr5 | 24 => mr6 | 25 => mr7 | 26 => mr8 | 27 => mr9 | 28 => mr10 | _ => mr11) st0) rfl ?_
  exact law_loop C hN4 hK3 hX hbl' hbA hL hret hstep 513 0 st0 0 (by omega) nI_0.symm (by omega) h00
