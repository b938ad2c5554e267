/-! further rows: Object's constructor, instanceof's answers, the two rows of the law -/
def isQ (q : Nat) : Prop := q = 18 ∨ q = 19
theorem hQ18 : isQ 18 := Or.inl rfl
theorem hQ19 : isQ 19 := Or.inr rfl
theorem hC3 : isC 3 := Or.inl rfl
theorem hC16 : isC 16 := Or.inr (Or.inl rfl)
theorem hC17 : isC 17 := Or.inr (Or.inr rfl)
theorem ga_q (cy : Nat → ClassId) (A : Nat → Nat) (σ : St) {q : Nat} (h : isQ q) : (gW cy A σ)[q]? = some (A q, .inl (cy 2, 32, .inl (σ.1 q))) := by
  rcases h with rfl | rfl <;> rfl
theorem gs_q (cy : Nat → ClassId) (A : Nat → Nat) (σ : St) (b : Nat) (v : Int32) {q : Nat} (h : isQ q) : (gW cy A σ).set q (A q, .inl (cy 2, 32, .inl (upd (σ.1 q) b v))) = gW cy A (sV σ q b v) := by
  rcases h with rfl | rfl <;> rfl
section GM
variable {κ : qC} {cc : ByteArray} {own : String} {Rm : Room} {k n : Nat} {ws : va_W} {pc : Nat} {lv : List (Nat × Value)} {st : List Value}
theorem g_objInit (C : Cx κ cc own gL Rm) {idx a : Nat} (hroom : 1 ≤ Rm.frames ∧ (st.map fun v => v.category).sum + 12 ≤ Rm.locals) (h1 : Cond.methodLink own idx objectInit ∈ gL) (h2 : Cond.instanceMethod objectInit ∈ gL) (h3 : Cond.code objectInit object_method_1_code 1 (none : Option FieldType) ∈ gL) (hdg : decode cc pc = .ok (.invokespecial idx, 3)) (h : GW κ k n ws (pc + 3) lv st) : GW κ k n ws pc lv (.ref a :: st) := by
  intro H locs hP hD hS ls hl
  obtain ⟨c1, c2, c3, c4, c5, c6, c7, c8, c9⟩ := C
  rw [← c9] at hroom
  refine W.objInit c1 c2 c4 (c5 _ h1) (c5 _ h2) (c5 _ h3) rfl (hl.1.trans c3.symm) rfl hdg hroom.1 (by show 2 * 0 + _ + 12 ≤ _; omega) ?_
  exact h H locs hP hD hS ls hl
end GM
def instR (nm : String) (ct : Nat) (v : Int32) (kd : Nat) (Cn : String) : Prop := (v = 1 ∧ (Cn = nm ∧ kd = ct ∨ (Cn, nm) ∈ nwC)) ∨ (v = 0 ∧ (Cn, nm) ∈ nwN)
section GI
variable {κ : qC} {cc : ByteArray} {own : String} {Rm : Room} {k n : Nat} {cy : Nat → ClassId} {A : Nat → Nat} {σ : St} {pc a idx : Nat} {lv : List (Nat × Value)} {st : List Value}
theorem g_instT (C : Cx κ cc own gL Rm) (hK : va_K (q_D κ) vwCl (gty cy) (q_s κ)) {ct : Nat} {nm : String} {T : u_T} (hct : vwCl[ct]? = some (nm, T, 3)) (hlk : Cond.classLink own idx nm ∈ gL) (hT : isT σ a) (v : Int32)
    (hv : (σ.2.2.2.2.1 a = 1 → instR nm ct v 1 RX1) ∧ (σ.2.2.2.2.1 a = 3 → instR nm ct v 3 RX3) ∧ (σ.2.2.2.2.1 a = 4 → instR nm ct v 4 RX4) ∧ (σ.2.2.2.2.1 a = 5 → instR nm ct v 5 RX5) ∧ (σ.2.2.2.2.1 a = 9 → instR nm ct v 9 RX9)) (hdg : decode cc pc = .ok (.instanceof idx, 3)) (h : GW κ k n (gW cy A σ) (pc + 3) lv (.int v :: st)) : GW κ k n (gW cy A σ) pc lv (.ref a :: st) := by
  intro H locs hP hD hS ls hl
  obtain ⟨c1, c2, c3, c4, c5, c6, c7, c8, c9⟩ := C
  obtain ⟨ha, hk⟩ := hT
  have key : ∀ kd Cn Tn, σ.2.2.2.2.1 a = kd → vwCl[kd]? = some (Cn, Tn, 3) → instR nm ct v kd Cn → W (q_p κ) (q_l κ) (q_e κ) (q_R κ) (q_s κ) (q_m κ) (q_a κ) (q_b κ) (q_M κ) (q_c κ) H locs k n (q_Q κ) (F0 (q_m κ) pc ls (.ref a :: st)) := by
    intro kd Cn Tn hkd hcl hR
    obtain ⟨q0, -, he⟩ := ga_T cy A σ ha hkd
    have hr := va_recv hK hP hcl he
    rcases hR with ⟨rfl, h1⟩ | ⟨rfl, h1⟩
    · rcases h1 with ⟨rfl, rfl⟩ | h1
      · exact va_instS c1 c2 c4 (c5 _ hlk) (hK.1 _ _ hct).2 hr hdg (h H locs hP hD hS ls hl)
      · exact va_instY c1 c2 c4 (c5 _ hlk) (c7.2.1 _ h1) hr hdg (h H locs hP hD hS ls hl)
    · exact va_instNo c1 c2 c4 (c5 _ hlk) (c7.2.2.1 _ h1) hr hdg (h H locs hP hD hS ls hl)
  rcases hk with hk | hk | hk | hk | hk
  · exact key 1 RX1 TX1 hk rfl (hv.1 hk)
  · exact key 3 RX3 TX3 hk rfl (hv.2.1 hk)
  · exact key 4 RX4 TX4 hk rfl (hv.2.2.1 hk)
  · exact key 5 RX5 TX5 hk rfl (hv.2.2.2.1 hk)
  · exact key 9 RX9 TX9 hk rfl (hv.2.2.2.2 hk)
end GI
theorem inst_1 (σ : St) (a : Nat) : (σ.2.2.2.2.1 a = 1 → instR RX1 1 (if σ.2.2.2.2.1 a = 1 then (1 : Int32) else 0) 1 RX1) ∧ (σ.2.2.2.2.1 a = 3 → instR RX1 1 (if σ.2.2.2.2.1 a = 1 then (1 : Int32) else 0) 3 RX3) ∧ (σ.2.2.2.2.1 a = 4 → instR RX1 1 (if σ.2.2.2.2.1 a = 1 then (1 : Int32) else 0) 4 RX4) ∧ (σ.2.2.2.2.1 a = 5 → instR RX1 1 (if σ.2.2.2.2.1 a = 1 then (1 : Int32) else 0) 5 RX5) ∧ (σ.2.2.2.2.1 a = 9 → instR RX1 1 (if σ.2.2.2.2.1 a = 1 then (1 : Int32) else 0) 9 RX9) := ⟨fun e => Or.inl ⟨by rw [e]; rfl, Or.inl ⟨rfl, rfl⟩⟩, fun e => Or.inr ⟨by rw [e]; rfl, by decide⟩, fun e => Or.inr ⟨by rw [e]; rfl, by decide⟩, fun e => Or.inr ⟨by rw [e]; rfl, by decide⟩, fun e => Or.inr ⟨by rw [e]; rfl, by decide⟩⟩
theorem inst_3 (σ : St) (a : Nat) : (σ.2.2.2.2.1 a = 1 → instR RX3 3 (if σ.2.2.2.2.1 a = 3 then (1 : Int32) else 0) 1 RX1) ∧ (σ.2.2.2.2.1 a = 3 → instR RX3 3 (if σ.2.2.2.2.1 a = 3 then (1 : Int32) else 0) 3 RX3) ∧ (σ.2.2.2.2.1 a = 4 → instR RX3 3 (if σ.2.2.2.2.1 a = 3 then (1 : Int32) else 0) 4 RX4) ∧ (σ.2.2.2.2.1 a = 5 → instR RX3 3 (if σ.2.2.2.2.1 a = 3 then (1 : Int32) else 0) 5 RX5) ∧ (σ.2.2.2.2.1 a = 9 → instR RX3 3 (if σ.2.2.2.2.1 a = 3 then (1 : Int32) else 0) 9 RX9) := ⟨fun e => Or.inr ⟨by rw [e]; rfl, by decide⟩, fun e => Or.inl ⟨by rw [e]; rfl, Or.inl ⟨rfl, rfl⟩⟩, fun e => Or.inr ⟨by rw [e]; rfl, by decide⟩, fun e => Or.inr ⟨by rw [e]; rfl, by decide⟩, fun e => Or.inr ⟨by rw [e]; rfl, by decide⟩⟩
theorem inst_5 (σ : St) (a : Nat) : (σ.2.2.2.2.1 a = 1 → instR RX5 5 (if σ.2.2.2.2.1 a = 5 ∨ σ.2.2.2.2.1 a = 4 then (1 : Int32) else 0) 1 RX1) ∧ (σ.2.2.2.2.1 a = 3 → instR RX5 5 (if σ.2.2.2.2.1 a = 5 ∨ σ.2.2.2.2.1 a = 4 then (1 : Int32) else 0) 3 RX3) ∧ (σ.2.2.2.2.1 a = 4 → instR RX5 5 (if σ.2.2.2.2.1 a = 5 ∨ σ.2.2.2.2.1 a = 4 then (1 : Int32) else 0) 4 RX4) ∧ (σ.2.2.2.2.1 a = 5 → instR RX5 5 (if σ.2.2.2.2.1 a = 5 ∨ σ.2.2.2.2.1 a = 4 then (1 : Int32) else 0) 5 RX5) ∧ (σ.2.2.2.2.1 a = 9 → instR RX5 5 (if σ.2.2.2.2.1 a = 5 ∨ σ.2.2.2.2.1 a = 4 then (1 : Int32) else 0) 9 RX9) := ⟨fun e => Or.inr ⟨by rw [e]; rfl, by decide⟩, fun e => Or.inr ⟨by rw [e]; rfl, by decide⟩, fun e => Or.inl ⟨by rw [e]; rfl, Or.inr (by decide)⟩, fun e => Or.inl ⟨by rw [e]; rfl, Or.inl ⟨rfl, rfl⟩⟩, fun e => Or.inr ⟨by rw [e]; rfl, by decide⟩⟩
theorem inst_4 (σ : St) (a : Nat) : (σ.2.2.2.2.1 a = 1 → instR RX4 4 (if σ.2.2.2.2.1 a = 4 then (1 : Int32) else 0) 1 RX1) ∧ (σ.2.2.2.2.1 a = 3 → instR RX4 4 (if σ.2.2.2.2.1 a = 4 then (1 : Int32) else 0) 3 RX3) ∧ (σ.2.2.2.2.1 a = 4 → instR RX4 4 (if σ.2.2.2.2.1 a = 4 then (1 : Int32) else 0) 4 RX4) ∧ (σ.2.2.2.2.1 a = 5 → instR RX4 4 (if σ.2.2.2.2.1 a = 4 then (1 : Int32) else 0) 5 RX5) ∧ (σ.2.2.2.2.1 a = 9 → instR RX4 4 (if σ.2.2.2.2.1 a = 4 then (1 : Int32) else 0) 9 RX9) := ⟨fun e => Or.inr ⟨by rw [e]; rfl, by decide⟩, fun e => Or.inr ⟨by rw [e]; rfl, by decide⟩, fun e => Or.inl ⟨by rw [e]; rfl, Or.inl ⟨rfl, rfl⟩⟩, fun e => Or.inr ⟨by rw [e]; rfl, by decide⟩, fun e => Or.inr ⟨by rw [e]; rfl, by decide⟩⟩
