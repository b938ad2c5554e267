/-! THE LAW: its loop over the calls, from the two objects on -/
section GLaw
variable {κ : qC} {cc : ByteArray} {own : String} {Rm : Room} {k n : Nat} {ws : va_W} {pc : Nat} {lv : List (Nat × Value)} {st : List Value} {b L : Nat} {xs : Nat → Int32}
theorem g_sld (C : Cx κ cc own gL Rm) (hX : va_X b L xs (q_s κ) (q_s κ).heap) (hbl : b < (q_s κ).heap.size) (hbA : ¬ q_A κ b) {i : Int32} (hin : vp_in i L) (hdg : decode cc pc = .ok (.iaload, 1)) (h : GW κ k n ws (pc + 1) lv (.int (xs i.toNatClampNeg) :: st)) : GW κ k n ws pc lv (.int i :: .ref b :: st) := fun H locs hP hD hS ls hl => va_sld C.1 C.2.1 hX hbl hbA hS hin hdg (h H locs hP hD hS ls hl)
theorem g_slen (C : Cx κ cc own gL Rm) (hX : va_X b L xs (q_s κ) (q_s κ).heap) (hbl : b < (q_s κ).heap.size) (hbA : ¬ q_A κ b) (hdg : decode cc pc = .ok (.arraylength, 1)) (h : GW κ k n ws (pc + 1) lv (.int (nI L) :: st)) : GW κ k n ws pc lv (.ref b :: st) := fun H locs hP hD hS ls hl => va_slen C.1 C.2.1 hX hbl hbA hS hdg (h H locs hP hD hS ls hl)
end GLaw
theorem lg_cmp_self (x : Int64) : lg_cmp x x = 0 := by
  unfold lg_cmp
  rw [if_neg (by simp), if_pos rfl]
def wL_0 (σ : St) (a1 a2 a3 : Int32) (Ψ : St → Prop) : Prop := wX11_letters σ ((a1.toInt64 <<< ((32 : Int32).toInt64 &&& 63)) ||| (a2.toInt64 &&& (4294967295 : Int64))) (fun r1 σ1 => wX12_letters σ1 ((a1.toInt64 <<< ((32 : Int32).toInt64 &&& 63)) ||| (a2.toInt64 &&& (4294967295 : Int64))) (fun r2 σ2 => (if r1 = r2 then Ψ σ2 else False)))
def wL_1 (σ : St) (a1 a2 a3 : Int32) (Ψ : St → Prop) : Prop := wX11_blank σ (fun r1 σ1 => wX12_blank σ1 (fun r2 σ2 => (if r1 = r2 then Ψ σ2 else False)))
def wL_2 (σ : St) (a1 a2 a3 : Int32) (Ψ : St → Prop) : Prop := wX11_fault σ (fun r1 σ1 => wX12_fault σ1 (fun r2 σ2 => (if r1 = r2 then Ψ σ2 else False)))
def wL_3 (σ : St) (a1 a2 a3 : Int32) (Ψ : St → Prop) : Prop := wX11_wire σ (fun r1 σ1 => wX12_wire σ1 (fun r2 σ2 => (if r1 = r2 then Ψ σ2 else False)))
def wL_4 (σ : St) (a1 a2 a3 : Int32) (Ψ : St → Prop) : Prop := wX11_cabin σ a1 a2 (fun r1 σ1 => wX12_cabin σ1 a1 a2 (fun r2 σ2 => (if r1 = r2 then Ψ σ2 else False)))
def wL_5 (σ : St) (a1 a2 a3 : Int32) (Ψ : St → Prop) : Prop := wX11_thing σ a1 a2 a3 (fun r1 σ1 => wX12_thing σ1 a1 a2 a3 (fun r2 σ2 => (if r1 = r2 then Ψ σ2 else False)))
def wL_6 (σ : St) (a1 a2 a3 : Int32) (Ψ : St → Prop) : Prop := wX11_about σ a1 a2 (fun r1 σ1 => wX12_about σ1 a1 a2 (fun r2 σ2 => (if r1 = r2 then Ψ σ2 else False)))
def wL_7 (σ : St) (a1 a2 a3 : Int32) (Ψ : St → Prop) : Prop := wX11_as σ a1 a2 (fun r1 σ1 => wX12_as σ1 a1 a2 (fun r2 σ2 => (if r1 = r2 then Ψ σ2 else False)))
def wL_8 (σ : St) (a1 a2 a3 : Int32) (Ψ : St → Prop) : Prop := wX11_carry σ a1 (fun r1 σ1 => wX12_carry σ1 a1 (fun r2 σ2 => (if r1 = r2 then Ψ σ2 else False)))
def wL_9 (σ : St) (a1 a2 a3 : Int32) (Ψ : St → Prop) : Prop := wX11_hour σ a1 (fun r1 σ1 => wX12_hour σ1 a1 (fun r2 σ2 => (if r1 = r2 then Ψ σ2 else False)))
def wL_10 (σ : St) (a1 a2 a3 : Int32) (Ψ : St → Prop) : Prop := wX11_even σ a1 (fun r1 σ1 => wX12_even σ1 a1 (fun r2 σ2 => (if r1 = r2 then Ψ σ2 else False)))
def wL_11 (σ : St) (a1 a2 a3 : Int32) (Ψ : St → Prop) : Prop := wX11_soonest σ a1 a2 (fun r1 σ1 => wX12_soonest σ1 a1 a2 (fun r2 σ2 => (if r1 = r2 then Ψ σ2 else False)))
def wL_12 (σ : St) (a1 a2 a3 : Int32) (Ψ : St → Prop) : Prop := wX11_caught σ a1 (fun r1 σ1 => wX12_caught σ1 a1 (fun r2 σ2 => (if r1 = r2 then Ψ σ2 else False)))
def wL_13 (σ : St) (a1 a2 a3 : Int32) (Ψ : St → Prop) : Prop := wX11_weighed σ a1 a2 (fun r1 σ1 => wX12_weighed σ1 a1 a2 (fun r2 σ2 => (if r1 = r2 then Ψ σ2 else False)))
def wL_14 (σ : St) (a1 a2 a3 : Int32) (Ψ : St → Prop) : Prop := wX11_forget σ (fun r1 σ1 => wX12_forget σ1 (fun r2 σ2 => (if r1 = r2 then Ψ σ2 else False)))
def wL_15 (σ : St) (a1 a2 a3 : Int32) (Ψ : St → Prop) : Prop := wX11_fits σ a1 (fun r1 σ1 => wX12_fits σ1 a1 (fun r2 σ2 => (if r1 = r2 then Ψ σ2 else False)))
def wL_16 (σ : St) (a1 a2 a3 : Int32) (Ψ : St → Prop) : Prop := wX11_lasts σ a1 a2 (fun r1 σ1 => wX12_lasts σ1 a1 a2 (fun r2 σ2 => (if (lg_cmp r1 r2) = 0 then Ψ σ2 else False)))
def wL_17 (σ : St) (a1 a2 a3 : Int32) (Ψ : St → Prop) : Prop := wX11_whirls σ a1 a2 a3 (fun r1 σ1 => wX12_whirls σ1 a1 a2 a3 (fun r2 σ2 => (if r1 = r2 then Ψ σ2 else False)))
def wL_18 (σ : St) (a1 a2 a3 : Int32) (Ψ : St → Prop) : Prop := wX11_image σ (fun r1 σ1 => wX12_image σ1 (fun r2 σ2 => (if r1 = r2 then Ψ σ2 else False)))
def wL_19 (σ : St) (a1 a2 a3 : Int32) (Ψ : St → Prop) : Prop := wX11_restore σ (fun r1 σ1 => wX12_restore σ1 (fun r2 σ2 => (if r1 = r2 then Ψ σ2 else False)))
def wL_20 (σ : St) (a1 a2 a3 : Int32) (Ψ : St → Prop) : Prop := wX11_count σ a1 (fun r1 σ1 => wX12_count σ1 a1 (fun r2 σ2 => (if r1 = r2 then Ψ σ2 else False)))
def wL_21 (σ : St) (a1 a2 a3 : Int32) (Ψ : St → Prop) : Prop := wX11_digest σ (fun r1 σ1 => wX12_digest σ1 (fun r2 σ2 => (if (lg_cmp r1 r2) = 0 then Ψ σ2 else False)))
def wLaw (σ : St) (c a1 a2 a3 : Int32) (Ψ : St → Prop) : Prop := ((c &&& 31) = 0 → wL_0 σ a1 a2 a3 Ψ) ∧ ((c &&& 31) = 1 → wL_1 σ a1 a2 a3 Ψ) ∧ ((c &&& 31) = 2 → wL_2 σ a1 a2 a3 Ψ) ∧ ((c &&& 31) = 3 → wL_3 σ a1 a2 a3 Ψ) ∧ ((c &&& 31) = 4 → wL_4 σ a1 a2 a3 Ψ) ∧ ((c &&& 31) = 5 → wL_5 σ a1 a2 a3 Ψ) ∧ ((c &&& 31) = 6 → wL_6 σ a1 a2 a3 Ψ) ∧ ((c &&& 31) = 7 → wL_7 σ a1 a2 a3 Ψ) ∧ ((c &&& 31) = 8 → wL_8 σ a1 a2 a3 Ψ) ∧ ((c &&& 31) = 9 → wL_9 σ a1 a2 a3 Ψ) ∧ ((c &&& 31) = 10 → wL_10 σ a1 a2 a3 Ψ) ∧ ((c &&& 31) = 11 → wL_11 σ a1 a2 a3 Ψ) ∧ ((c &&& 31) = 12 → wL_12 σ a1 a2 a3 Ψ) ∧ ((c &&& 31) = 13 → wL_13 σ a1 a2 a3 Ψ) ∧ ((c &&& 31) = 14 → wL_14 σ a1 a2 a3 Ψ) ∧ ((c &&& 31) = 15 → wL_15 σ a1 a2 a3 Ψ) ∧ ((c &&& 31) = 16 → wL_16 σ a1 a2 a3 Ψ) ∧ ((c &&& 31) = 17 → wL_17 σ a1 a2 a3 Ψ) ∧ ((c &&& 31) = 18 → wL_18 σ a1 a2 a3 Ψ) ∧ ((c &&& 31) = 19 → wL_19 σ a1 a2 a3 Ψ) ∧ ((c &&& 31) = 20 → wL_20 σ a1 a2 a3 Ψ) ∧ ((c &&& 31) = 21 → wL_21 σ a1 a2 a3 Ψ) ∧ (((c &&& 31).toInt < 0 ∨ 21 < (c &&& 31).toInt) → Ψ σ)
set_option maxHeartbeats 4000000 in
set_option maxRecDepth 100000 in
theorem law_0 {κ : qC} (C : Cx κ code RL gL room_1) {cy : Nat → ClassId} (hK : va_K (q_D κ) vwCl (gty cy) (q_s κ)) {A : Nat → Nat} {b L : Nat} {xs : Nat → Int32} (hX : va_X b L xs (q_s κ) (q_s κ).heap) (hbl : b < (q_s κ).heap.size) (hbA : ¬ q_A κ b) {k n : Nat} (hk : k + 1 ≤ 600000) (hn : n + 3 ≤ 7302250) {v3 : Int32} (h1 : vp_in (v3 + 1) L) (h2 : vp_in (v3 + 2) L) (h3 : vp_in (v3 + 3) L) {σ : St} {Ψ : St → Prop} (hw : wL_0 σ (xs (v3 + 1).toNatClampNeg) (xs (v3 + 2).toNatClampNeg) (xs (v3 + 3).toNatClampNeg) Ψ) (hnext : ∀ σ', Ψ σ' → GW κ (k + 1) (n + 3) (gW cy A σ') 704 [(0, .ref b), (1, .ref (A 0)), (2, .ref (A 18)), (3, .int v3)] []) : GW κ k n (gW cy A σ) 136 [(0, .ref b), (1, .ref (A 0)), (2, .ref (A 18)), (3, .int v3)] [] := by
  unfold wL_0 at hw
  refine g_aload_n C 1 rfl rfl dL_law_136 ?_
  refine g_aload_n C 0 rfl rfl dL_law_137 ?_
  refine g_iload_n C 3 rfl rfl dL_law_138 ?_
  refine g_iconst (v := (1 : Int32)) C dL_law_139 (by decide) ?_
  refine g_iadd C dL_law_140 ?_
  refine g_sld C hX hbl hbA h1 dL_law_141 ?_
  refine g_i2l C dL_law_142 ?_
  refine g_bipush (v := (32 : Int32)) C dL_law_143 (by decide) ?_
  refine g_lshl C dL_law_145 ?_
  refine g_aload_n C 0 rfl rfl dL_law_146 ?_
  refine g_iload_n C 3 rfl rfl dL_law_147 ?_
  refine g_iconst (v := (2 : Int32)) C dL_law_148 (by decide) ?_
  refine g_iadd C dL_law_149 ?_
  refine g_sld C hX hbl hbA h2 dL_law_150 ?_
  refine g_i2l C dL_law_151 ?_
  refine g_ldc2 (v := (4294967295 : Int64)) C dL_law_152 wt_830 ?_
  refine g_land C dL_law_155 ?_
  refine g_lor C dL_law_156 ?_
  refine gc_I (mc := 0) (ms := 0) C (gr_V (mc := 0) (ms := 0) (As := [.long (((xs (v3 + 1).toNatClampNeg).toInt64 <<< ((32 : Int32).toInt64 &&& 63)) ||| ((xs (v3 + 2).toNatClampNeg).toInt64 &&& (4294967295 : Int64)))]) (rest := []) C hK 1 (gd_V wt_113 wt_114 wt_115 wt_1 wt_116) rfl rfl rfl ⟨rfl, hs_X11_letters⟩ ⟨⟨Nat.le_of_ble_eq_true rfl, Nat.le_of_ble_eq_true rfl⟩, (by show _ ≤ 600000; omega), (by show _ ≤ 7302250; omega)⟩ rfl 0 (ga_0 cy A _) rfl rfl (Nat.le_of_ble_eq_true rfl) dL_law_157 (c_X11_letters (q_l κ) (q_D κ) cy A hw)) (fun r1 σ1 hw => ?_)
  refine g_aload_n C 2 rfl rfl dL_law_160 ?_
  refine g_aload_n C 0 rfl rfl dL_law_161 ?_
  refine g_iload_n C 3 rfl rfl dL_law_162 ?_
  refine g_iconst (v := (1 : Int32)) C dL_law_163 (by decide) ?_
  refine g_iadd C dL_law_164 ?_
  refine g_sld C hX hbl hbA h1 dL_law_165 ?_
  refine g_i2l C dL_law_166 ?_
  refine g_bipush (v := (32 : Int32)) C dL_law_167 (by decide) ?_
  refine g_lshl C dL_law_169 ?_
  refine g_aload_n C 0 rfl rfl dL_law_170 ?_
  refine g_iload_n C 3 rfl rfl dL_law_171 ?_
  refine g_iconst (v := (2 : Int32)) C dL_law_172 (by decide) ?_
  refine g_iadd C dL_law_173 ?_
  refine g_sld C hX hbl hbA h2 dL_law_174 ?_
  refine g_i2l C dL_law_175 ?_
  refine g_ldc2 (v := (4294967295 : Int64)) C dL_law_176 wt_830 ?_
  refine g_land C dL_law_179 ?_
  refine g_lor C dL_law_180 ?_
  refine gc_I (mc := 0) (ms := 0) C (gr_V (mc := 0) (ms := 0) (As := [.long (((xs (v3 + 1).toNatClampNeg).toInt64 <<< ((32 : Int32).toInt64 &&& 63)) ||| ((xs (v3 + 2).toNatClampNeg).toInt64 &&& (4294967295 : Int64)))]) (rest := [.int r1]) C hK 1 (gd_V wt_626 wt_627 wt_628 wt_8 wt_629) rfl rfl rfl ⟨rfl, hs_X12_letters⟩ ⟨⟨Nat.le_of_ble_eq_true rfl, Nat.le_of_ble_eq_true rfl⟩, (by show _ ≤ 600000; omega), (by show _ ≤ 7302250; omega)⟩ rfl 18 (ga_18 cy A _) rfl rfl (Nat.le_of_ble_eq_true rfl) dL_law_181 (c_X12_letters (q_l κ) (q_D κ) cy A hw)) (fun r2 σ2 hw => ?_)
  exact g_icmp_eq C 704 (by decide) hw dL_law_184 (fun hw => g_widen (by omega) (by omega) (hnext _ hw)) (fun hw => hw.elim)
set_option maxHeartbeats 4000000 in
set_option maxRecDepth 100000 in
theorem law_1 {κ : qC} (C : Cx κ code RL gL room_1) {cy : Nat → ClassId} (hK : va_K (q_D κ) vwCl (gty cy) (q_s κ)) {A : Nat → Nat} {b L : Nat} {xs : Nat → Int32} (hX : va_X b L xs (q_s κ) (q_s κ).heap) (hbl : b < (q_s κ).heap.size) (hbA : ¬ q_A κ b) {k n : Nat} (hk : k + 1 ≤ 600000) (hn : n + 3 ≤ 7302250) {v3 : Int32} (h1 : vp_in (v3 + 1) L) (h2 : vp_in (v3 + 2) L) (h3 : vp_in (v3 + 3) L) {σ : St} {Ψ : St → Prop} (hw : wL_1 σ (xs (v3 + 1).toNatClampNeg) (xs (v3 + 2).toNatClampNeg) (xs (v3 + 3).toNatClampNeg) Ψ) (hnext : ∀ σ', Ψ σ' → GW κ (k + 1) (n + 3) (gW cy A σ') 704 [(0, .ref b), (1, .ref (A 0)), (2, .ref (A 18)), (3, .int v3)] []) : GW κ k n (gW cy A σ) 189 [(0, .ref b), (1, .ref (A 0)), (2, .ref (A 18)), (3, .int v3)] [] := by
  unfold wL_1 at hw
  refine g_aload_n C 1 rfl rfl dL_law_189 ?_
  refine gc_I (mc := 0) (ms := 0) C (gr_V (mc := 0) (ms := 0) (As := []) (rest := []) C hK 0 (gd_V wt_131 wt_132 wt_133 wt_1 wt_134) rfl rfl rfl ⟨rfl, hs_X11_blank⟩ ⟨⟨Nat.le_of_ble_eq_true rfl, Nat.le_of_ble_eq_true rfl⟩, (by show _ ≤ 600000; omega), (by show _ ≤ 7302250; omega)⟩ rfl 0 (ga_0 cy A _) rfl rfl (Nat.le_of_ble_eq_true rfl) dL_law_190 (c_X11_blank (q_l κ) (q_D κ) cy A hw)) (fun r1 σ1 hw => ?_)
  refine g_aload_n C 2 rfl rfl dL_law_193 ?_
  refine gc_I (mc := 0) (ms := 0) C (gr_V (mc := 0) (ms := 0) (As := []) (rest := [.int r1]) C hK 0 (gd_V wt_631 wt_632 wt_633 wt_8 wt_634) rfl rfl rfl ⟨rfl, hs_X12_blank⟩ ⟨⟨Nat.le_of_ble_eq_true rfl, Nat.le_of_ble_eq_true rfl⟩, (by show _ ≤ 600000; omega), (by show _ ≤ 7302250; omega)⟩ rfl 18 (ga_18 cy A _) rfl rfl (Nat.le_of_ble_eq_true rfl) dL_law_194 (c_X12_blank (q_l κ) (q_D κ) cy A hw)) (fun r2 σ2 hw => ?_)
  exact g_icmp_eq C 704 (by decide) hw dL_law_197 (fun hw => g_widen (by omega) (by omega) (hnext _ hw)) (fun hw => hw.elim)
set_option maxHeartbeats 4000000 in
set_option maxRecDepth 100000 in
theorem law_2 {κ : qC} (C : Cx κ code RL gL room_1) {cy : Nat → ClassId} (hK : va_K (q_D κ) vwCl (gty cy) (q_s κ)) {A : Nat → Nat} {b L : Nat} {xs : Nat → Int32} (hX : va_X b L xs (q_s κ) (q_s κ).heap) (hbl : b < (q_s κ).heap.size) (hbA : ¬ q_A κ b) {k n : Nat} (hk : k + 1 ≤ 600000) (hn : n + 3 ≤ 7302250) {v3 : Int32} (h1 : vp_in (v3 + 1) L) (h2 : vp_in (v3 + 2) L) (h3 : vp_in (v3 + 3) L) {σ : St} {Ψ : St → Prop} (hw : wL_2 σ (xs (v3 + 1).toNatClampNeg) (xs (v3 + 2).toNatClampNeg) (xs (v3 + 3).toNatClampNeg) Ψ) (hnext : ∀ σ', Ψ σ' → GW κ (k + 1) (n + 3) (gW cy A σ') 704 [(0, .ref b), (1, .ref (A 0)), (2, .ref (A 18)), (3, .int v3)] []) : GW κ k n (gW cy A σ) 202 [(0, .ref b), (1, .ref (A 0)), (2, .ref (A 18)), (3, .int v3)] [] := by
  unfold wL_2 at hw
  refine g_aload_n C 1 rfl rfl dL_law_202 ?_
  refine gc_I (mc := 0) (ms := 0) C (gr_V (mc := 0) (ms := 0) (As := []) (rest := []) C hK 0 (gd_V wt_139 wt_140 wt_141 wt_1 wt_142) rfl rfl rfl ⟨rfl, hs_X11_fault⟩ ⟨⟨Nat.le_of_ble_eq_true rfl, Nat.le_of_ble_eq_true rfl⟩, (by show _ ≤ 600000; omega), (by show _ ≤ 7302250; omega)⟩ rfl 0 (ga_0 cy A _) rfl rfl (Nat.le_of_ble_eq_true rfl) dL_law_203 (c_X11_fault (q_l κ) (q_D κ) cy A hw)) (fun r1 σ1 hw => ?_)
  refine g_aload_n C 2 rfl rfl dL_law_206 ?_
  refine gc_I (mc := 0) (ms := 0) C (gr_V (mc := 0) (ms := 0) (As := []) (rest := [.int r1]) C hK 0 (gd_V wt_635 wt_636 wt_637 wt_8 wt_638) rfl rfl rfl ⟨rfl, hs_X12_fault⟩ ⟨⟨Nat.le_of_ble_eq_true rfl, Nat.le_of_ble_eq_true rfl⟩, (by show _ ≤ 600000; omega), (by show _ ≤ 7302250; omega)⟩ rfl 18 (ga_18 cy A _) rfl rfl (Nat.le_of_ble_eq_true rfl) dL_law_207 (c_X12_fault (q_l κ) (q_D κ) cy A hw)) (fun r2 σ2 hw => ?_)
  exact g_icmp_eq C 704 (by decide) hw dL_law_210 (fun hw => g_widen (by omega) (by omega) (hnext _ hw)) (fun hw => hw.elim)
set_option maxHeartbeats 4000000 in
set_option maxRecDepth 100000 in
theorem law_3 {κ : qC} (C : Cx κ code RL gL room_1) {cy : Nat → ClassId} (hK : va_K (q_D κ) vwCl (gty cy) (q_s κ)) {A : Nat → Nat} {b L : Nat} {xs : Nat → Int32} (hX : va_X b L xs (q_s κ) (q_s κ).heap) (hbl : b < (q_s κ).heap.size) (hbA : ¬ q_A κ b) {k n : Nat} (hk : k + 1 ≤ 600000) (hn : n + 3 ≤ 7302250) {v3 : Int32} (h1 : vp_in (v3 + 1) L) (h2 : vp_in (v3 + 2) L) (h3 : vp_in (v3 + 3) L) {σ : St} {Ψ : St → Prop} (hw : wL_3 σ (xs (v3 + 1).toNatClampNeg) (xs (v3 + 2).toNatClampNeg) (xs (v3 + 3).toNatClampNeg) Ψ) (hnext : ∀ σ', Ψ σ' → GW κ (k + 1) (n + 3) (gW cy A σ') 704 [(0, .ref b), (1, .ref (A 0)), (2, .ref (A 18)), (3, .int v3)] []) : GW κ k n (gW cy A σ) 215 [(0, .ref b), (1, .ref (A 0)), (2, .ref (A 18)), (3, .int v3)] [] := by
  unfold wL_3 at hw
  refine g_aload_n C 1 rfl rfl dL_law_215 ?_
  refine gc_I (mc := 0) (ms := 0) C (gr_V (mc := 0) (ms := 0) (As := []) (rest := []) C hK 0 (gd_V wt_157 wt_158 wt_159 wt_1 wt_160) rfl rfl rfl ⟨rfl, hs_X11_wire⟩ ⟨⟨Nat.le_of_ble_eq_true rfl, Nat.le_of_ble_eq_true rfl⟩, (by show _ ≤ 600000; omega), (by show _ ≤ 7302250; omega)⟩ rfl 0 (ga_0 cy A _) rfl rfl (Nat.le_of_ble_eq_true rfl) dL_law_216 (c_X11_wire (q_l κ) (q_D κ) cy A hw)) (fun r1 σ1 hw => ?_)
  refine g_aload_n C 2 rfl rfl dL_law_219 ?_
  refine gc_I (mc := 0) (ms := 0) C (gr_V (mc := 0) (ms := 0) (As := []) (rest := [.int r1]) C hK 0 (gd_V wt_648 wt_649 wt_650 wt_8 wt_651) rfl rfl rfl ⟨rfl, hs_X12_wire⟩ ⟨⟨Nat.le_of_ble_eq_true rfl, Nat.le_of_ble_eq_true rfl⟩, (by show _ ≤ 600000; omega), (by show _ ≤ 7302250; omega)⟩ rfl 18 (ga_18 cy A _) rfl rfl (Nat.le_of_ble_eq_true rfl) dL_law_220 (c_X12_wire (q_l κ) (q_D κ) cy A hw)) (fun r2 σ2 hw => ?_)
  exact g_icmp_eq C 704 (by decide) hw dL_law_223 (fun hw => g_widen (by omega) (by omega) (hnext _ hw)) (fun hw => hw.elim)
set_option maxHeartbeats 4000000 in
set_option maxRecDepth 100000 in
theorem law_4 {κ : qC} (C : Cx κ code RL gL room_1) {cy : Nat → ClassId} (hK : va_K (q_D κ) vwCl (gty cy) (q_s κ)) {A : Nat → Nat} {b L : Nat} {xs : Nat → Int32} (hX : va_X b L xs (q_s κ) (q_s κ).heap) (hbl : b < (q_s κ).heap.size) (hbA : ¬ q_A κ b) {k n : Nat} (hk : k + 1 ≤ 600000) (hn : n + 3 ≤ 7302250) {v3 : Int32} (h1 : vp_in (v3 + 1) L) (h2 : vp_in (v3 + 2) L) (h3 : vp_in (v3 + 3) L) {σ : St} {Ψ : St → Prop} (hw : wL_4 σ (xs (v3 + 1).toNatClampNeg) (xs (v3 + 2).toNatClampNeg) (xs (v3 + 3).toNatClampNeg) Ψ) (hnext : ∀ σ', Ψ σ' → GW κ (k + 1) (n + 3) (gW cy A σ') 704 [(0, .ref b), (1, .ref (A 0)), (2, .ref (A 18)), (3, .int v3)] []) : GW κ k n (gW cy A σ) 228 [(0, .ref b), (1, .ref (A 0)), (2, .ref (A 18)), (3, .int v3)] [] := by
  unfold wL_4 at hw
  refine g_aload_n C 1 rfl rfl dL_law_228 ?_
  refine g_aload_n C 0 rfl rfl dL_law_229 ?_
  refine g_iload_n C 3 rfl rfl dL_law_230 ?_
  refine g_iconst (v := (1 : Int32)) C dL_law_231 (by decide) ?_
  refine g_iadd C dL_law_232 ?_
  refine g_sld C hX hbl hbA h1 dL_law_233 ?_
  refine g_aload_n C 0 rfl rfl dL_law_234 ?_
  refine g_iload_n C 3 rfl rfl dL_law_235 ?_
  refine g_iconst (v := (2 : Int32)) C dL_law_236 (by decide) ?_
  refine g_iadd C dL_law_237 ?_
  refine g_sld C hX hbl hbA h2 dL_law_238 ?_
  refine gc_I (mc := 0) (ms := 0) C (gr_V (mc := 0) (ms := 0) (As := [.int (xs (v3 + 1).toNatClampNeg), .int (xs (v3 + 2).toNatClampNeg)]) (rest := []) C hK 2 (gd_V wt_185 wt_186 wt_187 wt_1 wt_188) rfl rfl rfl ⟨rfl, hs_X11_cabin⟩ ⟨⟨Nat.le_of_ble_eq_true rfl, Nat.le_of_ble_eq_true rfl⟩, (by show _ ≤ 600000; omega), (by show _ ≤ 7302250; omega)⟩ rfl 0 (ga_0 cy A _) rfl rfl (Nat.le_of_ble_eq_true rfl) dL_law_239 (c_X11_cabin (q_l κ) (q_D κ) cy A hw)) (fun r1 σ1 hw => ?_)
  refine g_aload_n C 2 rfl rfl dL_law_242 ?_
  refine g_aload_n C 0 rfl rfl dL_law_243 ?_
  refine g_iload_n C 3 rfl rfl dL_law_244 ?_
  refine g_iconst (v := (1 : Int32)) C dL_law_245 (by decide) ?_
  refine g_iadd C dL_law_246 ?_
  refine g_sld C hX hbl hbA h1 dL_law_247 ?_
  refine g_aload_n C 0 rfl rfl dL_law_248 ?_
  refine g_iload_n C 3 rfl rfl dL_law_249 ?_
  refine g_iconst (v := (2 : Int32)) C dL_law_250 (by decide) ?_
  refine g_iadd C dL_law_251 ?_
  refine g_sld C hX hbl hbA h2 dL_law_252 ?_
  refine gc_I (mc := 0) (ms := 0) C (gr_V (mc := 0) (ms := 0) (As := [.int (xs (v3 + 1).toNatClampNeg), .int (xs (v3 + 2).toNatClampNeg)]) (rest := [.int r1]) C hK 2 (gd_V wt_652 wt_653 wt_654 wt_8 wt_655) rfl rfl rfl ⟨rfl, hs_X12_cabin⟩ ⟨⟨Nat.le_of_ble_eq_true rfl, Nat.le_of_ble_eq_true rfl⟩, (by show _ ≤ 600000; omega), (by show _ ≤ 7302250; omega)⟩ rfl 18 (ga_18 cy A _) rfl rfl (Nat.le_of_ble_eq_true rfl) dL_law_253 (c_X12_cabin (q_l κ) (q_D κ) cy A hw)) (fun r2 σ2 hw => ?_)
  exact g_icmp_eq C 704 (by decide) hw dL_law_256 (fun hw => g_widen (by omega) (by omega) (hnext _ hw)) (fun hw => hw.elim)
set_option maxHeartbeats 4000000 in
set_option maxRecDepth 100000 in
theorem law_5 {κ : qC} (C : Cx κ code RL gL room_1) {cy : Nat → ClassId} (hK : va_K (q_D κ) vwCl (gty cy) (q_s κ)) {A : Nat → Nat} {b L : Nat} {xs : Nat → Int32} (hX : va_X b L xs (q_s κ) (q_s κ).heap) (hbl : b < (q_s κ).heap.size) (hbA : ¬ q_A κ b) {k n : Nat} (hk : k + 1 ≤ 600000) (hn : n + 3 ≤ 7302250) {v3 : Int32} (h1 : vp_in (v3 + 1) L) (h2 : vp_in (v3 + 2) L) (h3 : vp_in (v3 + 3) L) {σ : St} {Ψ : St → Prop} (hw : wL_5 σ (xs (v3 + 1).toNatClampNeg) (xs (v3 + 2).toNatClampNeg) (xs (v3 + 3).toNatClampNeg) Ψ) (hnext : ∀ σ', Ψ σ' → GW κ (k + 1) (n + 3) (gW cy A σ') 704 [(0, .ref b), (1, .ref (A 0)), (2, .ref (A 18)), (3, .int v3)] []) : GW κ k n (gW cy A σ) 261 [(0, .ref b), (1, .ref (A 0)), (2, .ref (A 18)), (3, .int v3)] [] := by
  unfold wL_5 at hw
  refine g_aload_n C 1 rfl rfl dL_law_261 ?_
  refine g_aload_n C 0 rfl rfl dL_law_262 ?_
  refine g_iload_n C 3 rfl rfl dL_law_263 ?_
  refine g_iconst (v := (1 : Int32)) C dL_law_264 (by decide) ?_
  refine g_iadd C dL_law_265 ?_
  refine g_sld C hX hbl hbA h1 dL_law_266 ?_
  refine g_aload_n C 0 rfl rfl dL_law_267 ?_
  refine g_iload_n C 3 rfl rfl dL_law_268 ?_
  refine g_iconst (v := (2 : Int32)) C dL_law_269 (by decide) ?_
  refine g_iadd C dL_law_270 ?_
  refine g_sld C hX hbl hbA h2 dL_law_271 ?_
  refine g_aload_n C 0 rfl rfl dL_law_272 ?_
  refine g_iload_n C 3 rfl rfl dL_law_273 ?_
  refine g_iconst (v := (3 : Int32)) C dL_law_274 (by decide) ?_
  refine g_iadd C dL_law_275 ?_
  refine g_sld C hX hbl hbA h3 dL_law_276 ?_
  refine gc_I (mc := 1) (ms := 3) C (gr_V (mc := 1) (ms := 3) (As := [.int (xs (v3 + 1).toNatClampNeg), .int (xs (v3 + 2).toNatClampNeg), .int (xs (v3 + 3).toNatClampNeg)]) (rest := []) C hK 3 (gd_V wt_244 wt_245 wt_246 wt_1 wt_247) rfl rfl rfl ⟨rfl, hs_X11_thing⟩ ⟨⟨Nat.le_of_ble_eq_true rfl, Nat.le_of_ble_eq_true rfl⟩, (by show _ ≤ 600000; omega), (by show _ ≤ 7302250; omega)⟩ rfl 0 (ga_0 cy A _) rfl rfl (Nat.le_of_ble_eq_true rfl) dL_law_277 (c_X11_thing (q_l κ) (q_D κ) cy A hw)) (fun r1 σ1 hw => ?_)
  refine g_aload_n C 2 rfl rfl dL_law_280 ?_
  refine g_aload_n C 0 rfl rfl dL_law_281 ?_
  refine g_iload_n C 3 rfl rfl dL_law_282 ?_
  refine g_iconst (v := (1 : Int32)) C dL_law_283 (by decide) ?_
  refine g_iadd C dL_law_284 ?_
  refine g_sld C hX hbl hbA h1 dL_law_285 ?_
  refine g_aload_n C 0 rfl rfl dL_law_286 ?_
  refine g_iload_n C 3 rfl rfl dL_law_287 ?_
  refine g_iconst (v := (2 : Int32)) C dL_law_288 (by decide) ?_
  refine g_iadd C dL_law_289 ?_
  refine g_sld C hX hbl hbA h2 dL_law_290 ?_
  refine g_aload_n C 0 rfl rfl dL_law_291 ?_
  refine g_iload_n C 3 rfl rfl dL_law_292 ?_
  refine g_iconst (v := (3 : Int32)) C dL_law_293 (by decide) ?_
  refine g_iadd C dL_law_294 ?_
  refine g_sld C hX hbl hbA h3 dL_law_295 ?_
  refine gc_I (mc := 0) (ms := 0) C (gr_V (mc := 0) (ms := 0) (As := [.int (xs (v3 + 1).toNatClampNeg), .int (xs (v3 + 2).toNatClampNeg), .int (xs (v3 + 3).toNatClampNeg)]) (rest := [.int r1]) C hK 3 (gd_V wt_680 wt_681 wt_682 wt_8 wt_683) rfl rfl rfl ⟨rfl, hs_X12_thing⟩ ⟨⟨Nat.le_of_ble_eq_true rfl, Nat.le_of_ble_eq_true rfl⟩, (by show _ ≤ 600000; omega), (by show _ ≤ 7302250; omega)⟩ rfl 18 (ga_18 cy A _) rfl rfl (Nat.le_of_ble_eq_true rfl) dL_law_296 (c_X12_thing (q_l κ) (q_D κ) cy A hw)) (fun r2 σ2 hw => ?_)
  exact g_icmp_eq C 704 (by decide) hw dL_law_299 (fun hw => g_widen (by omega) (by omega) (hnext _ hw)) (fun hw => hw.elim)
set_option maxHeartbeats 4000000 in
set_option maxRecDepth 100000 in
theorem law_6 {κ : qC} (C : Cx κ code RL gL room_1) {cy : Nat → ClassId} (hK : va_K (q_D κ) vwCl (gty cy) (q_s κ)) {A : Nat → Nat} {b L : Nat} {xs : Nat → Int32} (hX : va_X b L xs (q_s κ) (q_s κ).heap) (hbl : b < (q_s κ).heap.size) (hbA : ¬ q_A κ b) {k n : Nat} (hk : k + 1 ≤ 600000) (hn : n + 3 ≤ 7302250) {v3 : Int32} (h1 : vp_in (v3 + 1) L) (h2 : vp_in (v3 + 2) L) (h3 : vp_in (v3 + 3) L) {σ : St} {Ψ : St → Prop} (hw : wL_6 σ (xs (v3 + 1).toNatClampNeg) (xs (v3 + 2).toNatClampNeg) (xs (v3 + 3).toNatClampNeg) Ψ) (hnext : ∀ σ', Ψ σ' → GW κ (k + 1) (n + 3) (gW cy A σ') 704 [(0, .ref b), (1, .ref (A 0)), (2, .ref (A 18)), (3, .int v3)] []) : GW κ k n (gW cy A σ) 304 [(0, .ref b), (1, .ref (A 0)), (2, .ref (A 18)), (3, .int v3)] [] := by
  unfold wL_6 at hw
  refine g_aload_n C 1 rfl rfl dL_law_304 ?_
  refine g_aload_n C 0 rfl rfl dL_law_305 ?_
  refine g_iload_n C 3 rfl rfl dL_law_306 ?_
  refine g_iconst (v := (1 : Int32)) C dL_law_307 (by decide) ?_
  refine g_iadd C dL_law_308 ?_
  refine g_sld C hX hbl hbA h1 dL_law_309 ?_
  refine g_aload_n C 0 rfl rfl dL_law_310 ?_
  refine g_iload_n C 3 rfl rfl dL_law_311 ?_
  refine g_iconst (v := (2 : Int32)) C dL_law_312 (by decide) ?_
  refine g_iadd C dL_law_313 ?_
  refine g_sld C hX hbl hbA h2 dL_law_314 ?_
  refine gc_I (mc := 0) (ms := 0) C (gr_V (mc := 0) (ms := 0) (As := [.int (xs (v3 + 1).toNatClampNeg), .int (xs (v3 + 2).toNatClampNeg)]) (rest := []) C hK 2 (gd_V wt_309 wt_310 wt_311 wt_1 wt_312) rfl rfl rfl ⟨rfl, hs_X11_about⟩ ⟨⟨Nat.le_of_ble_eq_true rfl, Nat.le_of_ble_eq_true rfl⟩, (by show _ ≤ 600000; omega), (by show _ ≤ 7302250; omega)⟩ rfl 0 (ga_0 cy A _) rfl rfl (Nat.le_of_ble_eq_true rfl) dL_law_315 (c_X11_about (q_l κ) (q_D κ) cy A hw)) (fun r1 σ1 hw => ?_)
  refine g_aload_n C 2 rfl rfl dL_law_318 ?_
  refine g_aload_n C 0 rfl rfl dL_law_319 ?_
  refine g_iload_n C 3 rfl rfl dL_law_320 ?_
  refine g_iconst (v := (1 : Int32)) C dL_law_321 (by decide) ?_
  refine g_iadd C dL_law_322 ?_
  refine g_sld C hX hbl hbA h1 dL_law_323 ?_
  refine g_aload_n C 0 rfl rfl dL_law_324 ?_
  refine g_iload_n C 3 rfl rfl dL_law_325 ?_
  refine g_iconst (v := (2 : Int32)) C dL_law_326 (by decide) ?_
  refine g_iadd C dL_law_327 ?_
  refine g_sld C hX hbl hbA h2 dL_law_328 ?_
  refine gc_I (mc := 0) (ms := 0) C (gr_V (mc := 0) (ms := 0) (As := [.int (xs (v3 + 1).toNatClampNeg), .int (xs (v3 + 2).toNatClampNeg)]) (rest := [.int r1]) C hK 2 (gd_V wt_684 wt_685 wt_686 wt_8 wt_687) rfl rfl rfl ⟨rfl, hs_X12_about⟩ ⟨⟨Nat.le_of_ble_eq_true rfl, Nat.le_of_ble_eq_true rfl⟩, (by show _ ≤ 600000; omega), (by show _ ≤ 7302250; omega)⟩ rfl 18 (ga_18 cy A _) rfl rfl (Nat.le_of_ble_eq_true rfl) dL_law_329 (c_X12_about (q_l κ) (q_D κ) cy A hw)) (fun r2 σ2 hw => ?_)
  exact g_icmp_eq C 704 (by decide) hw dL_law_332 (fun hw => g_widen (by omega) (by omega) (hnext _ hw)) (fun hw => hw.elim)
set_option maxHeartbeats 4000000 in
set_option maxRecDepth 100000 in
theorem law_7 {κ : qC} (C : Cx κ code RL gL room_1) {cy : Nat → ClassId} (hK : va_K (q_D κ) vwCl (gty cy) (q_s κ)) {A : Nat → Nat} {b L : Nat} {xs : Nat → Int32} (hX : va_X b L xs (q_s κ) (q_s κ).heap) (hbl : b < (q_s κ).heap.size) (hbA : ¬ q_A κ b) {k n : Nat} (hk : k + 1 ≤ 600000) (hn : n + 3 ≤ 7302250) {v3 : Int32} (h1 : vp_in (v3 + 1) L) (h2 : vp_in (v3 + 2) L) (h3 : vp_in (v3 + 3) L) {σ : St} {Ψ : St → Prop} (hw : wL_7 σ (xs (v3 + 1).toNatClampNeg) (xs (v3 + 2).toNatClampNeg) (xs (v3 + 3).toNatClampNeg) Ψ) (hnext : ∀ σ', Ψ σ' → GW κ (k + 1) (n + 3) (gW cy A σ') 704 [(0, .ref b), (1, .ref (A 0)), (2, .ref (A 18)), (3, .int v3)] []) : GW κ k n (gW cy A σ) 337 [(0, .ref b), (1, .ref (A 0)), (2, .ref (A 18)), (3, .int v3)] [] := by
  unfold wL_7 at hw
  refine g_aload_n C 1 rfl rfl dL_law_337 ?_
  refine g_aload_n C 0 rfl rfl dL_law_338 ?_
  refine g_iload_n C 3 rfl rfl dL_law_339 ?_
  refine g_iconst (v := (1 : Int32)) C dL_law_340 (by decide) ?_
  refine g_iadd C dL_law_341 ?_
  refine g_sld C hX hbl hbA h1 dL_law_342 ?_
  refine g_aload_n C 0 rfl rfl dL_law_343 ?_
  refine g_iload_n C 3 rfl rfl dL_law_344 ?_
  refine g_iconst (v := (2 : Int32)) C dL_law_345 (by decide) ?_
  refine g_iadd C dL_law_346 ?_
  refine g_sld C hX hbl hbA h2 dL_law_347 ?_
  refine gc_I (mc := 0) (ms := 0) C (gr_V (mc := 0) (ms := 0) (As := [.int (xs (v3 + 1).toNatClampNeg), .int (xs (v3 + 2).toNatClampNeg)]) (rest := []) C hK 2 (gd_V wt_341 wt_342 wt_343 wt_1 wt_344) rfl rfl rfl ⟨rfl, hs_X11_as⟩ ⟨⟨Nat.le_of_ble_eq_true rfl, Nat.le_of_ble_eq_true rfl⟩, (by show _ ≤ 600000; omega), (by show _ ≤ 7302250; omega)⟩ rfl 0 (ga_0 cy A _) rfl rfl (Nat.le_of_ble_eq_true rfl) dL_law_348 (c_X11_as (q_l κ) (q_D κ) cy A hw)) (fun r1 σ1 hw => ?_)
  refine g_aload_n C 2 rfl rfl dL_law_351 ?_
  refine g_aload_n C 0 rfl rfl dL_law_352 ?_
  refine g_iload_n C 3 rfl rfl dL_law_353 ?_
  refine g_iconst (v := (1 : Int32)) C dL_law_354 (by decide) ?_
  refine g_iadd C dL_law_355 ?_
  refine g_sld C hX hbl hbA h1 dL_law_356 ?_
  refine g_aload_n C 0 rfl rfl dL_law_357 ?_
  refine g_iload_n C 3 rfl rfl dL_law_358 ?_
  refine g_iconst (v := (2 : Int32)) C dL_law_359 (by decide) ?_
  refine g_iadd C dL_law_360 ?_
  refine g_sld C hX hbl hbA h2 dL_law_361 ?_
  refine gc_I (mc := 0) (ms := 0) C (gr_V (mc := 0) (ms := 0) (As := [.int (xs (v3 + 1).toNatClampNeg), .int (xs (v3 + 2).toNatClampNeg)]) (rest := [.int r1]) C hK 2 (gd_V wt_694 wt_695 wt_696 wt_8 wt_697) rfl rfl rfl ⟨rfl, hs_X12_as⟩ ⟨⟨Nat.le_of_ble_eq_true rfl, Nat.le_of_ble_eq_true rfl⟩, (by show _ ≤ 600000; omega), (by show _ ≤ 7302250; omega)⟩ rfl 18 (ga_18 cy A _) rfl rfl (Nat.le_of_ble_eq_true rfl) dL_law_362 (c_X12_as (q_l κ) (q_D κ) cy A hw)) (fun r2 σ2 hw => ?_)
  exact g_icmp_eq C 704 (by decide) hw dL_law_365 (fun hw => g_widen (by omega) (by omega) (hnext _ hw)) (fun hw => hw.elim)
set_option maxHeartbeats 4000000 in
set_option maxRecDepth 100000 in
theorem law_8 {κ : qC} (C : Cx κ code RL gL room_1) {cy : Nat → ClassId} (hK : va_K (q_D κ) vwCl (gty cy) (q_s κ)) {A : Nat → Nat} {b L : Nat} {xs : Nat → Int32} (hX : va_X b L xs (q_s κ) (q_s κ).heap) (hbl : b < (q_s κ).heap.size) (hbA : ¬ q_A κ b) {k n : Nat} (hk : k + 1 ≤ 600000) (hn : n + 3 ≤ 7302250) {v3 : Int32} (h1 : vp_in (v3 + 1) L) (h2 : vp_in (v3 + 2) L) (h3 : vp_in (v3 + 3) L) {σ : St} {Ψ : St → Prop} (hw : wL_8 σ (xs (v3 + 1).toNatClampNeg) (xs (v3 + 2).toNatClampNeg) (xs (v3 + 3).toNatClampNeg) Ψ) (hnext : ∀ σ', Ψ σ' → GW κ (k + 1) (n + 3) (gW cy A σ') 704 [(0, .ref b), (1, .ref (A 0)), (2, .ref (A 18)), (3, .int v3)] []) : GW κ k n (gW cy A σ) 370 [(0, .ref b), (1, .ref (A 0)), (2, .ref (A 18)), (3, .int v3)] [] := by
  unfold wL_8 at hw
  refine g_aload_n C 1 rfl rfl dL_law_370 ?_
  refine g_aload_n C 0 rfl rfl dL_law_371 ?_
  refine g_iload_n C 3 rfl rfl dL_law_372 ?_
  refine g_iconst (v := (1 : Int32)) C dL_law_373 (by decide) ?_
  refine g_iadd C dL_law_374 ?_
  refine g_sld C hX hbl hbA h1 dL_law_375 ?_
  refine gc_I (mc := 0) (ms := 0) C (gr_V (mc := 0) (ms := 0) (As := [.int (xs (v3 + 1).toNatClampNeg)]) (rest := []) C hK 1 (gd_V wt_348 wt_349 wt_350 wt_1 wt_351) rfl rfl rfl ⟨rfl, hs_X11_carry⟩ ⟨⟨Nat.le_of_ble_eq_true rfl, Nat.le_of_ble_eq_true rfl⟩, (by show _ ≤ 600000; omega), (by show _ ≤ 7302250; omega)⟩ rfl 0 (ga_0 cy A _) rfl rfl (Nat.le_of_ble_eq_true rfl) dL_law_376 (c_X11_carry (q_l κ) (q_D κ) cy A hw)) (fun r1 σ1 hw => ?_)
  refine g_aload_n C 2 rfl rfl dL_law_379 ?_
  refine g_aload_n C 0 rfl rfl dL_law_380 ?_
  refine g_iload_n C 3 rfl rfl dL_law_381 ?_
  refine g_iconst (v := (1 : Int32)) C dL_law_382 (by decide) ?_
  refine g_iadd C dL_law_383 ?_
  refine g_sld C hX hbl hbA h1 dL_law_384 ?_
  refine gc_I (mc := 0) (ms := 0) C (gr_V (mc := 0) (ms := 0) (As := [.int (xs (v3 + 1).toNatClampNeg)]) (rest := [.int r1]) C hK 1 (gd_V wt_698 wt_699 wt_700 wt_8 wt_701) rfl rfl rfl ⟨rfl, hs_X12_carry⟩ ⟨⟨Nat.le_of_ble_eq_true rfl, Nat.le_of_ble_eq_true rfl⟩, (by show _ ≤ 600000; omega), (by show _ ≤ 7302250; omega)⟩ rfl 18 (ga_18 cy A _) rfl rfl (Nat.le_of_ble_eq_true rfl) dL_law_385 (c_X12_carry (q_l κ) (q_D κ) cy A hw)) (fun r2 σ2 hw => ?_)
  exact g_icmp_eq C 704 (by decide) hw dL_law_388 (fun hw => g_widen (by omega) (by omega) (hnext _ hw)) (fun hw => hw.elim)
set_option maxHeartbeats 4000000 in
set_option maxRecDepth 100000 in
theorem law_9 {κ : qC} (C : Cx κ code RL gL room_1) {cy : Nat → ClassId} (hK : va_K (q_D κ) vwCl (gty cy) (q_s κ)) {A : Nat → Nat} {b L : Nat} {xs : Nat → Int32} (hX : va_X b L xs (q_s κ) (q_s κ).heap) (hbl : b < (q_s κ).heap.size) (hbA : ¬ q_A κ b) {k n : Nat} (hk : k + 1 ≤ 600000) (hn : n + 3 ≤ 7302250) {v3 : Int32} (h1 : vp_in (v3 + 1) L) (h2 : vp_in (v3 + 2) L) (h3 : vp_in (v3 + 3) L) {σ : St} {Ψ : St → Prop} (hw : wL_9 σ (xs (v3 + 1).toNatClampNeg) (xs (v3 + 2).toNatClampNeg) (xs (v3 + 3).toNatClampNeg) Ψ) (hnext : ∀ σ', Ψ σ' → GW κ (k + 1) (n + 3) (gW cy A σ') 704 [(0, .ref b), (1, .ref (A 0)), (2, .ref (A 18)), (3, .int v3)] []) : GW κ k n (gW cy A σ) 393 [(0, .ref b), (1, .ref (A 0)), (2, .ref (A 18)), (3, .int v3)] [] := by
  unfold wL_9 at hw
  refine g_aload_n C 1 rfl rfl dL_law_393 ?_
  refine g_aload_n C 0 rfl rfl dL_law_394 ?_
  refine g_iload_n C 3 rfl rfl dL_law_395 ?_
  refine g_iconst (v := (1 : Int32)) C dL_law_396 (by decide) ?_
  refine g_iadd C dL_law_397 ?_
  refine g_sld C hX hbl hbA h1 dL_law_398 ?_
  refine gc_I (mc := 0) (ms := 0) C (gr_V (mc := 0) (ms := 0) (As := [.int (xs (v3 + 1).toNatClampNeg)]) (rest := []) C hK 1 (gd_V wt_371 wt_372 wt_373 wt_1 wt_374) rfl rfl rfl ⟨rfl, hs_X11_hour⟩ ⟨⟨Nat.le_of_ble_eq_true rfl, Nat.le_of_ble_eq_true rfl⟩, (by show _ ≤ 600000; omega), (by show _ ≤ 7302250; omega)⟩ rfl 0 (ga_0 cy A _) rfl rfl (Nat.le_of_ble_eq_true rfl) dL_law_399 (c_X11_hour (q_l κ) (q_D κ) cy A hw)) (fun r1 σ1 hw => ?_)
  refine g_aload_n C 2 rfl rfl dL_law_402 ?_
  refine g_aload_n C 0 rfl rfl dL_law_403 ?_
  refine g_iload_n C 3 rfl rfl dL_law_404 ?_
  refine g_iconst (v := (1 : Int32)) C dL_law_405 (by decide) ?_
  refine g_iadd C dL_law_406 ?_
  refine g_sld C hX hbl hbA h1 dL_law_407 ?_
  refine gc_I (mc := 0) (ms := 0) C (gr_V (mc := 0) (ms := 0) (As := [.int (xs (v3 + 1).toNatClampNeg)]) (rest := [.int r1]) C hK 1 (gd_V wt_705 wt_706 wt_707 wt_8 wt_708) rfl rfl rfl ⟨rfl, hs_X12_hour⟩ ⟨⟨Nat.le_of_ble_eq_true rfl, Nat.le_of_ble_eq_true rfl⟩, (by show _ ≤ 600000; omega), (by show _ ≤ 7302250; omega)⟩ rfl 18 (ga_18 cy A _) rfl rfl (Nat.le_of_ble_eq_true rfl) dL_law_408 (c_X12_hour (q_l κ) (q_D κ) cy A hw)) (fun r2 σ2 hw => ?_)
  exact g_icmp_eq C 704 (by decide) hw dL_law_411 (fun hw => g_widen (by omega) (by omega) (hnext _ hw)) (fun hw => hw.elim)
set_option maxHeartbeats 4000000 in
set_option maxRecDepth 100000 in
theorem law_10 {κ : qC} (C : Cx κ code RL gL room_1) {cy : Nat → ClassId} (hK : va_K (q_D κ) vwCl (gty cy) (q_s κ)) {A : Nat → Nat} {b L : Nat} {xs : Nat → Int32} (hX : va_X b L xs (q_s κ) (q_s κ).heap) (hbl : b < (q_s κ).heap.size) (hbA : ¬ q_A κ b) {k n : Nat} (hk : k + 1 ≤ 600000) (hn : n + 3 ≤ 7302250) {v3 : Int32} (h1 : vp_in (v3 + 1) L) (h2 : vp_in (v3 + 2) L) (h3 : vp_in (v3 + 3) L) {σ : St} {Ψ : St → Prop} (hw : wL_10 σ (xs (v3 + 1).toNatClampNeg) (xs (v3 + 2).toNatClampNeg) (xs (v3 + 3).toNatClampNeg) Ψ) (hnext : ∀ σ', Ψ σ' → GW κ (k + 1) (n + 3) (gW cy A σ') 704 [(0, .ref b), (1, .ref (A 0)), (2, .ref (A 18)), (3, .int v3)] []) : GW κ k n (gW cy A σ) 416 [(0, .ref b), (1, .ref (A 0)), (2, .ref (A 18)), (3, .int v3)] [] := by
  unfold wL_10 at hw
  refine g_aload_n C 1 rfl rfl dL_law_416 ?_
  refine g_aload_n C 0 rfl rfl dL_law_417 ?_
  refine g_iload_n C 3 rfl rfl dL_law_418 ?_
  refine g_iconst (v := (1 : Int32)) C dL_law_419 (by decide) ?_
  refine g_iadd C dL_law_420 ?_
  refine g_sld C hX hbl hbA h1 dL_law_421 ?_
  refine gc_I (mc := 0) (ms := 0) C (gr_V (mc := 0) (ms := 0) (As := [.int (xs (v3 + 1).toNatClampNeg)]) (rest := []) C hK 1 (gd_V wt_398 wt_399 wt_400 wt_1 wt_401) rfl rfl rfl ⟨rfl, hs_X11_even⟩ ⟨⟨Nat.le_of_ble_eq_true rfl, Nat.le_of_ble_eq_true rfl⟩, (by show _ ≤ 600000; omega), (by show _ ≤ 7302250; omega)⟩ rfl 0 (ga_0 cy A _) rfl rfl (Nat.le_of_ble_eq_true rfl) dL_law_422 (c_X11_even (q_l κ) (q_D κ) cy A hw)) (fun r1 σ1 hw => ?_)
  refine g_aload_n C 2 rfl rfl dL_law_425 ?_
  refine g_aload_n C 0 rfl rfl dL_law_426 ?_
  refine g_iload_n C 3 rfl rfl dL_law_427 ?_
  refine g_iconst (v := (1 : Int32)) C dL_law_428 (by decide) ?_
  refine g_iadd C dL_law_429 ?_
  refine g_sld C hX hbl hbA h1 dL_law_430 ?_
  refine gc_I (mc := 0) (ms := 0) C (gr_V (mc := 0) (ms := 0) (As := [.int (xs (v3 + 1).toNatClampNeg)]) (rest := [.int r1]) C hK 1 (gd_V wt_718 wt_719 wt_720 wt_8 wt_721) rfl rfl rfl ⟨rfl, hs_X12_even⟩ ⟨⟨Nat.le_of_ble_eq_true rfl, Nat.le_of_ble_eq_true rfl⟩, (by show _ ≤ 600000; omega), (by show _ ≤ 7302250; omega)⟩ rfl 18 (ga_18 cy A _) rfl rfl (Nat.le_of_ble_eq_true rfl) dL_law_431 (c_X12_even (q_l κ) (q_D κ) cy A hw)) (fun r2 σ2 hw => ?_)
  exact g_icmp_eq C 704 (by decide) hw dL_law_434 (fun hw => g_widen (by omega) (by omega) (hnext _ hw)) (fun hw => hw.elim)
set_option maxHeartbeats 4000000 in
set_option maxRecDepth 100000 in
theorem law_11 {κ : qC} (C : Cx κ code RL gL room_1) {cy : Nat → ClassId} (hK : va_K (q_D κ) vwCl (gty cy) (q_s κ)) {A : Nat → Nat} {b L : Nat} {xs : Nat → Int32} (hX : va_X b L xs (q_s κ) (q_s κ).heap) (hbl : b < (q_s κ).heap.size) (hbA : ¬ q_A κ b) {k n : Nat} (hk : k + 1 ≤ 600000) (hn : n + 3 ≤ 7302250) {v3 : Int32} (h1 : vp_in (v3 + 1) L) (h2 : vp_in (v3 + 2) L) (h3 : vp_in (v3 + 3) L) {σ : St} {Ψ : St → Prop} (hw : wL_11 σ (xs (v3 + 1).toNatClampNeg) (xs (v3 + 2).toNatClampNeg) (xs (v3 + 3).toNatClampNeg) Ψ) (hnext : ∀ σ', Ψ σ' → GW κ (k + 1) (n + 3) (gW cy A σ') 704 [(0, .ref b), (1, .ref (A 0)), (2, .ref (A 18)), (3, .int v3)] []) : GW κ k n (gW cy A σ) 439 [(0, .ref b), (1, .ref (A 0)), (2, .ref (A 18)), (3, .int v3)] [] := by
  unfold wL_11 at hw
  refine g_aload_n C 1 rfl rfl dL_law_439 ?_
  refine g_aload_n C 0 rfl rfl dL_law_440 ?_
  refine g_iload_n C 3 rfl rfl dL_law_441 ?_
  refine g_iconst (v := (1 : Int32)) C dL_law_442 (by decide) ?_
  refine g_iadd C dL_law_443 ?_
  refine g_sld C hX hbl hbA h1 dL_law_444 ?_
  refine g_aload_n C 0 rfl rfl dL_law_445 ?_
  refine g_iload_n C 3 rfl rfl dL_law_446 ?_
  refine g_iconst (v := (2 : Int32)) C dL_law_447 (by decide) ?_
  refine g_iadd C dL_law_448 ?_
  refine g_sld C hX hbl hbA h2 dL_law_449 ?_
  refine gc_I (mc := 0) (ms := 0) C (gr_V (mc := 0) (ms := 0) (As := [.int (xs (v3 + 1).toNatClampNeg), .int (xs (v3 + 2).toNatClampNeg)]) (rest := []) C hK 2 (gd_V wt_424 wt_425 wt_426 wt_1 wt_427) rfl rfl rfl ⟨rfl, hs_X11_soonest⟩ ⟨⟨Nat.le_of_ble_eq_true rfl, Nat.le_of_ble_eq_true rfl⟩, (by show _ ≤ 600000; omega), (by show _ ≤ 7302250; omega)⟩ rfl 0 (ga_0 cy A _) rfl rfl (Nat.le_of_ble_eq_true rfl) dL_law_450 (c_X11_soonest (q_l κ) (q_D κ) cy A hw)) (fun r1 σ1 hw => ?_)
  refine g_aload_n C 2 rfl rfl dL_law_453 ?_
  refine g_aload_n C 0 rfl rfl dL_law_454 ?_
  refine g_iload_n C 3 rfl rfl dL_law_455 ?_
  refine g_iconst (v := (1 : Int32)) C dL_law_456 (by decide) ?_
  refine g_iadd C dL_law_457 ?_
  refine g_sld C hX hbl hbA h1 dL_law_458 ?_
  refine g_aload_n C 0 rfl rfl dL_law_459 ?_
  refine g_iload_n C 3 rfl rfl dL_law_460 ?_
  refine g_iconst (v := (2 : Int32)) C dL_law_461 (by decide) ?_
  refine g_iadd C dL_law_462 ?_
  refine g_sld C hX hbl hbA h2 dL_law_463 ?_
  refine gc_I (mc := 0) (ms := 0) C (gr_V (mc := 0) (ms := 0) (As := [.int (xs (v3 + 1).toNatClampNeg), .int (xs (v3 + 2).toNatClampNeg)]) (rest := [.int r1]) C hK 2 (gd_V wt_732 wt_733 wt_734 wt_8 wt_735) rfl rfl rfl ⟨rfl, hs_X12_soonest⟩ ⟨⟨Nat.le_of_ble_eq_true rfl, Nat.le_of_ble_eq_true rfl⟩, (by show _ ≤ 600000; omega), (by show _ ≤ 7302250; omega)⟩ rfl 18 (ga_18 cy A _) rfl rfl (Nat.le_of_ble_eq_true rfl) dL_law_464 (c_X12_soonest (q_l κ) (q_D κ) cy A hw)) (fun r2 σ2 hw => ?_)
  exact g_icmp_eq C 704 (by decide) hw dL_law_467 (fun hw => g_widen (by omega) (by omega) (hnext _ hw)) (fun hw => hw.elim)
set_option maxHeartbeats 4000000 in
set_option maxRecDepth 100000 in
theorem law_12 {κ : qC} (C : Cx κ code RL gL room_1) {cy : Nat → ClassId} (hK : va_K (q_D κ) vwCl (gty cy) (q_s κ)) {A : Nat → Nat} {b L : Nat} {xs : Nat → Int32} (hX : va_X b L xs (q_s κ) (q_s κ).heap) (hbl : b < (q_s κ).heap.size) (hbA : ¬ q_A κ b) {k n : Nat} (hk : k + 1 ≤ 600000) (hn : n + 3 ≤ 7302250) {v3 : Int32} (h1 : vp_in (v3 + 1) L) (h2 : vp_in (v3 + 2) L) (h3 : vp_in (v3 + 3) L) {σ : St} {Ψ : St → Prop} (hw : wL_12 σ (xs (v3 + 1).toNatClampNeg) (xs (v3 + 2).toNatClampNeg) (xs (v3 + 3).toNatClampNeg) Ψ) (hnext : ∀ σ', Ψ σ' → GW κ (k + 1) (n + 3) (gW cy A σ') 704 [(0, .ref b), (1, .ref (A 0)), (2, .ref (A 18)), (3, .int v3)] []) : GW κ k n (gW cy A σ) 472 [(0, .ref b), (1, .ref (A 0)), (2, .ref (A 18)), (3, .int v3)] [] := by
  unfold wL_12 at hw
  refine g_aload_n C 1 rfl rfl dL_law_472 ?_
  refine g_aload_n C 0 rfl rfl dL_law_473 ?_
  refine g_iload_n C 3 rfl rfl dL_law_474 ?_
  refine g_iconst (v := (1 : Int32)) C dL_law_475 (by decide) ?_
  refine g_iadd C dL_law_476 ?_
  refine g_sld C hX hbl hbA h1 dL_law_477 ?_
  refine gc_I (mc := 0) (ms := 0) C (gr_V (mc := 0) (ms := 0) (As := [.int (xs (v3 + 1).toNatClampNeg)]) (rest := []) C hK 1 (gd_V wt_453 wt_454 wt_455 wt_1 wt_456) rfl rfl rfl ⟨rfl, hs_X11_caught⟩ ⟨⟨Nat.le_of_ble_eq_true rfl, Nat.le_of_ble_eq_true rfl⟩, (by show _ ≤ 600000; omega), (by show _ ≤ 7302250; omega)⟩ rfl 0 (ga_0 cy A _) rfl rfl (Nat.le_of_ble_eq_true rfl) dL_law_478 (c_X11_caught (q_l κ) (q_D κ) cy A hw)) (fun r1 σ1 hw => ?_)
  refine g_aload_n C 2 rfl rfl dL_law_481 ?_
  refine g_aload_n C 0 rfl rfl dL_law_482 ?_
  refine g_iload_n C 3 rfl rfl dL_law_483 ?_
  refine g_iconst (v := (1 : Int32)) C dL_law_484 (by decide) ?_
  refine g_iadd C dL_law_485 ?_
  refine g_sld C hX hbl hbA h1 dL_law_486 ?_
  refine gc_I (mc := 0) (ms := 0) C (gr_V (mc := 0) (ms := 0) (As := [.int (xs (v3 + 1).toNatClampNeg)]) (rest := [.int r1]) C hK 1 (gd_V wt_748 wt_749 wt_750 wt_8 wt_751) rfl rfl rfl ⟨rfl, hs_X12_caught⟩ ⟨⟨Nat.le_of_ble_eq_true rfl, Nat.le_of_ble_eq_true rfl⟩, (by show _ ≤ 600000; omega), (by show _ ≤ 7302250; omega)⟩ rfl 18 (ga_18 cy A _) rfl rfl (Nat.le_of_ble_eq_true rfl) dL_law_487 (c_X12_caught (q_l κ) (q_D κ) cy A hw)) (fun r2 σ2 hw => ?_)
  exact g_icmp_eq C 704 (by decide) hw dL_law_490 (fun hw => g_widen (by omega) (by omega) (hnext _ hw)) (fun hw => hw.elim)
set_option maxHeartbeats 4000000 in
set_option maxRecDepth 100000 in
theorem law_13 {κ : qC} (C : Cx κ code RL gL room_1) {cy : Nat → ClassId} (hK : va_K (q_D κ) vwCl (gty cy) (q_s κ)) {A : Nat → Nat} {b L : Nat} {xs : Nat → Int32} (hX : va_X b L xs (q_s κ) (q_s κ).heap) (hbl : b < (q_s κ).heap.size) (hbA : ¬ q_A κ b) {k n : Nat} (hk : k + 1 ≤ 600000) (hn : n + 3 ≤ 7302250) {v3 : Int32} (h1 : vp_in (v3 + 1) L) (h2 : vp_in (v3 + 2) L) (h3 : vp_in (v3 + 3) L) {σ : St} {Ψ : St → Prop} (hw : wL_13 σ (xs (v3 + 1).toNatClampNeg) (xs (v3 + 2).toNatClampNeg) (xs (v3 + 3).toNatClampNeg) Ψ) (hnext : ∀ σ', Ψ σ' → GW κ (k + 1) (n + 3) (gW cy A σ') 704 [(0, .ref b), (1, .ref (A 0)), (2, .ref (A 18)), (3, .int v3)] []) : GW κ k n (gW cy A σ) 495 [(0, .ref b), (1, .ref (A 0)), (2, .ref (A 18)), (3, .int v3)] [] := by
  unfold wL_13 at hw
  refine g_aload_n C 1 rfl rfl dL_law_495 ?_
  refine g_aload_n C 0 rfl rfl dL_law_496 ?_
  refine g_iload_n C 3 rfl rfl dL_law_497 ?_
  refine g_iconst (v := (1 : Int32)) C dL_law_498 (by decide) ?_
  refine g_iadd C dL_law_499 ?_
  refine g_sld C hX hbl hbA h1 dL_law_500 ?_
  refine g_aload_n C 0 rfl rfl dL_law_501 ?_
  refine g_iload_n C 3 rfl rfl dL_law_502 ?_
  refine g_iconst (v := (2 : Int32)) C dL_law_503 (by decide) ?_
  refine g_iadd C dL_law_504 ?_
  refine g_sld C hX hbl hbA h2 dL_law_505 ?_
  refine gc_I (mc := 0) (ms := 0) C (gr_V (mc := 0) (ms := 0) (As := [.int (xs (v3 + 1).toNatClampNeg), .int (xs (v3 + 2).toNatClampNeg)]) (rest := []) C hK 2 (gd_V wt_463 wt_464 wt_465 wt_1 wt_466) rfl rfl rfl ⟨rfl, hs_X11_weighed⟩ ⟨⟨Nat.le_of_ble_eq_true rfl, Nat.le_of_ble_eq_true rfl⟩, (by show _ ≤ 600000; omega), (by show _ ≤ 7302250; omega)⟩ rfl 0 (ga_0 cy A _) rfl rfl (Nat.le_of_ble_eq_true rfl) dL_law_506 (c_X11_weighed (q_l κ) (q_D κ) cy A hw)) (fun r1 σ1 hw => ?_)
  refine g_aload_n C 2 rfl rfl dL_law_509 ?_
  refine g_aload_n C 0 rfl rfl dL_law_510 ?_
  refine g_iload_n C 3 rfl rfl dL_law_511 ?_
  refine g_iconst (v := (1 : Int32)) C dL_law_512 (by decide) ?_
  refine g_iadd C dL_law_513 ?_
  refine g_sld C hX hbl hbA h1 dL_law_514 ?_
  refine g_aload_n C 0 rfl rfl dL_law_515 ?_
  refine g_iload_n C 3 rfl rfl dL_law_516 ?_
  refine g_iconst (v := (2 : Int32)) C dL_law_517 (by decide) ?_
  refine g_iadd C dL_law_518 ?_
  refine g_sld C hX hbl hbA h2 dL_law_519 ?_
  refine gc_I (mc := 0) (ms := 0) C (gr_V (mc := 0) (ms := 0) (As := [.int (xs (v3 + 1).toNatClampNeg), .int (xs (v3 + 2).toNatClampNeg)]) (rest := [.int r1]) C hK 2 (gd_V wt_755 wt_756 wt_757 wt_8 wt_758) rfl rfl rfl ⟨rfl, hs_X12_weighed⟩ ⟨⟨Nat.le_of_ble_eq_true rfl, Nat.le_of_ble_eq_true rfl⟩, (by show _ ≤ 600000; omega), (by show _ ≤ 7302250; omega)⟩ rfl 18 (ga_18 cy A _) rfl rfl (Nat.le_of_ble_eq_true rfl) dL_law_520 (c_X12_weighed (q_l κ) (q_D κ) cy A hw)) (fun r2 σ2 hw => ?_)
  exact g_icmp_eq C 704 (by decide) hw dL_law_523 (fun hw => g_widen (by omega) (by omega) (hnext _ hw)) (fun hw => hw.elim)
set_option maxHeartbeats 4000000 in
set_option maxRecDepth 100000 in
theorem law_14 {κ : qC} (C : Cx κ code RL gL room_1) {cy : Nat → ClassId} (hK : va_K (q_D κ) vwCl (gty cy) (q_s κ)) {A : Nat → Nat} {b L : Nat} {xs : Nat → Int32} (hX : va_X b L xs (q_s κ) (q_s κ).heap) (hbl : b < (q_s κ).heap.size) (hbA : ¬ q_A κ b) {k n : Nat} (hk : k + 1 ≤ 600000) (hn : n + 3 ≤ 7302250) {v3 : Int32} (h1 : vp_in (v3 + 1) L) (h2 : vp_in (v3 + 2) L) (h3 : vp_in (v3 + 3) L) {σ : St} {Ψ : St → Prop} (hw : wL_14 σ (xs (v3 + 1).toNatClampNeg) (xs (v3 + 2).toNatClampNeg) (xs (v3 + 3).toNatClampNeg) Ψ) (hnext : ∀ σ', Ψ σ' → GW κ (k + 1) (n + 3) (gW cy A σ') 704 [(0, .ref b), (1, .ref (A 0)), (2, .ref (A 18)), (3, .int v3)] []) : GW κ k n (gW cy A σ) 528 [(0, .ref b), (1, .ref (A 0)), (2, .ref (A 18)), (3, .int v3)] [] := by
  unfold wL_14 at hw
  refine g_aload_n C 1 rfl rfl dL_law_528 ?_
  refine gc_I (mc := 0) (ms := 0) C (gr_V (mc := 0) (ms := 0) (As := []) (rest := []) C hK 0 (gd_V wt_475 wt_476 wt_477 wt_1 wt_478) rfl rfl rfl ⟨rfl, hs_X11_forget⟩ ⟨⟨Nat.le_of_ble_eq_true rfl, Nat.le_of_ble_eq_true rfl⟩, (by show _ ≤ 600000; omega), (by show _ ≤ 7302250; omega)⟩ rfl 0 (ga_0 cy A _) rfl rfl (Nat.le_of_ble_eq_true rfl) dL_law_529 (c_X11_forget (q_l κ) (q_D κ) cy A hw)) (fun r1 σ1 hw => ?_)
  refine g_aload_n C 2 rfl rfl dL_law_532 ?_
  refine gc_I (mc := 0) (ms := 0) C (gr_V (mc := 0) (ms := 0) (As := []) (rest := [.int r1]) C hK 0 (gd_V wt_762 wt_763 wt_764 wt_8 wt_765) rfl rfl rfl ⟨rfl, hs_X12_forget⟩ ⟨⟨Nat.le_of_ble_eq_true rfl, Nat.le_of_ble_eq_true rfl⟩, (by show _ ≤ 600000; omega), (by show _ ≤ 7302250; omega)⟩ rfl 18 (ga_18 cy A _) rfl rfl (Nat.le_of_ble_eq_true rfl) dL_law_533 (c_X12_forget (q_l κ) (q_D κ) cy A hw)) (fun r2 σ2 hw => ?_)
  exact g_icmp_eq C 704 (by decide) hw dL_law_536 (fun hw => g_widen (by omega) (by omega) (hnext _ hw)) (fun hw => hw.elim)
set_option maxHeartbeats 4000000 in
set_option maxRecDepth 100000 in
theorem law_15 {κ : qC} (C : Cx κ code RL gL room_1) {cy : Nat → ClassId} (hK : va_K (q_D κ) vwCl (gty cy) (q_s κ)) {A : Nat → Nat} {b L : Nat} {xs : Nat → Int32} (hX : va_X b L xs (q_s κ) (q_s κ).heap) (hbl : b < (q_s κ).heap.size) (hbA : ¬ q_A κ b) {k n : Nat} (hk : k + 1 ≤ 600000) (hn : n + 3 ≤ 7302250) {v3 : Int32} (h1 : vp_in (v3 + 1) L) (h2 : vp_in (v3 + 2) L) (h3 : vp_in (v3 + 3) L) {σ : St} {Ψ : St → Prop} (hw : wL_15 σ (xs (v3 + 1).toNatClampNeg) (xs (v3 + 2).toNatClampNeg) (xs (v3 + 3).toNatClampNeg) Ψ) (hnext : ∀ σ', Ψ σ' → GW κ (k + 1) (n + 3) (gW cy A σ') 704 [(0, .ref b), (1, .ref (A 0)), (2, .ref (A 18)), (3, .int v3)] []) : GW κ k n (gW cy A σ) 541 [(0, .ref b), (1, .ref (A 0)), (2, .ref (A 18)), (3, .int v3)] [] := by
  unfold wL_15 at hw
  refine g_aload_n C 1 rfl rfl dL_law_541 ?_
  refine g_aload_n C 0 rfl rfl dL_law_542 ?_
  refine g_iload_n C 3 rfl rfl dL_law_543 ?_
  refine g_iconst (v := (1 : Int32)) C dL_law_544 (by decide) ?_
  refine g_iadd C dL_law_545 ?_
  refine g_sld C hX hbl hbA h1 dL_law_546 ?_
  refine gc_I (mc := 0) (ms := 0) C (gr_V (mc := 0) (ms := 0) (As := [.int (xs (v3 + 1).toNatClampNeg)]) (rest := []) C hK 1 (gd_V wt_479 wt_480 wt_481 wt_1 wt_482) rfl rfl rfl ⟨rfl, hs_X11_fits⟩ ⟨⟨Nat.le_of_ble_eq_true rfl, Nat.le_of_ble_eq_true rfl⟩, (by show _ ≤ 600000; omega), (by show _ ≤ 7302250; omega)⟩ rfl 0 (ga_0 cy A _) rfl rfl (Nat.le_of_ble_eq_true rfl) dL_law_547 (c_X11_fits (q_l κ) (q_D κ) cy A hw)) (fun r1 σ1 hw => ?_)
  refine g_aload_n C 2 rfl rfl dL_law_550 ?_
  refine g_aload_n C 0 rfl rfl dL_law_551 ?_
  refine g_iload_n C 3 rfl rfl dL_law_552 ?_
  refine g_iconst (v := (1 : Int32)) C dL_law_553 (by decide) ?_
  refine g_iadd C dL_law_554 ?_
  refine g_sld C hX hbl hbA h1 dL_law_555 ?_
  refine gc_I (mc := 0) (ms := 0) C (gr_V (mc := 0) (ms := 0) (As := [.int (xs (v3 + 1).toNatClampNeg)]) (rest := [.int r1]) C hK 1 (gd_V wt_766 wt_767 wt_768 wt_8 wt_769) rfl rfl rfl ⟨rfl, hs_X12_fits⟩ ⟨⟨Nat.le_of_ble_eq_true rfl, Nat.le_of_ble_eq_true rfl⟩, (by show _ ≤ 600000; omega), (by show _ ≤ 7302250; omega)⟩ rfl 18 (ga_18 cy A _) rfl rfl (Nat.le_of_ble_eq_true rfl) dL_law_556 (c_X12_fits (q_l κ) (q_D κ) cy A hw)) (fun r2 σ2 hw => ?_)
  exact g_icmp_eq C 704 (by decide) hw dL_law_559 (fun hw => g_widen (by omega) (by omega) (hnext _ hw)) (fun hw => hw.elim)
set_option maxHeartbeats 4000000 in
set_option maxRecDepth 100000 in
theorem law_16 {κ : qC} (C : Cx κ code RL gL room_1) {cy : Nat → ClassId} (hK : va_K (q_D κ) vwCl (gty cy) (q_s κ)) {A : Nat → Nat} {b L : Nat} {xs : Nat → Int32} (hX : va_X b L xs (q_s κ) (q_s κ).heap) (hbl : b < (q_s κ).heap.size) (hbA : ¬ q_A κ b) {k n : Nat} (hk : k + 1 ≤ 600000) (hn : n + 3 ≤ 7302250) {v3 : Int32} (h1 : vp_in (v3 + 1) L) (h2 : vp_in (v3 + 2) L) (h3 : vp_in (v3 + 3) L) {σ : St} {Ψ : St → Prop} (hw : wL_16 σ (xs (v3 + 1).toNatClampNeg) (xs (v3 + 2).toNatClampNeg) (xs (v3 + 3).toNatClampNeg) Ψ) (hnext : ∀ σ', Ψ σ' → GW κ (k + 1) (n + 3) (gW cy A σ') 704 [(0, .ref b), (1, .ref (A 0)), (2, .ref (A 18)), (3, .int v3)] []) : GW κ k n (gW cy A σ) 564 [(0, .ref b), (1, .ref (A 0)), (2, .ref (A 18)), (3, .int v3)] [] := by
  unfold wL_16 at hw
  refine g_aload_n C 1 rfl rfl dL_law_564 ?_
  refine g_aload_n C 0 rfl rfl dL_law_565 ?_
  refine g_iload_n C 3 rfl rfl dL_law_566 ?_
  refine g_iconst (v := (1 : Int32)) C dL_law_567 (by decide) ?_
  refine g_iadd C dL_law_568 ?_
  refine g_sld C hX hbl hbA h1 dL_law_569 ?_
  refine g_aload_n C 0 rfl rfl dL_law_570 ?_
  refine g_iload_n C 3 rfl rfl dL_law_571 ?_
  refine g_iconst (v := (2 : Int32)) C dL_law_572 (by decide) ?_
  refine g_iadd C dL_law_573 ?_
  refine g_sld C hX hbl hbA h2 dL_law_574 ?_
  refine gc_L (mc := 0) (ms := 0) C (gr_V (mc := 0) (ms := 0) (As := [.int (xs (v3 + 1).toNatClampNeg), .int (xs (v3 + 2).toNatClampNeg)]) (rest := []) C hK 2 (gd_V wt_495 wt_496 wt_497 wt_1 wt_498) rfl rfl rfl ⟨rfl, hs_X11_lasts⟩ ⟨⟨Nat.le_of_ble_eq_true rfl, Nat.le_of_ble_eq_true rfl⟩, (by show _ ≤ 600000; omega), (by show _ ≤ 7302250; omega)⟩ rfl 0 (ga_0 cy A _) rfl rfl (Nat.le_of_ble_eq_true rfl) dL_law_575 (c_X11_lasts (q_l κ) (q_D κ) cy A hw)) (fun r1 σ1 hw => ?_)
  refine g_aload_n C 2 rfl rfl dL_law_578 ?_
  refine g_aload_n C 0 rfl rfl dL_law_579 ?_
  refine g_iload_n C 3 rfl rfl dL_law_580 ?_
  refine g_iconst (v := (1 : Int32)) C dL_law_581 (by decide) ?_
  refine g_iadd C dL_law_582 ?_
  refine g_sld C hX hbl hbA h1 dL_law_583 ?_
  refine g_aload_n C 0 rfl rfl dL_law_584 ?_
  refine g_iload_n C 3 rfl rfl dL_law_585 ?_
  refine g_iconst (v := (2 : Int32)) C dL_law_586 (by decide) ?_
  refine g_iadd C dL_law_587 ?_
  refine g_sld C hX hbl hbA h2 dL_law_588 ?_
  refine gc_L (mc := 0) (ms := 0) C (gr_V (mc := 0) (ms := 0) (As := [.int (xs (v3 + 1).toNatClampNeg), .int (xs (v3 + 2).toNatClampNeg)]) (rest := [.long r1]) C hK 2 (gd_V wt_773 wt_774 wt_775 wt_8 wt_776) rfl rfl rfl ⟨rfl, hs_X12_lasts⟩ ⟨⟨Nat.le_of_ble_eq_true rfl, Nat.le_of_ble_eq_true rfl⟩, (by show _ ≤ 600000; omega), (by show _ ≤ 7302250; omega)⟩ rfl 18 (ga_18 cy A _) rfl rfl (Nat.le_of_ble_eq_true rfl) dL_law_589 (c_X12_lasts (q_l κ) (q_D κ) cy A hw)) (fun r2 σ2 hw => ?_)
  refine g_lcmp C dL_law_592 ?_
  exact g_if_eq C 704 (by decide) hw dL_law_593 (fun hw => g_widen (by omega) (by omega) (hnext _ hw)) (fun hw => hw.elim)
set_option maxHeartbeats 4000000 in
set_option maxRecDepth 100000 in
theorem law_17 {κ : qC} (C : Cx κ code RL gL room_1) {cy : Nat → ClassId} (hK : va_K (q_D κ) vwCl (gty cy) (q_s κ)) {A : Nat → Nat} {b L : Nat} {xs : Nat → Int32} (hX : va_X b L xs (q_s κ) (q_s κ).heap) (hbl : b < (q_s κ).heap.size) (hbA : ¬ q_A κ b) {k n : Nat} (hk : k + 1 ≤ 600000) (hn : n + 3 ≤ 7302250) {v3 : Int32} (h1 : vp_in (v3 + 1) L) (h2 : vp_in (v3 + 2) L) (h3 : vp_in (v3 + 3) L) {σ : St} {Ψ : St → Prop} (hw : wL_17 σ (xs (v3 + 1).toNatClampNeg) (xs (v3 + 2).toNatClampNeg) (xs (v3 + 3).toNatClampNeg) Ψ) (hnext : ∀ σ', Ψ σ' → GW κ (k + 1) (n + 3) (gW cy A σ') 704 [(0, .ref b), (1, .ref (A 0)), (2, .ref (A 18)), (3, .int v3)] []) : GW κ k n (gW cy A σ) 598 [(0, .ref b), (1, .ref (A 0)), (2, .ref (A 18)), (3, .int v3)] [] := by
  unfold wL_17 at hw
  refine g_aload_n C 1 rfl rfl dL_law_598 ?_
  refine g_aload_n C 0 rfl rfl dL_law_599 ?_
  refine g_iload_n C 3 rfl rfl dL_law_600 ?_
  refine g_iconst (v := (1 : Int32)) C dL_law_601 (by decide) ?_
  refine g_iadd C dL_law_602 ?_
  refine g_sld C hX hbl hbA h1 dL_law_603 ?_
  refine g_aload_n C 0 rfl rfl dL_law_604 ?_
  refine g_iload_n C 3 rfl rfl dL_law_605 ?_
  refine g_iconst (v := (2 : Int32)) C dL_law_606 (by decide) ?_
  refine g_iadd C dL_law_607 ?_
  refine g_sld C hX hbl hbA h2 dL_law_608 ?_
  refine g_aload_n C 0 rfl rfl dL_law_609 ?_
  refine g_iload_n C 3 rfl rfl dL_law_610 ?_
  refine g_iconst (v := (3 : Int32)) C dL_law_611 (by decide) ?_
  refine g_iadd C dL_law_612 ?_
  refine g_sld C hX hbl hbA h3 dL_law_613 ?_
  refine gc_I (mc := 0) (ms := 0) C (gr_V (mc := 0) (ms := 0) (As := [.int (xs (v3 + 1).toNatClampNeg), .int (xs (v3 + 2).toNatClampNeg), .int (xs (v3 + 3).toNatClampNeg)]) (rest := []) C hK 3 (gd_V wt_513 wt_514 wt_515 wt_1 wt_516) rfl rfl rfl ⟨rfl, hs_X11_whirls⟩ ⟨⟨Nat.le_of_ble_eq_true rfl, Nat.le_of_ble_eq_true rfl⟩, (by show _ ≤ 600000; omega), (by show _ ≤ 7302250; omega)⟩ rfl 0 (ga_0 cy A _) rfl rfl (Nat.le_of_ble_eq_true rfl) dL_law_614 (c_X11_whirls (q_l κ) (q_D κ) cy A hw)) (fun r1 σ1 hw => ?_)
  refine g_aload_n C 2 rfl rfl dL_law_617 ?_
  refine g_aload_n C 0 rfl rfl dL_law_618 ?_
  refine g_iload_n C 3 rfl rfl dL_law_619 ?_
  refine g_iconst (v := (1 : Int32)) C dL_law_620 (by decide) ?_
  refine g_iadd C dL_law_621 ?_
  refine g_sld C hX hbl hbA h1 dL_law_622 ?_
  refine g_aload_n C 0 rfl rfl dL_law_623 ?_
  refine g_iload_n C 3 rfl rfl dL_law_624 ?_
  refine g_iconst (v := (2 : Int32)) C dL_law_625 (by decide) ?_
  refine g_iadd C dL_law_626 ?_
  refine g_sld C hX hbl hbA h2 dL_law_627 ?_
  refine g_aload_n C 0 rfl rfl dL_law_628 ?_
  refine g_iload_n C 3 rfl rfl dL_law_629 ?_
  refine g_iconst (v := (3 : Int32)) C dL_law_630 (by decide) ?_
  refine g_iadd C dL_law_631 ?_
  refine g_sld C hX hbl hbA h3 dL_law_632 ?_
  refine gc_I (mc := 0) (ms := 0) C (gr_V (mc := 0) (ms := 0) (As := [.int (xs (v3 + 1).toNatClampNeg), .int (xs (v3 + 2).toNatClampNeg), .int (xs (v3 + 3).toNatClampNeg)]) (rest := [.int r1]) C hK 3 (gd_V wt_789 wt_790 wt_791 wt_8 wt_792) rfl rfl rfl ⟨rfl, hs_X12_whirls⟩ ⟨⟨Nat.le_of_ble_eq_true rfl, Nat.le_of_ble_eq_true rfl⟩, (by show _ ≤ 600000; omega), (by show _ ≤ 7302250; omega)⟩ rfl 18 (ga_18 cy A _) rfl rfl (Nat.le_of_ble_eq_true rfl) dL_law_633 (c_X12_whirls (q_l κ) (q_D κ) cy A hw)) (fun r2 σ2 hw => ?_)
  exact g_icmp_eq C 704 (by decide) hw dL_law_636 (fun hw => g_widen (by omega) (by omega) (hnext _ hw)) (fun hw => hw.elim)
set_option maxHeartbeats 4000000 in
set_option maxRecDepth 100000 in
theorem law_18 {κ : qC} (C : Cx κ code RL gL room_1) {cy : Nat → ClassId} (hK : va_K (q_D κ) vwCl (gty cy) (q_s κ)) {A : Nat → Nat} {b L : Nat} {xs : Nat → Int32} (hX : va_X b L xs (q_s κ) (q_s κ).heap) (hbl : b < (q_s κ).heap.size) (hbA : ¬ q_A κ b) {k n : Nat} (hk : k + 1 ≤ 600000) (hn : n + 3 ≤ 7302250) {v3 : Int32} (h1 : vp_in (v3 + 1) L) (h2 : vp_in (v3 + 2) L) (h3 : vp_in (v3 + 3) L) {σ : St} {Ψ : St → Prop} (hw : wL_18 σ (xs (v3 + 1).toNatClampNeg) (xs (v3 + 2).toNatClampNeg) (xs (v3 + 3).toNatClampNeg) Ψ) (hnext : ∀ σ', Ψ σ' → GW κ (k + 1) (n + 3) (gW cy A σ') 704 [(0, .ref b), (1, .ref (A 0)), (2, .ref (A 18)), (3, .int v3)] []) : GW κ k n (gW cy A σ) 641 [(0, .ref b), (1, .ref (A 0)), (2, .ref (A 18)), (3, .int v3)] [] := by
  unfold wL_18 at hw
  refine g_aload_n C 1 rfl rfl dL_law_641 ?_
  refine gc_I (mc := 0) (ms := 0) C (gr_V (mc := 0) (ms := 0) (As := []) (rest := []) C hK 0 (gd_V wt_532 wt_533 wt_534 wt_1 wt_535) rfl rfl rfl ⟨rfl, hs_X11_image⟩ ⟨⟨Nat.le_of_ble_eq_true rfl, Nat.le_of_ble_eq_true rfl⟩, (by show _ ≤ 600000; omega), (by show _ ≤ 7302250; omega)⟩ rfl 0 (ga_0 cy A _) rfl rfl (Nat.le_of_ble_eq_true rfl) dL_law_642 (c_X11_image (q_l κ) (q_D κ) cy A hw)) (fun r1 σ1 hw => ?_)
  refine g_aload_n C 2 rfl rfl dL_law_645 ?_
  refine gc_I (mc := 0) (ms := 0) C (gr_V (mc := 0) (ms := 0) (As := []) (rest := [.int r1]) C hK 0 (gd_V wt_803 wt_804 wt_805 wt_8 wt_806) rfl rfl rfl ⟨rfl, hs_X12_image⟩ ⟨⟨Nat.le_of_ble_eq_true rfl, Nat.le_of_ble_eq_true rfl⟩, (by show _ ≤ 600000; omega), (by show _ ≤ 7302250; omega)⟩ rfl 18 (ga_18 cy A _) rfl rfl (Nat.le_of_ble_eq_true rfl) dL_law_646 (c_X12_image (q_l κ) (q_D κ) cy A hw)) (fun r2 σ2 hw => ?_)
  exact g_icmp_eq C 704 (by decide) hw dL_law_649 (fun hw => g_widen (by omega) (by omega) (hnext _ hw)) (fun hw => hw.elim)
set_option maxHeartbeats 4000000 in
set_option maxRecDepth 100000 in
theorem law_19 {κ : qC} (C : Cx κ code RL gL room_1) {cy : Nat → ClassId} (hK : va_K (q_D κ) vwCl (gty cy) (q_s κ)) {A : Nat → Nat} {b L : Nat} {xs : Nat → Int32} (hX : va_X b L xs (q_s κ) (q_s κ).heap) (hbl : b < (q_s κ).heap.size) (hbA : ¬ q_A κ b) {k n : Nat} (hk : k + 1 ≤ 600000) (hn : n + 3 ≤ 7302250) {v3 : Int32} (h1 : vp_in (v3 + 1) L) (h2 : vp_in (v3 + 2) L) (h3 : vp_in (v3 + 3) L) {σ : St} {Ψ : St → Prop} (hw : wL_19 σ (xs (v3 + 1).toNatClampNeg) (xs (v3 + 2).toNatClampNeg) (xs (v3 + 3).toNatClampNeg) Ψ) (hnext : ∀ σ', Ψ σ' → GW κ (k + 1) (n + 3) (gW cy A σ') 704 [(0, .ref b), (1, .ref (A 0)), (2, .ref (A 18)), (3, .int v3)] []) : GW κ k n (gW cy A σ) 654 [(0, .ref b), (1, .ref (A 0)), (2, .ref (A 18)), (3, .int v3)] [] := by
  unfold wL_19 at hw
  refine g_aload_n C 1 rfl rfl dL_law_654 ?_
  refine gc_I (mc := 0) (ms := 0) C (gr_V (mc := 0) (ms := 0) (As := []) (rest := []) C hK 0 (gd_V wt_540 wt_541 wt_542 wt_1 wt_543) rfl rfl rfl ⟨rfl, hs_X11_restore⟩ ⟨⟨Nat.le_of_ble_eq_true rfl, Nat.le_of_ble_eq_true rfl⟩, (by show _ ≤ 600000; omega), (by show _ ≤ 7302250; omega)⟩ rfl 0 (ga_0 cy A _) rfl rfl (Nat.le_of_ble_eq_true rfl) dL_law_655 (c_X11_restore (q_l κ) (q_D κ) cy A hw)) (fun r1 σ1 hw => ?_)
  refine g_aload_n C 2 rfl rfl dL_law_658 ?_
  refine gc_I (mc := 0) (ms := 0) C (gr_V (mc := 0) (ms := 0) (As := []) (rest := [.int r1]) C hK 0 (gd_V wt_807 wt_808 wt_809 wt_8 wt_810) rfl rfl rfl ⟨rfl, hs_X12_restore⟩ ⟨⟨Nat.le_of_ble_eq_true rfl, Nat.le_of_ble_eq_true rfl⟩, (by show _ ≤ 600000; omega), (by show _ ≤ 7302250; omega)⟩ rfl 18 (ga_18 cy A _) rfl rfl (Nat.le_of_ble_eq_true rfl) dL_law_659 (c_X12_restore (q_l κ) (q_D κ) cy A hw)) (fun r2 σ2 hw => ?_)
  exact g_icmp_eq C 704 (by decide) hw dL_law_662 (fun hw => g_widen (by omega) (by omega) (hnext _ hw)) (fun hw => hw.elim)
set_option maxHeartbeats 4000000 in
set_option maxRecDepth 100000 in
theorem law_20 {κ : qC} (C : Cx κ code RL gL room_1) {cy : Nat → ClassId} (hK : va_K (q_D κ) vwCl (gty cy) (q_s κ)) {A : Nat → Nat} {b L : Nat} {xs : Nat → Int32} (hX : va_X b L xs (q_s κ) (q_s κ).heap) (hbl : b < (q_s κ).heap.size) (hbA : ¬ q_A κ b) {k n : Nat} (hk : k + 1 ≤ 600000) (hn : n + 3 ≤ 7302250) {v3 : Int32} (h1 : vp_in (v3 + 1) L) (h2 : vp_in (v3 + 2) L) (h3 : vp_in (v3 + 3) L) {σ : St} {Ψ : St → Prop} (hw : wL_20 σ (xs (v3 + 1).toNatClampNeg) (xs (v3 + 2).toNatClampNeg) (xs (v3 + 3).toNatClampNeg) Ψ) (hnext : ∀ σ', Ψ σ' → GW κ (k + 1) (n + 3) (gW cy A σ') 704 [(0, .ref b), (1, .ref (A 0)), (2, .ref (A 18)), (3, .int v3)] []) : GW κ k n (gW cy A σ) 667 [(0, .ref b), (1, .ref (A 0)), (2, .ref (A 18)), (3, .int v3)] [] := by
  unfold wL_20 at hw
  refine g_aload_n C 1 rfl rfl dL_law_667 ?_
  refine g_aload_n C 0 rfl rfl dL_law_668 ?_
  refine g_iload_n C 3 rfl rfl dL_law_669 ?_
  refine g_iconst (v := (1 : Int32)) C dL_law_670 (by decide) ?_
  refine g_iadd C dL_law_671 ?_
  refine g_sld C hX hbl hbA h1 dL_law_672 ?_
  refine gc_I (mc := 0) (ms := 0) C (gr_V (mc := 0) (ms := 0) (As := [.int (xs (v3 + 1).toNatClampNeg)]) (rest := []) C hK 1 (gd_V wt_549 wt_550 wt_551 wt_1 wt_552) rfl rfl rfl ⟨rfl, hs_X11_count⟩ ⟨⟨Nat.le_of_ble_eq_true rfl, Nat.le_of_ble_eq_true rfl⟩, (by show _ ≤ 600000; omega), (by show _ ≤ 7302250; omega)⟩ rfl 0 (ga_0 cy A _) rfl rfl (Nat.le_of_ble_eq_true rfl) dL_law_673 (c_X11_count (q_l κ) (q_D κ) cy A hw)) (fun r1 σ1 hw => ?_)
  refine g_aload_n C 2 rfl rfl dL_law_676 ?_
  refine g_aload_n C 0 rfl rfl dL_law_677 ?_
  refine g_iload_n C 3 rfl rfl dL_law_678 ?_
  refine g_iconst (v := (1 : Int32)) C dL_law_679 (by decide) ?_
  refine g_iadd C dL_law_680 ?_
  refine g_sld C hX hbl hbA h1 dL_law_681 ?_
  refine gc_I (mc := 0) (ms := 0) C (gr_V (mc := 0) (ms := 0) (As := [.int (xs (v3 + 1).toNatClampNeg)]) (rest := [.int r1]) C hK 1 (gd_V wt_811 wt_812 wt_813 wt_8 wt_814) rfl rfl rfl ⟨rfl, hs_X12_count⟩ ⟨⟨Nat.le_of_ble_eq_true rfl, Nat.le_of_ble_eq_true rfl⟩, (by show _ ≤ 600000; omega), (by show _ ≤ 7302250; omega)⟩ rfl 18 (ga_18 cy A _) rfl rfl (Nat.le_of_ble_eq_true rfl) dL_law_682 (c_X12_count (q_l κ) (q_D κ) cy A hw)) (fun r2 σ2 hw => ?_)
  exact g_icmp_eq C 704 (by decide) hw dL_law_685 (fun hw => g_widen (by omega) (by omega) (hnext _ hw)) (fun hw => hw.elim)
set_option maxHeartbeats 4000000 in
set_option maxRecDepth 100000 in
theorem law_21 {κ : qC} (C : Cx κ code RL gL room_1) {cy : Nat → ClassId} (hK : va_K (q_D κ) vwCl (gty cy) (q_s κ)) {A : Nat → Nat} {b L : Nat} {xs : Nat → Int32} (hX : va_X b L xs (q_s κ) (q_s κ).heap) (hbl : b < (q_s κ).heap.size) (hbA : ¬ q_A κ b) {k n : Nat} (hk : k + 1 ≤ 600000) (hn : n + 3 ≤ 7302250) {v3 : Int32} (h1 : vp_in (v3 + 1) L) (h2 : vp_in (v3 + 2) L) (h3 : vp_in (v3 + 3) L) {σ : St} {Ψ : St → Prop} (hw : wL_21 σ (xs (v3 + 1).toNatClampNeg) (xs (v3 + 2).toNatClampNeg) (xs (v3 + 3).toNatClampNeg) Ψ) (hnext : ∀ σ', Ψ σ' → GW κ (k + 1) (n + 3) (gW cy A σ') 704 [(0, .ref b), (1, .ref (A 0)), (2, .ref (A 18)), (3, .int v3)] []) : GW κ k n (gW cy A σ) 690 [(0, .ref b), (1, .ref (A 0)), (2, .ref (A 18)), (3, .int v3)] [] := by
  unfold wL_21 at hw
  refine g_aload_n C 1 rfl rfl dL_law_690 ?_
  refine gc_L (mc := 0) (ms := 0) C (gr_V (mc := 0) (ms := 0) (As := []) (rest := []) C hK 0 (gd_V wt_553 wt_554 wt_555 wt_1 wt_556) rfl rfl rfl ⟨rfl, hs_X11_digest⟩ ⟨⟨Nat.le_of_ble_eq_true rfl, Nat.le_of_ble_eq_true rfl⟩, (by show _ ≤ 600000; omega), (by show _ ≤ 7302250; omega)⟩ rfl 0 (ga_0 cy A _) rfl rfl (Nat.le_of_ble_eq_true rfl) dL_law_691 (c_X11_digest (q_l κ) (q_D κ) cy A hw)) (fun r1 σ1 hw => ?_)
  refine g_aload_n C 2 rfl rfl dL_law_694 ?_
  refine gc_L (mc := 0) (ms := 0) C (gr_V (mc := 0) (ms := 0) (As := []) (rest := [.long r1]) C hK 0 (gd_V wt_821 wt_822 wt_823 wt_8 wt_824) rfl rfl rfl ⟨rfl, hs_X12_digest⟩ ⟨⟨Nat.le_of_ble_eq_true rfl, Nat.le_of_ble_eq_true rfl⟩, (by show _ ≤ 600000; omega), (by show _ ≤ 7302250; omega)⟩ rfl 18 (ga_18 cy A _) rfl rfl (Nat.le_of_ble_eq_true rfl) dL_law_695 (c_X12_digest (q_l κ) (q_D κ) cy A hw)) (fun r2 σ2 hw => ?_)
  refine g_lcmp C dL_law_698 ?_
  exact g_if_eq C 704 (by decide) hw dL_law_699 (fun hw => g_widen (by omega) (by omega) (hnext _ hw)) (fun hw => hw.elim)
set_option maxHeartbeats 4000000 in
set_option maxRecDepth 100000 in
theorem law_sw {κ : qC} (C : Cx κ code RL gL room_1) {cy : Nat → ClassId} (hK : va_K (q_D κ) vwCl (gty cy) (q_s κ)) {A : Nat → Nat} {b L : Nat} {xs : Nat → Int32} (hX : va_X b L xs (q_s κ) (q_s κ).heap) (hbl : b < (q_s κ).heap.size) (hbA : ¬ q_A κ b) {k n : Nat} (hk : k + 1 ≤ 600000) (hn : n + 3 ≤ 7302250) {v3 : Int32} (h0 : vp_in v3 L) (h1 : vp_in (v3 + 1) L) (h2 : vp_in (v3 + 2) L) (h3 : vp_in (v3 + 3) L) {σ : St} {Ψ : St → Prop} (hw : wLaw σ (xs v3.toNatClampNeg) (xs (v3 + 1).toNatClampNeg) (xs (v3 + 2).toNatClampNeg) (xs (v3 + 3).toNatClampNeg) Ψ) (hnext : ∀ σ', Ψ σ' → GW κ (k + 1) (n + 3) (gW cy A σ') 704 [(0, .ref b), (1, .ref (A 0)), (2, .ref (A 18)), (3, .int v3)] []) : GW κ k n (gW cy A σ) 26 [(0, .ref b), (1, .ref (A 0)), (2, .ref (A 18)), (3, .int v3)] [] := by
  unfold wLaw at hw
  refine g_aload_n C 0 rfl rfl dL_law_26 ?_
  refine g_iload_n C 3 rfl rfl dL_law_27 ?_
  refine g_sld C hX hbl hbA h0 dL_law_28 ?_
  refine g_bipush (v := (31 : Int32)) C dL_law_29 (by decide) ?_
  refine g_iand C dL_law_31 ?_
  generalize xs v3.toNatClampNeg = c at hw ⊢
  by_cases h9 : (c &&& 31).toInt < 0 ∨ 21 < (c &&& 31).toInt
  · refine g_swOut C 704 h9 (by decide) dL_law_32 ?_
    exact g_widen (by omega) (by omega) (hnext _ (hw.2.2.2.2.2.2.2.2.2.2.2.2.2.2.2.2.2.2.2.2.2.2 h9))
  · rcases (show (c &&& 31).toInt = 0 ∨ (c &&& 31).toInt = 1 ∨ (c &&& 31).toInt = 2 ∨ (c &&& 31).toInt = 3 ∨ (c &&& 31).toInt = 4 ∨ (c &&& 31).toInt = 5 ∨ (c &&& 31).toInt = 6 ∨ (c &&& 31).toInt = 7 ∨ (c &&& 31).toInt = 8 ∨ (c &&& 31).toInt = 9 ∨ (c &&& 31).toInt = 10 ∨ (c &&& 31).toInt = 11 ∨ (c &&& 31).toInt = 12 ∨ (c &&& 31).toInt = 13 ∨ (c &&& 31).toInt = 14 ∨ (c &&& 31).toInt = 15 ∨ (c &&& 31).toInt = 16 ∨ (c &&& 31).toInt = 17 ∨ (c &&& 31).toInt = 18 ∨ (c &&& 31).toInt = 19 ∨ (c &&& 31).toInt = 20 ∨ (c &&& 31).toInt = 21 by omega) with e9 | e9 | e9 | e9 | e9 | e9 | e9 | e9 | e9 | e9 | e9 | e9 | e9 | e9 | e9 | e9 | e9 | e9 | e9 | e9 | e9 | e9
    · exact g_swIn (off := 104) C 0 136 e9 (by decide) (by decide) (by decide) (by decide) dL_law_32 (law_0 C hK hX hbl hbA hk hn h1 h2 h3 (hw.1 (Int32.toInt_inj.mp (e9.trans (by decide)))) hnext)
    · exact g_swIn (off := 157) C 1 189 e9 (by decide) (by decide) (by decide) (by decide) dL_law_32 (law_1 C hK hX hbl hbA hk hn h1 h2 h3 (hw.2.1 (Int32.toInt_inj.mp (e9.trans (by decide)))) hnext)
    · exact g_swIn (off := 170) C 2 202 e9 (by decide) (by decide) (by decide) (by decide) dL_law_32 (law_2 C hK hX hbl hbA hk hn h1 h2 h3 (hw.2.2.1 (Int32.toInt_inj.mp (e9.trans (by decide)))) hnext)
    · exact g_swIn (off := 183) C 3 215 e9 (by decide) (by decide) (by decide) (by decide) dL_law_32 (law_3 C hK hX hbl hbA hk hn h1 h2 h3 (hw.2.2.2.1 (Int32.toInt_inj.mp (e9.trans (by decide)))) hnext)
    · exact g_swIn (off := 196) C 4 228 e9 (by decide) (by decide) (by decide) (by decide) dL_law_32 (law_4 C hK hX hbl hbA hk hn h1 h2 h3 (hw.2.2.2.2.1 (Int32.toInt_inj.mp (e9.trans (by decide)))) hnext)
    · exact g_swIn (off := 229) C 5 261 e9 (by decide) (by decide) (by decide) (by decide) dL_law_32 (law_5 C hK hX hbl hbA hk hn h1 h2 h3 (hw.2.2.2.2.2.1 (Int32.toInt_inj.mp (e9.trans (by decide)))) hnext)
    · exact g_swIn (off := 272) C 6 304 e9 (by decide) (by decide) (by decide) (by decide) dL_law_32 (law_6 C hK hX hbl hbA hk hn h1 h2 h3 (hw.2.2.2.2.2.2.1 (Int32.toInt_inj.mp (e9.trans (by decide)))) hnext)
    · exact g_swIn (off := 305) C 7 337 e9 (by decide) (by decide) (by decide) (by decide) dL_law_32 (law_7 C hK hX hbl hbA hk hn h1 h2 h3 (hw.2.2.2.2.2.2.2.1 (Int32.toInt_inj.mp (e9.trans (by decide)))) hnext)
    · exact g_swIn (off := 338) C 8 370 e9 (by decide) (by decide) (by decide) (by decide) dL_law_32 (law_8 C hK hX hbl hbA hk hn h1 h2 h3 (hw.2.2.2.2.2.2.2.2.1 (Int32.toInt_inj.mp (e9.trans (by decide)))) hnext)
    · exact g_swIn (off := 361) C 9 393 e9 (by decide) (by decide) (by decide) (by decide) dL_law_32 (law_9 C hK hX hbl hbA hk hn h1 h2 h3 (hw.2.2.2.2.2.2.2.2.2.1 (Int32.toInt_inj.mp (e9.trans (by decide)))) hnext)
    · exact g_swIn (off := 384) C 10 416 e9 (by decide) (by decide) (by decide) (by decide) dL_law_32 (law_10 C hK hX hbl hbA hk hn h1 h2 h3 (hw.2.2.2.2.2.2.2.2.2.2.1 (Int32.toInt_inj.mp (e9.trans (by decide)))) hnext)
    · exact g_swIn (off := 407) C 11 439 e9 (by decide) (by decide) (by decide) (by decide) dL_law_32 (law_11 C hK hX hbl hbA hk hn h1 h2 h3 (hw.2.2.2.2.2.2.2.2.2.2.2.1 (Int32.toInt_inj.mp (e9.trans (by decide)))) hnext)
    · exact g_swIn (off := 440) C 12 472 e9 (by decide) (by decide) (by decide) (by decide) dL_law_32 (law_12 C hK hX hbl hbA hk hn h1 h2 h3 (hw.2.2.2.2.2.2.2.2.2.2.2.2.1 (Int32.toInt_inj.mp (e9.trans (by decide)))) hnext)
    · exact g_swIn (off := 463) C 13 495 e9 (by decide) (by decide) (by decide) (by decide) dL_law_32 (law_13 C hK hX hbl hbA hk hn h1 h2 h3 (hw.2.2.2.2.2.2.2.2.2.2.2.2.2.1 (Int32.toInt_inj.mp (e9.trans (by decide)))) hnext)
    · exact g_swIn (off := 496) C 14 528 e9 (by decide) (by decide) (by decide) (by decide) dL_law_32 (law_14 C hK hX hbl hbA hk hn h1 h2 h3 (hw.2.2.2.2.2.2.2.2.2.2.2.2.2.2.1 (Int32.toInt_inj.mp (e9.trans (by decide)))) hnext)
    · exact g_swIn (off := 509) C 15 541 e9 (by decide) (by decide) (by decide) (by decide) dL_law_32 (law_15 C hK hX hbl hbA hk hn h1 h2 h3 (hw.2.2.2.2.2.2.2.2.2.2.2.2.2.2.2.1 (Int32.toInt_inj.mp (e9.trans (by decide)))) hnext)
    · exact g_swIn (off := 532) C 16 564 e9 (by decide) (by decide) (by decide) (by decide) dL_law_32 (law_16 C hK hX hbl hbA hk hn h1 h2 h3 (hw.2.2.2.2.2.2.2.2.2.2.2.2.2.2.2.2.1 (Int32.toInt_inj.mp (e9.trans (by decide)))) hnext)
    · exact g_swIn (off := 566) C 17 598 e9 (by decide) (by decide) (by decide) (by decide) dL_law_32 (law_17 C hK hX hbl hbA hk hn h1 h2 h3 (hw.2.2.2.2.2.2.2.2.2.2.2.2.2.2.2.2.2.1 (Int32.toInt_inj.mp (e9.trans (by decide)))) hnext)
    · exact g_swIn (off := 609) C 18 641 e9 (by decide) (by decide) (by decide) (by decide) dL_law_32 (law_18 C hK hX hbl hbA hk hn h1 h2 h3 (hw.2.2.2.2.2.2.2.2.2.2.2.2.2.2.2.2.2.2.1 (Int32.toInt_inj.mp (e9.trans (by decide)))) hnext)
    · exact g_swIn (off := 622) C 19 654 e9 (by decide) (by decide) (by decide) (by decide) dL_law_32 (law_19 C hK hX hbl hbA hk hn h1 h2 h3 (hw.2.2.2.2.2.2.2.2.2.2.2.2.2.2.2.2.2.2.2.1 (Int32.toInt_inj.mp (e9.trans (by decide)))) hnext)
    · exact g_swIn (off := 635) C 20 667 e9 (by decide) (by decide) (by decide) (by decide) dL_law_32 (law_20 C hK hX hbl hbA hk hn h1 h2 h3 (hw.2.2.2.2.2.2.2.2.2.2.2.2.2.2.2.2.2.2.2.2.1 (Int32.toInt_inj.mp (e9.trans (by decide)))) hnext)
    · exact g_swIn (off := 658) C 21 690 e9 (by decide) (by decide) (by decide) (by decide) dL_law_32 (law_21 C hK hX hbl hbA hk hn h1 h2 h3 (hw.2.2.2.2.2.2.2.2.2.2.2.2.2.2.2.2.2.2.2.2.2.1 (Int32.toInt_inj.mp (e9.trans (by decide)))) hnext)
theorem nI_4 : (4 : Int32) = nI 4 := rfl
theorem law_lim {L j : Nat} (hL : L ≤ 2048) (hj : 4 * j ≤ L) (h : ¬ nI L - 4 < nI (4 * j)) : 4 * j + 4 ≤ L := by
  by_cases h4 : 4 ≤ L
  · have e : nI L - 4 = nI (L - 4) := by
      rw [show L = (L - 4) + 4 by omega, ← nI_add (L - 4) 4, ← nI_4, Nat.add_sub_cancel]
      simp
    rw [e] at h
    by_cases h5 : 4 * j + 4 ≤ L
    · exact h5
    · exact absurd (nI_lt (by omega) (by omega)) h
  · exfalso
    have : j = 0 := by omega
    subst this
    rcases (show L = 0 ∨ L = 1 ∨ L = 2 ∨ L = 3 by omega) with rfl | rfl | rfl | rfl <;> exact h (by decide)
set_option maxHeartbeats 4000000 in
set_option maxRecDepth 100000 in
theorem law_loop {κ : qC} (C : Cx κ code RL gL room_1) (hN4 : q_n κ = 4) {cy : Nat → ClassId} (hK : va_K (q_D κ) vwCl (gty cy) (q_s κ)) {A : Nat → Nat} {b L : Nat} {xs : Nat → Int32} (hX : va_X b L xs (q_s κ) (q_s κ).heap) (hbl : b < (q_s κ).heap.size) (hbA : ¬ q_A κ b) (hL : L ≤ 2048)
    (hret : ∀ (k n : Nat) (ws : va_W) (lv : List (Nat × Value)), k ≤ 600000 → n ≤ 7302250 → GW κ k n ws 711 lv [.int 1])
    {Inv : Nat → St → Prop} (hstep : ∀ j σ c a1 a2 a3, j < 512 → Inv j σ → wLaw σ c a1 a2 a3 (Inv (j + 1))) :
    ∀ (f j : Nat) (σ : St) (v3 : Int32), f + j = 513 → v3 = nI (4 * j) → 4 * j ≤ L → Inv j σ → GW κ (30 + j) (363 + 3 * j) (gW cy A σ) 18 [(0, .ref b), (1, .ref (A 0)), (2, .ref (A 18)), (3, .int v3)] [] := by
  intro f
  induction f with
  | zero => intro j σ v3 h; omega
  | succ f ih =>
    intro j σ v3 hf hv hjL hI
    refine g_iload_n C 3 rfl rfl dL_law_18 ?_
    refine g_aload_n C 0 rfl rfl dL_law_19 ?_
    refine g_slen C hX hbl hbA dL_law_20 ?_
    refine g_iconst (v := (4 : Int32)) C dL_law_21 (by decide) ?_
    refine g_isub C dL_law_22 ?_
    by_cases hc : nI L - 4 < v3
    · refine g_icmp_gt (wa := True) (wb := False) C 710 (by decide) (by rw [if_pos hc]; trivial) dL_law_23 (fun _ => ?_) (fun h => h.elim)
      refine g_iconst (v := (1 : Int32)) C dL_law_710 (by decide) ?_
      exact hret _ _ _ _ (by omega) (by omega)
    · refine g_icmp_gt (wa := False) (wb := True) C 710 (by decide) (by rw [if_neg hc]; trivial) dL_law_23 (fun h => h.elim) (fun _ => ?_)
      have hlim : 4 * j + 4 ≤ L := law_lim hL hjL (by rw [← hv]; exact hc)
      have h0 : vp_in v3 L := by rw [hv]; exact vp_in_nI (by omega) (by omega)
      have h1 : vp_in (v3 + 1) L := by rw [hv, show (1 : Int32) = nI 1 from rfl, nI_add]; exact vp_in_nI (by omega) (by omega)
      have h2 : vp_in (v3 + 2) L := by rw [hv, show (2 : Int32) = nI 2 from rfl, nI_add]; exact vp_in_nI (by omega) (by omega)
      have h3 : vp_in (v3 + 3) L := by rw [hv, show (3 : Int32) = nI 3 from rfl, nI_add]; exact vp_in_nI (by omega) (by omega)
      refine law_sw C hK hX hbl hbA (by omega) (by omega) h0 h1 h2 h3 (hstep j σ _ _ _ _ (by omega) hI) (fun σ' hI' => ?_)
      refine g_iinc (j := 3) C [(3, .int (v3 + 4)), (0, .ref b), (1, .ref (A 0)), (2, .ref (A 18))] hN4 rfl rfl (by decide) rfl dL_law_704 ?_
      refine g_goto C 18 (by decide) dL_law_707 ?_
      refine g_eql (lv' := [(0, .ref b), (1, .ref (A 0)), (2, .ref (A 18)), (3, .int (v3 + 4))]) [1, 2, 3, 0] rfl ?_
      exact ih (j + 1) σ' (v3 + 4) (by omega) (by rw [hv, nI_4, nI_add]; rfl) (by omega) hI'

