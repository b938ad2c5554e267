/-! PURE PART J: whirls: the law's own hours, and the class's -/
theorem wr_eq {V V' : Nat → Nat → Int32} {nt : Nat} {sp bears : Int32} (h : V' 18 = V 18) : ∀ n l p h br s, wr V' nt sp bears n l p h br s = wr V nt sp bears n l p h br s
  | 0, l, p, h, br, s => by rw [wr, wr]
  | n + 1, l, p, hh, br, s => by
    have e : ∀ z l', brS V' nt z sp l' bears = brS V nt z sp l' bears := fun z l' => by
      unfold brS cab2 cabV
      rw [h]
    rw [wr, wr, e, wr_eq h n]
theorem br01 (V : Nat → Nat → Int32) (nt hh : Nat) (sp l bears : Int32) : brS V nt hh sp l bears = 0 ∨ brS V nt hh sp l bears = 1 := by
  unfold brS
  split
  · exact Or.inl rfl
  · exact Or.inr rfl
/-- the second row of the law, and where its hours stand -/
def TH (σ τ : St) (nt s b : Nat) (l : Int32) (p h : Nat) (br : Int32) : Prop := Sim σ τ ∧ RA (σ.1 18) (τ.1 19) ∧ τ.1 19 0 = l ∧ τ.1 19 1 = nI s ∧ τ.1 19 2 = nI b ∧ τ.1 19 4 = nI p ∧ τ.1 19 5 = nI h ∧ τ.1 19 6 = br ∧ τ.1 19 7 = nI nt
theorem lN_seed {sd : Nat} (hs : sd < 2 ^ 31) : ((1103515245 : Int64) * lN sd + 12345) - ((1103515245 : Int64) * lN sd + 12345) / 2147483648 * 2147483648 = lN (sdN sd) := by
  rw [show (1103515245 : Int64) = lN 1103515245 from rfl, lN_mul, show (12345 : Int64) = lN 12345 from rfl, lN_add, show (2147483648 : Int64) = lN 2147483648 from rfl, lN_rem (by omega) (by omega) (by omega)]
  rfl
theorem lN_way {sd : Nat} (hs : sd < 2 ^ 31) : (lN sd / 65536 - lN sd / 65536 / 7 * 7).toInt32 = nI (sd / 65536 % 7) := by
  rw [show (65536 : Int64) = lN 65536 from rfl, show (7 : Int64) = lN 7 from rfl, lN_div (by omega) (by omega) (by omega), lN_rem (by omega) (by omega) (by omega), lN_i]
set_option maxHeartbeats 4000000 in
theorem l_hours {K80 : St → Nat → Int32 → Prop} {L : Nat} {xs : Nat → Int32} {σ : St} {kk nt hh s b p N : Nat} {v5 v14 : Int32} {R : Int32 × Nat × Nat × Nat} (hI : PI σ nt hh s b p) (hh6 : hh ≤ 600) (hN : N ≤ 60)
    (hn : ∀ τ br g, TH σ τ nt s b R.1 R.2.1 R.2.2.1 br → R.2.2.1 = hh + g → R.2.2.2 < 2 ^ 31 → wL_law_835 K80 L xs τ kk v5 (nI N) v14 (lN R.2.2.2) (nI g)) :
    ∀ m g, g + m = N → ∀ τ l p' br sd, TH σ τ nt s b l p' (hh + g) br → (10 ≤ l ∧ l ≤ 40) → p' < 360 → (br = 0 ∨ br = 1) → sd < 2 ^ 31 → wr σ.1 nt (nI s) (nI b) m l p' (hh + g) br sd = R → wL_law_722 K80 L xs (m + 1) τ kk v5 (nI N) v14 (lN sd) (nI g) := by
  obtain ⟨hpg, hW, ⟨r0, r1, r2, r3, r4, r5, r6, r7⟩, ⟨hT, hB, h34⟩, hP, hinj⟩ := hI
  have hs3 := hW.2.2.1
  have hn6 := hT.1
  intro m
  induction m with
  | zero =>
    intro g hg τ l p' br sd hH hl hp hbr hsd hwr
    have : g = N := by omega
    subst this
    rw [wL_law_722, if_pos (nI_le (Nat.le_refl _) (by omega))]
    rw [wr] at hwr
    subst hwr
    exact hn τ br g hH rfl hsd
  | succ m ih =>
    intro g hg τ l p' br sd hH hl hp hbr hsd hwr
    have hH' := hH
    obtain ⟨hS, hRA, t0, t1, t2, t4, t5, t6, t7⟩ := hH'
    rw [wL_law_722, if_neg (nI_ge (by omega) (by omega)), cl6, t6]
    refine ⟨vi 6 (by omega), ?_⟩
    by_cases hb : br = 0
    · rw [if_pos hb]
      rw [wr, if_pos hb] at hwr
      rw [lN_seed hsd, lN_way (sdN_lt sd)]
      refine ⟨by decide, by decide, by decide, ?_⟩
      have hw := wrL_in (s := sd) hl
      obtain ⟨t, u1, u2⟩ := turns_nat (s := s) hs3 hw
      rw [u1, nI_clamp (show t < 2 ^ 31 by omega)] at hwr
      have hB1 : TB (fun _ => σ.1 18) nt (hh + g + 1) := TB.up (V := fun _ => σ.1 18) hB (by omega) (by omega)
      -- the hour itself
      have kh : ∀ d : Int32, l - d = wrL l sd → wL_law_810 K80 (wL_law_722 K80 L xs (m + 1)) L xs τ kk v5 (nI N) v14 (lN (sdN sd)) (nI g) d := by
        intro d hd
        unfold wL_law_810
        refine l_hour19 (r := σ.1 18) (nt := nt) (hh := hh + g) (s := s) (b := b) (p := p') (t := t) (l := wrL l sd) (br := brS σ.1 nt (hh + g + 1) (nI s) (wrL l sd) (nI b)) hRA hn6 t7 hP hB1 (by rw [t0]; exact hd) hw t1 t2 t4 hp t5 u1 u2 rfl ?_
        have hle : (-1 : Int32) ≤ (if brS σ.1 nt (hh + g + 1) (nI s) (wrL l sd) (nI b) = 0 then wrL l sd else -1) := by
          split
          · have := hw.1
            grind
          · decide
        rw [if_pos hle]
        unfold wL_law_829
        rw [nI_1]
        have hS1 : ∀ {a : Nat} {v : Int32} {μ : St}, Sim σ μ → Sim σ (sV μ 19 a v) := fun h => sm_sV h (Or.inr rfl)
        refine ih (g + 1) (by omega) _ (wrL l sd) (placeN p' t) _ (sdN sd) ⟨hS1 (hS1 (hS1 (hS1 hS))), ra_sV (ra_sV (ra_sV (ra_sV hRA (by omega)) (by omega)) (by omega)) (by omega), rfl, t1, t2, rfl, rfl, rfl, t7⟩ hw (Nat.mod_lt _ (by omega)) (br01 _ _ _ _ _ _) (sdN_lt sd) hwr
      -- which hour
      have kd : ∀ d : Int32, d = wdS (nI (sdN sd / 65536 % 7)) → wL_law_780 K80 (wL_law_722 K80 L xs (m + 1)) L xs τ kk v5 (nI N) v14 (lN (sdN sd)) (nI g) d := by
        intro d hd
        unfold wL_law_780 wL_law_809
        rw [cl0, t0]
        refine ⟨vi 0 (by omega), ?_⟩
        have hwr' : wrL l sd = if 10 ≤ l - d ∧ l - d ≤ 40 then l - d else l := by rw [hd]; rfl
        by_cases z1 : l - d ≤ 9
        · rw [if_pos z1]
          rw [if_neg (by grind)] at hwr'
          exact kh 0 (by rw [hwr']; exact Int32.sub_zero l)
        · rw [if_neg z1]
          refine ⟨vi 0 (by omega), ?_⟩
          by_cases z2 : 41 ≤ l - d
          · rw [if_pos z2]
            rw [if_neg (by grind)] at hwr'
            exact kh 0 (by rw [hwr']; exact Int32.sub_zero l)
          · rw [if_neg z2]
            rw [if_pos (by grind)] at hwr'
            exact kh d hwr'.symm
      by_cases z : (4 : Int32) ≤ nI (sdN sd / 65536 % 7)
      · rw [if_pos z]
        exact kd _ (by unfold wdS; rw [if_neg (by grind)])
      · rw [if_neg z]
        exact kd _ (by unfold wdS; rw [if_pos (by grind)])
    · rw [if_neg hb]
      rw [wr_0 hb] at hwr
      subst hwr
      exact hn τ br g hH rfl hsd
theorem l_copy {K80 : St → Nat → Int32 → Prop} {L : Nat} {xs : Nat → Int32} {σ : St} {kk : Nat} {v5 v13 v14 : Int32} {v15 : Int64} (hn : ∃ n0, wL_law_722 K80 L xs n0 (rowW σ.1 19 32 (σ.1 18), σ.2) kk v5 v13 v14 v15 0) : ∃ n0, wL_law_698 K80 L xs n0 σ kk v5 v13 v14 v15 0 := by
  have key : ∀ m i, i + m = 32 → wL_law_698 K80 L xs (m + 1) (rowW σ.1 19 i (σ.1 18), σ.2) kk v5 v13 v14 v15 (nI i) := by
    intro m
    induction m with
    | zero =>
      intro i hi
      have : i = 32 := by omega
      subst this
      rw [wL_law_698, if_pos (show (32 : Int32) ≤ nI 32 by decide)]
      exact hn
    | succ m ih =>
      intro i hi
      have ih' := ih (i + 1) (by omega)
      rw [wL_law_698, if_neg (show ¬ (32 : Int32) ≤ nI i from nI_ge (b := 32) (by omega) (by omega)), nI_clamp (show i < 2 ^ 31 by omega), nI_1]
      refine ⟨vi i (by omega), vi i (by omega), ?_⟩
      rw [← rowW_s] at ih'
      exact ih'
  have k0 := key 32 0 (by omega)
  rw [rowW_0] at k0
  exact ⟨33, k0⟩
theorem row19 (σ : St) : Sim σ (rowW σ.1 19 32 (σ.1 18), σ.2) ∧ ∀ k, k < 32 → ((rowW σ.1 19 32 (σ.1 18), σ.2) : St).1 19 k = σ.1 18 k := by
  refine ⟨⟨fun k h1 h2 => ?_, rfl⟩, fun k hk => ?_⟩
  · funext j
    show rowW σ.1 19 32 (σ.1 18) k j = σ.1 k j
    unfold rowW
    rw [if_neg (fun q => h2 q.1)]
  · show rowW σ.1 19 32 (σ.1 18) 19 k = σ.1 18 k
    unfold rowW
    rw [if_pos ⟨rfl, hk⟩]
set_option maxHeartbeats 4000000 in
theorem l_649 {K80 : St → Nat → Int32 → Prop} {L : Nat} {xs : Nat → Int32} {σ : St} {kk nt hh s b p x tt : Nat} (hL : L < 2 ^ 31) (hI : PI σ nt hh s b p) (hh6 : hh ≤ 600) (hx : x < 2 ^ 31) (htt : tt < 44) (hK : ∀ τ, PI τ nt hh s b p → K80 τ kk (nI (tt + 1))) : ∀ r : Int32, wL_law_649 K80 L xs σ kk (nI tt) (nI x) r r := by
  intro r
  unfold wL_law_649
  rw [if_pos rfl]
  have hfin : ∀ τ, PI τ nt hh s b p → wL_law_953 K80 L xs τ kk (nI tt) := fun τ h => by
    unfold wL_law_953
    rw [nI_1]
    exact hK τ h
  refine ⟨by decide, ?_⟩
  have e6 : nI tt - nI tt / 6 * 6 = nI (tt % 6) := pk_rem (d := 6) (by omega) (by omega) (by omega)
  have d6 : nI tt / 6 = nI (tt / 6) := pk_div (d := 6) (by omega) (by omega) (by omega)
  rw [e6, d6]
  by_cases h2 : nI (tt % 6) = 2
  · rw [if_pos h2]
    have a1 : nI x / 512 = nI (x / 512) := pk_div (d := 512) hx (by omega) (by omega)
    have a2 : nI (x / 512) - nI (x / 512) / 60 * 60 = nI (x / 512 % 60) := pk_rem (d := 60) (by omega) (by omega) (by omega)
    have a3 : (1 : Int32) + nI (x / 512 % 60) = nI (1 + x / 512 % 60) := nI_add 1 _
    have a4 : (52 : Int32) + nI (tt / 6) = nI (52 + tt / 6) := nI_add 52 _
    rw [a1, a2, a3, a4]
    refine ⟨by decide, by decide, by decide, nI_pos (by omega), ?_⟩
    obtain ⟨sd, sd1, hsd⟩ : ∃ sd, sd < 2 ^ 31 ∧ cellV xs L (nI (52 + tt / 6)) = nI sd := by
      obtain ⟨j, j1, j2⟩ := pk_andE (if nI L ≤ nI (52 + tt / 6) then 7919 * nI (52 + tt / 6) + 13 else xs (nI (52 + tt / 6)).toNatClampNeg) (m := 2147483647) 31 (by decide)
      exact ⟨j, j1, j2⟩
    rw [hsd, nI_l sd1]
    obtain ⟨N, hN⟩ : ∃ N, N = 1 + x / 512 % 60 := ⟨_, rfl⟩
    rw [← hN]
    have hN1 : 1 ≤ N := by omega
    have hN2 : N ≤ 60 := by omega
    clear hN a1 a2 a3
    refine l_copy ?_
    obtain ⟨hS, h19⟩ := row19 σ
    have hI' := hI
    obtain ⟨hpg, hW, ⟨r0, r1, r2, r3, r4, r5, r6, r7⟩, hR, hP, hinj⟩ := hI'
    have q6 := hW.2.2.2.2.2.2.2.2
    obtain ⟨R, hRw⟩ : ∃ R, wr σ.1 nt (nI s) (nI b) N (σ.1 3 0) p hh (σ.1 3 6) sd = R := ⟨_, rfl⟩
    refine ⟨N + 1, l_hours (R := R) (σ := σ) hI hh6 hN2 ?_ N 0 (by omega) _ (σ.1 3 0) p (σ.1 3 6) sd ⟨hS, fun k h1 h2 => h19 k h2, (h19 0 (by omega)).trans r0, (h19 1 (by omega)).trans r1, (h19 2 (by omega)).trans r2, (h19 4 (by omega)).trans r4, (h19 5 (by omega)).trans r5, (h19 6 (by omega)).trans r6, (h19 7 (by omega)).trans r7⟩ hW.1 hW.2.2.2.2.2.2.1 q6 sd1 hRw⟩
    intro τ br g hH hg hR4
    obtain ⟨hSt, -, t0, -, -, t4, -, -, -⟩ := hH
    have hIt := sm_pi hSt hI
    have e186 : τ.1 18 6 = σ.1 3 6 := (congrFun (hSt.1 18 (by omega) (by omega)) 6).trans r6
    unfold wL_law_835
    rw [cl6, e186]
    refine ⟨vi 6 (by omega), ?_⟩
    by_cases z : σ.1 3 6 = 0
    · rw [if_neg (by rw [z]; decide)]
      -- the WIRE is whole: what whirls tells is what the law's hours came to
      have hw : ∀ (μ : St) (v : Int32) (Ψ : Int32 → St → Prop), Sim0 τ μ → 0 ≤ v ∧ v ≤ 3 → (∀ ν, Sim0 τ ν → Ψ (whR R hh v) ν) → wX11_whirls μ (nI N) (nI sd) v Ψ := by
        intro μ v Ψ hM hv hΨ
        have hSm : Sim σ μ := sm_tr hSt (sm_of hM)
        have hIm := sm_pi hSm hI
        have e3 : μ.1 3 = σ.1 3 := hSm.1 3 (by omega) (by omega)
        have e18 : μ.1 18 = σ.1 18 := hSm.1 18 (by omega) (by omega)
        refine x_whirls (nt := nt) (s := s) (b := b) (p := p) (hh := hh) hIm.2.2.2.1 hh6 hIm.2.1 (by rw [e3]; exact z) hN1 hN2 sd1 hv (fun ν hν => ?_)
        rw [wr_eq e18, e3, ← z, hRw]
        exact hΨ ν ⟨fun k hk => (hν.1 k hk).trans (hM.1 k hk), hν.2.trans hM.2⟩
      have z0 : (0 : Int32) = 0 := rfl
      unfold wL_law_848
      refine hw τ 0 _ ⟨fun _ _ => rfl, rfl⟩ (by decide) (fun τ1 h1 => ?_)
      rw [if_pos rfl, cl0]
      refine ⟨vi 0 (by omega), ?_⟩
      unfold wL_law_872
      rw [if_pos (show whR R hh 0 = τ1.1 19 0 by rw [congrFun (h1.1 19 (by omega)) 0, t0]; simp [whR])]
      refine hw τ1 1 _ h1 (by decide) (fun τ2 h2 => ?_)
      rw [if_pos rfl, cl4]
      refine ⟨vi 4 (by omega), ?_⟩
      unfold wL_law_897
      rw [if_pos (show whR R hh 1 = τ2.1 19 4 by rw [congrFun (h2.1 19 (by omega)) 4, t4]; simp [whR])]
      refine hw τ2 2 _ h2 (by decide) (fun τ3 h3 => ?_)
      rw [if_pos rfl]
      unfold wL_law_921
      have eg : whR R hh 2 = nI g := by
        have : nI (hh + g) - nI hh = nI g := by rw [nI_sub (by omega)]; congr 1; omega
        simpa [whR, hg] using this
      rw [if_pos eg]
      refine hw τ3 3 _ h3 (by decide) (fun τ4 h4 => ?_)
      rw [if_pos rfl]
      unfold wL_law_947
      have e3 : whR R hh 3 = nI R.2.2.2 := by simp [whR]
      rw [e3, nI_l hR4, lg_cmp_self, if_pos rfl]
      exact hfin τ4 (sm_pi (sm_tr hSt (sm_of h4)) hI)
    · have z1 : σ.1 3 6 = 1 := q6.resolve_left z
      rw [if_pos z1]
      have e36 : ¬ τ.1 3 6 = 0 := by rw [congrFun (hSt.1 3 (by omega) (by omega)) 6]; exact z
      have w1 : ¬ (1 : Int32) = 0 := by decide
      unfold wL_law_848
      refine x_whirlsS e36 hN1 hN2 sd1 (by decide) ?_
      rw [if_neg w1]
      unfold wL_law_872
      rw [if_pos rfl]
      refine x_whirlsS e36 hN1 hN2 sd1 (by decide) ?_
      rw [if_neg w1]
      unfold wL_law_897
      rw [if_pos rfl]
      refine x_whirlsS e36 hN1 hN2 sd1 (by decide) ?_
      rw [if_neg w1]
      unfold wL_law_921
      rw [if_pos rfl]
      refine x_whirlsS e36 hN1 hN2 sd1 (by decide) ?_
      rw [if_neg w1]
      unfold wL_law_947
      rw [if_pos (by decide)]
      exact hfin τ hIt
  · rw [if_neg h2]
    exact hfin σ hI
