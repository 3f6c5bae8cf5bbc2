/-! the class's rows: gatherRows -/
abbrev DQ (a k : Nat) : Prop := (a = 12 ∧ 3 ≤ k) ∨ a = 7 ∨ (a = 5 ∧ k = 3) ∨ (a = 13 ∧ k = 10) ∨ a = 17 ∨ a = 18 ∨ a = 19
def GS (S W : Wd) (N : Nat → Int32) (n m : Nat) : Prop := RD W N n m ∧ Ag DQ S W ∧ (wI W 5 3 = wI S 5 3 ∨ wI W 5 3 = wI S 1 5)
theorem GI_ag {N : Nat → Int32} {m l fr k : Nat} {W V : Wd} (hA : Ag DR W V) (h : GI N m l fr W k) : GI N m l fr V k := by
  obtain ⟨g1, g2⟩ := h
  refine ⟨by rw [hA.2.2.2 13 10 (by omega)]; exact g1, fun r hr hi => ?_⟩
  rw [hA.arr (a := 17) (by omega), hA.arr (a := 18) (by omega), hA.arr (a := 19) (by omega)]
  exact g2 r hr hi
theorem gs_run {S W V : Wd} {N : Nat → Int32} {n m : Nat} (h : GS S W N n m) (hA : Ag DR W V) (hR : RD V N n m) (h5 : wI V 5 3 = wI W 1 5) : GS S V N n m := by
  obtain ⟨h1, h2, h3⟩ := h
  exact ⟨hR, h2.trans (hA.mono (by omega)), Or.inr (h5.trans (h2.2.2.2 1 5 (by omega)))⟩
theorem gs_add {S W V : Wd} {N : Nat → Int32} {n m : Nat} (h : GS S W N n m) (hA : Ag (fun a k => (a = 13 ∧ k = 10) ∨ a = 17 ∨ a = 18 ∨ a = 19) W V) : GS S V N n m := by
  obtain ⟨h1, h2, h3⟩ := h
  refine ⟨rd_ag h1 hA (by omega), h2.trans (hA.mono (by omega)), ?_⟩
  rw [hA.2.2.2 5 3 (by omega)]
  exact h3
theorem ag_add {W : Wd} {c : Nat} {a b v w : Int32} : Ag (fun a k => (a = 13 ∧ k = 10) ∨ a = 17 ∨ a = 18 ∨ a = 19) W (sI (sI (sI (sI W 17 c a) 18 c b) 19 c v) 13 10 w) :=
  (((Ag.sI (Or.inr (Or.inl rfl))).trans (Ag.sI (Or.inr (Or.inr (Or.inl rfl))))).trans (Ag.sI (Or.inr (Or.inr (Or.inr rfl))))).trans (Ag.sI (Or.inl ⟨rfl, rfl⟩))
theorem e_gatStep {S W : Wd} {N : Nat → Int32} {n m l fr : Nat} (hfr : fr < 256) (h : GS S W N n m) (hl : l < n) {one q : Nat} (ho : one < m) (hq : q ≤ m) (hG : GI N m l fr W (9 * (one + 1) + q)) : ∃ W', ru B_X2_gatherRows (2, [13], [nI l, nI (ftN N l m &&& fr), zI (vlZ N m l 0), nI one, nI q - 1], W) = ru B_X2_gatherRows (2, [13], [nI l, nI (ftN N l m &&& fr), zI (vlZ N m l 0), nI one, nI (q + 1) - 1], W') ∧ GS S W' N n m ∧ GI N m l fr W' (9 * (one + 1) + (q + 1)) := by
  obtain ⟨hRD, hA, h53⟩ := id h
  have hI := hRD.1.1
  obtain ⟨h65, hF⟩ := id hI
  obtain ⟨v9, v11⟩ := rd_cnt hRD
  have hf := hRD.2.2.2.2
  have m8 := hf.2.1
  have n6 := hf.1
  have hcnt : f_X8_count W 10 = some (nI m, W) := by rw [e_count hI tb10, v11]
  have hft := ft_lt N l m8
  have hmy : ftN N l m &&& fr < 256 := Nat.lt_of_le_of_lt Nat.and_le_left hft
  generalize hr0 : 9 * (one + 1) + q = r at *
  have hr : r < 81 := by omega
  have d9 : r / 9 = one + 1 := by omega
  have m9 : r % 9 = q := by omega
  have eO : rO r = some one := by unfold rO; rw [if_neg (by omega), d9]; rfl
  have e4 : nI one = ans (rO r) := by rw [eO]; rfl
  have e5 : nI q - 1 = ans (rT r) := by have := an_T1 hr; rwa [m9] at this
  have e6 : ans (rT r) + 1 = nI (q + 1) - 1 := by rw [← e5, Int32.sub_add_cancel, nI_pred]
  have key := may_is (N := N) (l := l) (fr := fr) hr (show r / 9 ≠ 0 by omega) (show r / 9 ≤ m by omega) (show r % 9 ≤ m by omega)
  have hne : r ≠ 0 := by omega
  have notinc : ¬ (isB N m l r = true ∧ dfN (stN r) fr = 0) → incB N m l fr r = false := by
    intro hno
    cases hi : incB N m l fr r with
    | false => rfl
    | true =>
      obtain ⟨i1, i2, -⟩ := inc_rg hi hne
      rw [rg_is, Bool.and_eq_true] at i1
      exact absurd ⟨i1.1, i2⟩ hno
  have skipI : ∀ {V : Wd}, GI N m l fr V r → incB N m l fr r = false → GI N m l fr V (r + 1) := fun hg hi => GI_skip (by omega) (fun r' a b => by rw [show r' = r by omega]; exact hi) hg
  rw [show 9 * (one + 1) + (q + 1) = r + 1 by omega]
  have base : B_X2_gatherRows (2, [13], [nI l, nI (ftN N l m &&& fr), zI (vlZ N m l 0), nI one, nI q - 1], W) = B_X2_gatherRows_2 W 13 (nI l) (nI (ftN N l m &&& fr)) (zI (vlZ N m l 0)) (nI one) (nI q - 1) := rfl
  have b4 : f_X2_bitOf W (nI one) = some (nI (2 ^ one), W) := e_bitOf W (o := some one) (show one < 8 by omega)
  have b5 : f_X2_bitOf W (ans (rT r)) = some (nI (bitO (rT r)), W) := e_bitOf W (op8T hr)
  have nm : ¬ nI m ≤ ans (rT r) := fun hh => (nle_rT m8).mp hh (by omega)
  have skip : B_X2_gatherRows (2, [13], [nI l, nI (ftN N l m &&& fr), zI (vlZ N m l 0), nI one, nI q - 1], W) = some (.inr (2, [13], [nI l, nI (ftN N l m &&& fr), zI (vlZ N m l 0), nI one, nI (q + 1) - 1], W)) → ¬ (isB N m l r = true ∧ dfN (stN r) fr = 0) → ∃ W', ru B_X2_gatherRows (2, [13], [nI l, nI (ftN N l m &&& fr), zI (vlZ N m l 0), nI one, nI q - 1], W) = ru B_X2_gatherRows (2, [13], [nI l, nI (ftN N l m &&& fr), zI (vlZ N m l 0), nI one, nI (q + 1) - 1], W') ∧ GS S W' N n m ∧ GI N m l fr W' (r + 1) := fun hs hno => ⟨W, ru_step hs, h, skipI hG (notinc hno)⟩
  by_cases c1 : q = one + 1
  · refine skip ?_ (fun hh => (key.mpr hh).1 (by omega))
    rw [base]
    unfold B_X2_gatherRows_2
    simp (decide := true) only [gd_ob h65, hF, Option.bind_some, hcnt, bd2_eq]
    rw [e5, if_neg nm, if_pos (show nI one = ans (rT r) by rw [← e5, c1, nI_pred]), e6]
  have c1' : ¬ nI one = ans (rT r) := by
    intro hh
    rw [← e5] at hh
    have h2 : nI one + 1 = nI q := by rw [hh, Int32.sub_add_cancel]
    rw [nI_1] at h2
    have := (nI_eq (by omega) (by omega)).mp h2
    omega
  by_cases c2 : (ftN N l m &&& fr).testBit one = false
  · refine skip ?_ (fun hh => by
      have := (key.mpr hh).2.1
      rw [show r / 9 - 1 = one by omega, c2] at this
      cases this)
    rw [base]
    unfold B_X2_gatherRows_2
    simp (decide := true) only [gd_ob h65, hF, Option.bind_some, hcnt, bd2_eq]
    rw [e5, if_neg nm, if_neg c1', b4, bd2_eq, if_pos ((pw_and (show one < 8 by omega)).mpr c2), e6]
  have c2' : (ftN N l m &&& fr).testBit one = true := by
    cases hx : (ftN N l m &&& fr).testBit one with
    | true => rfl
    | false => exact absurd hx c2
  by_cases c3 : sub (bitO (rT r)) (ftN N l m &&& fr)
  · have hok := key.mp ⟨by omega, by rw [show r / 9 - 1 = one by omega]; exact c2', c3⟩
    obtain ⟨q1, q2, q3, q4⟩ := is_facts hok.1
    obtain ⟨V, v1, v2, v3, v4, v5, v6, v7⟩ := e_runR hRD hl (op_rO q2) (op_rT q3)
    have v1' : f_X0_run W 12 (nI l) (nI one) (ans (rT r)) = some (nI (runN (wyN N) (loN N l) (ldN N) (rO r) (rT r)).1, V) := by rw [e4]; exact v1
    have rb : f_X2_rowBy V (nI one) (ans (rT r)) = some (nI (rwN r), V) := by rw [e4]; exact e_rowBy V hr
    have hV := v3.1.1
    obtain ⟨V65, hVF⟩ := id hV
    have c4 := (runN_ok (w := wyN N) (fac_lo hf hl).1 (fac_lo hf hl).2.1 (fac_lo hf hl).2.2.1 (fac_ld hf) (op_rO q2) (op_rT q3)).2
    have hGV := GI_ag v2 hG
    have hGS := gs_run h v2 v3 v6
    have vb := vl_b hf (l := l) (r := r) hl
    have vb0 := vl_b hf (l := l) (r := 0) hl
    have pre : ∀ {R : Option (Wd ⊕ Cs)}, (if nI (runN (wyN N) (loN N l) (ldN N) (rO r) (rT r)).1 = 0 then (gd (ob V 13 2) (Option.bind (wO V 13 3) (fun q66 => gd (ob V q66 0) (bd2 (f_X0_value V q66) (fun r71 S69 => if r71 ≤ zI (vlZ N m l 0) then (some (.inr (2, [13], [nI l, nI (ftN N l m &&& fr), zI (vlZ N m l 0), nI one, (ans (rT r) + (1 : Int32))], S69))) else (bd2 (f_X2_rowBy S69 (nI one) (ans (rT r))) (fun r75 S74 => gd (ob S74 13 2) (Option.bind (wO S74 13 3) (fun q77 => gd (ob S74 q77 0) (bd2 (f_X0_value S74 q77) (fun r82 S80 => gd (ob S80 13 2) (Option.bind (f_X2_addRow S80 13 r75 r82) (fun S84 => some (.inr (2, [13], [nI l, nI (ftN N l m &&& fr), zI (vlZ N m l 0), nI one, (ans (rT r) + (1 : Int32))], S84))))))))))))))) else (some (.inr (2, [13], [nI l, nI (ftN N l m &&& fr), zI (vlZ N m l 0), nI one, (ans (rT r) + (1 : Int32))], V)))) = R → B_X2_gatherRows (2, [13], [nI l, nI (ftN N l m &&& fr), zI (vlZ N m l 0), nI one, nI q - 1], W) = R := by
      intro R hR
      rw [base]
      unfold B_X2_gatherRows_2
      simp (decide := true) only [gd_ob h65, hF, Option.bind_some, hcnt, bd2_eq]
      rw [e5, if_neg nm, if_neg c1', b4, bd2_eq, if_neg (fun hh => by have := (pw_and (show one < 8 by omega)).mp hh; rw [c2'] at this; cases this), b5, bd2_eq, if_pos ((sub_test (bitO_lt (op8T hr))).mpr c3)]
      simp (decide := true) only [gd_ob h65, hF, Option.bind_some, v1', bd2_eq]
      exact hR
    by_cases c5 : (runN (wyN N) (loN N l) (ldN N) (rO r) (rT r)).1 = 0
    · have hrg : rgB N m l r = true := by
        rw [rg_is, Bool.and_eq_true]
        exact ⟨hok.1, decide_eq_true c5⟩
      have hvl : ((pyO (ldN N) (rO r) + pyO (ldN N) (rT r) : Nat) : Int) - ((runN (wyN N) (loN N l) (ldN N) (rO r) (rT r)).2.2.2.2.2.1 : Int) = vlZ N m l r := by
        unfold vlZ
        rw [if_pos hrg]
        rfl
      rw [hvl] at v4
      rw [if_pos (show nI (runN (wyN N) (loN N l) (ldN N) (rO r) (rT r)).1 = 0 by rw [c5]; rfl)] at pre
      simp (decide := true) only [gd_ob V65, hVF, Option.bind_some, v4, bd2_eq, e6] at pre
      by_cases c6 : vlZ N m l r ≤ vlZ N m l 0
      · rw [if_pos ((zI_le (by omega) (by omega)).mpr c6)] at pre
        refine ⟨V, ru_step (pre rfl), hGS, skipI hGV ?_⟩
        unfold incB
        rw [decide_eq_false hne, decide_eq_false (show ¬ vlZ N m l 0 < vlZ N m l r by omega), Bool.and_false]
        rfl
      · have hinc : incB N m l fr r = true := by
          unfold incB
          rw [hrg, decide_eq_true hok.2, decide_eq_true (show vlZ N m l 0 < vlZ N m l r by omega)]
          simp
        rw [if_neg (fun hh => c6 ((zI_le (by omega) (by omega)).mp hh)), rb, bd2_eq] at pre
        simp (decide := true) only [gd_ob V65, hVF, Option.bind_some, v4, bd2_eq, e_addRow hV (inc_65 hr hinc) hGV.1 hr (zI (vlZ N m l r))] at pre
        exact ⟨_, ru_step (pre rfl), gs_add hGS ag_add, GI_add hinc hGV⟩
    · rw [if_neg (nI_ne0 (by omega) (by omega)), e6] at pre
      refine ⟨V, ru_step (pre rfl), hGS, skipI hGV ?_⟩
      have hrg : rgB N m l r = false := by
        rw [rg_is, show dvN N l r = runN (wyN N) (loN N l) (ldN N) (rO r) (rT r) from rfl, decide_eq_false c5, Bool.and_false]
      unfold incB
      rw [decide_eq_false hne, hrg]
      rfl
  · refine skip ?_ (fun hh => c3 (key.mpr hh).2.2)
    rw [base]
    unfold B_X2_gatherRows_2
    simp (decide := true) only [gd_ob h65, hF, Option.bind_some, hcnt, bd2_eq]
    rw [e5, if_neg nm, if_neg c1', b4, bd2_eq, if_neg (fun hh => by have := (pw_and (show one < 8 by omega)).mp hh; rw [c2'] at this; cases this), b5, bd2_eq, if_neg (fun hh => c3 ((sub_test (bitO_lt (op8T hr))).mp hh)), e6]
theorem e_gatherRows {S : Wd} {N : Nat → Int32} {n m l fr : Nat} (h : RD S N n m) (hfr : fr < 256) (h13 : wI S 13 11 = nI fr) (hl : l < n) : ∃ W, f_X2_gatherRows S 13 (nI l) = some W ∧ GS S W N n m ∧ GI N m l fr W 81 := by
  obtain ⟨h65, hF⟩ := id h.1.1
  have hf := h.2.2.2.2
  have m8 := hf.2.1
  have n6 := hf.1
  have vb0 := vl_b hf (l := l) (r := 0) hl
  -- the row of none
  have hO0 : rO 0 = none := rfl
  have hT0 : rT 0 = none := rfl
  obtain ⟨V, v1, v2, v3, v4, v5, v6, v7⟩ := e_runR h hl (one := none) (two := none) trivial trivial
  have hV := v3.1.1
  obtain ⟨V65, hVF⟩ := id hV
  have c4 := (runN_ok (w := wyN N) (fac_lo hf hl).1 (fac_lo hf hl).2.1 (fac_lo hf hl).2.2.1 (fac_ld hf) (one := none) (two := none) trivial trivial).2
  have hI0 : ∀ V : Wd, V = V := fun _ => rfl
  have inc0 : incB N m l fr 0 = true := by unfold incB; rfl
  have hGS0 : GS S V N n m := gs_run ⟨h, Ag.rf, Or.inl rfl⟩ v2 v3 v6
  have hA10 : Ag (fun a k => (a = 13 ∧ k = 10) ∨ a = 17 ∨ a = 18 ∨ a = 19) V (sI V 13 10 0) := Ag.sI (Or.inl ⟨rfl, rfl⟩)
  have hGS1 := gs_add hGS0 hA10
  have hG0 : GI N m l fr (sI V 13 10 0) 0 := ⟨wI_sI_eq, fun r hr => by omega⟩
  have hI1 : Inv (sI V 13 10 0) := hGS1.1.1.1
  have hadd := e_addRow hI1 (c := 0) (by decide) wI_sI_eq (r := 0) (by decide) (zI (vlZ N m l 0))
  have is0 : isB N m l 0 = true := by
    unfold isB
    rw [Bool.and_eq_true, Bool.and_eq_true, Bool.and_eq_true, Bool.or_eq_true]
    exact ⟨⟨⟨Or.inr rfl, decide_eq_true (Nat.zero_le _)⟩, decide_eq_true (Nat.zero_le _)⟩, rfl⟩
  have st0 : B_X2_gatherRows (0, [13], [nI l], S) = some (.inr (1, [13], [nI l, nI (ftN N l m &&& fr), zI (vlZ N m l 0), nI 0], sI (sI (sI (sI (sI V 13 10 0) 17 0 (nI (rwN 0))) 18 0 (nI (stN 0))) 19 0 (zI (vlZ N m l 0))) 13 10 (nI (0 + 1)))) := by
    show B_X2_gatherRows_0 S 13 (nI l) = _
    unfold B_X2_gatherRows_0
    simp (decide := true) only [gd_ob h65, hF, Option.bind_some, e_fitting h hl h13, bd2_eq]
    rw [show f_X0_run S 12 (nI l) (-1) (-1) = _ from v1, bd2_eq]
    by_cases c5 : (runN (wyN N) (loN N l) (ldN N) none none).1 = 0
    · have hrg : rgB N m l 0 = true := by
        rw [rg_is, Bool.and_eq_true]
        exact ⟨is0, decide_eq_true c5⟩
      have hvl : ((pyO (ldN N) none + pyO (ldN N) none : Nat) : Int) - ((runN (wyN N) (loN N l) (ldN N) none none).2.2.2.2.2.1 : Int) = vlZ N m l 0 := by
        unfold vlZ
        rw [if_pos hrg]
        rfl
      rw [hvl] at v4
      rw [if_pos (show nI (runN (wyN N) (loN N l) (ldN N) none none).1 = 0 by rw [c5]; rfl)]
      simp (decide := true) only [gd_ob V65, hVF, Option.bind_some, v4, bd2_eq]
      dsimp only [ltS]
      rw [gd_pos (ob_of hI1.1 (by decide) (by decide)), show f_X2_addRow (sI V 13 10 0) 13 0 (zI (vlZ N m l 0)) = _ from hadd, Option.bind_some]
      rfl
    · have hz : vlZ N m l 0 = 0 := by
        unfold vlZ
        rw [if_neg]
        rw [rg_is, show dvN N l 0 = runN (wyN N) (loN N l) (ldN N) none none from rfl, decide_eq_false c5, Bool.and_false]
        decide
      rw [if_neg (nI_ne0 (by omega) (by omega)), hz]
      rw [hz] at hadd
      simp (decide := true) only [gd_ob V65]
      dsimp only [ltS]
      rw [gd_pos (ob_of hI1.1 (by decide) (by decide)), show f_X2_addRow (sI V 13 10 0) 13 0 0 = _ from hadd, Option.bind_some]
      rfl
  have hG1 : GI N m l fr (sI (sI (sI (sI (sI V 13 10 0) 17 0 (nI (rwN 0))) 18 0 (nI (stN 0))) 19 0 (zI (vlZ N m l 0))) 13 10 (nI (0 + 1))) 1 := GI_add inc0 hG0
  have hGS2 := gs_add hGS1 (ag_add (W := sI V 13 10 0) (c := 0) (a := nI (rwN 0)) (b := nI (stN 0)) (v := zI (vlZ N m l 0)) (w := nI (0 + 1)))
  generalize sI (sI (sI (sI (sI V 13 10 0) 17 0 (nI (rwN 0))) 18 0 (nI (stN 0))) 19 0 (zI (vlZ N m l 0))) 13 10 (nI (0 + 1)) = T at st0 hG1 hGS2
  have noinc : ∀ r, r ≠ 0 → (r / 9 = 0 ∨ m < r / 9 ∨ m < r % 9) → incB N m l fr r = false := by
    intro r h0 hh
    cases hi : incB N m l fr r with
    | false => rfl
    | true =>
      obtain ⟨i1, -, -⟩ := inc_rg hi h0
      rw [rg_is, Bool.and_eq_true] at i1
      obtain ⟨q1, q2, q3, -⟩ := is_facts i1.1
      omega
  have hG9 : GI N m l fr T (9 * (0 + 1) + 0) := GI_skip (by omega) (fun r h1 h2 => noinc r (by omega) (Or.inl (by omega))) hG1
  have inner : ∀ one, one < m → ∀ q, q ≤ m + 1 → ∀ W, GS S W N n m → GI N m l fr W (9 * (one + 1) + 0) → ∃ W', ru B_X2_gatherRows (2, [13], [nI l, nI (ftN N l m &&& fr), zI (vlZ N m l 0), nI one, nI 0 - 1], W) = ru B_X2_gatherRows (2, [13], [nI l, nI (ftN N l m &&& fr), zI (vlZ N m l 0), nI one, nI q - 1], W') ∧ GS S W' N n m ∧ GI N m l fr W' (9 * (one + 1) + q) := by
    intro one ho q
    induction q with
    | zero => exact fun _ W a b => ⟨W, rfl, a, b⟩
    | succ q ih =>
      intro hq W a b
      obtain ⟨W1, w1, w2, w3⟩ := ih (by omega) W a b
      obtain ⟨W2, x1, x2, x3⟩ := e_gatStep hfr w2 hl ho (show q ≤ m by omega) w3
      exact ⟨W2, w1.trans x1, x2, x3⟩
  have cnt : ∀ {W : Wd}, GS S W N n m → f_X8_count W 10 = some (nI m, W) := fun hw => by rw [e_count hw.1.1.1 tb10, (rd_cnt hw.1).2]
  have outer : ∀ one, one ≤ m → ∃ W, ru B_X2_gatherRows (1, [13], [nI l, nI (ftN N l m &&& fr), zI (vlZ N m l 0), nI 0], T) = ru B_X2_gatherRows (1, [13], [nI l, nI (ftN N l m &&& fr), zI (vlZ N m l 0), nI one], W) ∧ GS S W N n m ∧ GI N m l fr W (9 * (one + 1) + 0) := by
    intro one
    induction one with
    | zero => exact fun _ => ⟨T, rfl, hGS2, hG9⟩
    | succ one ih =>
      intro ho
      obtain ⟨W, w1, w2, w3⟩ := ih (by omega)
      obtain ⟨p65, hP⟩ := id w2.1.1.1
      obtain ⟨W2, x1, x2, x3⟩ := inner one (by omega) (m + 1) (Nat.le_refl _) W w2 w3
      obtain ⟨r65, hRr⟩ := id x2.1.1.1
      refine ⟨W2, w1.trans ((ru_step (show B_X2_gatherRows (1, [13], [nI l, nI (ftN N l m &&& fr), zI (vlZ N m l 0), nI one], W) = some (.inr (2, [13], [nI l, nI (ftN N l m &&& fr), zI (vlZ N m l 0), nI one, nI 0 - 1], W)) from ?_)).trans (x1.trans (ru_step ?_))), x2, GI_skip (by omega) (fun r h1 h2 => noinc r (by omega) (Or.inr (Or.inr (by omega)))) x3⟩
      · show B_X2_gatherRows_1 W 13 _ _ _ (nI one) = _
        unfold B_X2_gatherRows_1
        simp (decide := true) only [gd_ob p65, hP, Option.bind_some, cnt w2, bd2_eq]
        rw [if_neg (nI_ge (by omega) (by omega))]
        rfl
      · show B_X2_gatherRows_2 W2 13 _ _ _ (nI one) (nI (m + 1) - 1) = _
        unfold B_X2_gatherRows_2
        simp (decide := true) only [gd_ob r65, hRr, Option.bind_some, cnt x2, bd2_eq]
        rw [nI_pred, if_pos (Int32.le_refl _), nI_1]
  obtain ⟨W, w1, w2, w3⟩ := outer m (Nat.le_refl _)
  obtain ⟨p65, hP⟩ := id w2.1.1.1
  refine ⟨W, ?_, w2, GI_skip (by omega) (fun r h1 h2 => noinc r (by omega) (Or.inr (Or.inl (by omega)))) w3⟩
  unfold f_X2_gatherRows
  refine (ru_step st0).trans (w1.trans (ru_done ?_))
  show B_X2_gatherRows_1 W 13 _ _ _ (nI m) = _
  unfold B_X2_gatherRows_1
  simp (decide := true) only [gd_ob p65, hP, Option.bind_some, cnt w2, bd2_eq]
  rw [if_pos (Int32.le_refl _)]
