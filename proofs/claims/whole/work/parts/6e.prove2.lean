/-! proves: step by step -/
theorem e_douStep {j : Nat} {W : Wd} {N : Nat → Int32} {n m l left s : Nat} {sum : Int} {v : Int32} (hR : Rel j W) (h : RD W N n m) (hl : l < n) (h11 : wI W 13 11 = nI (frN N m)) (hs : s < 4) (h20 : wI W (40 + 2 * s) 2 = nI n) (hv : wI W (41 + 2 * s) l = v) (hlt : left < 256) (hlf : sub left (frN N m)) : (∀ r, gdR N m l (amN m ^^^ left) v r → ∃ W', ru B_X2_firstDoubt (1, [13, 40 + 2 * s], [nI left, zI sum, nI l], W) = ru B_X2_firstDoubt (1, [13, 40 + 2 * s], [nI (dfN left (stN r)), zI (sum + vlZ N m l r), nI (l + 1)], W') ∧ Rel j W' ∧ RD W' N n m ∧ Ag DR W W') ∧ ((¬ ∃ r, gdR N m l (amN m ^^^ left) v r) → ∃ W', ru B_X2_firstDoubt (1, [13, 40 + 2 * s], [nI left, zI sum, nI l], W) = some (nI l, W') ∧ Rel j W' ∧ RD W' N n m ∧ Ag DR W W') := by
  have hI := hR.1
  obtain ⟨h65, hF⟩ := id hI
  have hf := h.2.2.2.2
  have n6 := hf.1
  have m8 := hf.2.1
  have hfr := fr_lt N m8
  have hfa := fr_sub N m
  obtain ⟨c9, c11⟩ := rd_cnt h
  obtain ⟨f1, f2, f3, f4, f5, f6⟩ := sh_facts hI hs
  have hcnt : f_X8_count W 8 = some (nI n, W) := by rw [e_count hI tb8, c9]
  have hat7 := e_at7 hI hs (show n ≤ 20 by omega) h20 hl
  rw [hv] at hat7
  have hfit := e_fitting h hl h11
  have base : ∀ {R : Option ((Int32 × Wd) ⊕ Cs)}, (bd2 (f_X2_isOfThese W v (nI left)) (fun r28 S27 => if r28 = 0 then (some (.inl ((nI l), S27))) else (bd2 (f_X2_loadsOf S27 v) (fun r32 S31 => gd (ob S31 13 2) (bd2 (f_X2_fitting S31 13 (nI l)) (fun r36 S34 => if (r32 &&& (r36 ^^^ (-1 : Int32))) = 0 then (gd (ob S34 13 2) (Option.bind (wO S34 13 3) (fun q39 => bd2 (f_X2_firstOf S34 v) (fun r43 S42 => bd2 (f_X2_secondOf S42 v) (fun r46 S45 => gd (ob S45 q39 0) (bd2 (f_X0_run S45 q39 (nI l) r43 r46) (fun r50 S48 => if r50 = 0 then (if (1 : Int32) = 0 then (none) else (if (1 : Int32) = 0 then (none) else (gd (ob S48 13 2) (Option.bind (wO S48 13 3) (fun q61 => gd (ob S48 q61 0) (bd2 (f_X0_value S48 q61) (fun r66 S64 => bd2 (f_X2_loadsOf S64 v) (fun r69 S68 => some (.inr (1, [13, (40 + 2 * s)], [((nI left) &&& (r69 ^^^ (-1 : Int32))), ((zI sum) + r66), ((nI l) + (1 : Int32))], S68)))))))))) else (if (0 : Int32) = 0 then (if v = 0 then (if (0 : Int32) = 0 then (bd2 (f_X2_loadsOf S48 v) (fun r57 S56 => some (.inr (1, [13, (40 + 2 * s)], [((nI left) &&& (r57 ^^^ (-1 : Int32))), ((zI sum) + (0 : Int32)), ((nI l) + (1 : Int32))], S56)))) else (none)) else (some (.inl ((nI l), S48)))) else (none))))))))) else (some (.inl ((nI l), S34))))))))) = R → B_X2_firstDoubt (1, [13, 40 + 2 * s], [nI left, zI sum, nI l], W) = R := by
    intro R hh
    show B_X2_firstDoubt_1 W 13 (40 + 2 * s) (nI left) (zI sum) (nI l) = _
    unfold B_X2_firstDoubt_1
    have o1 : wO W 13 1 = some 8 := by simp only [hF]
    rw [gd_pos (ob_of h65 (by decide) (by decide)), o1, Option.bind_some, gd_pos (ob_of h65 (by decide) (by decide)), hcnt, bd2_eq, if_neg (nI_ge hl (by omega)), gd_pos f3, hat7, bd2_eq]
    exact hh
  have o3 : wO W 13 3 = some 12 := by simp only [hF]
  -- a row r that is of these loads
  have row : ∀ r, r < 81 → v = nI (rwN r) → ofT left r → sub (stN r) (ftN N l m &&& frN N m) → isB N m l r = true → ∃ V, Rel j V ∧ RD V N n m ∧ Ag DR W V ∧ f_X0_value V 12 = some (zI (((pyO (ldN N) (rO r) + pyO (ldN N) (rT r) : Nat) : Int) - ((dvN N l r).2.2.2.2.2.1 : Int)), V) ∧ (dvN N l r).1 ≤ 4 ∧ ∀ {R : Option ((Int32 × Wd) ⊕ Cs)}, (if (nI (dvN N l r).1) = 0 then (if (1 : Int32) = 0 then (none) else (if (1 : Int32) = 0 then (none) else (gd (ob V 13 2) (Option.bind (wO V 13 3) (fun q61 => gd (ob V q61 0) (bd2 (f_X0_value V q61) (fun r66 S64 => bd2 (f_X2_loadsOf S64 v) (fun r69 S68 => some (.inr (1, [13, (40 + 2 * s)], [((nI left) &&& (r69 ^^^ (-1 : Int32))), ((zI sum) + r66), ((nI l) + (1 : Int32))], S68)))))))))) else (if (0 : Int32) = 0 then (if v = 0 then (if (0 : Int32) = 0 then (bd2 (f_X2_loadsOf V v) (fun r57 S56 => some (.inr (1, [13, (40 + 2 * s)], [((nI left) &&& (r57 ^^^ (-1 : Int32))), ((zI sum) + (0 : Int32)), ((nI l) + (1 : Int32))], S56)))) else (none)) else (some (.inl ((nI l), V)))) else (none))) = R → B_X2_firstDoubt (1, [13, 40 + 2 * s], [nI left, zI sum, nI l], W) = R := by
    intro r hr hvr hof hsb his
    obtain ⟨q1, q2, q3, q4⟩ := is_facts his
    obtain ⟨V, v1, v2, v3, v4, v5, v6, v7⟩ := e_runR h hl (op_rO q2) (op_rT q3)
    have c4 := (runN_ok (w := wyN N) (fac_lo hf hl).1 (fac_lo hf hl).2.1 (fac_lo hf hl).2.2.1 (fac_ld hf) (op_rO q2) (op_rT q3)).2
    have hdv : runN (wyN N) (loN N l) (ldN N) (rO r) (rT r) = dvN N l r := rfl
    rw [hdv] at v1 v4 c4
    refine ⟨V, rel_run hR v2 v6 (by rw [h.2.1]; exact v7), v3, v2, v4, c4, fun {R} hh => base ?_⟩
    subst hvr
    rw [e_isOf1 W hr hof, bd2_eq, if_neg (by decide), e_loadsOf W hr, bd2_eq, gd_pos (ob_of h65 (by decide) (by decide)), hfit, bd2_eq, if_pos ((sub_test (stN_lt hr)).mpr hsb), gd_pos (ob_of h65 (by decide) (by decide)), o3, Option.bind_some, e_firstOf W hr, bd2_eq, e_secondOf W hr, bd2_eq, gd_pos (ob_of h65 (by decide) (by decide)), v1, bd2_eq]
    exact hh
  constructor
  · intro r hg
    obtain ⟨hof, hnz, hsl⟩ := gd_of m8 hlt hlf hfa hg
    obtain ⟨hr, hvr, -, -, hop⟩ := id hg
    have hsb : sub (stN r) (ftN N l m &&& frN N m) := by
      by_cases h0 : r = 0
      · subst h0
        intro i hi
        have e : (0 : Nat).testBit i = true := hi
        rw [Nat.zero_testBit] at e; cases e
      · exact (hnz h0).2.2
    have his : isB N m l r = true := by
      by_cases h0 : r = 0
      · rw [h0]; exact is_0 N m l
      · exact (hnz h0).2.1
    obtain ⟨V, k1, k2, k3, k4, k5, k6⟩ := row r hr hvr hof hsb his
    obtain ⟨V65, hVF⟩ := id k1.1
    have p3 : wO V 13 3 = some 12 := by simp only [hVF]
    refine ⟨V, ru_step (k6 ?_), k1, k2, k3⟩
    by_cases hz : (dvN N l r).1 = 0
    · have hrg : rgB N m l r = true := by
        rw [rg_is, his, Bool.true_and]
        exact decide_eq_true hz
      have hvl : ((pyO (ldN N) (rO r) + pyO (ldN N) (rT r) : Nat) : Int) - ((dvN N l r).2.2.2.2.2.1 : Int) = vlZ N m l r := by
        unfold vlZ
        rw [if_pos hrg]
      rw [hvl] at k4
      rw [if_pos (show nI (dvN N l r).1 = 0 by rw [hz]; rfl), if_neg (by decide), if_neg (by decide), gd_pos (ob_of V65 (by decide) (by decide)), p3, Option.bind_some, gd_pos (ob_of V65 (by decide) (by decide)), k4, bd2_eq, hvr, e_loadsOf V hr, bd2_eq, nI_df hlt, zI_add, nI_1]
    · have h0 : r = 0 := by
        rcases Nat.eq_zero_or_pos r with q | q
        · exact q
        · exfalso
          have := (hnz (by omega)).1
          rw [rg_is, Bool.and_eq_true] at this
          exact hz (of_decide_eq_true this.2)
      have hvz : vlZ N m l r = 0 := by
        unfold vlZ
        rw [if_neg]
        rw [rg_is, his, Bool.true_and]
        exact fun q => hz (of_decide_eq_true q)
      have hv0 : v = 0 := by rw [hvr, h0]; decide
      rw [if_neg (nI_ne0 (by omega) (by omega)), if_pos rfl, if_pos hv0, if_pos rfl, hvr, e_loadsOf V hr, bd2_eq, nI_df hlt, nI_1, hvz, Int.add_zero, Int32.add_zero]
  · intro hno
    by_cases hQ : ∃ r, r < 81 ∧ v = nI (rwN r) ∧ ofT left r
    · obtain ⟨r, hr, hvr, hof⟩ := hQ
      by_cases hsb : sub (stN r) (ftN N l m &&& frN N m)
      · have his : isB N m l r = true ∧ r ≠ 0 := by
          by_cases h0 : r = 0
          · exact absurd ⟨r, (gd_mk hlf hfa hr hvr hof hsb (fun q => absurd h0 q)).1⟩ hno
          · refine ⟨?_, h0⟩
            obtain ⟨h9, hne, b1, b2⟩ := hof.resolve_left h0
            have hla : sub left (amN m) := fun i hi => hfa i (hlf i hi)
            have m1 : r / 9 ≤ m := by
              have := hla _ b1
              rw [tb_am] at this
              have := of_decide_eq_true this
              omega
            have m2 : r % 9 ≤ m := by
              rcases b2 with q | q
              · omega
              · have := hla _ q
                rw [tb_am] at this
                have := of_decide_eq_true this
                omega
            have eO : rO r = some (r / 9 - 1) := by unfold rO; rw [if_neg h9]
            have tb : ∀ i, (stN r).testBit i = (decide (r / 9 - 1 = i) || (bitO (rT r)).testBit i) := by
              intro i
              rw [stN_or, eO, Nat.testBit_or]
              show ((2 ^ (r / 9 - 1)).testBit i || _) = _
              rw [tb_pw]
            exact ((may_is (N := N) (l := l) (fr := frN N m) hr h9 m1 m2).mp ⟨hne, hsb _ (by rw [tb, decide_eq_true rfl]; rfl), fun i hi => hsb i (by rw [tb, hi, Bool.or_true])⟩).1
        obtain ⟨V, k1, k2, k3, k4, k5, k6⟩ := row r hr hvr hof hsb his.1
        have hz : ¬ (dvN N l r).1 = 0 := fun q => hno ⟨r, (gd_mk hlf hfa hr hvr hof hsb (fun _ => q)).1⟩
        have hv0 : ¬ v = 0 := fun e => his.2 (rwN_inj hr (by decide) (hvr.symm.trans (e.trans (show (0 : Int32) = nI (rwN 0) from by decide))))
        refine ⟨V, ru_done (k6 ?_), k1, k2, k3⟩
        rw [if_neg (nI_ne0 (by omega) (by omega)), if_pos rfl, if_neg hv0]
      · refine ⟨W, ru_done (base ?_), hR, h, Ag.rf⟩
        rw [hvr, e_isOf1 W hr hof, bd2_eq, if_neg (by decide), e_loadsOf W hr, bd2_eq, gd_pos (ob_of h65 (by decide) (by decide)), hfit, bd2_eq, if_neg (fun q => hsb ((sub_test (stN_lt hr)).mp q))]
    · refine ⟨W, ru_done (base ?_), hR, h, Ag.rf⟩
      rw [e_isOf0 W hQ, bd2_eq, if_pos rfl]
/-- the reference's step -/
theorem e_proStep {V : Wd} {N : Nat → Int32} {n m l g s : Nat} {sum : Int} {v : Int32} (hI : Inv V) (hN : wI V 49 = N) (hf : Fac N n m) (hFR : FR N n m V (81 * n)) (hl : l < n) (hs : s < 4) (hv : wI V 53 (20 * s + l) = v) (hg : g < 256) : (∀ r, gdR N m l g v r → ru B_X12_proves (1, [48], [nI s, nI n, nI g, zI sum, nI l], V) = ru B_X12_proves (1, [48], [nI s, nI n, nI (g ||| stN r), zI (sum + vlZ N m l r), nI (l + 1)], V)) ∧ ((¬ ∃ r, gdR N m l g v r) → ru B_X12_proves (1, [48], [nI s, nI n, nI g, zI sum, nI l], V) = some (nI l, V)) := by
  obtain ⟨h65, hF⟩ := id hI
  have n6 := hf.1
  have m8 := hf.2.1
  have o6 : wO V 48 6 = some 53 := by simp only [hF]
  have o0 : wO V 48 0 = some 49 := by simp only [hF]
  have o16 : wO V 48 16 = some 56 := by simp only [hF]
  have i65 : ix V 49 100 (65 : Int32) := rdN h65 (show 65 < 424 by decide)
  have u65 : wI V 49 (65 : Int32).toNatClampNeg = nI m := by rw [hN]; exact hf.2.2.2.1
  have hix : (20 : Int32) * nI s + nI l = nI (20 * s + l) := by show nI 20 * nI s + nI l = _; rw [nI_mul, nI_add]
  have gob : ∀ {α : Type} {x : Option α}, gd (ob V 48 12) x = x := gd_ob h65 (by decide) (by decide)
  have i53 : ix V 53 100 (nI (20 * s + l)) := ix_of h65 (by decide) (by decide) (show 20 * s + l < 80 by omega)
  have base : ∀ {R : Option ((Int32 × Wd) ⊕ Cs)}, (if v < 0 then (some (.inl (nI l, V))) else (if nI m < v / 100 then (some (.inl (nI l, V))) else (if nI m < irm v 100 then (some (.inl (nI l, V))) else (bd2 (f_X12_isOpen V 48 (nI l) (((9 : Int32) * (v / (100 : Int32))) + (irm v (100 : Int32))) (nI g)) (fun r74 S72 => if r74 = 0 then (some (.inl (nI l, S72))) else (bd2 (f_X12_setOf S72 (((9 : Int32) * (v / (100 : Int32))) + (irm v (100 : Int32)))) (fun r78 S77 => gd (ob S77 48 12) (Option.bind (wO S77 48 16) (fun q80 => gd (ix S77 q80 100 (((81 : Int32) * (nI l)) + (((9 : Int32) * (v / (100 : Int32))) + (irm v (100 : Int32))))) (some (.inr (1, [48], [nI s, nI n, ((nI g) ||| r78), ((zI sum) + (wI S77 q80 (((81 : Int32) * (nI l)) + (((9 : Int32) * (v / (100 : Int32))) + (irm v (100 : Int32)))).toNatClampNeg)), ((nI l) + (1 : Int32))], S77)))))))))))) = R → B_X12_proves (1, [48], [nI s, nI n, nI g, zI sum, nI l], V) = R := by
    intro R hh
    show B_X12_proves_1 V 48 (nI s) (nI n) (nI g) (zI sum) (nI l) = _
    unfold B_X12_proves_1
    rw [if_neg (nI_ge hl (by omega)), gob, o6, Option.bind_some, hix, gd_pos i53, nI_clamp (by omega), hv, gob, o0, Option.bind_some, gd_pos i65, u65, gob, Option.bind_some, gd_pos i65, u65, gob]
    rw [← hh]
    rfl
  -- v as a number
  have num : ∀ {k : Nat}, k < 2 ^ 31 → nI k / 100 = nI (k / 100) ∧ irm (nI k) 100 = nI (k % 100) := fun hk => ⟨pk_div (d := 100) hk (by decide) (by decide), irm_nI (d := 100) hk (by decide) (by decide)⟩
  constructor
  · intro r hgd
    obtain ⟨hr, hvr, r1, r2, hop⟩ := hgd
    have hk : rwN r < 2 ^ 31 := by unfold rwN; omega
    have d1 : rwN r / 100 = r / 9 := by unfold rwN; omega
    have d2 : rwN r % 100 = r % 9 := by unfold rwN; omega
    obtain ⟨x1, x2⟩ := num hk
    have hri : (9 : Int32) * nI (r / 9) + nI (r % 9) = nI r := by
      show nI 9 * nI (r / 9) + nI (r % 9) = _
      rw [nI_mul, nI_add]
      exact congrArg nI (by omega)
    refine ru_step (base ?_)
    rw [hvr, if_neg (nI_pos hk), x1, x2, d1, d2, if_neg (nI_nlt (by omega) (by omega)), if_neg (nI_nlt (by omega) (by omega)), hri, e_isOpen hI hf hFR hl hr hg, bd2_eq, if_pos hop, if_neg (by decide), e_setOf V hr, bd2_eq, gob, o16, Option.bind_some, show (81 : Int32) * nI l + nI r = nI (81 * l + r) by show nI 81 * nI l + nI r = _; rw [nI_mul, nI_add], gd_pos (ix_of h65 (by decide) (by decide) (show 81 * l + r < 486 by omega)), nI_clamp (by omega), (hFR l r hl hr (by omega)).2.1, zI_add, nI_or, nI_1]
  · intro hno
    refine ru_done (base ?_)
    by_cases hneg : v < 0
    · rw [if_pos hneg]
    · rw [if_neg hneg]
      obtain ⟨k, hk, rfl⟩ := nat_of (i32nl.mp hneg)
      obtain ⟨x1, x2⟩ := num hk
      rw [x1, x2]
      by_cases c1 : k / 100 ≤ m
      · rw [if_neg (nI_nlt c1 (by omega))]
        by_cases c2 : k % 100 ≤ m
        · have hri : (9 : Int32) * nI (k / 100) + nI (k % 100) = nI (9 * (k / 100) + k % 100) := by
            show nI 9 * nI (k / 100) + nI (k % 100) = _
            rw [nI_mul, nI_add]
          have hr : 9 * (k / 100) + k % 100 < 81 := by omega
          rw [if_neg (nI_nlt c2 (by omega)), hri, e_isOpen hI hf hFR hl hr hg, bd2_eq]
          have hop : ¬ opB N m l (9 * (k / 100) + k % 100) g = true := fun q => hno ⟨_, hr, by unfold rwN; exact congrArg nI (by omega), by omega, by omega, q⟩
          rw [if_neg hop, if_pos rfl]
        · rw [if_pos (nI_lt (by omega) (by omega))]
      · rw [if_pos (nI_lt (by omega) (by omega))]
