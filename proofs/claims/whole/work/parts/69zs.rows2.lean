/-! the reference's rows: findRows -/
theorem FR_step {N : Nat → Int32} {n m : Nat} {W : Wd} {l r : Nat} (hl : l < n) (hr : r < 81) (h : FR N n m W (81 * l + r)) {a b c : Int32} (ha : a = (if (rgB N m l r || decide (r = 0)) = true then 1 else 0)) (hb : b = zI (vlZ N m l r)) (hc : c = nI (emN N m l r)) : FR N n m (sI (sI (sI W 55 (81 * l + r) a) 56 (81 * l + r) b) 57 (81 * l + r) c) (81 * l + (r + 1)) := by
  intro l' r' hl' hr' ht
  by_cases he : 81 * l' + r' = 81 * l + r
  · have e1 : l' = l := by omega
    have e2 : r' = r := by omega
    subst e1 e2
    refine ⟨?_, ?_, ?_⟩
    · rw [wI_sI_ne (by omega), wI_sI_ne (by omega), wI_sI_eq, ha]
    · rw [wI_sI_ne (by omega), wI_sI_eq, hb]
    · rw [wI_sI_eq, hc]
  · obtain ⟨x1, x2, x3⟩ := h l' r' hl' hr' (by omega)
    refine ⟨?_, ?_, ?_⟩
    · rw [wI_sI_ne (by omega), wI_sI_ne (by omega), wI_sI_ne (by omega)]; exact x1
    · rw [wI_sI_ne (by omega), wI_sI_ne (by omega), wI_sI_ne (by omega)]; exact x2
    · rw [wI_sI_ne (by omega), wI_sI_ne (by omega), wI_sI_ne (by omega)]; exact x3
theorem e_rowFin {W : Wd} (hI : Inv W) {N : Nat → Int32} {n m : Nat} (hN : wI W 49 = N) (hf : Fac N n m) {l r : Nat} (hl : l < n) (hr : r < 81) (x6 : Int32) (he : rgB N m l r = true → wI W 48 11 = nI (dvN N l r).2.2.2.2.2.1) : ru B_X12_findRows (4, [48], [nI l, nI r, ans (rO r), ans (rT r), nI (81 * l + r), x6, (if rgB N m l r = true then 1 else 0)], W) = ru B_X12_findRows (2, [48], [nI l, nI (r + 1)], sI (sI (sI W 55 (81 * l + r) (if (rgB N m l r || decide (r = 0)) = true then 1 else 0)) 56 (81 * l + r) (zI (vlZ N m l r))) 57 (81 * l + r) (nI (emN N m l r))) := by
  obtain ⟨h65, hF⟩ := id hI
  obtain ⟨n6, m8, nu, mu, -⟩ := id hf
  have ht : 81 * l + r < 486 := by omega
  have i55 : ix W 55 101 (nI (81 * l + r)) := ix_of h65 (by decide) (by decide) ht
  have ct : (nI (81 * l + r)).toNatClampNeg = 81 * l + r := nI_clamp (by omega)
  have nb : (vp_nar .boolean (1 : Int32)) = 1 ∧ (vp_nar .boolean (0 : Int32)) = 0 := ⟨rfl, rfl⟩
  have hI2 : ∀ a, Inv (sI W 55 (81 * l + r) a) := fun a => (Ag.sI (D := fun a _ => a = 55) rfl).inv hI (by omega)
  have hI3 : ∀ a b, Inv (sI (sI W 55 (81 * l + r) a) 56 (81 * l + r) b) := fun a b => (Ag.sI (D := fun a _ => a = 56) rfl).inv (hI2 a) (by omega)
  have st4 : B_X12_findRows (4, [48], [nI l, nI r, ans (rO r), ans (rT r), nI (81 * l + r), x6, (if rgB N m l r = true then 1 else 0)], W) = some (.inr (5, [48], [nI l, nI r, ans (rO r), ans (rT r), nI (81 * l + r), x6, (if rgB N m l r = true then 1 else 0)], sI W 55 (81 * l + r) (if (rgB N m l r || decide (r = 0)) = true then 1 else 0))) := by
    show B_X12_findRows_4 W 48 (nI l) (nI r) (ans (rO r)) (ans (rT r)) (nI (81 * l + r)) x6 _ = _
    unfold B_X12_findRows_4
    simp (decide := true) only [gd_ob h65, hF, Option.bind_some, gd_pos i55, ct, nb.1, nb.2]
    by_cases hg : rgB N m l r = true
    · rw [hg, if_pos rfl, if_neg (show ¬ (1 : Int32) = 0 by decide), Bool.true_or, if_pos rfl]
      rfl
    · rw [Bool.not_eq_true] at hg
      rw [hg, if_neg (show ¬ false = true by decide), if_pos rfl, Bool.false_or]
      by_cases h0 : r = 0
      · rw [if_pos (show nI r = 0 by rw [h0]; rfl), if_pos (decide_eq_true h0)]
        rfl
      · rw [if_neg (nI_ne0 (by omega) (by omega)), if_neg (by rw [decide_eq_false h0]; decide)]
        rfl
  generalize (if (rgB N m l r || decide (r = 0)) = true then (1 : Int32) else 0) = a at *
  obtain ⟨p2, F2⟩ := id (hI2 a)
  have st5 : B_X12_findRows (5, [48], [nI l, nI r, ans (rO r), ans (rT r), nI (81 * l + r), x6, (if rgB N m l r = true then 1 else 0)], sI W 55 (81 * l + r) a) = some (.inr (6, [48], [nI l, nI r, ans (rO r), ans (rT r), nI (81 * l + r), x6, (if rgB N m l r = true then 1 else 0)], sI (sI W 55 (81 * l + r) a) 56 (81 * l + r) (zI (vlZ N m l r)))) := by
    have i56 : ix (sI W 55 (81 * l + r) a) 56 100 (nI (81 * l + r)) := ix_of p2 (by decide) (by decide) ht
    show B_X12_findRows_5 _ 48 (nI l) (nI r) (ans (rO r)) (ans (rT r)) (nI (81 * l + r)) x6 _ = _
    unfold B_X12_findRows_5
    simp (decide := true) only [gd_ob p2, F2, Option.bind_some, gd_pos i56, ct]
    by_cases hg : rgB N m l r = true
    · rw [hg, if_pos rfl, if_neg (show ¬ (1 : Int32) = 0 by decide)]
      have hb := hg
      rw [rg_is, Bool.and_eq_true] at hb
      obtain ⟨-, q2, q3, -⟩ := is_facts hb.1
      have e49 : wI (sI W 55 (81 * l + r) a) 49 = N := by rw [wI_sI' _ _ _ _ _ (by decide)]; exact hN
      have hval := e_valueOf (hI2 a) m8 (Ld := ldN N) (fun d hd => by rw [e49]; exact (hf.2.2.2.2.2.2.1 d hd 5 (by decide)).2) (op_rO q2) (op_rT q3) (is_12 hb.1)
      rw [wI_sI_ne (by omega), he hg] at hval
      have p1 := pyO_le (fac_ld hf) (op_rO q2)
      have p2' := pyO_le (fac_ld hf) (op_rT q3)
      have vb := (vl_b hf (l := l) (r := r) hl).2.2
      have hem : emN N m l r = (dvN N l r).2.2.2.2.2.1 := by unfold emN; rw [if_pos hg]
      rw [hem] at vb
      rw [hval, bd2_eq, gd_pos i56, zI_sub (by omega) (by omega)]
      show some (Sum.inr (6, _, _, sI _ 56 _ _)) = _
      congr 6
      unfold vlZ
      rw [if_pos hg]
    · have hz : vlZ N m l r = 0 := by unfold vlZ; rw [if_neg hg]
      rw [if_neg hg, if_pos rfl, hz]
      rfl
  obtain ⟨p3, F3⟩ := id (hI3 a (zI (vlZ N m l r)))
  have st6 : B_X12_findRows (6, [48], [nI l, nI r, ans (rO r), ans (rT r), nI (81 * l + r), x6, (if rgB N m l r = true then 1 else 0)], sI (sI W 55 (81 * l + r) a) 56 (81 * l + r) (zI (vlZ N m l r))) = some (.inr (7, [48], [nI l, nI r, ans (rO r), ans (rT r), nI (81 * l + r), x6, (if rgB N m l r = true then 1 else 0)], sI (sI (sI W 55 (81 * l + r) a) 56 (81 * l + r) (zI (vlZ N m l r))) 57 (81 * l + r) (nI (emN N m l r)))) := by
    have i57 : ix (sI (sI W 55 (81 * l + r) a) 56 (81 * l + r) (zI (vlZ N m l r))) 57 100 (nI (81 * l + r)) := ix_of p3 (by decide) (by decide) ht
    show B_X12_findRows_6 _ 48 (nI l) (nI r) (ans (rO r)) (ans (rT r)) (nI (81 * l + r)) x6 _ = _
    unfold B_X12_findRows_6
    simp (decide := true) only [gd_ob p3, F3, Option.bind_some, gd_pos i57, ct]
    by_cases hg : rgB N m l r = true
    · rw [hg, if_pos rfl, if_neg (show ¬ (1 : Int32) = 0 by decide), wI_sI_ne (by omega), wI_sI_ne (by omega), he hg]
      have hem : emN N m l r = (dvN N l r).2.2.2.2.2.1 := by unfold emN; rw [if_pos hg]
      rw [hem]
      rfl
    · have hem : emN N m l r = 0 := by unfold emN; rw [if_neg hg]
      rw [if_neg hg, if_pos rfl, hem]
      rfl
  refine (ru_step st4).trans ((ru_step st5).trans ((ru_step st6).trans (ru_step ?_)))
  show some (Sum.inr (2, [48], [nI l, nI r + 1], _)) = _
  rw [nI_1]
theorem e_rowStep {S W : Wd} (hI : Inv S) {N : Nat → Int32} {n m : Nat} (hN : wI S 49 = N) (hf : Fac N n m) (h54 : ∀ i, i < 64 → wI S 54 i = fw N i) (hA : Ag DG S W) {l r : Nat} (hl : l < n) (hr : r < 81) (hFR : FR N n m W (81 * l + r)) : ∃ W', ru B_X12_findRows (2, [48], [nI l, nI r], W) = ru B_X12_findRows (2, [48], [nI l, nI (r + 1)], W') ∧ Ag DG S W' ∧ FR N n m W' (81 * l + (r + 1)) := by
  have hIW := hA.inv hI (by omega)
  obtain ⟨h65, hF⟩ := id hIW
  obtain ⟨n6, m8, nu, mu, wf, lf, df, -⟩ := id hf
  have eN : wI W 49 = N := (hA.arr (by omega)).trans hN
  have e54 : ∀ i, i < 64 → wI W 54 i = fw N i := fun i hi => (hA.2.2.2 54 i (by omega)).trans (h54 i hi)
  have s2 := e_rowIs hIW eN hf hl hr
  have mid : ∃ W1 x6, ru B_X12_findRows (2, [48], [nI l, nI r], W) = ru B_X12_findRows (4, [48], [nI l, nI r, ans (rO r), ans (rT r), nI (81 * l + r), x6, (if rgB N m l r = true then 1 else 0)], W1) ∧ Ag D48 W W1 ∧ (rgB N m l r = true → wI W1 48 11 = nI (dvN N l r).2.2.2.2.2.1) := by
    by_cases hb : isB N m l r = true
    · rw [if_pos hb] at s2
      obtain ⟨q1, q2, q3, q4⟩ := is_facts hb
      obtain ⟨l1, l2, l3, l4⟩ := fac_lo hf hl
      obtain ⟨W1, w1, w2, w3⟩ := e_drivesM hIW (w := wyN N) (fun i hi => ⟨(wf i hi).1, (e54 i hi).trans (wf i hi).2⟩) (show l < 6 by omega) (Lo := loN N l) l1 l2 l3 l4 (fun c hc => by rw [eN]; exact (lf l hl c hc).2) m8 (Ld := ldN N) (fac_ld hf) (fun d hd c hc => by rw [eN]; exact (df d hd c hc).2) (op_rO q2) (op_rT q3) (is_12 hb)
      have c4 := (runN_ok (w := wyN N) l1 l2 l3 (fac_ld hf) (op_rO q2) (op_rT q3)).2
      refine ⟨W1, 1, (ru_step s2).trans (ru_step ?_), w2, ?_⟩
      · show B_X12_findRows_3 W 48 (nI l) (nI r) (ans (rO r)) (ans (rT r)) (nI (81 * l + r)) 1 = _
        unfold B_X12_findRows_3
        rw [if_neg (by decide), gd_pos (ob_of h65 (by decide) (by decide)), w1, bd2_eq, rg_is, hb, Bool.true_and]
        unfold dvN
        by_cases h0 : (runN (wyN N) (loN N l) (ldN N) (rO r) (rT r)).1 = 0
        · rw [if_pos (show nI (runN (wyN N) (loN N l) (ldN N) (rO r) (rT r)).1 = 0 by rw [h0]; rfl), if_pos (decide_eq_true h0)]
        · rw [if_neg (nI_ne0 (by omega) (by omega)), if_neg (by rw [decide_eq_false h0]; decide)]
      · intro _
        unfold dvN
        generalize runN (wyN N) (loN N l) (ldN N) (rO r) (rT r) = z at w3
        obtain ⟨c, t, mi, s, d, e, q, u⟩ := z
        exact w3.2.2.2.2.1
    · rw [if_neg hb] at s2
      have hg : ¬ rgB N m l r = true := fun h => by
        rw [rg_is, Bool.and_eq_true] at h
        exact hb h.1
      refine ⟨W, 0, (ru_step s2).trans (ru_step ?_), Ag.rf, fun h => absurd h hg⟩
      show B_X12_findRows_3 W 48 (nI l) (nI r) (ans (rO r)) (ans (rT r)) (nI (81 * l + r)) 0 = _
      unfold B_X12_findRows_3
      rw [if_pos rfl, if_neg hg]
  obtain ⟨W1, x6, w1, w2, w3⟩ := mid
  have hA1 : Ag DG S W1 := hA.trans (w2.mono (fun a k h => Or.inl h))
  have eN1 : wI W1 49 = N := (hA1.arr (by omega)).trans hN
  have FR1 : FR N n m W1 (81 * l + r) := fun l' r' h1 h2 h3 => by
    obtain ⟨x1, x2, x3⟩ := hFR l' r' h1 h2 h3
    rw [w2.arr (a := 55) (by omega), w2.arr (a := 56) (by omega), w2.arr (a := 57) (by omega)]
    exact ⟨x1, x2, x3⟩
  refine ⟨_, w1.trans (e_rowFin (hA1.inv hI (by omega)) eN1 hf hl hr x6 w3), ?_, FR_step hl hr FR1 rfl rfl rfl⟩
  exact hA1.trans (((Ag.sI (Or.inr (Or.inl rfl))).trans (Ag.sI (Or.inr (Or.inr (Or.inl rfl))))).trans (Ag.sI (Or.inr (Or.inr (Or.inr rfl)))))
theorem e_findRows {V : Wd} (hI : Inv V) {N : Nat → Int32} {n m : Nat} (hN : wI V 49 = N) (hf : Fac N n m) : ∃ W, f_X12_findRows V 48 = some W ∧ Ag (fun a k => a = 54 ∨ DG a k) V W ∧ FR N n m W (81 * n) := by
  obtain ⟨n6, m8, nu, mu, -⟩ := id hf
  obtain ⟨V1, v1, v2, v3⟩ := e_findFar hI
  rw [hN] at v3
  have hI1 := v2.inv hI (by omega)
  have eN1 : wI V1 49 = N := (v2.arr (by omega)).trans hN
  have s1 : ∀ {W : Wd}, Ag DG V1 W → ∀ {l}, l ≤ n → B_X12_findRows (1, [48], [nI l], W) = if l = n then some (.inl W) else some (.inr (2, [48], [nI l, nI 0], W)) := by
    intro W hA l hl
    have hIW := hA.inv hI1 (by omega)
    obtain ⟨h65, hF⟩ := id hIW
    have eN : wI W 49 = N := (hA.arr (by omega)).trans eN1
    show B_X12_findRows_1 W 48 (nI l) = _
    unfold B_X12_findRows_1
    simp (decide := true) only [gd_ob h65, hF, Option.bind_some, gd_pos (show ix W 49 100 (64 : Int32) from rdN h65 (show 64 < 424 by decide)), show (64 : Int32).toNatClampNeg = 64 from rfl, eN, nu]
    by_cases h : l = n
    · rw [if_pos h, if_pos (nI_le (by omega) (by omega))]
    · rw [if_neg h, if_neg (nI_ge (by omega) (by omega))]
      rfl
  have inner : ∀ l, l < n → ∀ r, r ≤ 81 → ∀ W, Ag DG V1 W → FR N n m W (81 * l) → ∃ W', ru B_X12_findRows (2, [48], [nI l, nI 0], W) = ru B_X12_findRows (2, [48], [nI l, nI r], W') ∧ Ag DG V1 W' ∧ FR N n m W' (81 * l + r) := by
    intro l hl r
    induction r with
    | zero => exact fun _ W hA hFR => ⟨W, rfl, hA, hFR⟩
    | succ r ih =>
      intro hr W hA hFR
      obtain ⟨W1, w1, w2, w3⟩ := ih (by omega) W hA hFR
      obtain ⟨W2, x1, x2, x3⟩ := e_rowStep hI1 eN1 hf v3 w2 hl (show r < 81 by omega) w3
      exact ⟨W2, w1.trans x1, x2, x3⟩
  have outer : ∀ l, l ≤ n → ∃ W, ru B_X12_findRows (1, [48], [nI 0], V1) = ru B_X12_findRows (1, [48], [nI l], W) ∧ Ag DG V1 W ∧ FR N n m W (81 * l) := by
    intro l
    induction l with
    | zero => exact fun _ => ⟨V1, rfl, Ag.rf, fun l' r' _ _ h => by omega⟩
    | succ l ih =>
      intro hl
      obtain ⟨W, w1, w2, w3⟩ := ih (by omega)
      obtain ⟨W2, x1, x2, x3⟩ := inner l (by omega) 81 (Nat.le_refl _) W w2 w3
      have hs := s1 w2 (show l ≤ n by omega)
      rw [if_neg (by omega)] at hs
      refine ⟨W2, w1.trans ((ru_step hs).trans (x1.trans (ru_step ?_))), x2, by rw [show 81 * (l + 1) = 81 * l + 81 by omega]; exact x3⟩
      show B_X12_findRows_2 W2 48 (nI l) (nI 81) = _
      unfold B_X12_findRows_2
      rw [if_pos (by decide), nI_1]
  obtain ⟨W, w1, w2, w3⟩ := outer n (Nat.le_refl _)
  have hs := s1 w2 (Nat.le_refl n)
  rw [if_pos rfl] at hs
  refine ⟨W, ?_, (v2.mono (fun a k h => Or.inl h)).trans (w2.mono (fun a k h => Or.inr h)), w3⟩
  unfold f_X12_findRows
  refine (ru_step (show B_X12_findRows (0, [48], [], V) = some (.inr (1, [48], [nI 0], V1)) from ?_)).trans (w1.trans (ru_done hs))
  show B_X12_findRows_0 V 48 = _
  unfold B_X12_findRows_0
  rw [gd_pos (ob_of hI.1 (by decide) (by decide)), v1, Option.bind_some]
  rfl
