/-! the reference's giving -/
theorem e_given {V : Wd} (hI : Inv V) {N : Nat → Int32} {n m : Nat} (hN : wI V 49 = N) (hf : Fac N n m) : f_X12_given V 48 = some (nI (gvN N m), V) := by
  obtain ⟨h65, hF⟩ := id hI
  obtain ⟨n6, m8, nu, mu, -⟩ := id hf
  have i65 : ix V 49 100 (65 : Int32) := rdN h65 (show 65 < 424 by decide)
  have u65 : wI V 49 (65 : Int32).toNatClampNeg = nI m := by rw [hN]; exact mu
  unfold f_X12_given
  refine (ru_step (show B_X12_given (0, [48], [], V) = some (.inr (1, [48], [nI (gvN N 0), nI 0], V)) from rfl)).trans ((ru_for (fun k => (1, [48], [nI (gvN N k), nI k], V)) m (fun k hk => ?_)).trans (ru_done ?_))
  · show B_X12_given_1 V 48 (nI (gvN N k)) (nI k) = _
    unfold B_X12_given_1
    simp (decide := true) only [gd_ob h65, hF, Option.bind_some, gd_pos i65, u65, show f_X12_ofLoad V (nI k) 10 = _ from e_ofLoad (a := k) (c := 10), bd2_eq]
    rw [if_neg (nI_ge hk (by omega)), gd_pos (rdN h65 (by omega)), nI_clamp (by omega), hN, i32_or0, pw_nI (by omega), nI_or, nI_1]
    show _ = some (Sum.inr (1, [48], [nI (if N (112 + 11 * k + 10) < 0 then gvN N k else gvN N k ||| 2 ^ k), nI (k + 1)], V))
    split <;> rfl
  · show B_X12_given_1 V 48 (nI (gvN N m)) (nI m) = _
    unfold B_X12_given_1
    simp (decide := true) only [gd_ob h65, hF, Option.bind_some, gd_pos i65, u65]
    rw [if_pos (Int32.le_refl _)]
abbrev D58 (a _k : Nat) : Prop := a = 58 ∨ a = 59
/-- the reference's table, from lorry l on -/
def BT (N : Nat → Int32) (n m : Nat) (W : Wd) (l : Nat) : Prop := ∀ l', l ≤ l' → l' ≤ n → ∀ s, s < 256 → wI W 58 (256 * l' + s) = zI (bsZ N n m (n - l') s)
section FG
variable {N : Nat → Int32} {n m : Nat}
theorem wz_b (hf : Fac N n m) {k r s : Nat} (hk : k < n) : -2000000 ≤ vlZ N m k r + bsZ N n m (n - (k + 1)) (s ||| stN r) ∧ vlZ N m k r + bsZ N n m (n - (k + 1)) (s ||| stN r) ≤ 2000000 := by
  have h1 := vl_b hf (l := k) (r := r) hk
  have h2 := bsZ_b (vl_b' hf) (n - (k + 1)) (s ||| stN r) (by omega)
  have h6 := hf.1
  have h7 : ((n - (k + 1) : Nat) : Int) ≤ 6 := by omega
  omega
theorem bz_b (hf : Fac N n m) {k g : Nat} (hk : k ≤ n) : -2000000 ≤ bsZ N n m k g ∧ bsZ N n m k g ≤ 2000000 := by
  have h2 := bsZ_b (vl_b' hf) k g hk
  have h6 := hf.1
  omega
theorem e_with {W : Wd} (hI : Inv W) (hf : Fac N n m) (hFR : FR N n m W (81 * n)) {k : Nat} (hk : k < n) (hB : BT N n m W (k + 1)) {r s : Nat} (hr : r < 81) (hs : s < 256) : f_X12_with W 48 (nI k) (nI r) (nI s) = some (zI (vlZ N m k r + bsZ N n m (n - (k + 1)) (s ||| stN r)), W) := by
  obtain ⟨h65, hF⟩ := id hI
  have n6 := hf.1
  have hst := or_lt hs (stN_lt hr)
  unfold f_X12_with
  simp (decide := true) only [gd_ob h65, hF, Option.bind_some, e_setOf W hr, bd2_eq]
  rw [show (81 : Int32) * nI k + nI r = nI (81 * k + r) by show nI 81 * nI k + nI r = _; rw [nI_mul, nI_add], nI_or, nI_1, show (256 : Int32) * nI (k + 1) + nI (s ||| stN r) = nI (256 * (k + 1) + (s ||| stN r)) by show nI 256 * nI (k + 1) + nI (s ||| stN r) = _; rw [nI_mul, nI_add], gd_pos (ix_of h65 (by decide) (by decide) (show 81 * k + r < 486 by omega)), gd_pos (ix_of h65 (by decide) (by decide) (show 256 * (k + 1) + (s ||| stN r) < 1792 by omega)), nI_clamp (by omega), nI_clamp (by omega), (hFR k r hk hr (by omega)).2.1, hB (k + 1) (Nat.le_refl _) (by omega) _ hst, zI_add]
theorem e_isOpen {W : Wd} (hI : Inv W) (hf : Fac N n m) (hFR : FR N n m W (81 * n)) {k : Nat} (hk : k < n) {r s : Nat} (hr : r < 81) (hs : s < 256) : f_X12_isOpen W 48 (nI k) (nI r) (nI s) = some (if opB N m k r s = true then 1 else 0, W) := by
  obtain ⟨h65, hF⟩ := id hI
  have n6 := hf.1
  unfold f_X12_isOpen opB
  simp (decide := true) only [gd_ob h65, hF, Option.bind_some, e_setOf W hr, bd2_eq]
  rw [show (81 : Int32) * nI k + nI r = nI (81 * k + r) by show nI 81 * nI k + nI r = _; rw [nI_mul, nI_add], gd_pos (ix_of h65 (by decide) (by decide) (show 81 * k + r < 486 by omega)), nI_clamp (by omega), (hFR k r hk hr (by omega)).1]
  cases (rgB N m k r || decide (r = 0)) with
  | false =>
    rw [if_neg (show ¬ false = true by decide), if_pos rfl, Bool.false_and, if_neg (by decide)]
  | true =>
    rw [if_pos rfl, if_neg (by decide), Bool.true_and]
    by_cases h : stN r &&& s = 0
    · rw [if_pos ((and_test (stN_lt hr)).mpr h), if_pos (decide_eq_true h)]
    · rw [if_neg (fun q => h ((and_test (stN_lt hr)).mp q)), if_neg (by rw [decide_eq_false h]; decide)]
theorem FR_ag {S W : Wd} (hA : Ag D58 S W) {t : Nat} (h : FR N n m S t) : FR N n m W t := fun l r h1 h2 h3 => by
  rw [hA.arr (a := 55) (by omega), hA.arr (a := 56) (by omega), hA.arr (a := 57) (by omega)]
  exact h l r h1 h2 h3
/-- one set of one lorry -/
theorem e_oneSet {S W : Wd} (hI : Inv S) (hf : Fac N n m) (hFR : FR N n m S (81 * n)) (hA : Ag D58 S W) {k : Nat} (hk : k < n) (hB : BT N n m W (k + 1)) (g : Int32) {s : Nat} (hs : s < 256) : ru B_X12_findGiving (3, [48], [g, nI n, nI k, nI s], W) = ru B_X12_findGiving (3, [48], [g, nI n, nI k, nI (s + 1)], sI W 58 (256 * k + s) (zI (bsZ N n m (n - k) s))) := by
  have hIW := hA.inv hI (by omega)
  obtain ⟨h65, hF⟩ := id hIW
  have n6 := hf.1
  have hFW := FR_ag hA hFR
  have hbs : bsZ N n m (n - k) s = mxF (fun r => vlZ N m k r + bsZ N n m (n - (k + 1)) (s ||| stN r)) (fun r => opB N m k r s) 80 := by
    rw [show n - k = (n - (k + 1)) + 1 by omega]
    show mxF (fun r => vlZ N m (n - ((n - (k + 1)) + 1)) r + bsZ N n m (n - (k + 1)) (s ||| stN r)) (fun r => opB N m (n - ((n - (k + 1)) + 1)) r s) 80 = _
    rw [show n - ((n - (k + 1)) + 1) = k by omega]
  refine (ru_step (show B_X12_findGiving (3, [48], [g, nI n, nI k, nI s], W) = some (.inr (4, [48], [g, nI n, nI k, nI s, zI (mxF (fun r => vlZ N m k r + bsZ N n m (n - (k + 1)) (s ||| stN r)) (fun r => opB N m k r s) 0), nI (0 + 1)], W)) from ?_)).trans ((ru_for (fun r => (4, [48], [g, nI n, nI k, nI s, zI (mxF (fun r => vlZ N m k r + bsZ N n m (n - (k + 1)) (s ||| stN r)) (fun r => opB N m k r s) r), nI (r + 1)], W)) 80 (fun r hr => ?_)).trans (ru_step ?_))
  · show B_X12_findGiving_3 W 48 g (nI n) (nI k) (nI s) = _
    unfold B_X12_findGiving_3
    rw [if_neg (show ¬ (256 : Int32) ≤ nI s from nI_ge (b := 256) hs (by decide)), gd_pos (ob_of h65 (by decide) (by decide)), show f_X12_with W 48 (nI k) 0 (nI s) = _ from e_with hIW hf hFW hk hB (show 0 < 81 by decide) hs, bd2_eq]
    rfl
  · have hb1 : -2000000 ≤ mxF (fun r => vlZ N m k r + bsZ N n m (n - (k + 1)) (s ||| stN r)) (fun r => opB N m k r s) r ∧ mxF (fun r => vlZ N m k r + bsZ N n m (n - (k + 1)) (s ||| stN r)) (fun r => opB N m k r s) r ≤ 2000000 :=
      ⟨Int.le_trans (wz_b hf (r := 0) (s := s) hk).1 (mxF_ge0 (fun r => vlZ N m k r + bsZ N n m (n - (k + 1)) (s ||| stN r)) (fun r => opB N m k r s) r), mxF_le fun r' _ => (wz_b hf hk).2⟩
    show B_X12_findGiving_4 W 48 g (nI n) (nI k) (nI s) _ (nI (r + 1)) = _
    unfold B_X12_findGiving_4
    rw [if_neg (show ¬ (81 : Int32) ≤ nI (r + 1) from nI_ge (b := 81) (by omega) (by decide)), gd_pos (ob_of h65 (by decide) (by decide)), e_isOpen hIW hf hFW hk (show r + 1 < 81 by omega) hs, bd2_eq, nI_1]
    show _ = some (Sum.inr (4, [48], [g, nI n, nI k, nI s, zI (if opB N m k (r + 1) s = true then max (mxF (fun r => vlZ N m k r + bsZ N n m (n - (k + 1)) (s ||| stN r)) (fun r => opB N m k r s) r) (vlZ N m k (r + 1) + bsZ N n m (n - (k + 1)) (s ||| stN (r + 1))) else mxF (fun r => vlZ N m k r + bsZ N n m (n - (k + 1)) (s ||| stN r)) (fun r => opB N m k r s) r), nI (r + 1 + 1)], W))
    by_cases ho : opB N m k (r + 1) s = true
    · rw [if_pos ho, if_pos ho, if_neg (by decide), gd_pos (ob_of h65 (by decide) (by decide)), e_with hIW hf hFW hk hB (show r + 1 < 81 by omega) hs, bd2_eq, zI_max hb1 (wz_b hf hk)]
    · rw [if_neg ho, if_neg ho, if_pos rfl]
  · show B_X12_findGiving_4 W 48 g (nI n) (nI k) (nI s) _ (nI (80 + 1)) = _
    unfold B_X12_findGiving_4
    rw [if_pos (by decide)]
    simp (decide := true) only [gd_ob h65, hF, Option.bind_some]
    rw [show (256 : Int32) * nI k + nI s = nI (256 * k + s) by show nI 256 * nI k + nI s = _; rw [nI_mul, nI_add], gd_pos (ix_of h65 (by decide) (by decide) (show 256 * k + s < 1792 by omega)), nI_clamp (by omega), nI_1, ← hbs]
    rfl
theorem BT_set {W : Wd} {k s : Nat} {v : Int32} (hs : s < 256) (h : BT N n m W (k + 1)) : BT N n m (sI W 58 (256 * k + s) v) (k + 1) := fun l' h1 h2 s' hs' => by
  rw [wI_sI_ne (by omega)]
  exact h l' h1 h2 s' hs'
/-- one lorry -/
theorem e_oneLorry {S W : Wd} (hI : Inv S) (hf : Fac N n m) (hFR : FR N n m S (81 * n)) (hA : Ag D58 S W) {k : Nat} (hk : k < n) (hB : BT N n m W (k + 1)) (g : Int32) : ∃ W', ru B_X12_findGiving (3, [48], [g, nI n, nI k, nI 0], W) = ru B_X12_findGiving (2, [48], [g, nI n, nI k - 1], W') ∧ Ag D58 S W' ∧ BT N n m W' k := by
  have loop : ∀ s, s ≤ 256 → ∃ W', ru B_X12_findGiving (3, [48], [g, nI n, nI k, nI 0], W) = ru B_X12_findGiving (3, [48], [g, nI n, nI k, nI s], W') ∧ Ag D58 S W' ∧ BT N n m W' (k + 1) ∧ ∀ s', s' < s → wI W' 58 (256 * k + s') = zI (bsZ N n m (n - k) s') := by
    intro s
    induction s with
    | zero => exact fun _ => ⟨W, rfl, hA, hB, fun s' h => by omega⟩
    | succ s ih =>
      intro hs
      obtain ⟨W1, w1, w2, w3, w4⟩ := ih (by omega)
      refine ⟨_, w1.trans (e_oneSet hI hf hFR w2 hk w3 g (show s < 256 by omega)), w2.trans (Ag.sI (Or.inl rfl)), BT_set (by omega) w3, fun s' hs' => ?_⟩
      by_cases he : s' = s
      · rw [he, wI_sI_eq]
      · rw [wI_sI_ne (by omega)]
        exact w4 s' (by omega)
  obtain ⟨W', w1, w2, w3, w4⟩ := loop 256 (Nat.le_refl _)
  refine ⟨W', w1.trans (ru_step ?_), w2, fun l' h1 h2 s hs => ?_⟩
  · show B_X12_findGiving_3 W' 48 g (nI n) (nI k) (nI 256) = _
    unfold B_X12_findGiving_3
    rw [if_pos (by decide), Int32.sub_eq_add_neg]
  · by_cases he : l' = k
    · rw [he]
      exact w4 s hs
    · exact w3 l' (by omega) h2 s hs
theorem e_table {S : Wd} (hI : Inv S) (hN : wI S 49 = N) (hf : Fac N n m) (hFR : FR N n m S (81 * n)) (g : Int32) : ∃ W, ru B_X12_findGiving (0, [48], [g], S) = ru B_X12_findGiving (5, [48], [g, nI n, g, 0], W) ∧ Ag D58 S W ∧ BT N n m W 0 := by
  obtain ⟨h65, hF⟩ := id hI
  obtain ⟨n6, m8, nu, mu, -⟩ := id hf
  have s0 : B_X12_findGiving (0, [48], [g], S) = some (.inr (1, [48], [g, nI n, nI 0], S)) := by
    show B_X12_findGiving_0 S 48 g = _
    unfold B_X12_findGiving_0
    simp (decide := true) only [gd_ob h65, hF, Option.bind_some, gd_pos (show ix S 49 100 (64 : Int32) from rdN h65 (show 64 < 424 by decide)), show (64 : Int32).toNatClampNeg = 64 from rfl, hN, nu]
    rfl
  have s1 : ∀ s, s ≤ 256 → ∃ W, ru B_X12_findGiving (1, [48], [g, nI n, nI 0], S) = ru B_X12_findGiving (1, [48], [g, nI n, nI s], W) ∧ Ag D58 S W ∧ ∀ s', s' < s → wI W 58 (256 * n + s') = 0 := by
    intro s
    induction s with
    | zero => exact fun _ => ⟨S, rfl, Ag.rf, fun s' h => by omega⟩
    | succ s ih =>
      intro hs
      obtain ⟨W, w1, w2, w3⟩ := ih (by omega)
      obtain ⟨p65, hP⟩ := id (w2.inv hI (by omega))
      refine ⟨sI W 58 (256 * n + s) 0, w1.trans (ru_step ?_), w2.trans (Ag.sI (Or.inl rfl)), fun s' hs' => ?_⟩
      · show B_X12_findGiving_1 W 48 g (nI n) (nI s) = _
        unfold B_X12_findGiving_1
        rw [if_neg (show ¬ (256 : Int32) ≤ nI s from nI_ge (b := 256) (by omega) (by decide))]
        simp (decide := true) only [gd_ob p65, hP, Option.bind_some]
        rw [show (256 : Int32) * nI n + nI s = nI (256 * n + s) by show nI 256 * nI n + nI s = _; rw [nI_mul, nI_add], gd_pos (ix_of p65 (by decide) (by decide) (show 256 * n + s < 1792 by omega)), nI_clamp (by omega), nI_1]
        rfl
      · by_cases he : s' = s
        · rw [he, wI_sI_eq]
        · rw [wI_sI_ne (by omega)]
          exact w3 s' (by omega)
  obtain ⟨W0, a1, a2, a3⟩ := s1 256 (Nat.le_refl _)
  have hB0 : BT N n m W0 n := fun l' h1 h2 s hs => by
    rw [show l' = n by omega, Nat.sub_self]
    exact a3 s hs
  have down : ∀ j, j ≤ n → ∃ W, ru B_X12_findGiving (2, [48], [g, nI n, nI n - 1], W0) = ru B_X12_findGiving (2, [48], [g, nI n, nI (n - j) - 1], W) ∧ Ag D58 S W ∧ BT N n m W (n - j) := by
    intro j
    induction j with
    | zero => exact fun _ => ⟨W0, rfl, a2, hB0⟩
    | succ j ih =>
      intro hj
      obtain ⟨W, w1, w2, w3⟩ := ih (by omega)
      have e1 : n - j = (n - (j + 1)) + 1 := by omega
      rw [e1] at w3
      obtain ⟨W', x1, x2, x3⟩ := e_oneLorry hI hf hFR w2 (show n - (j + 1) < n by omega) w3 g
      refine ⟨W', w1.trans ((ru_step ?_).trans x1), x2, x3⟩
      show B_X12_findGiving_2 W 48 g (nI n) (nI (n - j) - 1) = _
      unfold B_X12_findGiving_2
      rw [e1, nI_pred, if_neg (nI_pos (by omega))]
      rfl
  obtain ⟨W, w1, w2, w3⟩ := down n (Nat.le_refl _)
  rw [Nat.sub_self] at w1 w3
  refine ⟨W, (ru_step s0).trans (a1.trans ((ru_step (show B_X12_findGiving (1, [48], [g, nI n, nI 256], W0) = some (.inr (2, [48], [g, nI n, nI n - 1], W0)) from ?_)).trans (w1.trans (ru_step ?_)))), w2, w3⟩
  · show B_X12_findGiving_1 W0 48 g (nI n) (nI 256) = _
    unfold B_X12_findGiving_1
    rw [if_pos (by decide)]
  · show B_X12_findGiving_2 W 48 g (nI n) (nI 0 - 1) = _
    unfold B_X12_findGiving_2
    rw [if_pos (by decide)]
end FG
