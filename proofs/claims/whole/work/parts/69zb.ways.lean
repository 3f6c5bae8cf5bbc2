/-! ways -/
theorem fwRun_s (m : Nat → Int32) (t : Nat) : fwRun m (t + 1) = upd (fwRun m t) (t % 64) (mMin (fwRun m t (t % 64)) (fwRun m t (t % 64 / 8 * 8 + t / 64) + fwRun m t (8 * (t / 64) + t % 64 % 8))) := rfl
theorem fwRun_congr {m m' : Nat → Int32} (h : ∀ i, i < 64 → m i = m' i) : ∀ t, t ≤ 512 → ∀ i, i < 64 → fwRun m t i = fwRun m' t i
  | 0, _, i, hi => h i hi
  | t + 1, ht, i, hi => by
    have ih := fwRun_congr h t (by omega)
    unfold fwRun upd
    rw [ih (t % 64) (by omega), ih (t % 64 / 8 * 8 + t / 64) (by omega), ih (8 * (t / 64) + t % 64 % 8) (by omega), ih i hi]
theorem W0_small {C : Pv} {N : Nat → Int32} (h : cRoad C N) : ∀ i, i < 64 → ∃ w : Nat, w ≤ 1000000 ∧ W0 N i = nI w := by
  intro i hi
  obtain ⟨r, r1, r2, -⟩ := h (i / 8) (i % 8) (by omega) (by omega)
  rw [show 8 * (i / 8) + i % 8 = i by omega] at r2
  unfold W0
  split
  · exact ⟨0, by omega, rfl⟩
  · split
    · exact ⟨1000000, by omega, rfl⟩
    · exact ⟨r, by omega, r2⟩
theorem fwRun_small {m : Nat → Int32} (h : ∀ i, i < 64 → ∃ w : Nat, w ≤ 1000000 ∧ m i = nI w) : ∀ t, t ≤ 512 → ∀ i, i < 64 → ∃ w : Nat, w ≤ 1000000 ∧ fwRun m t i = nI w
  | 0, _, i, hi => h i hi
  | t + 1, ht, i, hi => by
    have ih := fwRun_small h t (by omega)
    obtain ⟨a, a1, a2⟩ := ih (t % 64) (by omega)
    obtain ⟨b, b1, b2⟩ := ih (t % 64 / 8 * 8 + t / 64) (by omega)
    obtain ⟨c, c1, c2⟩ := ih (8 * (t / 64) + t % 64 % 8) (by omega)
    unfold fwRun upd
    by_cases he : i = t % 64
    · rw [if_pos he, a2, b2, c2, nI_add, mMin_nI (by omega) (by omega)]
      exact ⟨_, by omega, rfl⟩
    · rw [if_neg he]
      exact ih i hi
theorem fw_small {C : Pv} {N : Nat → Int32} (h : cRoad C N) {i : Nat} (hi : i < 64) : ∃ w : Nat, w ≤ 1000000 ∧ fw N i = nI w := fwRun_small (W0_small h) 512 (Nat.le_refl _) i hi
theorem upd_self (A : Nat → Int32) (k : Nat) : upd A k (A k) = A := by
  funext i
  unfold upd
  split
  · rename_i e; rw [e]
  · rfl
/-- shortening by one town -/
theorem e_shorten {S : Wd} (hI : Inv S) {m : Nat → Int32} {o : Nat} (ho : o < 8) : f_X10_shortenBy (sA S 7 (fwRun m (64 * o))) 5 (nI o) = some (sA S 7 (fwRun m (64 * (o + 1)))) := by
  have inner : ∀ a b, a < 8 → b < 8 → B_X10_shortenBy (2, [5], [nI o, nI a, nI b], sA S 7 (fwRun m (64 * o + 8 * a + b))) = some (.inr (2, [5], [nI o, nI a, nI (b + 1)], sA S 7 (fwRun m (64 * o + 8 * a + (b + 1))))) := by
    intro a b ha hb
    have hIA : Inv (sA S 7 (fwRun m (64 * o + 8 * a + b))) := (Ag.sA (D := fun a _ => a = 7) (fun _ => rfl)).inv hI (by omega)
    obtain ⟨g65, hG⟩ := id hIA
    have rA : ∀ i, wI (sA S 7 (fwRun m (64 * o + 8 * a + b))) 7 i = fwRun m (64 * o + 8 * a + b) i := fun i => by rw [wI_sA, if_pos rfl]
    have e1 : fwRun m (64 * o + 8 * a + (b + 1)) = upd (fwRun m (64 * o + 8 * a + b)) (a * 8 + b) (mMin (fwRun m (64 * o + 8 * a + b) (a * 8 + b)) (fwRun m (64 * o + 8 * a + b) (a * 8 + o) + fwRun m (64 * o + 8 * a + b) (o * 8 + b))) := by
      rw [show 64 * o + 8 * a + (b + 1) = 64 * o + 8 * a + b + 1 from rfl, fwRun_s, show (64 * o + 8 * a + b) % 64 = a * 8 + b by omega, show (64 * o + 8 * a + b) / 64 = o by omega, show (a * 8 + b) / 8 * 8 + o = a * 8 + o by omega, show 8 * o + (a * 8 + b) % 8 = o * 8 + b by omega]
    rw [e1]
    show B_X10_shortenBy_2 (sA S 7 (fwRun m (64 * o + 8 * a + b))) 5 (nI o) (nI a) (nI b) = _
    generalize fwRun m (64 * o + 8 * a + b) = A at *
    unfold B_X10_shortenBy_2
    rw [if_neg (show ¬ (8 : Int32) ≤ nI b from nI_ge (b := 8) hb (by decide))]
    simp (decide := true) only [gd_ob g65, hG, Option.bind_some]
    rw [show nI a * 8 + nI o = nI (a * 8 + o) by show nI a * nI 8 + nI o = _; rw [nI_mul, nI_add], show nI o * 8 + nI b = nI (o * 8 + b) by show nI o * nI 8 + nI b = _; rw [nI_mul, nI_add], show nI a * 8 + nI b = nI (a * 8 + b) by show nI a * nI 8 + nI b = _; rw [nI_mul, nI_add], gd_pos (ix_of g65 (by decide) (by decide) (show a * 8 + o < 64 by omega)), gd_pos (ix_of g65 (by decide) (by decide) (show o * 8 + b < 64 by omega)), gd_pos (ix_of g65 (by decide) (by decide) (show a * 8 + b < 64 by omega)), nI_clamp (by omega), nI_clamp (by omega), nI_clamp (by omega), rA, rA, rA, nI_1]
    unfold mMin
    by_cases hc : A (a * 8 + b) ≤ A (a * 8 + o) + A (o * 8 + b)
    · rw [if_pos hc, if_neg (i32nl.mpr hc), upd_self]
    · rw [if_neg hc, if_pos (i32nle.mp hc), gd_pos (ix_of g65 (by decide) (by decide) (show a * 8 + b < 64 by omega)), sI_sA]
      rfl
  have outer : ∀ a, a < 8 → ru B_X10_shortenBy (1, [5], [nI o, nI a], sA S 7 (fwRun m (64 * o + 8 * a))) = ru B_X10_shortenBy (1, [5], [nI o, nI (a + 1)], sA S 7 (fwRun m (64 * o + 8 * (a + 1)))) := by
    intro a ha
    refine (ru_step (show B_X10_shortenBy (1, [5], [nI o, nI a], sA S 7 (fwRun m (64 * o + 8 * a))) = some (.inr (2, [5], [nI o, nI a, nI 0], sA S 7 (fwRun m (64 * o + 8 * a + 0)))) from ?_)).trans ((ru_for (fun b => (2, [5], [nI o, nI a, nI b], sA S 7 (fwRun m (64 * o + 8 * a + b)))) 8 (fun b hb => inner a b ha hb)).trans (ru_step ?_))
    · show B_X10_shortenBy_1 _ 5 (nI o) (nI a) = _
      unfold B_X10_shortenBy_1
      rw [if_neg (show ¬ (8 : Int32) ≤ nI a from nI_ge (b := 8) ha (by decide))]
      rfl
    · show B_X10_shortenBy_2 _ 5 (nI o) (nI a) (nI 8) = _
      unfold B_X10_shortenBy_2
      rw [if_pos (by decide), nI_1, show 64 * o + 8 * a + 8 = 64 * o + 8 * (a + 1) by omega]
  unfold f_X10_shortenBy
  refine (ru_step (show B_X10_shortenBy (0, [5], [nI o], sA S 7 (fwRun m (64 * o))) = some (.inr (1, [5], [nI o, nI 0], sA S 7 (fwRun m (64 * o + 8 * 0)))) from rfl)).trans ?_
  rw [outer 0 (by decide), outer 1 (by decide), outer 2 (by decide), outer 3 (by decide), outer 4 (by decide), outer 5 (by decide), outer 6 (by decide), outer 7 (by decide)]
  refine ru_done ?_
  show B_X10_shortenBy_1 _ 5 (nI o) (nI 8) = _
  unfold B_X10_shortenBy_1
  rw [if_pos (by decide), show 64 * o + 8 * (7 + 1) = 64 * (o + 1) by omega]
/-- the class measures -/
def MOk (S : Wd) : Prop := Inv S ∧ cRoad (wI S) (wI S 49) ∧ (wI S 5 3 = wI S 1 5 → ∀ i, i < 64 → wI S 7 i = fw (wI S 49) i)
theorem e_measure {S : Wd} (h : MOk S) : ∃ W, f_X10_measure S 5 = some W ∧ Ag (fun a k => a = 7 ∨ (a = 5 ∧ k = 3)) S W ∧ wI W 5 3 = wI S 1 5 ∧ ∀ i, i < 64 → wI W 7 i = fw (wI S 49) i := by
  obtain ⟨hI, hro, hw⟩ := h
  obtain ⟨h65, hF⟩ := id hI
  have h0 : B_X10_measure (0, [5], [], S) = if wI S 5 3 = wI S 1 5 then some (.inl S) else some (.inr (1, [5], [nI 0], sI S 5 3 (wI S 1 5))) := by
    show B_X10_measure_0 S 5 = _
    unfold B_X10_measure_0 f_X3_changes
    simp (decide := true) only [gd_ob h65, hF, Option.bind_some, bd2_eq]
    rfl
  unfold f_X10_measure
  by_cases hc : wI S 5 3 = wI S 1 5
  · rw [if_pos hc] at h0
    exact ⟨S, ru_done h0, Ag.rf, hc, hw hc⟩
  rw [if_neg hc] at h0
  have hA0 : Ag (fun a k => a = 7 ∨ (a = 5 ∧ k = 3)) S (sI S 5 3 (wI S 1 5)) := Ag.sI (Or.inr ⟨rfl, rfl⟩)
  have w5 : wI (sI S 5 3 (wI S 1 5)) 5 3 = wI S 1 5 := wI_sI_eq
  generalize hT : sI S 5 3 (wI S 1 5) = T at h0 hA0 w5
  have hIT := hA0.inv hI (by omega)
  have r6 : wI T 6 = wI S 6 := hA0.arr (by omega)
  let F : Nat → Nat → Int32 := fun t i => if i < t then W0 (wI S 49) i else wI T 7 i
  have inner : ∀ a b, a < 8 → b < 8 → B_X10_measure (2, [5], [nI a, nI b], sA T 7 (F (8 * a + b))) = some (.inr (2, [5], [nI a, nI (b + 1)], sA T 7 (F (8 * a + (b + 1))))) := by
    intro a b ha hb
    have hIA : Inv (sA T 7 (F (8 * a + b))) := (Ag.sA (D := fun a _ => a = 7) (fun _ => rfl)).inv hIT (by omega)
    obtain ⟨g65, hG⟩ := id hIA
    have e1 : F (8 * a + (b + 1)) = upd (F (8 * a + b)) (a * 8 + b) (W0 (wI S 49) (a * 8 + b)) := by
      funext i
      show (if i < 8 * a + (b + 1) then _ else _) = if i = a * 8 + b then _ else if i < 8 * a + b then _ else _
      by_cases hi : i = a * 8 + b
      · rw [if_pos hi, if_pos (by omega), hi]
      · rw [if_neg hi]
        by_cases h : i < 8 * a + b
        · rw [if_pos h, if_pos (by omega)]
        · rw [if_neg h, if_neg (by omega)]
    rw [e1, ← sI_sA]
    obtain ⟨r, r1, r2, r3⟩ := hro a b ha hb
    have r6' : wI (sA T 7 (F (8 * a + b))) 6 = wI S 6 := by rw [wI_sA, if_neg (by decide), r6]
    show B_X10_measure_2 (sA T 7 (F (8 * a + b))) 5 (nI a) (nI b) = _
    generalize F (8 * a + b) = A at *
    unfold B_X10_measure_2
    rw [if_neg (show ¬ (8 : Int32) ≤ nI b from nI_ge (b := 8) hb (by decide))]
    simp (decide := true) only [gd_ob g65, hG, Option.bind_some]
    rw [mMin_nI (by omega) (by omega), mMax_nI (by omega) (by omega), show nI (min a b) * 8 + nI (max a b) = nI (8 * min a b + max a b) by show nI (min a b) * nI 8 + nI (max a b) = _; rw [nI_mul, nI_add, Nat.mul_comm], show nI a * 8 + nI b = nI (a * 8 + b) by show nI a * nI 8 + nI b = _; rw [nI_mul, nI_add], gd_pos (ix_of g65 (by decide) (by decide) (show 8 * min a b + max a b < 64 by omega)), gd_pos (ix_of g65 (by decide) (by decide) (show a * 8 + b < 64 by omega)), gd_pos (ix_of g65 (by decide) (by decide) (show a * 8 + b < 64 by omega)), gd_pos (ix_of g65 (by decide) (by decide) (show a * 8 + b < 64 by omega)), nI_clamp (by omega), nI_clamp (by omega), r6', nI_1]
    unfold W0
    rw [show (a * 8 + b) / 8 = a by omega, show (a * 8 + b) % 8 = b by omega, show a * 8 + b = 8 * a + b by omega, r2]
    by_cases hab : a = b
    · rw [if_pos (show nI a = nI b by rw [hab]), if_pos hab]
      rfl
    · rw [if_neg (fun h => hab ((nI_eq (by omega) (by omega)).mp h)), if_neg hab, r3 hab]
      split <;> rfl
  have outer : ∀ a, a < 8 → ru B_X10_measure (1, [5], [nI a], sA T 7 (F (8 * a))) = ru B_X10_measure (1, [5], [nI (a + 1)], sA T 7 (F (8 * (a + 1)))) := by
    intro a ha
    refine (ru_step (show B_X10_measure (1, [5], [nI a], sA T 7 (F (8 * a))) = some (.inr (2, [5], [nI a, nI 0], sA T 7 (F (8 * a + 0)))) from ?_)).trans ((ru_for (fun b => (2, [5], [nI a, nI b], sA T 7 (F (8 * a + b)))) 8 (fun b hb => inner a b ha hb)).trans (ru_step ?_))
    · show B_X10_measure_1 _ 5 (nI a) = _
      unfold B_X10_measure_1
      rw [if_neg (show ¬ (8 : Int32) ≤ nI a from nI_ge (b := 8) ha (by decide))]
      rfl
    · show B_X10_measure_2 _ 5 (nI a) (nI 8) = _
      unfold B_X10_measure_2
      rw [if_pos (by decide), nI_1, show 8 * a + 8 = 8 * (a + 1) by omega]
  have e0 : sA T 7 (F (8 * 0)) = T := by
    rw [show F (8 * 0) = wI T 7 from funext fun i => if_neg (by omega)]
    exact sA_self T 7
  have o8 : ru B_X10_measure (1, [5], [nI 0], T) = ru B_X10_measure (1, [5], [nI (7 + 1)], sA T 7 (F (8 * (7 + 1)))) := by
    have := outer 0 (by decide)
    rw [e0] at this
    rw [this, outer 1 (by decide), outer 2 (by decide), outer 3 (by decide), outer 4 (by decide), outer 5 (by decide), outer 6 (by decide), outer 7 (by decide)]
  have sh : ∀ o, o < 8 → ru B_X10_measure (3, [5], [nI o], sA T 7 (fwRun (F 64) (64 * o))) = ru B_X10_measure (3, [5], [nI (o + 1)], sA T 7 (fwRun (F 64) (64 * (o + 1)))) := by
    intro o ho
    refine ru_step ?_
    show B_X10_measure_3 _ 5 (nI o) = _
    unfold B_X10_measure_3
    rw [if_neg (show ¬ (8 : Int32) ≤ nI o from nI_ge (b := 8) ho (by decide)), gd_pos (ob_of (show 65 ≤ wn (sA T 7 _) from hIT.1) (by decide) (by decide)), e_shorten hIT ho, Option.bind_some, nI_1]
  refine ⟨sA T 7 (fwRun (F 64) 512), (ru_step h0).trans (o8.trans ((ru_step (show B_X10_measure (1, [5], [nI (7 + 1)], sA T 7 (F (8 * (7 + 1)))) = some (.inr (3, [5], [nI 0], sA T 7 (fwRun (F 64) (64 * 0)))) from ?_)).trans ?_)), hA0.trans (Ag.sA (fun _ => Or.inl rfl)), ?_, fun i hi => ?_⟩
  · show B_X10_measure_1 _ 5 (nI 8) = _
    unfold B_X10_measure_1
    rw [if_pos (by decide)]
    rfl
  · rw [sh 0 (by decide), sh 1 (by decide), sh 2 (by decide), sh 3 (by decide), sh 4 (by decide), sh 5 (by decide), sh 6 (by decide), sh 7 (by decide)]
    refine ru_done ?_
    show B_X10_measure_3 _ 5 (nI 8) = _
    unfold B_X10_measure_3
    rw [if_pos (by decide)]
  · rw [wI_sA, if_neg (by decide)]
    exact w5
  · rw [wI_sA, if_pos rfl]
    exact fwRun_congr (fun i hi => if_pos hi) 512 (Nat.le_refl _) i hi
theorem e_between {W : Wd} (hI : Inv W) {a b : Nat} (ha : a < 8) (hb : b < 8) : f_X10_between W 5 (nI a) (nI b) = some (wI W 7 (8 * a + b), W) := by
  obtain ⟨h65, hF⟩ := id hI
  unfold f_X10_between
  rw [if_neg (nI_pos (by omega)), if_neg (show ¬ (8 : Int32) ≤ nI a from nI_ge (b := 8) ha (by decide)), if_neg (nI_pos (by omega)), if_neg (show ¬ (8 : Int32) ≤ nI b from nI_ge (b := 8) hb (by decide)), if_neg (by decide)]
  simp (decide := true) only [gd_ob h65, hF, Option.bind_some]
  rw [show nI a * 8 + nI b = nI (8 * a + b) by show nI a * nI 8 + nI b = _; rw [nI_mul, nI_add, Nat.mul_comm], gd_pos (ix_of h65 (by decide) (by decide) (show 8 * a + b < 64 by omega)), nI_clamp (by omega)]
/-- the reference measures -/
theorem e_findFar {V : Wd} (hI : Inv V) : ∃ W, f_X12_findFar V 48 = some W ∧ Ag (fun a _ => a = 54) V W ∧ ∀ i, i < 64 → wI W 54 i = fw (wI V 49) i := by
  obtain ⟨h65, hF⟩ := id hI
  let F : Nat → Nat → Int32 := fun t i => if i < t then W0 (wI V 49) i else wI V 54 i
  have l1 : ∀ k, k < 64 → B_X12_findFar (1, [48], [nI k], sA V 54 (F k)) = some (.inr (1, [48], [nI (k + 1)], sA V 54 (F (k + 1)))) := by
    intro k hk
    have hIA : Inv (sA V 54 (F k)) := (Ag.sA (D := fun a _ => a = 54) (fun _ => rfl)).inv hI (by omega)
    obtain ⟨g65, hG⟩ := id hIA
    have e1 : F (k + 1) = upd (F k) k (W0 (wI V 49) k) := by
      funext i
      show (if i < k + 1 then _ else _) = if i = k then _ else if i < k then _ else _
      by_cases hi : i = k
      · rw [if_pos hi, if_pos (by omega), hi]
      · rw [if_neg hi]
        by_cases h : i < k
        · rw [if_pos h, if_pos (by omega)]
        · rw [if_neg h, if_neg (by omega)]
    have r49 : wI (sA V 54 (F k)) 49 = wI V 49 := by rw [wI_sA, if_neg (by decide)]
    rw [e1, ← sI_sA]
    show B_X12_findFar_1 (sA V 54 (F k)) 48 (nI k) = _
    generalize F k = A at *
    unfold B_X12_findFar_1
    rw [if_neg (show ¬ (64 : Int32) ≤ nI k from nI_ge (b := 64) hk (by decide))]
    simp (decide := true) only [gd_ob g65, hG, Option.bind_some]
    rw [show (0 : Int32) + nI k = nI k from Int32.zero_add _, gd_pos (ix_of g65 (by decide) (by decide) (show k < 64 from hk)), gd_pos (rdN g65 (by omega)), gd_pos (ix_of g65 (by decide) (by decide) (show k < 64 from hk)), gd_pos (rdN g65 (by omega)), gd_pos (ix_of g65 (by decide) (by decide) (show k < 64 from hk)), nI_clamp (by omega), r49, show nI k / 8 = nI (k / 8) from pk_div (d := 8) (by omega) (by decide) (by decide), show irm (nI k) 8 = nI (k % 8) from irm_nI (d := 8) (by omega) (by decide) (by decide), nI_1]
    unfold W0
    by_cases hab : k / 8 = k % 8
    · rw [if_pos (show nI (k / 8) = nI (k % 8) by rw [hab]), if_pos hab]
      rfl
    · rw [if_neg (fun h => hab ((nI_eq (by omega) (by omega)).mp h)), if_neg hab]
      split <;> rfl
  have l3 : ∀ o k, o < 8 → k < 64 → B_X12_findFar (3, [48], [nI o, nI k], sA V 54 (fwRun (F 64) (64 * o + k))) = some (.inr (3, [48], [nI o, nI (k + 1)], sA V 54 (fwRun (F 64) (64 * o + (k + 1))))) := by
    intro o k ho hk
    have hIA : Inv (sA V 54 (fwRun (F 64) (64 * o + k))) := (Ag.sA (D := fun a _ => a = 54) (fun _ => rfl)).inv hI (by omega)
    obtain ⟨g65, hG⟩ := id hIA
    have rA : ∀ i, wI (sA V 54 (fwRun (F 64) (64 * o + k))) 54 i = fwRun (F 64) (64 * o + k) i := fun i => by rw [wI_sA, if_pos rfl]
    have e1 : fwRun (F 64) (64 * o + (k + 1)) = upd (fwRun (F 64) (64 * o + k)) k (mMin (fwRun (F 64) (64 * o + k) k) (fwRun (F 64) (64 * o + k) (k / 8 * 8 + o) + fwRun (F 64) (64 * o + k) (8 * o + k % 8))) := by
      rw [show 64 * o + (k + 1) = 64 * o + k + 1 from rfl, fwRun_s, show (64 * o + k) % 64 = k by omega, show (64 * o + k) / 64 = o by omega]
    rw [e1, ← sI_sA]
    show B_X12_findFar_3 (sA V 54 (fwRun (F 64) (64 * o + k))) 48 (nI o) (nI k) = _
    generalize fwRun (F 64) (64 * o + k) = A at *
    unfold B_X12_findFar_3
    rw [if_neg (show ¬ (64 : Int32) ≤ nI k from nI_ge (b := 64) hk (by decide))]
    simp (decide := true) only [gd_ob g65, hG, Option.bind_some]
    rw [show nI k / 8 = nI (k / 8) from pk_div (d := 8) (by omega) (by decide) (by decide), show irm (nI k) 8 = nI (k % 8) from irm_nI (d := 8) (by omega) (by decide) (by decide), show nI (k / 8) * 8 + nI o = nI (k / 8 * 8 + o) by show nI (k / 8) * nI 8 + nI o = _; rw [nI_mul, nI_add], show (8 : Int32) * nI o + nI (k % 8) = nI (8 * o + k % 8) by show nI 8 * nI o + nI (k % 8) = _; rw [nI_mul, nI_add], gd_pos (ix_of g65 (by decide) (by decide) (show k < 64 from hk)), gd_pos (ix_of g65 (by decide) (by decide) (show k / 8 * 8 + o < 64 by omega)), gd_pos (ix_of g65 (by decide) (by decide) (show 8 * o + k % 8 < 64 by omega)), gd_pos (ix_of g65 (by decide) (by decide) (show k < 64 from hk)), nI_clamp (by omega), nI_clamp (by omega), nI_clamp (by omega), rA, rA, rA, nI_1]
    rfl
  have outer : ∀ o, o < 8 → ru B_X12_findFar (2, [48], [nI o], sA V 54 (fwRun (F 64) (64 * o))) = ru B_X12_findFar (2, [48], [nI (o + 1)], sA V 54 (fwRun (F 64) (64 * (o + 1)))) := by
    intro o ho
    refine (ru_step (show B_X12_findFar (2, [48], [nI o], sA V 54 (fwRun (F 64) (64 * o))) = some (.inr (3, [48], [nI o, nI 0], sA V 54 (fwRun (F 64) (64 * o + 0)))) from ?_)).trans ((ru_for (fun k => (3, [48], [nI o, nI k], sA V 54 (fwRun (F 64) (64 * o + k)))) 64 (fun k hk => l3 o k ho hk)).trans (ru_step ?_))
    · show B_X12_findFar_2 _ 48 (nI o) = _
      unfold B_X12_findFar_2
      rw [if_neg (show ¬ (8 : Int32) ≤ nI o from nI_ge (b := 8) ho (by decide))]
      rfl
    · show B_X12_findFar_3 _ 48 (nI o) (nI 64) = _
      unfold B_X12_findFar_3
      rw [if_pos (by decide), nI_1, show 64 * o + 64 = 64 * (o + 1) by omega]
  have e0 : sA V 54 (F 0) = V := by
    rw [show F 0 = wI V 54 from funext fun i => if_neg (by omega)]
    exact sA_self V 54
  have hfor := ru_for (fun k => (1, [48], [nI k], sA V 54 (F k))) 64 l1
  rw [e0] at hfor
  refine ⟨sA V 54 (fwRun (F 64) 512), ?_, Ag.sA (fun _ => rfl), fun i hi => ?_⟩
  · unfold f_X12_findFar
    refine (ru_step (show B_X12_findFar (0, [48], [], V) = some (.inr (1, [48], [nI 0], V)) from rfl)).trans (hfor.trans ((ru_step (show B_X12_findFar (1, [48], [nI 64], sA V 54 (F 64)) = some (.inr (2, [48], [nI 0], sA V 54 (fwRun (F 64) (64 * 0)))) from ?_)).trans ?_))
    · show B_X12_findFar_1 _ 48 (nI 64) = _
      unfold B_X12_findFar_1
      rw [if_pos (by decide)]
      rfl
    · rw [outer 0 (by decide), outer 1 (by decide), outer 2 (by decide), outer 3 (by decide), outer 4 (by decide), outer 5 (by decide), outer 6 (by decide), outer 7 (by decide)]
      refine ru_done ?_
      show B_X12_findFar_2 _ 48 (nI 8) = _
      unfold B_X12_findFar_2
      rw [if_pos (by decide)]
  · rw [wI_sA, if_pos rfl]
    exact fwRun_congr (fun i hi => if_pos hi) 512 (Nat.le_refl _) i hi
