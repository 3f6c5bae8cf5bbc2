/-! payments on both sides -/
theorem py_A {s : Nat → Int32} {c : Nat} (h : PZ s c) (hp : ¬ s (mxN s 9) ≤ 0) : (-99999 : Int32) ≤ pyP s := by
  obtain ⟨hn, -, -⟩ := py_step h hp
  obtain ⟨x1, -⟩ := mxN_le s 9
  obtain ⟨y1, -⟩ := mnN_le s 9
  have h2 := h.2.1
  unfold pyP
  have e0 : (0 : Int32).toInt = 0 := rfl
  have b1 := h2 (mxN s 9) (by omega)
  have b2 := h2 (mnN s 9) (by omega)
  have g1 := Int32.lt_iff_toInt_lt.mp (i32nle.mp hp)
  have g2 := Int32.lt_iff_toInt_lt.mp hn
  rw [e0] at g1 g2
  have en : (-(s (mnN s 9))).toInt = -(s (mnN s 9)).toInt := i32_neg (by omega) (by omega)
  have hA : 0 ≤ (pyA s).toInt ∧ (pyA s).toInt ≤ 199980 := by
    unfold pyA mMin
    split
    · rw [en]; omega
    · omega
  rw [show (1000000 : Int32) * nI (mnN s 9) + 100000 * nI (mxN s 9) = nI (1000000 * mnN s 9 + 100000 * mxN s 9) by
    show nI 1000000 * nI (mnN s 9) + nI 100000 * nI (mxN s 9) = _
    rw [nI_mul, nI_mul, nI_add]]
  rw [Int32.le_iff_toInt_le, i32_add (by rw [nI_toInt (by omega)]; omega) (by rw [nI_toInt (by omega)]; omega), nI_toInt (by omega)]
  have : (-99999 : Int32).toInt = -99999 := by decide
  rw [this]
  omega
theorem pyR_congr : ∀ (f : Nat) (s P P' : Nat → Int32) (c : Nat), (∀ i, i < c → P i = P' i) → (pyR f s P c).1 = (pyR f s P' c).1 ∧ (∀ i, i < (pyR f s P c).1 → (pyR f s P c).2 i = (pyR f s P' c).2 i) ∧ (pyR f s P c).1 ≤ c + f
  | 0, s, P, P', c, h => ⟨rfl, h, Nat.le_refl _⟩
  | f + 1, s, P, P', c, h => by
    unfold pyR
    split
    · exact ⟨rfl, h, by show c ≤ _; omega⟩
    · obtain ⟨h1, h2, h3⟩ := pyR_congr f (pyS s) (upd P c (pyP s)) (upd P' c (pyP s)) (c + 1) fun i hi => by
        unfold upd
        by_cases he : i = c
        · rw [if_pos he, if_pos he]
        · rw [if_neg he, if_neg he]
          exact h i (by omega)
      exact ⟨h1, h2, by omega⟩
theorem pyR_ok : ∀ (f : Nat) (s P : Nat → Int32) (c : Nat), PZ s c → (∀ i, i < c → (-99999 : Int32) ≤ P i) → ∀ i, i < (pyR f s P c).1 → (-99999 : Int32) ≤ (pyR f s P c).2 i
  | 0, s, P, c, _, h => h
  | f + 1, s, P, c, hz, h => by
    unfold pyR
    split
    · exact h
    · rename_i hp
      refine pyR_ok f (pyS s) (upd P c (pyP s)) (c + 1) (py_step hz hp).2.2 fun i hi => ?_
      unfold upd
      by_cases he : i = c
      · rw [if_pos he]; exact py_A hz hp
      · rw [if_neg he]
        exact h i (by omega)
theorem ru_done' {σ ρ : Type} {f : σ → Option (ρ ⊕ σ)} {s : σ} {o : Option ρ} (h : f s = o.map Sum.inl) (ho : o ≠ none) : ru f s = o := by
  cases o with
  | none => exact absurd rfl ho
  | some r => exact ru_done h
theorem wI_upd (S : Wd) (i k : Nat) (v : Int32) : wI (sI S i k v) i = upd (wI S i) k v := by
  funext c
  rw [wI_sI, if_pos rfl]
  rfl
theorem e_settleOne {W : Wd} (hI : Inv W) {c : Nat} (hc : c < 10) (h4 : wI W 31 4 = nI c) {s : Nat → Int32} (h33 : wI W 33 = s) : f_X4_settleOne W 31 = if s (mxN s 9) ≤ 0 then some (0, W) else if 0 ≤ s (mnN s 9) then some (0, W) else some (1, sI (sI (sI W 33 (mxN s 9) (s (mxN s 9) - pyA s)) 33 (mnN s 9) (upd s (mxN s 9) (s (mxN s 9) - pyA s) (mnN s 9) + pyA s)) 34 c (pyP s)) := by
  obtain ⟨h65, hF⟩ := id hI
  have ix33 : ∀ {W : Wd}, 65 ≤ wn W → ∀ {k}, k < 10 → ix W 33 100 (nI k) := fun h _ hk => ix_of h (by decide) (by decide) hk
  unfold f_X4_settleOne
  refine (ru_step (show B_X4_settleOne (0, [31], [], W) = some (.inr (1, [31], [nI (mxN s 0), nI (mnN s 0), nI (0 + 1)], W)) from rfl)).trans ((ru_for (fun k => (1, [31], [nI (mxN s k), nI (mnN s k), nI (k + 1)], W)) 9 (fun k hk => ?_)).trans (ru_done' ?_ ?_))
  · have m1 := (mxN_le s k).1
    have m2 := (mnN_le s k).1
    show B_X4_settleOne_1 W 31 (nI (mxN s k)) (nI (mnN s k)) (nI (k + 1)) = _
    unfold B_X4_settleOne_1
    rw [if_neg (show ¬ (10 : Int32) ≤ nI (k + 1) from nI_ge (b := 10) (by omega) (by decide))]
    simp (decide := true) only [gd_ob h65, hF, Option.bind_some, gd_pos (ix33 h65 (show k + 1 < 10 by omega)), gd_pos (ix33 h65 (show mxN s k < 10 by omega)), gd_pos (ix33 h65 (show mnN s k < 10 by omega)), nI_clamp (show k + 1 < 2 ^ 31 by omega), nI_clamp (show mxN s k < 2 ^ 31 by omega), nI_clamp (show mnN s k < 2 ^ 31 by omega), h33, nI_1]
    show _ = some (Sum.inr (1, [31], [nI (if s (k + 1) ≤ s (mxN s k) then mxN s k else k + 1), nI (if s (mnN s k) ≤ s (k + 1) then mnN s k else k + 1), nI (k + 1 + 1)], W))
    split
    · split <;> rfl
    · split <;> rfl
  · have m1 := (mxN_le s 9).1
    have m2 := (mnN_le s 9).1
    show B_X4_settleOne_1 W 31 (nI (mxN s 9)) (nI (mnN s 9)) (nI (9 + 1)) = _
    unfold B_X4_settleOne_1
    rw [if_pos (by decide)]
    simp (decide := true) only [gd_ob h65, hF, Option.bind_some, gd_pos (ix33 h65 (show mxN s 9 < 10 by omega)), gd_pos (ix33 h65 (show mnN s 9 < 10 by omega)), nI_clamp (show mxN s 9 < 2 ^ 31 by omega), nI_clamp (show mnN s 9 < 2 ^ 31 by omega), h33]
    split
    · rfl
    split
    · rfl
    rw [h4, if_pos (show nI c < 10 from nI_lt (b := 10) hc (by decide))]
    show gd (ob (sI W 33 (mxN s 9) _) 31 4) _ = _
    have eA : mMin (s (mxN s 9)) (-(s (mnN s 9))) = pyA s := rfl
    rw [eA]
    have hI1 : Inv (sI W 33 (mxN s 9) (s (mxN s 9) - pyA s)) := (Ag.sI (D := fun a _ => a = 33) rfl).inv hI (by omega)
    obtain ⟨p1, F1⟩ := id hI1
    simp (decide := true) only [gd_ob p1, F1, Option.bind_some, gd_pos (ix33 p1 (show mnN s 9 < 10 by omega)), wI_upd, h33]
    have hI2 : Inv (sI (sI W 33 (mxN s 9) (s (mxN s 9) - pyA s)) 33 (mnN s 9) (upd s (mxN s 9) (s (mxN s 9) - pyA s) (mnN s 9) + pyA s)) := (Ag.sI (D := fun a _ => a = 33) rfl).inv hI1 (by omega)
    obtain ⟨p2, F2⟩ := id hI2
    show gd (ob (sI (sI W 33 (mxN s 9) (s (mxN s 9) - pyA s)) 33 (mnN s 9) (upd s (mxN s 9) (s (mxN s 9) - pyA s) (mnN s 9) + pyA s)) 31 4) _ = _
    simp (decide := true) only [gd_ob p2, F2, Option.bind_some]
    rw [wI_sI_ne (by omega), wI_sI_ne (by omega), h4, gd_pos (ix_of p2 (by decide) (by decide) (show c < 10 from hc)), nI_clamp (by omega)]
    rfl
  · split
    · exact fun h => by cases h
    · split <;> exact fun h => by cases h
theorem e_settle2 {S : Wd} (hI : Inv S) : ∀ (f c : Nat) (W : Wd) (s P : Nat → Int32), c + f = 10 → Ag (fun a k => a = 33 ∨ a = 34 ∨ (a = 31 ∧ k = 4)) S W → wI W 33 = s → wI W 34 = P → wI W 31 4 = nI c → PZ s c → ∃ W', ru B_X4_settle (2, [31], [nI c], W) = some (nI (pyR f s P c).1, W') ∧ Ag (fun a k => a = 33 ∨ a = 34 ∨ (a = 31 ∧ k = 4)) S W' ∧ wI W' 34 = (pyR f s P c).2 ∧ wI W' 31 4 = nI (pyR f s P c).1
  | 0, c, W, s, P, hc, hA, h33, h34, h4, hz => by
    have hIW := hA.inv hI (by omega)
    refine ⟨W, ru_done ?_, hA, h34, h4⟩
    show B_X4_settle_2 W 31 (nI c) = _
    unfold B_X4_settle_2
    rw [if_pos (show (10 : Int32) ≤ nI c by rw [show c = 10 by omega]; decide), gd_pos (ob_of hIW.1 (by decide) (by decide)), h4]
    rfl
  | f + 1, c, W, s, P, hc, hA, h33, h34, h4, hz => by
    have hIW := hA.inv hI (by omega)
    obtain ⟨h65, hF⟩ := id hIW
    have h1 := e_settleOne hIW (show c < 10 by omega) h4 h33
    unfold pyR
    by_cases hp : s (mxN s 9) ≤ 0
    · rw [if_pos hp] at h1 ⊢
      refine ⟨W, ru_done ?_, hA, h34, h4⟩
      show B_X4_settle_2 W 31 (nI c) = _
      unfold B_X4_settle_2
      rw [if_neg (show ¬ (10 : Int32) ≤ nI c from nI_ge (b := 10) (by omega) (by decide)), gd_pos (ob_of h65 (by decide) (by decide)), h1, bd2_eq, if_pos rfl, gd_pos (ob_of h65 (by decide) (by decide)), h4]
    · obtain ⟨q1, q2, q3⟩ := py_step hz hp
      rw [if_neg hp, if_neg (fun h => absurd q1 (i32nl.mpr h))] at h1
      rw [if_neg hp]
      generalize hV : sI (sI (sI W 33 (mxN s 9) (s (mxN s 9) - pyA s)) 33 (mnN s 9) (upd s (mxN s 9) (s (mxN s 9) - pyA s) (mnN s 9) + pyA s)) 34 c (pyP s) = V at h1
      have hAV : Ag (fun a k => a = 33 ∨ a = 34 ∨ (a = 31 ∧ k = 4)) W V := by
        rw [← hV]
        exact ((Ag.sI (Or.inl rfl)).trans (Ag.sI (Or.inl rfl))).trans (Ag.sI (Or.inr (Or.inl rfl)))
      have hA2 : Ag (fun a k => a = 33 ∨ a = 34 ∨ (a = 31 ∧ k = 4)) S (sI V 31 4 (nI (c + 1))) := (hA.trans hAV).trans (Ag.sI (Or.inr (Or.inr ⟨rfl, rfl⟩)))
      have v33 : wI (sI V 31 4 (nI (c + 1))) 33 = pyS s := by
        rw [wI_sI' _ _ _ _ _ (by decide), ← hV, wI_sI' _ _ _ _ _ (by decide), wI_upd, wI_upd, h33]
        rfl
      have v34 : wI (sI V 31 4 (nI (c + 1))) 34 = upd P c (pyP s) := by
        rw [wI_sI' _ _ _ _ _ (by decide), ← hV, wI_upd, wI_sI' _ _ _ _ _ (by decide), wI_sI' _ _ _ _ _ (by decide), h34]
      obtain ⟨W', w1, w2, w3, w4⟩ := e_settle2 hI f (c + 1) _ _ _ (by omega) hA2 v33 v34 wI_sI_eq q3
      refine ⟨W', (ru_step ?_).trans w1, w2, w3, w4⟩
      show B_X4_settle_2 W 31 (nI c) = _
      unfold B_X4_settle_2
      have V65 : 65 ≤ wn V := by rw [hAV.1]; exact h65
      rw [if_neg (show ¬ (10 : Int32) ≤ nI c from nI_ge (b := 10) (by omega) (by decide)), gd_pos (ob_of h65 (by decide) (by decide)), h1, bd2_eq, if_neg (by decide), gd_pos (ob_of V65 (by decide) (by decide)), nI_1]
      rfl
theorem e_settle {S : Wd} (hI : Inv S) (ho : cOwe (wI S) (wI S 49)) : ∃ W s, f_X4_settle S 31 = some (nI (pyR 10 s (wI S 34) 0).1, W) ∧ Ag (fun a k => a = 33 ∨ a = 34 ∨ (a = 31 ∧ k = 4)) S W ∧ wI W 34 = (pyR 10 s (wI S 34) 0).2 ∧ wI W 31 4 = nI (pyR 10 s (wI S 34) 0).1 ∧ (∀ f, f < 10 → s f = netI (wI S 49) f) := by
  obtain ⟨h65, hF⟩ := id hI
  have s1 : ∀ k, k < 10 → B_X4_settle (1, [31], [nI k], sA S 33 (fun i => if i < k then netI (wI S 49) i else wI S 33 i)) = some (.inr (1, [31], [nI (k + 1)], sA S 33 (fun i => if i < k + 1 then netI (wI S 49) i else wI S 33 i))) := by
    intro k hk
    have hIA : Inv (sA S 33 (fun i => if i < k then netI (wI S 49) i else wI S 33 i)) := (Ag.sA (D := fun a _ => a = 33) (fun _ => rfl)).inv hI (by omega)
    obtain ⟨p1, F1⟩ := id hIA
    have e32 : wI (sA S 33 (fun i => if i < k then netI (wI S 49) i else wI S 33 i)) 32 = wI S 32 := by rw [wI_sA, if_neg (by decide)]
    show B_X4_settle_1 _ 31 (nI k) = _
    unfold B_X4_settle_1
    rw [if_neg (show ¬ (10 : Int32) ≤ nI k from nI_ge (b := 10) hk (by decide))]
    simp (decide := true) only [gd_ob p1, F1, Option.bind_some, e_sumOf hIA hk, bd2_eq]
    rw [gd_pos (ix_of p1 (by decide) (by decide) (show k < 10 from hk)), nI_clamp (by omega), nI_1, sI_sA, e32]
    have := net_eq ho hk
    show some _ = _
    congr 6
    funext i
    unfold upd
    by_cases hi : i = k
    · rw [if_pos hi, if_pos (by omega), hi]
      exact this
    · rw [if_neg hi]
      dsimp only
      by_cases h : i < k
      · rw [if_pos h, if_pos (by omega)]
      · rw [if_neg h, if_neg (by omega)]
  have e0 : sA S 33 (fun i => if i < 0 then netI (wI S 49) i else wI S 33 i) = S := by
    rw [show (fun i => if i < 0 then netI (wI S 49) i else wI S 33 i) = wI S 33 from funext fun i => if_neg (by omega)]
    exact sA_self S 33
  have hfor := ru_for (fun k => (1, [31], [nI k], sA S 33 (fun i => if i < k then netI (wI S 49) i else wI S 33 i))) 10 s1
  rw [e0] at hfor
  generalize hs : (fun i => if i < 10 then netI (wI S 49) i else wI S 33 i) = s at hfor
  have es : ∀ f, f < 10 → s f = netI (wI S 49) f := fun f hf => by rw [← hs]; exact if_pos hf
  have hA : Ag (fun a k => a = 33 ∨ a = 34 ∨ (a = 31 ∧ k = 4)) S (sI (sA S 33 s) 31 4 (nI 0)) := (Ag.sA (fun _ => Or.inl rfl)).trans (Ag.sI (Or.inr (Or.inr ⟨rfl, rfl⟩)))
  obtain ⟨W, w1, w2, w3, w4⟩ := e_settle2 hI 10 0 _ s (wI S 34) rfl hA (by rw [wI_sI' _ _ _ _ _ (by decide), wI_sA, if_pos rfl]) (by rw [wI_sI' _ _ _ _ _ (by decide), wI_sA, if_neg (by decide)]) wI_sI_eq (net_PZ (fun k hk => (ho k hk).2) es)
  refine ⟨W, s, ?_, w2, w3, w4, es⟩
  unfold f_X4_settle
  refine (ru_step (show B_X4_settle (0, [31], [], S) = some (.inr (1, [31], [nI 0], S)) from rfl)).trans (hfor.trans ((ru_step ?_).trans w1))
  show B_X4_settle_1 _ 31 (nI 10) = _
  unfold B_X4_settle_1
  rw [if_pos (by decide), gd_pos (ob_of (show 65 ≤ wn (sA S 33 s) from h65) (by decide) (by decide))]
  rfl
/-- one turn of the reference's -/
theorem e_payS {V : Wd} (hI : Inv V) (c : Nat) (W : Wd) (s : Nat → Int32) (hA : Ag (fun a _ => a = 61 ∨ a = 62) V W) (h61 : wI W 61 = s) (hc : c ≤ 10) : ∃ W', (c < 10 → Ag (fun a _ => a = 61 ∨ a = 62) V W' ∧ wI W' 61 = pyS s ∧ wI W' 62 = upd (wI W 62) c (pyP s)) ∧ (s (mxN s 9) ≤ 0 → ru B_X12_findPayments (2, [48], [nI c, 1], W) = some (nI c, W)) ∧ (c < 10 → ¬ s (mxN s 9) ≤ 0 → ru B_X12_findPayments (2, [48], [nI c, 1], W) = ru B_X12_findPayments (2, [48], [nI (c + 1), 1], W')) := by
  have hIW := hA.inv hI (by omega)
  obtain ⟨h65, hF⟩ := id hIW
  have ix61 : ∀ {W : Wd}, 65 ≤ wn W → ∀ {k}, k < 10 → ix W 61 100 (nI k) := fun h _ hk => ix_of h (by decide) (by decide) hk
  have scan : ru B_X12_findPayments (2, [48], [nI c, 1], W) = ru B_X12_findPayments (3, [48], [nI c, 1, nI (mxN s 9), nI (mnN s 9), nI (9 + 1)], W) := by
    refine (ru_step (show B_X12_findPayments (2, [48], [nI c, 1], W) = some (.inr (3, [48], [nI c, 1, nI (mxN s 0), nI (mnN s 0), nI (0 + 1)], W)) from ?_)).trans (ru_for (fun k => (3, [48], [nI c, 1, nI (mxN s k), nI (mnN s k), nI (k + 1)], W)) 9 (fun k hk => ?_))
    · show B_X12_findPayments_2 W 48 (nI c) 1 = _
      unfold B_X12_findPayments_2
      rw [if_neg (by decide)]
      rfl
    · have m1 := (mxN_le s k).1
      have m2 := (mnN_le s k).1
      show B_X12_findPayments_3 W 48 (nI c) 1 (nI (mxN s k)) (nI (mnN s k)) (nI (k + 1)) = _
      unfold B_X12_findPayments_3
      rw [if_neg (show ¬ (10 : Int32) ≤ nI (k + 1) from nI_ge (b := 10) (by omega) (by decide))]
      simp (decide := true) only [gd_ob h65, hF, Option.bind_some, gd_pos (ix61 h65 (show k + 1 < 10 by omega)), gd_pos (ix61 h65 (show mxN s k < 10 by omega)), gd_pos (ix61 h65 (show mnN s k < 10 by omega)), nI_clamp (show k + 1 < 2 ^ 31 by omega), nI_clamp (show mxN s k < 2 ^ 31 by omega), nI_clamp (show mnN s k < 2 ^ 31 by omega), h61, nI_1]
      show _ = some (Sum.inr (3, [48], [nI c, 1, nI (if s (k + 1) ≤ s (mxN s k) then mxN s k else k + 1), nI (if s (mnN s k) ≤ s (k + 1) then mnN s k else k + 1), nI (k + 1 + 1)], W))
      split
      · split <;> rfl
      · split <;> rfl
  have m1 := (mxN_le s 9).1
  have m2 := (mnN_le s 9).1
  refine ⟨sI (sI (sI W 62 c (pyP s)) 61 (mxN s 9) (s (mxN s 9) - pyA s)) 61 (mnN s 9) (upd s (mxN s 9) (s (mxN s 9) - pyA s) (mnN s 9) + pyA s), fun hc' => ⟨?_, ?_, ?_⟩, fun hp => ?_, fun hc' hp => ?_⟩
  · exact hA.trans (((Ag.sI (Or.inr rfl)).trans (Ag.sI (Or.inl rfl))).trans (Ag.sI (Or.inl rfl)))
  · rw [wI_upd, wI_upd, wI_sI' _ _ _ _ _ (by decide), h61]
    rfl
  · rw [wI_sI' _ _ _ _ _ (by decide), wI_sI' _ _ _ _ _ (by decide), wI_upd]
  · refine scan.trans ((ru_step (show B_X12_findPayments (3, [48], [nI c, 1, nI (mxN s 9), nI (mnN s 9), nI (9 + 1)], W) = some (.inr (2, [48], [nI c, 0], W)) from ?_)).trans (ru_done ?_))
    · show B_X12_findPayments_3 W 48 (nI c) 1 (nI (mxN s 9)) (nI (mnN s 9)) (nI (9 + 1)) = _
      unfold B_X12_findPayments_3
      rw [if_pos (by decide)]
      simp (decide := true) only [gd_ob h65, hF, Option.bind_some, gd_pos (ix61 h65 (show mxN s 9 < 10 by omega)), nI_clamp (show mxN s 9 < 2 ^ 31 by omega), h61]
      rw [if_pos hp, if_pos trivial]
    · show B_X12_findPayments_2 W 48 (nI c) 0 = _
      unfold B_X12_findPayments_2
      rw [if_pos rfl]
  · refine scan.trans (ru_step ?_)
    show B_X12_findPayments_3 W 48 (nI c) 1 (nI (mxN s 9)) (nI (mnN s 9)) (nI (9 + 1)) = _
    unfold B_X12_findPayments_3
    rw [if_pos (by decide)]
    simp (decide := true) only [gd_ob h65, hF, Option.bind_some, gd_pos (ix61 h65 (show mxN s 9 < 10 by omega)), gd_pos (ix61 h65 (show mnN s 9 < 10 by omega)), nI_clamp (show mxN s 9 < 2 ^ 31 by omega), nI_clamp (show mnN s 9 < 2 ^ 31 by omega), h61]
    rw [if_neg hp, if_neg (by decide), gd_pos (ix_of h65 (by decide) (by decide) (show c < 10 from hc')), nI_clamp (show c < 2 ^ 31 by omega)]
    have eA : mMin (s (mxN s 9)) (-(s (mnN s 9))) = pyA s := rfl
    rw [eA, show (1000000 : Int32) * nI (mnN s 9) + 100000 * nI (mxN s 9) + pyA s = pyP s from rfl]
    show gd (ob (sI W 62 c (pyP s)) 48 12) _ = _
    have hI1 : Inv (sI W 62 c (pyP s)) := (Ag.sI (D := fun a _ => a = 62) rfl).inv hIW (by omega)
    obtain ⟨p1, F1⟩ := id hI1
    simp (decide := true) only [gd_ob p1, F1, Option.bind_some, gd_pos (ix61 p1 (show mxN s 9 < 10 by omega))]
    rw [wI_sI' _ _ _ _ _ (by decide), h61]
    show gd (ob (sI (sI W 62 c (pyP s)) 61 (mxN s 9) (s (mxN s 9) - pyA s)) 48 12) _ = _
    have hI2 : Inv (sI (sI W 62 c (pyP s)) 61 (mxN s 9) (s (mxN s 9) - pyA s)) := (Ag.sI (D := fun a _ => a = 61) rfl).inv hI1 (by omega)
    obtain ⟨p2, F2⟩ := id hI2
    simp (decide := true) only [gd_ob p2, F2, Option.bind_some, gd_pos (ix61 p2 (show mnN s 9 < 10 by omega))]
    rw [wI_upd, wI_sI' _ _ _ _ _ (by decide), h61, nI_1]
    rfl
/-- the reference's -/
theorem e_payL {V : Wd} (hI : Inv V) : ∀ (f c : Nat) (W : Wd) (s P : Nat → Int32), c + f = 10 → Ag (fun a _ => a = 61 ∨ a = 62) V W → wI W 61 = s → wI W 62 = P → PZ s c → ∃ W', ru B_X12_findPayments (2, [48], [nI c, 1], W) = some (nI (pyR f s P c).1, W') ∧ Ag (fun a _ => a = 61 ∨ a = 62) V W' ∧ wI W' 62 = (pyR f s P c).2 := by
  intro f
  induction f with
  | zero =>
    intro c W s P hc hA h61 h62 hz
    obtain ⟨W', w1, w2, w3⟩ := e_payS hI c W s hA h61 (by omega)
    by_cases hp : s (mxN s 9) ≤ 0
    · exact ⟨W, w2 hp, hA, h62⟩
    · have := (py_step hz hp).2.1
      omega
  | succ f ih =>
    intro c W s P hc hA h61 h62 hz
    obtain ⟨W', w1, w2, w3⟩ := e_payS hI c W s hA h61 (by omega)
    unfold pyR
    by_cases hp : s (mxN s 9) ≤ 0
    · rw [if_pos hp]
      exact ⟨W, w2 hp, hA, h62⟩
    · rw [if_neg hp]
      obtain ⟨v1, v2, v3⟩ := w1 (by omega)
      obtain ⟨W2, x1, x2, x3⟩ := ih (c + 1) W' (pyS s) (upd P c (pyP s)) (by omega) v1 v2 (by rw [v3, h62]) (py_step hz hp).2.2
      exact ⟨W2, (w3 (by omega) hp).trans x1, x2, x3⟩
theorem e_findPay {V : Wd} (hI : Inv V) (ho : ∀ k, k < 100 → -9999 ≤ wI V 49 (310 + k) ∧ wI V 49 (310 + k) ≤ 9999) : ∃ W s, f_X12_findPayments V 48 = some (nI (pyR 10 s (wI V 62) 0).1, W) ∧ Ag (fun a _ => a = 61 ∨ a = 62) V W ∧ wI W 62 = (pyR 10 s (wI V 62) 0).2 ∧ (∀ f, f < 10 → s f = netI (wI V 49) f) := by
  obtain ⟨h65, hF⟩ := id hI
  have s1 : ∀ k, k < 10 → B_X12_findPayments (1, [48], [nI k], sA V 61 (fun i => if i < k then netI (wI V 49) i else wI V 61 i)) = some (.inr (1, [48], [nI (k + 1)], sA V 61 (fun i => if i < k + 1 then netI (wI V 49) i else wI V 61 i))) := by
    intro k hk
    have hIA : Inv (sA V 61 (fun i => if i < k then netI (wI V 49) i else wI V 61 i)) := (Ag.sA (D := fun a _ => a = 61) (fun _ => rfl)).inv hI (by omega)
    obtain ⟨p1, F1⟩ := id hIA
    have e49 : wI (sA V 61 (fun i => if i < k then netI (wI V 49) i else wI V 61 i)) 49 = wI V 49 := by rw [wI_sA, if_neg (by decide)]
    show B_X12_findPayments_1 _ 48 (nI k) = _
    unfold B_X12_findPayments_1
    rw [if_neg (show ¬ (10 : Int32) ≤ nI k from nI_ge (b := 10) hk (by decide))]
    simp (decide := true) only [gd_ob p1, F1, Option.bind_some, e_netOf hIA hk, bd2_eq]
    rw [gd_pos (ix_of p1 (by decide) (by decide) (show k < 10 from hk)), nI_clamp (by omega), nI_1, sI_sA, e49]
    show some _ = _
    congr 6
    funext i
    unfold upd
    by_cases hi : i = k
    · rw [if_pos hi, if_pos (by omega), hi]
      rfl
    · rw [if_neg hi]
      dsimp only
      by_cases h : i < k
      · rw [if_pos h, if_pos (by omega)]
      · rw [if_neg h, if_neg (by omega)]
  have e0 : sA V 61 (fun i => if i < 0 then netI (wI V 49) i else wI V 61 i) = V := by
    rw [show (fun i => if i < 0 then netI (wI V 49) i else wI V 61 i) = wI V 61 from funext fun i => if_neg (by omega)]
    exact sA_self V 61
  have hfor := ru_for (fun k => (1, [48], [nI k], sA V 61 (fun i => if i < k then netI (wI V 49) i else wI V 61 i))) 10 s1
  rw [e0] at hfor
  generalize hs : (fun i => if i < 10 then netI (wI V 49) i else wI V 61 i) = s at hfor
  have es : ∀ f, f < 10 → s f = netI (wI V 49) f := fun f hf => by rw [← hs]; exact if_pos hf
  have hA : Ag (fun a _ => a = 61 ∨ a = 62) V (sA V 61 s) := Ag.sA (fun _ => Or.inl rfl)
  obtain ⟨W, w1, w2, w3⟩ := e_payL hI 10 0 _ s (wI V 62) rfl hA (by rw [wI_sA, if_pos rfl]) (by rw [wI_sA, if_neg (by decide)]) (net_PZ ho es)
  refine ⟨W, s, ?_, w2, w3, es⟩
  unfold f_X12_findPayments
  refine (ru_step (show B_X12_findPayments (0, [48], [], V) = some (.inr (1, [48], [nI 0], V)) from rfl)).trans (hfor.trans ((ru_step ?_).trans w1))
  show B_X12_findPayments_1 _ 48 (nI 10) = _
  unfold B_X12_findPayments_1
  rw [if_pos (by decide)]
  rfl
