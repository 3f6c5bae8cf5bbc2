/-! drives: the reference's drives -/
theorem crN_4 {w : Nat → Nat} {Ld : Nat → Nat → Nat} {o : Option Nat} {x : Nat × Dv} (h : x.1 ≤ 4) : (crN w Ld o x).1 ≤ 4 := by
  cases o with
  | none => exact h
  | some a => exact thn_4 h fun _ => carN_4
theorem crN_ok {w : Nat → Nat} {Ld : Nat → Nat → Nat} {m : Nat} (hL : ∀ d, d < m → LdOk (Ld d)) {o : Option Nat} (ho : opLt m o) {k : Nat} {x : Nat × Dv} (h : DB k x.2) : DB (k + 4) (crN w Ld o x).2 := by
  cases o with
  | none => exact h.up.up.up.up
  | some a =>
    show DB (k + 4) (thn x (carN w (Ld a))).2
    unfold thn
    split
    · exact carN_ok (hL a ho) h
    · exact h.up.up.up.up
theorem ans_neg {o : Option Nat} {m : Nat} (hm : m ≤ 8) (ho : opLt m o) : (0 ≤ ans o ↔ o ≠ none) ∧ (ans o < 0 ↔ o = none) := by
  cases o with
  | none => exact ⟨⟨fun h => absurd h (by decide), fun h => absurd rfl h⟩, ⟨fun _ => rfl, fun _ => by decide⟩⟩
  | some a =>
    have ha : a < m := ho
    exact ⟨⟨fun _ h => (by cases h), fun _ => nI_pos' (by omega)⟩, ⟨fun h => absurd h (nI_pos (by omega)), fun h => (by cases h)⟩⟩
theorem e_drivesM {V : Wd} (hI : Inv V) {w : Nat → Nat} (hw : ∀ i, i < 64 → w i ≤ 1000000 ∧ wI V 54 i = nI (w i)) {l : Nat} (hl : l < 6) {Lo : Nat → Nat} (lo1 : Lo 1 ≤ 7) (lo2 : Lo 2 ≤ 2000) (lo3 : Lo 3 ≤ 7) (lo4 : Lo 4 ≤ 4000) (eLo : ∀ c, c < 7 → wI V 49 (70 + 7 * l + c) = nI (Lo c)) {m : Nat} (hm : m ≤ 8) {Ld : Nat → Nat → Nat} (hL : ∀ d, d < m → LdOk (Ld d)) (eL : ∀ d, d < m → ∀ c, c < 10 → wI V 49 (112 + 11 * d + c) = nI (Ld d c)) {one two : Option Nat} (h1 : opLt m one) (h2 : opLt m two) (h12 : one = none → two = none) : ∃ W, f_X12_drives V 48 (nI l) (ans one) (ans two) = some (nI (runN w Lo Ld one two).1, W) ∧ Ag D48 V W ∧ DM W (runN w Lo Ld one two).2 := by
  obtain ⟨h65, hF⟩ := id hI
  have rd : ∀ {T : Wd}, Ag D48 V T → ∀ {c}, c < 7 → wI T 49 (70 + 7 * l + c) = nI (Lo c) := fun h c hc => (h.2.2.2 49 _ (by omega)).trans (eLo c hc)
  have rx : ∀ {T : Wd}, Ag D48 V T → ∀ {c}, c < 7 → ix T 49 100 (nI (70 + 7 * l + c)) := fun h c hc => rdN (by rw [h.1]; exact h65) (by omega)
  have hS : ∃ T, T = sI (sI (sI (sI (sI (sI (sI V 48 8 (nI (Lo 2))) 48 9 0) 48 10 0) 48 11 0) 48 12 0) 48 13 0) 48 14 (nI (Lo 1)) := ⟨_, rfl⟩
  obtain ⟨T, eT⟩ := hS
  have hA6 : Ag D48 V (sI (sI (sI (sI (sI (sI V 48 8 (nI (Lo 2))) 48 9 0) 48 10 0) 48 11 0) 48 12 0) 48 13 0) := (((((Ag.sI ⟨rfl, by omega, by omega⟩).trans (Ag.sI ⟨rfl, by omega, by omega⟩)).trans (Ag.sI ⟨rfl, by omega, by omega⟩)).trans (Ag.sI ⟨rfl, by omega, by omega⟩)).trans (Ag.sI ⟨rfl, by omega, by omega⟩)).trans (Ag.sI ⟨rfl, by omega, by omega⟩)
  have hAT : Ag D48 V T := by
    rw [eT]
    exact hA6.trans (Ag.sI ⟨rfl, by omega, by omega⟩)
  have hDT : DM T (Lo 1, Lo 2, 0, 0, 0, 0, 0) := by
    rw [eT]
    refine ⟨?_, ?_, ?_, ?_, ?_, ?_, ?_⟩ <;> simp (decide := true) only [wI_sI, if_true, if_false] <;> rfl
  have hB0 : DB 0 (Lo 1, Lo 2, 0, 0, 0, 0, 0) := ⟨by omega, by omega, by omega, by omega, by omega, by omega, by omega⟩
  have an1 := ans_neg hm h1
  have an2 := ans_neg hm h2
  -- the first load
  have st0 : ∃ W1, B_X12_drives (0, [48], [nI l, ans one, ans two], V) = some (.inr (1, [48], [nI l, ans one, ans two, nI (crN w Ld one (0, Lo 1, Lo 2, 0, 0, 0, 0, 0)).1], W1)) ∧ Ag D48 V W1 ∧ DM W1 (crN w Ld one (0, Lo 1, Lo 2, 0, 0, 0, 0, 0)).2 := by
    have pre : ∀ {R : Option ((Int32 × Wd) ⊕ Cs)}, (if 0 ≤ ans one then (gd (ob T 48 12) (bd2 (f_X12_carries T 48 (ans one)) (fun r40 S38 => some (.inr (1, [48], [nI l, ans one, ans two, r40], S38))))) else (some (.inr (1, [48], [nI l, ans one, ans two, (0 : Int32)], T)))) = R → B_X12_drives (0, [48], [nI l, ans one, ans two], V) = R := by
      intro R hR
      show B_X12_drives_0 V 48 (nI l) (ans one) (ans two) = _
      unfold B_X12_drives_0 ltS
      have q2 := rd (Ag.rf (S := V)) (show 2 < 7 by decide)
      have i2 := rx (Ag.rf (S := V)) (show 2 < 7 by decide)
      have q1 := rd hA6 (show 1 < 7 by decide)
      have i1 := rx hA6 (show 1 < 7 by decide)
      simp (decide := true) only [gd_ob h65, hF, Option.bind_some, show f_X12_ofLorry V (nI l) 2 = _ from e_ofLorry (a := l) (c := 2), bd2_eq, gd_pos i2, nI_clamp (show 70 + 7 * l + 2 < 2 ^ 31 by omega), q2]
      simp (decide := true) only [gd_ob (show 65 ≤ wn (sI V 48 8 (nI (Lo 2))) from h65), gd_ob (show 65 ≤ wn (sI (sI V 48 8 (nI (Lo 2))) 48 9 0) from h65), gd_ob (show 65 ≤ wn (sI (sI (sI V 48 8 (nI (Lo 2))) 48 9 0) 48 10 0) from h65), gd_ob (show 65 ≤ wn (sI (sI (sI (sI V 48 8 (nI (Lo 2))) 48 9 0) 48 10 0) 48 11 0) from h65), gd_ob (show 65 ≤ wn (sI (sI (sI (sI (sI V 48 8 (nI (Lo 2))) 48 9 0) 48 10 0) 48 11 0) 48 12 0) from h65)]
      simp (decide := true) only [gd_ob (show 65 ≤ wn (sI (sI (sI (sI (sI (sI V 48 8 (nI (Lo 2))) 48 9 0) 48 10 0) 48 11 0) 48 12 0) 48 13 0) from h65), wO_sI, hF, Option.bind_some]
      rw [show ∀ X : Wd, f_X12_ofLorry X (nI l) 1 = some (nI (70 + 7 * l + 1), X) from fun X => e_ofLorry (a := l) (c := 1), bd2_eq, gd_pos i1, nI_clamp (show 70 + 7 * l + 1 < 2 ^ 31 by omega), q1, gd_pos (ob_of (show 65 ≤ wn (sI (sI (sI (sI (sI (sI V 48 8 (nI (Lo 2))) 48 9 0) 48 10 0) 48 11 0) 48 12 0) 48 13 0) from h65) (by decide) (by decide)), ← eT]
      exact hR
    cases one with
    | none => exact ⟨T, pre (if_neg (by decide)), hAT, hDT⟩
    | some a =>
      have ha : a < m := h1
      obtain ⟨W1, a1, a2, a3⟩ := e_carryM hI hw (show a < 8 by omega) (hL a h1) (eL a h1) (show 0 ≤ 10 by decide) hAT hB0 hDT
      refine ⟨W1, pre ?_, a2, a3⟩
      rw [if_pos (show 0 ≤ ans (some a) from nI_pos' (n := a) (by omega)), gd_pos (ob_of (hAT.inv hI (by omega)).1 (by decide) (by decide)), show f_X12_carries T 48 (ans (some a)) = _ from a1, bd2_eq]
      rfl
  obtain ⟨W1, a1, a2, a3⟩ := st0
  have B1 : DB (0 + 4) (crN w Ld one (0, Lo 1, Lo 2, 0, 0, 0, 0, 0)).2 := crN_ok hL h1 hB0
  have x4 : (crN w Ld one (0, Lo 1, Lo 2, 0, 0, 0, 0, 0)).1 ≤ 4 := crN_4 (by show 0 ≤ 4; decide)
  unfold runN
  generalize hx : crN w Ld one (0, Lo 1, Lo 2, 0, 0, 0, 0, 0) = x at *
  have st1 : ∃ W2, B_X12_drives (1, [48], [nI l, ans one, ans two, nI x.1], W1) = some (.inr (2, [48], [nI l, ans one, ans two, nI (crN w Ld two x).1], W2)) ∧ Ag D48 V W2 ∧ DM W2 (crN w Ld two x).2 := by
    have base : B_X12_drives (1, [48], [nI l, ans one, ans two, nI x.1], W1) = B_X12_drives_1 W1 48 (nI l) (ans one) (ans two) (nI x.1) := rfl
    rw [base]
    unfold B_X12_drives_1
    cases two with
    | none =>
      refine ⟨W1, ?_, a2, a3⟩
      show _ = some (Sum.inr (2, [48], [nI l, ans one, ans none, nI x.1], W1))
      rw [if_neg (show ¬ 0 ≤ ans none by decide)]
      split
      · split <;> rfl
      · rfl
    | some b =>
      have hb : b < m := h2
      have hone : ¬ ans one < 0 := fun h => by have := h12 (an1.2.mp h); cases this
      rw [if_neg hone, if_pos (show 0 ≤ ans (some b) from nI_pos' (by omega))]
      show ∃ W2, _ = some (Sum.inr (2, [48], [nI l, ans one, ans (some b), nI (thn x (carN w (Ld b))).1], W2)) ∧ Ag D48 V W2 ∧ DM W2 (thn x (carN w (Ld b))).2
      by_cases h0 : x.1 = 0
      · obtain ⟨W2, b1, b2, b3⟩ := e_carryM hI hw (show b < 8 by omega) (hL b h2) (eL b h2) (show 0 + 4 ≤ 10 by decide) a2 B1 a3
        refine ⟨W2, ?_, b2, ?_⟩
        · rw [if_pos (show nI x.1 = 0 by rw [h0]; rfl), gd_pos (ob_of (a2.inv hI (by omega)).1 (by decide) (by decide)), show f_X12_carries W1 48 (ans (some b)) = _ from b1, bd2_eq, thn_0 h0]
        · rw [thn_0 h0]
          exact b3
      · refine ⟨W1, ?_, a2, ?_⟩
        · rw [if_neg (nI_ne0 (by omega) (by omega)), thn_1 h0]
        · rw [thn_1 h0]
          exact a3
  obtain ⟨W2, b1, b2, b3⟩ := st1
  have B2 : DB (0 + 4 + 4) (crN w Ld two x).2 := crN_ok hL h2 B1
  have y4 : (crN w Ld two x).1 ≤ 4 := crN_4 x4
  generalize crN w Ld two x = y at *
  have st2 : ∃ W3, B_X12_drives (2, [48], [nI l, ans one, ans two, nI y.1], W2) = some (.inr (3, [48], [nI l, ans one, ans two, nI (thn y (goN w (Lo 3) true)).1], W3)) ∧ Ag D48 V W3 ∧ DM W3 (thn y (goN w (Lo 3) true)).2 := by
    have base : B_X12_drives (2, [48], [nI l, ans one, ans two, nI y.1], W2) = B_X12_drives_2 W2 48 (nI l) (ans one) (ans two) (nI y.1) := rfl
    rw [base]
    unfold B_X12_drives_2
    by_cases h0 : y.1 = 0
    · obtain ⟨W3, c1, c2, c3⟩ := e_goM hI hw (show Lo 3 < 8 by omega) true (show 0 + 4 + 4 ≤ 20 by decide) b2 B2 b3
      rw [if_pos rfl] at c1
      obtain ⟨p2, F2⟩ := id (b2.inv hI (by omega))
      have q3 := rd b2 (show 3 < 7 by decide)
      have i3 := rx b2 (show 3 < 7 by decide)
      refine ⟨W3, ?_, c2, ?_⟩
      · rw [if_pos (show nI y.1 = 0 by rw [h0]; rfl), thn_0 h0]
        simp (decide := true) only [gd_ob p2, F2, Option.bind_some, show f_X12_ofLorry W2 (nI l) 3 = _ from e_ofLorry (a := l) (c := 3), bd2_eq, gd_pos i3, nI_clamp (show 70 + 7 * l + 3 < 2 ^ 31 by omega), q3, c1]
      · rw [thn_0 h0]
        exact c3
    · refine ⟨W2, ?_, b2, ?_⟩
      · rw [if_neg (nI_ne0 (by omega) (by omega)), thn_1 h0]
      · rw [thn_1 h0]
        exact b3
  obtain ⟨W3, c1, c2, c3⟩ := st2
  have B3 : DB (0 + 4 + 4 + 1) (thn y (goN w (Lo 3) true)).2 := thn_ok B2 fun d hd => goN_ok (by omega) hd
  have z4 : (thn y (goN w (Lo 3) true)).1 ≤ 4 := thn_4 y4 fun _ => goN_4
  generalize thn y (goN w (Lo 3) true) = z at *
  have zm : wI W3 48 8 = nI z.2.2.1 := by
    obtain ⟨c, t, m, s, d, e, r, q⟩ := z
    exact c3.2.1
  have hzb : z.2.2.1 ≤ 4000 + 700 * 9 := by
    obtain ⟨c, t, m, s, d, e, r, q⟩ := z
    exact B3.2.1
  have st3 : B_X12_drives (3, [48], [nI l, ans one, ans two, nI z.1], W3) = some (.inl (nI (enN (Lo 4) z).1, W3)) := by
    show B_X12_drives_3 W3 48 (nI l) (ans one) (ans two) (nI z.1) = _
    unfold B_X12_drives_3 enN
    obtain ⟨p3, F3⟩ := id (c2.inv hI (by omega))
    have q4 := rd c2 (show 4 < 7 by decide)
    have i4 := rx c2 (show 4 < 7 by decide)
    simp (decide := true) only [gd_ob p3, F3, Option.bind_some, show f_X12_ofLorry W3 (nI l) 4 = _ from e_ofLorry (a := l) (c := 4), bd2_eq, gd_pos i4, nI_clamp (show 70 + 7 * l + 4 < 2 ^ 31 by omega), q4, zm]
    by_cases h0 : z.1 = 0
    · rw [if_pos (show nI z.1 = 0 by rw [h0]; rfl), if_pos h0]
      by_cases hb : z.2.2.1 ≤ Lo 4
      · rw [if_pos (nI_le hb (by omega)), if_pos hb, h0]
        rfl
      · rw [if_neg (nI_ge (by omega) (by omega)), if_neg hb]
        rfl
    · rw [if_neg (nI_ne0 (by omega) (by omega)), if_neg h0]
  refine ⟨W3, (ru_step a1).trans ((ru_step b1).trans ((ru_step c1).trans (ru_done st3))), c2, ?_⟩
  unfold enN
  split
  · split
    · exact c3
    · exact c3
  · exact c3
