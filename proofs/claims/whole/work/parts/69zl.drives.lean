/-! drives: the reference's carries and drives -/
theorem goN_4 {w : Nat → Nat} {to : Nat} {em : Bool} {x : Dv} : (goN w to em x).1 ≤ 4 := by
  obtain ⟨t, m, s, d, e, r, q⟩ := x
  unfold goN
  dsimp only
  split
  · show 1 ≤ 4; decide
  · split
    · show 2 ≤ 4; decide
    · show 0 ≤ 4; decide
theorem dkN_4 {fr to : Nat} {x : Dv} : (dkN fr to x).1 ≤ 4 := by
  obtain ⟨t, m, s, d, e, r, q⟩ := x
  unfold dkN
  dsimp only
  split
  · show 3 ≤ 4; decide
  · show 0 ≤ 4; decide
theorem thn_0 {x : Nat × Dv} {f : Dv → Nat × Dv} (h : x.1 = 0) : thn x f = f x.2 := if_pos h
theorem thn_1 {x : Nat × Dv} {f : Dv → Nat × Dv} (h : ¬ x.1 = 0) : thn x f = x := if_neg h
theorem thn_4 {x : Nat × Dv} {f : Dv → Nat × Dv} (h : x.1 ≤ 4) (hf : ∀ d, (f d).1 ≤ 4) : (thn x f).1 ≤ 4 := by
  unfold thn
  split
  · exact hf _
  · exact h
theorem carN_4 {w L : Nat → Nat} {x : Dv} : (carN w L x).1 ≤ 4 := thn_4 (thn_4 (thn_4 goN_4 fun _ => dkN_4) fun _ => goN_4) fun _ => dkN_4
theorem e_carryM {S W : Wd} (hI : Inv S) {w : Nat → Nat} (hw : ∀ i, i < 64 → w i ≤ 1000000 ∧ wI S 54 i = nI (w i)) {ld : Nat} (hld : ld < 8) {L : Nat → Nat} (hL : LdOk L) (eL : ∀ c, c < 10 → wI S 49 (112 + 11 * ld + c) = nI (L c)) {k : Nat} (hk : k ≤ 10) {x : Dv} (hA : Ag D48 S W) (hx : DB k x) (hd : DM W x) : ∃ W', f_X12_carries W 48 (nI ld) = some (nI (carN w L x).1, W') ∧ Ag D48 S W' ∧ DM W' (carN w L x).2 := by
  obtain ⟨l0, l1, l5, l6, l7, l8, l9⟩ := id hL
  have rd : ∀ {T : Wd}, Ag D48 S T → ∀ {c}, c < 10 → wI T 49 (112 + 11 * ld + c) = nI (L c) := fun h c hc => (h.2.2.2 49 _ (by omega)).trans (eL c hc)
  have rx : ∀ {T : Wd}, Ag D48 S T → ∀ {c}, c < 10 → ix T 49 100 (nI (112 + 11 * ld + c)) := fun h c hc => rdN (by rw [h.1]; exact hI.1) (by omega)
  obtain ⟨W1, a1, a2, a3⟩ := e_goM hI hw l0 true (show k ≤ 20 by omega) hA hx hd
  have B1 : DB (k + 1) (goN w (L 0) true x).2 := goN_ok l0 hx
  rw [if_pos rfl] at a1
  obtain ⟨g65, hG⟩ := id (hA.inv hI (by omega))
  obtain ⟨p1, F1⟩ := id (a2.inv hI (by omega))
  have q0 := rd hA (show 0 < 10 by decide)
  have i0 := rx hA (show 0 < 10 by decide)
  have q6 := rd a2 (show 6 < 10 by decide)
  have q7 := rd a2 (show 7 < 10 by decide)
  have i6 := rx a2 (show 6 < 10 by decide)
  have i7 := rx a2 (show 7 < 10 by decide)
  have c4 := goN_4 (w := w) (to := L 0) (em := true) (x := x)
  unfold carN
  unfold f_X12_carries
  simp (decide := true) only [gd_ob g65, hG, Option.bind_some, show (0 : Int32) = nI 0 from rfl, e_ofLoad, bd2_eq, gd_pos i0, nI_clamp (show 112 + 11 * ld + 0 < 2 ^ 31 by omega), q0, a1]
  generalize goN w (L 0) true x = y1 at *
  by_cases h1 : y1.1 = 0
  · rw [if_pos (show nI y1.1 = nI 0 by rw [h1]), thn_0 h1]
    obtain ⟨W2, b1, b2, b3⟩ := e_dockM hI l6 l7 (show k + 1 ≤ 20 by omega) a2 B1 a3
    have B2 : DB (k + 1 + 1) (dkN (L 6) (L 7) y1.2).2 := dkN_ok l6 B1
    obtain ⟨p2, F2⟩ := id (b2.inv hI (by omega))
    have q1 := rd b2 (show 1 < 10 by decide)
    have i1 := rx b2 (show 1 < 10 by decide)
    have c5 := dkN_4 (fr := L 6) (to := L 7) (x := y1.2)
    simp (decide := true) only [gd_ob p1, F1, Option.bind_some, show (6 : Int32) = nI 6 from rfl, show (7 : Int32) = nI 7 from rfl, e_ofLoad, bd2_eq, gd_pos i6, gd_pos i7, nI_clamp (show 112 + 11 * ld + 6 < 2 ^ 31 by omega), nI_clamp (show 112 + 11 * ld + 7 < 2 ^ 31 by omega), q6, q7, b1]
    generalize dkN (L 6) (L 7) y1.2 = y2 at *
    by_cases h2 : y2.1 = 0
    · rw [if_pos (show nI y2.1 = nI 0 by rw [h2]), thn_0 h2]
      obtain ⟨W3, e1, e2, e3⟩ := e_goM hI hw l1 false (show k + 1 + 1 ≤ 20 by omega) b2 B2 b3
      have B3 : DB (k + 1 + 1 + 1) (goN w (L 1) false y2.2).2 := goN_ok l1 B2
      rw [if_neg (by decide)] at e1
      obtain ⟨p3, F3⟩ := id (e2.inv hI (by omega))
      have q8 := rd e2 (show 8 < 10 by decide)
      have q9 := rd e2 (show 9 < 10 by decide)
      have i8 := rx e2 (show 8 < 10 by decide)
      have i9 := rx e2 (show 9 < 10 by decide)
      have c6 := goN_4 (w := w) (to := L 1) (em := false) (x := y2.2)
      rw [show (0 : Int32) = nI 0 from rfl] at e1
      simp (decide := true) only [gd_ob p2, F2, Option.bind_some, show (1 : Int32) = nI 1 from rfl, e_ofLoad, bd2_eq, gd_pos i1, nI_clamp (show 112 + 11 * ld + 1 < 2 ^ 31 by omega), q1, e1]
      generalize goN w (L 1) false y2.2 = y3 at *
      by_cases h3 : y3.1 = 0
      · rw [if_pos (show nI y3.1 = nI 0 by rw [h3]), thn_0 h3]
        obtain ⟨W4, m1, m2, m3⟩ := e_dockM hI l8 l9 (show k + 1 + 1 + 1 ≤ 20 by omega) e2 B3 e3
        refine ⟨W4, ?_, m2, m3⟩
        simp (decide := true) only [gd_ob p3, F3, Option.bind_some, show (8 : Int32) = nI 8 from rfl, show (9 : Int32) = nI 9 from rfl, e_ofLoad, bd2_eq, gd_pos i8, gd_pos i9, nI_clamp (show 112 + 11 * ld + 8 < 2 ^ 31 by omega), nI_clamp (show 112 + 11 * ld + 9 < 2 ^ 31 by omega), q8, q9, m1]
      · rw [if_neg (fun h => h3 ((nI_eq (by omega) (by omega)).mp h)), thn_1 h3]
        exact ⟨W3, rfl, e2, e3⟩
    · rw [if_neg (fun h => h2 ((nI_eq (by omega) (by omega)).mp h)), if_neg (fun h => h2 ((nI_eq (by omega) (by omega)).mp h)), thn_1 h2, thn_1 h2]
      exact ⟨W2, rfl, b2, b3⟩
  · rw [if_neg (fun h => h1 ((nI_eq (by omega) (by omega)).mp h)), if_neg (fun h => h1 ((nI_eq (by omega) (by omega)).mp h)), if_neg (fun h => h1 ((nI_eq (by omega) (by omega)).mp h)), thn_1 h1, thn_1 h1, thn_1 h1]
    exact ⟨W1, rfl, a2, a3⟩
