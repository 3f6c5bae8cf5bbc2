/-! drives: the class, step by step -/
theorem e_goC {S W : Wd} (hI : Inv S) {w : Nat → Nat} (hw : ∀ i, i < 64 → w i ≤ 1000000 ∧ wI S 7 i = nI (w i)) {to : Nat} (ht : to < 8) (em : Bool) {k : Nat} (hk : k ≤ 20) {x : Nat × Dv} (hA : Ag D12 S W) (hx : DB k x.2) (hd : DC W x.2) (h11 : wI W 12 11 = nI x.1) (hx1 : x.1 ≤ 4) : ∃ W', f_X0_go W 12 (nI to) (if em = true then 1 else 0) = some W' ∧ Ag D12 S W' ∧ DC W' (thn x (goN w to em)).2 ∧ wI W' 12 11 = nI (thn x (goN w to em)).1 ∧ wI W' 12 10 = wI W 12 10 ∧ (thn x (goN w to em)).1 ≤ 4 := by
  have hIW := hA.inv hI (by omega)
  obtain ⟨h65, hF⟩ := id hIW
  obtain ⟨c, t, m, s, d, e, r, q⟩ := x
  obtain ⟨d3, d4, d5, d6, d7, d8, d9⟩ := id hd
  obtain ⟨b1, b2, b3, b4, b5, b6, b7⟩ := hx
  unfold thn f_X0_go
  dsimp only at h11 hx1 ⊢
  rw [gd_pos (ob_of h65 (by decide) (by decide)), h11]
  by_cases hc : c = 0
  · subst hc
    rw [if_pos (show nI 0 = 0 from rfl), if_pos rfl]
    obtain ⟨w1, w2⟩ := hw (8 * t + to) (by omega)
    have hbt := e_between hIW b1 ht
    rw [hA.arr (show ∀ k, ¬ D12 7 k by omega), w2] at hbt
    simp (decide := true) only [gd_ob h65, hF, Option.bind_some, d3, hbt, bd2_eq, d6, nI_add]
    unfold goN
    dsimp only
    generalize w (8 * t + to) = y at *
    by_cases h1 : y = 1000000
    · rw [if_pos (show nI y = 1000000 by rw [h1]; rfl), if_pos h1]
      refine ⟨_, rfl, hA.trans (Ag.sI ⟨rfl, by omega⟩), ?_, wI_sI_eq, wI_sI_ne (by decide), by show 1 ≤ 4; decide⟩
      exact ⟨(wI_sI_ne (by decide)).trans d3, (wI_sI_ne (by decide)).trans d4, (wI_sI_ne (by decide)).trans d5, (wI_sI_ne (by decide)).trans d6, (wI_sI_ne (by decide)).trans d7, (wI_sI_ne (by decide)).trans d8, (wI_sI_ne (by decide)).trans d9⟩
    · rw [if_neg (show ¬ nI y = 1000000 from fun h => h1 ((nI_eq (a := y) (b := 1000000) (by omega) (by decide)).mp h)), if_neg h1]
      by_cases h2 : 540 < d + y
      · rw [if_neg (show ¬ nI (d + y) ≤ 540 from nI_ge (a := 540) h2 (by omega)), if_pos h2]
        refine ⟨_, rfl, hA.trans (Ag.sI ⟨rfl, by omega⟩), ?_, wI_sI_eq, wI_sI_ne (by decide), by show 2 ≤ 4; decide⟩
        exact ⟨(wI_sI_ne (by decide)).trans d3, (wI_sI_ne (by decide)).trans d4, (wI_sI_ne (by decide)).trans d5, (wI_sI_ne (by decide)).trans d6, (wI_sI_ne (by decide)).trans d7, (wI_sI_ne (by decide)).trans d8, (wI_sI_ne (by decide)).trans d9⟩
      · rw [if_pos (show nI (d + y) ≤ 540 from nI_le (b := 540) (by omega) (by decide)), if_neg h2]
        obtain ⟨R, r1, r2, r3, r4, r5⟩ := e_rollC (nI y) 2 0 y s m r W rfl b3 (by omega) h65 d4 d5 d8
        have hro : f_X0_roll W 12 (nI y) = some R := (ru_step (show B_X0_roll (0, [12], [nI y], W) = some (.inr (1, [12], [nI y, nI y, nI 0], W)) from rfl)).trans r1
        have R65 : 65 ≤ wn R := by rw [r2.1]; exact h65
        have q6 : wI R 12 6 = nI d := (r2.2.2.2 12 6 (by omega)).trans d6
        have q7 : wI R 12 7 = nI e := (r2.2.2.2 12 7 (by omega)).trans d7
        have q9 : wI R 12 9 = nI q := (r2.2.2.2 12 9 (by omega)).trans d9
        have q10 : wI R 12 10 = wI W 12 10 := r2.2.2.2 12 10 (by omega)
        have q11 : wI R 12 11 = nI 0 := (r2.2.2.2 12 11 (by omega)).trans h11
        have hAR : Ag D12 S R := hA.trans (r2.mono (by omega))
        generalize rollN 2 y s m r = Q at *
        obtain ⟨s', m', r'⟩ := Q
        dsimp only at r3 r4 r5 ⊢
        rw [hro, Option.bind_some]
        simp (decide := true) only [gd_ob R65, q6, nI_add]
        cases em with
        | false =>
          refine ⟨sI (sI R 12 6 (nI (d + y))) 12 3 (nI to), ?_, hAR.trans ((Ag.sI ⟨rfl, by omega⟩).trans (Ag.sI ⟨rfl, by omega⟩)), ?_, ?_, ?_, trivial⟩
          · unfold ltS
            simp (decide := true) only [if_false, if_true, gd_ob (show 65 ≤ wn (sI R 12 6 (nI (d + y))) from R65)]
          · exact ⟨wI_sI_eq, (wI_sI_ne (by decide)).trans ((wI_sI_ne (by decide)).trans r3), (wI_sI_ne (by decide)).trans ((wI_sI_ne (by decide)).trans r4), (wI_sI_ne (by decide)).trans wI_sI_eq, (wI_sI_ne (by decide)).trans ((wI_sI_ne (by decide)).trans q7), (wI_sI_ne (by decide)).trans ((wI_sI_ne (by decide)).trans r5), (wI_sI_ne (by decide)).trans ((wI_sI_ne (by decide)).trans q9)⟩
          · exact (wI_sI_ne (by decide)).trans ((wI_sI_ne (by decide)).trans q11)
          · exact (wI_sI_ne (by decide)).trans ((wI_sI_ne (by decide)).trans q10)
        | true =>
          refine ⟨sI (sI (sI R 12 6 (nI (d + y))) 12 7 (nI (e + y))) 12 3 (nI to), ?_, hAR.trans (((Ag.sI ⟨rfl, by omega⟩).trans (Ag.sI ⟨rfl, by omega⟩)).trans (Ag.sI ⟨rfl, by omega⟩)), ?_, ?_, ?_, trivial⟩
          · unfold ltS
            simp (decide := true) only [if_false, if_true, gd_ob (show 65 ≤ wn (sI R 12 6 (nI (d + y))) from R65), wI_sI_ne (show ¬ ((12 : Nat) = 12 ∧ (7 : Nat) = 6) by decide), q7, nI_add, gd_ob (show 65 ≤ wn (sI (sI R 12 6 (nI (d + y))) 12 7 (nI (e + y))) from R65)]
          · exact ⟨wI_sI_eq, (wI_sI_ne (by decide)).trans ((wI_sI_ne (by decide)).trans ((wI_sI_ne (by decide)).trans r3)), (wI_sI_ne (by decide)).trans ((wI_sI_ne (by decide)).trans ((wI_sI_ne (by decide)).trans r4)), (wI_sI_ne (by decide)).trans ((wI_sI_ne (by decide)).trans wI_sI_eq), (wI_sI_ne (by decide)).trans wI_sI_eq, (wI_sI_ne (by decide)).trans ((wI_sI_ne (by decide)).trans ((wI_sI_ne (by decide)).trans r5)), (wI_sI_ne (by decide)).trans ((wI_sI_ne (by decide)).trans ((wI_sI_ne (by decide)).trans q9))⟩
          · exact (wI_sI_ne (by decide)).trans ((wI_sI_ne (by decide)).trans ((wI_sI_ne (by decide)).trans q11))
          · exact (wI_sI_ne (by decide)).trans ((wI_sI_ne (by decide)).trans ((wI_sI_ne (by decide)).trans q10))
  · rw [if_neg (nI_ne0 (by omega) (by omega)), if_neg hc]
    exact ⟨W, rfl, hA, hd, h11, rfl, hx1⟩
theorem wait_nI {fr m : Nat} (hf : fr ≤ 4000) (hm : m ≤ 20000) : mMax (nI fr - nI m) 0 = nI (fr - m) := by
  unfold mMax
  have e1 : (nI fr - nI m).toInt = (fr : Int) - (m : Int) := by
    rw [i32_sub (by rw [nI_toInt (by omega), nI_toInt (by omega)]; omega) (by rw [nI_toInt (by omega), nI_toInt (by omega)]; omega), nI_toInt (by omega), nI_toInt (by omega)]
  by_cases h : nI fr - nI m < 0
  · rw [if_pos h]
    have := Int32.lt_iff_toInt_lt.mp h
    rw [e1, Int32.toInt_zero] at this
    rw [show fr - m = 0 by omega]
    rfl
  · rw [if_neg h]
    have := Int32.le_iff_toInt_le.mp (i32nl.mp h)
    rw [e1, Int32.toInt_zero] at this
    exact nI_sub (by omega)
theorem e_dockC {S W : Wd} (hI : Inv S) {fr to : Nat} (hf : fr ≤ 4000) (ht : to ≤ 4000) {k : Nat} (hk : k ≤ 20) {x : Nat × Dv} (hA : Ag D12 S W) (hx : DB k x.2) (hd : DC W x.2) (h11 : wI W 12 11 = nI x.1) (hx1 : x.1 ≤ 4) : ∃ W', f_X0_dock W 12 (nI fr) (nI to) = some W' ∧ Ag D12 S W' ∧ DC W' (thn x (dkN fr to)).2 ∧ wI W' 12 11 = nI (thn x (dkN fr to)).1 ∧ wI W' 12 10 = wI W 12 10 ∧ (thn x (dkN fr to)).1 ≤ 4 := by
  have hIW := hA.inv hI (by omega)
  obtain ⟨h65, hF⟩ := id hIW
  obtain ⟨c, t, m, s, d, e, r, q⟩ := x
  obtain ⟨d3, d4, d5, d6, d7, d8, d9⟩ := id hd
  obtain ⟨b1, b2, b3, b4, b5, b6, b7⟩ := hx
  unfold thn f_X0_dock
  dsimp only at h11 hx1 ⊢
  rw [gd_pos (ob_of h65 (by decide) (by decide)), h11]
  by_cases hc : c = 0
  · subst hc
    rw [if_pos (show nI 0 = 0 from rfl), if_pos rfl]
    simp (decide := true) only [gd_ob h65, d4, d9, wait_nI hf (show m ≤ 20000 by omega), nI_add]
    unfold dkN
    dsimp only
    by_cases h1 : to < m
    · rw [if_neg (show ¬ nI m ≤ nI to from nI_ge h1 (by omega)), if_pos h1]
      refine ⟨_, rfl, hA.trans (Ag.sI ⟨rfl, by omega⟩), ?_, wI_sI_eq, wI_sI_ne (by decide), by show 3 ≤ 4; decide⟩
      exact ⟨(wI_sI_ne (by decide)).trans d3, (wI_sI_ne (by decide)).trans d4, (wI_sI_ne (by decide)).trans d5, (wI_sI_ne (by decide)).trans d6, (wI_sI_ne (by decide)).trans d7, (wI_sI_ne (by decide)).trans d8, (wI_sI_ne (by decide)).trans d9⟩
    · rw [if_pos (show nI m ≤ nI to from nI_le (by omega) (by omega)), if_neg h1]
      by_cases h2 : 45 ≤ fr - m
      · rw [if_neg (show ¬ nI (fr - m) < 45 from nI_nlt (b := 45) h2 (by omega)), if_pos h2]
        refine ⟨sI (sI (sI W 12 5 0) 12 9 (nI (q + (fr - m)))) 12 4 (nI (m + ((fr - m) + 30))), ?_, hA.trans (((Ag.sI ⟨rfl, by omega⟩).trans (Ag.sI ⟨rfl, by omega⟩)).trans (Ag.sI ⟨rfl, by omega⟩)), ?_, ?_, ?_, by show 0 ≤ 4; decide⟩
        · unfold ltS
          simp (decide := true) only [gd_ob (show 65 ≤ wn (sI W 12 5 (0 : Int32)) from h65), wI_sI_ne (show ¬ ((12 : Nat) = 12 ∧ (9 : Nat) = 5) by decide), wI_sI_ne (show ¬ ((12 : Nat) = 12 ∧ (4 : Nat) = 5) by decide), wI_sI_ne (show ¬ ((12 : Nat) = 12 ∧ (4 : Nat) = 9) by decide), d9, d4, nI_add, gd_ob (show 65 ≤ wn (sI (sI W 12 5 (0 : Int32)) 12 9 (nI (q + (fr - m)))) from h65), show nI (fr - m) + 30 = nI ((fr - m) + 30) from nI_add _ 30]
        · exact ⟨(wI_sI_ne (by decide)).trans ((wI_sI_ne (by decide)).trans ((wI_sI_ne (by decide)).trans d3)), wI_sI_eq, (wI_sI_ne (by decide)).trans ((wI_sI_ne (by decide)).trans wI_sI_eq), (wI_sI_ne (by decide)).trans ((wI_sI_ne (by decide)).trans ((wI_sI_ne (by decide)).trans d6)), (wI_sI_ne (by decide)).trans ((wI_sI_ne (by decide)).trans ((wI_sI_ne (by decide)).trans d7)), (wI_sI_ne (by decide)).trans ((wI_sI_ne (by decide)).trans ((wI_sI_ne (by decide)).trans d8)), (wI_sI_ne (by decide)).trans wI_sI_eq⟩
        · exact (wI_sI_ne (by decide)).trans ((wI_sI_ne (by decide)).trans ((wI_sI_ne (by decide)).trans h11))
        · exact (wI_sI_ne (by decide)).trans ((wI_sI_ne (by decide)).trans (wI_sI_ne (by decide)))
      · rw [if_pos (show nI (fr - m) < 45 from nI_lt (b := 45) (by omega) (by decide)), if_neg h2]
        refine ⟨sI (sI W 12 9 (nI (q + (fr - m)))) 12 4 (nI (m + ((fr - m) + 30))), ?_, hA.trans ((Ag.sI ⟨rfl, by omega⟩).trans (Ag.sI ⟨rfl, by omega⟩)), ?_, ?_, ?_, by show 0 ≤ 4; decide⟩
        · unfold ltS
          simp (decide := true) only [wI_sI_ne (show ¬ ((12 : Nat) = 12 ∧ (4 : Nat) = 9) by decide), d4, nI_add, gd_ob (show 65 ≤ wn (sI W 12 9 (nI (q + (fr - m)))) from h65), show nI (fr - m) + 30 = nI ((fr - m) + 30) from nI_add _ 30]
        · exact ⟨(wI_sI_ne (by decide)).trans ((wI_sI_ne (by decide)).trans d3), wI_sI_eq, (wI_sI_ne (by decide)).trans ((wI_sI_ne (by decide)).trans d5), (wI_sI_ne (by decide)).trans ((wI_sI_ne (by decide)).trans d6), (wI_sI_ne (by decide)).trans ((wI_sI_ne (by decide)).trans d7), (wI_sI_ne (by decide)).trans ((wI_sI_ne (by decide)).trans d8), (wI_sI_ne (by decide)).trans wI_sI_eq⟩
        · exact (wI_sI_ne (by decide)).trans ((wI_sI_ne (by decide)).trans h11)
        · exact (wI_sI_ne (by decide)).trans (wI_sI_ne (by decide))
  · rw [if_neg (nI_ne0 (by omega) (by omega)), if_neg hc]
    exact ⟨W, rfl, hA, hd, h11, rfl, hx1⟩
