/-! best, gets, worth, empty -/
abbrev DU (a k : Nat) : Prop := a = 54 ∨ (a = 48 ∧ 8 ≤ k ∧ k ≤ 14) ∨ (55 ≤ a ∧ a ≤ 59)
theorem quU : ∀ a k, DU a k → keepc a k = false := by
  rintro a k (rfl | ⟨rfl, h1, h2⟩ | ⟨h1, h2⟩)
  · rfl
  · rcases (show k = 8 ∨ k = 9 ∨ k = 10 ∨ k = 11 ∨ k = 12 ∨ k = 13 ∨ k = 14 by omega) with rfl | rfl | rfl | rfl | rfl | rfl | rfl <;> rfl
  · rcases (show a = 55 ∨ a = 56 ∨ a = 57 ∨ a = 58 ∨ a = 59 by omega) with rfl | rfl | rfl | rfl | rfl <;> rfl
theorem e_refGive {V : Wd} (hI : Inv V) {N : Nat → Int32} {n m : Nat} (hN : wI V 49 = N) (hf : Fac N n m) : ∃ V1 V2, f_X12_findRows V 48 = some V1 ∧ Inv V1 ∧ f_X12_given V1 48 = some (nI (gvN N m), V1) ∧ f_X12_findGiving V1 48 (nI (gvN N m)) = some (zI (bsZ N n m n (gvN N m)), V2) ∧ Inv V2 ∧ Ag DU V V1 ∧ Ag DU V V2 ∧ wI V2 49 = N ∧ FR N n m V1 (81 * n) ∧ FR N n m V2 (81 * n) ∧ ∀ l, l < n → wI V2 59 l = nI (chR N n m l (gnS N n m l)) := by
  obtain ⟨V1, v1, v2, v3⟩ := e_findRows hI hN hf
  have hI1 := v2.inv hI (by omega)
  have e1 : wI V1 49 = N := (v2.arr (by omega)).trans hN
  obtain ⟨V2, w1, w2, w3⟩ := e_findGiving hI1 e1 hf v3 (gv_lt N hf.2.1)
  have hA1 : Ag DU V V1 := v2.mono (by omega)
  have hA2 : Ag DU V V2 := hA1.trans (w2.mono (by omega))
  exact ⟨V1, V2, v1, hI1, e_given hI1 e1 hf, w1, w2.inv hI1 (by omega), hA1, hA2, (w2.arr (by omega)).trans e1, v3, FR_ag w2 v3, fun l hl => by rw [w3 l hl, gnS_eq]⟩
theorem e_value {W : Wd} (hI : Inv W) {N : Nat → Int32} {n m : Nat} (hf : Fac N n m) (hg : GOkN (wI W 13) (wI W 14) (wI W 16) N n m) : f_X2_value W 13 = some (zI (bsZ N n m n (gvN N m)), W) := by
  obtain ⟨h65, hF⟩ := id hI
  obtain ⟨g1, g2, -, -⟩ := hg
  have hfr := fr_lt N hf.2.1
  unfold f_X2_value
  simp (decide := true) only [gd_ob h65, hF, Option.bind_some]
  rw [g1, gd_pos (ix_of h65 (by decide) (by decide) (show frN N m < 1792 by omega)), nI_clamp (by omega), g2]
theorem sim_best {j : Nat} {S : Wd} (hR : Rel j S) (hj : j < 512) : ∃ r S1 S2, f_X11_best S 0 = some (r, S1) ∧ 48 < wn S1 ∧ f_X12_best S1 48 = some (r, S2) ∧ Rel (j + 1) S2 := by
  obtain ⟨h65, hF⟩ := id hR.1
  obtain ⟨n, m, hRD⟩ := rd_rel hR
  obtain ⟨W, w1, w2, w3, w4, w5⟩ := rel_work hR hRD
  have hf := w4.2.2.2.2
  obtain ⟨W65, hWF⟩ := id w3.1
  obtain ⟨V1, V2, v1, v2, v3, v4, v5, v6, v7, -⟩ := e_refGive w3.1 w4.2.1 hf
  refine ⟨zI (bsZ (wI S 49) n m n (gvN (wI S 49) m)), W, V2, ?_, by omega, ?_, rel_up (rel_qy w3 (v7.qy quU))⟩
  · unfold f_X11_best
    simp (decide := true) only [gd_ob h65, hF, Option.bind_some, w1, gd_ob W65, hWF, e_value w3.1 hf w5, bd2_eq]
  · unfold f_X12_best
    rw [gd_pos (ob_of W65 (by decide) (by decide)), v1, Option.bind_some, gd_pos (ob_of v2.1 (by decide) (by decide)), v3, bd2_eq, gd_pos (ob_of v2.1 (by decide) (by decide)), v4, bd2_eq]
theorem sim_worth {j : Nat} {S : Wd} (hR : Rel j S) (hj : j < 512) (a1 : Int32) : ∃ r S1 S2, f_X11_worth S 0 a1 = some (r, S1) ∧ 48 < wn S1 ∧ f_X12_worth S1 48 a1 = some (r, S2) ∧ Rel (j + 1) S2 := by
  have hI := hR.1
  obtain ⟨h65, hF⟩ := id hI
  obtain ⟨n, m, hRD⟩ := rd_rel hR
  obtain ⟨c9, c11⟩ := rd_cnt hRD
  have hf := hRD.2.2.2.2
  have m8 := hf.2.1
  by_cases o1 : 0 ≤ a1 ∧ a1 < nI m
  · obtain ⟨d, hd, rfl⟩ := nat_lt o1.1 o1.2 (by omega)
    obtain ⟨W, w1, w2, w3, w4, w5⟩ := rel_work hR hRD
    obtain ⟨W65, hWF⟩ := id w3.1
    obtain ⟨V1, V2, v1, v2, v3, v4, v5, v6, v7, v8, v9, v10, -⟩ := e_refGive w3.1 w4.2.1 hf
    have hgo : gvN (wI S 49) m ||| 2 ^ d < 256 := or_lt (gv_lt _ m8) (pw_lt (by omega))
    obtain ⟨V3, x1, x2, -⟩ := e_findGiving v5 v8 hf v10 hgo
    have hfr := fr_lt (wI S 49) m8
    have hdf := dfN_lt (t := 2 ^ d) hfr
    refine ⟨zI (bsZ (wI S 49) n m n (gvN (wI S 49) m)) - zI (bsZ (wI S 49) n m n (gvN (wI S 49) m ||| 2 ^ d)), W, V3, ?_, by omega, ?_, rel_up (rel_qy w3 ((v7.trans (x2.mono (by omega))).qy quU))⟩
    · have hvw : f_X2_valueWithout W 13 (nI d) = some (zI (bsZ (wI S 49) n m n (gvN (wI S 49) m ||| 2 ^ d)), W) := by
        obtain ⟨g1, g2, g3, -⟩ := w5
        unfold f_X2_valueWithout
        simp (decide := true) only [gd_ob W65, hWF, Option.bind_some, show f_X2_bitOf W (nI d) = some (nI (2 ^ d), W) from e_bitOf W (o := some d) (show d < 8 by omega), bd2_eq]
        rw [g1, nI_df hfr, gd_pos (ix_of W65 (by decide) (by decide) (show dfN (frN (wI S 49) m) (2 ^ d) < 1792 by omega)), nI_clamp (by omega), g3 d hd]
      unfold f_X11_worth
      simp (decide := true) only [gd_ob h65, hF, Option.bind_some]
      rw [b_has hI tb10, c11, if_pos o1, if_neg (by decide)]
      simp (decide := true) only [gd_ob h65, hF, Option.bind_some, w1, gd_ob W65, hWF, e_value w3.1 hf w5, hvw, bd2_eq]
    · unfold f_X12_worth
      rw [gd_pos (ob_of W65 (by decide) (by decide)), b_isLoad w3.1 (by rw [w4.2.1]; exact hf.2.2.2.1) (by omega), if_pos o1, if_neg (by decide), gd_pos (ob_of W65 (by decide) (by decide)), v1, Option.bind_some, gd_pos (ob_of v2.1 (by decide) (by decide)), v3, bd2_eq, gd_pos (ob_of v2.1 (by decide) (by decide)), v4, bd2_eq, gd_pos (ob_of v5.1 (by decide) (by decide)), e_given v5 v8 hf, bd2_eq, gd_pos (ob_of v5.1 (by decide) (by decide)), pw_nI (by omega), nI_or, x1, bd2_eq]
  · obtain ⟨g65, hG⟩ := id (hI.tl (v := -100001))
    refine ⟨-100001, _, _, ?_, tl_w48 (v := -100001) hR, ?_, rel_fin (v := -100001) hR (by decide)⟩
    · unfold f_X11_worth
      simp (decide := true) only [gd_ob h65, hF, Option.bind_some]
      rw [b_has hI tb10, c11, if_neg o1, if_pos rfl]
      simp (decide := true) only [gd_ob h65, e_told h65, bd2_eq]
    · unfold f_X12_worth
      rw [gd_pos (ob_of g65 (by decide) (by decide)), b_isLoad hI.tl (by rw [tl_arr (by decide)]; exact hf.2.2.2.1) (by omega), if_neg o1, if_pos rfl]
      simp (decide := true) only [gd_ob g65, e_finding g65, bd2_eq]
theorem ans_lo {o : Option Nat} (h : opLt 8 o) : (ans o = -1 ↔ o = none) ∧ (0 ≤ ans o ↔ ¬ o = none) ∧ (o ≠ none → (-99999 : Int32) ≤ ans o) := by
  cases o with
  | none => exact ⟨⟨fun _ => rfl, fun _ => rfl⟩, ⟨fun q => absurd q (by decide), fun q => absurd rfl q⟩, fun q => absurd rfl q⟩
  | some d =>
    have hd : d < 8 := h
    exact ⟨⟨fun q => absurd q (nI_nm1 (by omega)), fun q => (by cases q)⟩, ⟨fun _ q => (by cases q), fun _ => nI_pos' (by omega)⟩, fun _ => nI_nofind (by omega)⟩
theorem sim_gets {j : Nat} {S : Wd} (hR : Rel j S) (hj : j < 512) (a1 a2 : Int32) : ∃ r S1 S2, f_X11_gets S 0 a1 a2 = some (r, S1) ∧ 48 < wn S1 ∧ f_X12_gets S1 48 a1 a2 = some (r, S2) ∧ Rel (j + 1) S2 := by
  have hI := hR.1
  obtain ⟨h65, hF⟩ := id hI
  obtain ⟨n, m, hRD⟩ := rd_rel hR
  obtain ⟨c9, c11⟩ := rd_cnt hRD
  have hf := hRD.2.2.2.2
  have n6 := hf.1
  have m8 := hf.2.1
  by_cases o1 : 0 ≤ a1 ∧ a1 < nI n
  · by_cases o2 : 0 ≤ a2 ∧ a2 ≤ 1
    · obtain ⟨l, hl, rfl⟩ := nat_lt o1.1 o1.2 (by omega)
      obtain ⟨W, w1, w2, w3, w4, w5⟩ := rel_work hR hRD
      have hIW := w3.1
      obtain ⟨W65, hWF⟩ := id hIW
      obtain ⟨c1, -⟩ := ch_props (N := wI S 49) (n := n) (m := m) (l := l) (g := gnS (wI S 49) n m l) hl
      have hrow : f_X2_rowOf W 13 (nI l) = some (nI (rwN (chR (wI S 49) n m l (gnS (wI S 49) n m l))), W) := by
        unfold f_X2_rowOf
        rw [if_neg (nI_pos (by omega)), if_neg (show ¬ (6 : Int32) ≤ nI l from nI_ge (b := 6) (by omega) (by decide))]
        simp (decide := true) only [gd_ob W65, hWF, Option.bind_some]
        rw [gd_pos (ix_of W65 (by decide) (by decide) (show l < 6 by omega)), nI_clamp (by omega), w5.2.2.2 l hl]
      have hc81 : chR (wI S 49) n m l (gnS (wI S 49) n m l) < 81 := by omega
      have ref : ∀ {V : Wd}, Inv V → wI V 49 = wI S 49 → ∃ V2, Ag DU V V2 ∧ f_X12_gets V 48 (nI l) a2 = (if 0 ≤ (if a2 = 0 then ans (rO (chR (wI S 49) n m l (gnS (wI S 49) n m l))) else ans (rT (chR (wI S 49) n m l (gnS (wI S 49) n m l)))) then some ((if a2 = 0 then ans (rO (chR (wI S 49) n m l (gnS (wI S 49) n m l))) else ans (rT (chR (wI S 49) n m l (gnS (wI S 49) n m l)))), V2) else some (-100006, fl V2)) := by
        intro V hV e
        obtain ⟨V1, V2, v1, v2, v3, v4, v5, v6, v7, v8, v9, v10, v11⟩ := e_refGive hV e hf
        obtain ⟨p65, hP⟩ := id v5
        refine ⟨V2, v7, ?_⟩
        unfold f_X12_gets
        rw [gd_pos (ob_of hV.1 (by decide) (by decide)), b_isLorry hV (by rw [e]; exact hf.2.2.1) (by omega), if_pos o1, if_neg (by decide), b_within_X12, if_pos o2, if_neg (by decide), gd_pos (ob_of hV.1 (by decide) (by decide)), v1, Option.bind_some, gd_pos (ob_of v2.1 (by decide) (by decide)), v3, bd2_eq, gd_pos (ob_of v2.1 (by decide) (by decide)), v4, bd2_eq]
        simp (decide := true) only [gd_ob p65, hP, Option.bind_some, gd_pos (show ix V2 59 100 (nI l) from ix_of p65 (by decide) (by decide) (show l < 6 by omega)), nI_clamp (show l < 2 ^ 31 by omega), v11 l hl, an_rO hc81, an_rT hc81, e_finding p65, bd2_eq]
        by_cases h0 : a2 = 0
        · rw [if_pos h0, if_pos h0]
        · rw [if_neg h0, if_neg h0]
      have oO := ans_lo (op8O hc81)
      have oT := ans_lo (op8T hc81)
      have fO := e_firstOf W hc81
      have fT := e_secondOf W hc81
      generalize rO (chR (wI S 49) n m l (gnS (wI S 49) n m l)) = uO at *
      generalize rT (chR (wI S 49) n m l (gnS (wI S 49) n m l)) = uT at *
      have hC : f_X11_gets S 0 (nI l) a2 = (if a2 = 0 then (if ans uO = -1 then some (-100006, tl W (-100006)) else some (ans uO, tl W (ans uO))) else (if ans uT = -1 then some (-100006, tl W (-100006)) else some (ans uT, tl W (ans uT)))) := by
        unfold f_X11_gets
        simp (decide := true) only [gd_ob h65, hF, Option.bind_some]
        rw [b_has hI tb8, c9, if_pos o1, if_neg (by decide), b_within_X11, if_pos o2, if_neg (by decide)]
        simp (decide := true) only [gd_ob h65, hF, Option.bind_some, w1, gd_ob W65, hWF, hrow, fO, fT, bd2_eq, e_told W65]
      have both : ∀ (u : Option Nat), (if a2 = 0 then ans uO else ans uT) = ans u → ((ans u = -1 ↔ u = none) ∧ (0 ≤ ans u ↔ ¬ u = none) ∧ (u ≠ none → (-99999 : Int32) ≤ ans u)) → f_X11_gets S 0 (nI l) a2 = (if ans u = -1 then some (-100006, tl W (-100006)) else some (ans u, tl W (ans u))) → ∃ r S1 S2, f_X11_gets S 0 (nI l) a2 = some (r, S1) ∧ 48 < wn S1 ∧ f_X12_gets S1 48 (nI l) a2 = some (r, S2) ∧ Rel (j + 1) S2 := by
        intro u eu hu hcu
        by_cases hn : u = none
        · obtain ⟨V2, x1, x2⟩ := ref (hIW.tl (v := -100006)) ((tl_arr (by decide)).trans w4.2.1)
          rw [eu, if_neg (fun q => hu.2.1.mp q hn)] at x2
          rw [if_pos (hu.1.mpr hn)] at hcu
          exact ⟨-100006, _, _, hcu, by rw [tl_wn]; omega, x2, rel_qy (rel_fin w3 (by decide)) ((ag_fl x1 (by omega)).qy quU)⟩
        · obtain ⟨V2, x1, x2⟩ := ref hIW w4.2.1
          rw [eu, if_pos (hu.2.1.mpr hn)] at x2
          rw [if_neg (fun q => hn (hu.1.mp q)), tl_ge (hu.2.2 hn)] at hcu
          exact ⟨ans u, W, V2, hcu, by omega, x2, rel_up (rel_qy w3 (x1.qy quU))⟩
      by_cases h0 : a2 = 0
      · exact both uO (if_pos h0) oO (by rw [hC, if_pos h0])
      · exact both uT (if_neg h0) oT (by rw [hC, if_neg h0])
    · obtain ⟨g65, hG⟩ := id (hI.tl (v := -100001))
      refine ⟨-100001, _, _, ?_, tl_w48 (v := -100001) hR, ?_, rel_fin (v := -100001) hR (by decide)⟩
      · unfold f_X11_gets
        simp (decide := true) only [gd_ob h65, hF, Option.bind_some]
        rw [b_has hI tb8, c9, if_pos o1, if_neg (by decide), b_within_X11, if_neg o2, if_pos rfl]
        simp (decide := true) only [gd_ob h65, e_told h65, bd2_eq]
      · unfold f_X12_gets
        rw [gd_pos (ob_of g65 (by decide) (by decide)), b_isLorry hI.tl (by rw [tl_arr (by decide)]; exact hf.2.2.1) (by omega), if_pos o1, if_neg (by decide), b_within_X12, if_neg o2, if_pos rfl]
        simp (decide := true) only [gd_ob g65, e_finding g65, bd2_eq]
  · obtain ⟨g65, hG⟩ := id (hI.tl (v := -100001))
    refine ⟨-100001, _, _, ?_, tl_w48 (v := -100001) hR, ?_, rel_fin (v := -100001) hR (by decide)⟩
    · unfold f_X11_gets
      simp (decide := true) only [gd_ob h65, hF, Option.bind_some]
      rw [b_has hI tb8, c9, if_neg o1, if_pos rfl]
      simp (decide := true) only [gd_ob h65, e_told h65, bd2_eq]
    · unfold f_X12_gets
      rw [gd_pos (ob_of g65 (by decide) (by decide)), b_isLorry hI.tl (by rw [tl_arr (by decide)]; exact hf.2.2.1) (by omega), if_neg o1, if_pos rfl]
      simp (decide := true) only [gd_ob g65, e_finding g65, bd2_eq]
