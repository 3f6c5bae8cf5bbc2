/-- as -/
theorem sim_as {j : Nat} {S : Wd} (hR : Rel j S) (hj : j < 512) (a1 a2 : Int32) : ∃ r S1 S2, f_X11_as S 0 a1 a2 = some (r, S1) ∧ 48 < wn S1 ∧ f_X12_as S1 48 a1 a2 = some (r, S2) ∧ Rel (j + 1) S2 := by
  have hI := hR.1
  obtain ⟨h65, hF⟩ := id hI
  obtain ⟨h65', hF'⟩ := id (hI.tl (v := -100001))
  obtain ⟨h65'', hF''⟩ := id (hI.tl (v := -100004))
  obtain ⟨-, ⟨n, hn, u, v, hl⟩, -⟩ := rel_core hR
  have hC : f_X11_as S 0 a1 a2 = if 0 ≤ a1 ∧ a1 < nI n then (if 0 ≤ a2 ∧ a2 ≤ 3 then (if a2 = 0 then some (a1, tl S a1) else bd2 (f_X8_at S 8 a1 0) (fun r S' => if a2 = r then bd2 (f_X11_told S' 0 a1) (fun r S => some (r, S)) else bd2 (f_X11_told S' 0 (-100004)) (fun r S => some (r, S)))) else some (-100001, tl S (-100001))) else some (-100001, tl S (-100001)) := by
    unfold f_X11_as
    simp (decide := true) only [gd_ob h65, hF, Option.bind_some]
    rw [b_has hI tb8, v]
    simp (decide := true) only [gd_ob h65, hF, Option.bind_some, b_within_X11, if_true, if_false, e_told h65, bd2_eq]
    split
    · split
      · split
        · rfl
        · rename_i hat _ _
          obtain ⟨i, hi, rfl⟩ := nat_lt hat.1 hat.2 (by omega)
          rw [show (0 : Int32) = nI 0 from rfl, e_at hI tb8 v hn hi (by decide), bd2_eq, bd2_eq]
          simp (decide := true) only [gd_ob h65]
      · rfl
    · rfl
  have hM : ∀ {S' : Wd}, Inv S' → wI S' 49 = wI S 49 → f_X12_as S' 48 a1 a2 = if 0 ≤ a1 ∧ a1 < nI n then (if 0 ≤ a2 ∧ a2 ≤ 3 then (if a2 = 0 then some (a1, S') else if wI S 49 (70 + 7 * a1.toNatClampNeg) = a2 then some (a1, S') else some (-100004, fl S')) else some (-100001, fl S')) else some (-100001, fl S') := by
    intro S' hI' hN
    obtain ⟨g65, hG⟩ := id hI'
    unfold f_X12_as
    simp (decide := true) only [gd_ob g65]
    rw [b_isLorry hI' (by rw [hN]; exact u) (by omega)]
    simp (decide := true) only [gd_ob g65, hG, Option.bind_some, b_within_X12, if_true, if_false, e_finding g65, bd2_eq]
    split
    · rename_i hat
      obtain ⟨i, hi, rfl⟩ := nat_lt hat.1 hat.2 (by omega)
      split
      · split
        · rfl
        · rw [show (0 : Int32) = nI 0 from rfl, e_ofLorry, bd2_eq, gd_pos (rdN g65 (by omega)), nI_clamp (by omega), nI_clamp (by omega), hN]
          simp (decide := true) only [gd_ob g65, e_finding g65, bd2_eq]
          rfl
      · rfl
    · rfl
  rw [hC]
  split
  · rename_i hat
    obtain ⟨i, hi, rfl⟩ := nat_lt hat.1 hat.2 (by omega)
    have hge := nI_nofind (n := i) (by omega)
    split
    · rename_i hk
      split
      · rename_i h0
        exact ⟨_, _, S, rfl, tl_w48 hR, by rw [tl_ge hge, hM hI rfl, if_pos hat, if_pos hk, if_pos h0], rel_up hR⟩
      · rename_i h0
        obtain ⟨x, hx, ex1, ex2⟩ := hl i hi 0 (by decide)
        rw [show (0 : Int32) = nI 0 from rfl, e_at hI tb8 v hn hi (by decide), bd2_eq]
        have e2 : wI S (8 + 1) (1 + i * 7 + 0) = wI S 49 (70 + 7 * i) := by
          rw [show wI S 49 (70 + 7 * i) = nI x from ex1]; exact ex2
        rw [e2, e_told h65, e_told h65, bd2_eq, bd2_eq]
        by_cases he : a2 = wI S 49 (70 + 7 * i)
        · rw [if_pos he]
          exact ⟨_, _, S, rfl, tl_w48 hR, by rw [tl_ge hge, hM hI rfl, if_pos hat, if_pos hk, if_neg h0, nI_clamp (by omega), if_pos he.symm], rel_up hR⟩
        · rw [if_neg he]
          exact ⟨_, _, _, rfl, tl_w48 hR, by rw [hM hI.tl (tl_arr (by decide)), if_pos hat, if_pos hk, if_neg h0, nI_clamp (by omega), if_neg (fun e => he e.symm)], rel_fin hR (by decide)⟩
    · rename_i hk
      exact ⟨_, _, _, rfl, tl_w48 hR, by rw [hM hI.tl (tl_arr (by decide)), if_pos hat, if_neg hk], rel_fin hR (by decide)⟩
  · rename_i hat
    exact ⟨_, _, _, rfl, tl_w48 hR, by rw [hM hI.tl (tl_arr (by decide)), if_neg hat], rel_fin hR (by decide)⟩
/-- loadIs -/
theorem sim_loadIs {j : Nat} {S : Wd} (hR : Rel j S) (hj : j < 512) (a1 a2 : Int32) : ∃ r S1 S2, f_X11_loadIs S 0 a1 a2 = some (r, S1) ∧ 48 < wn S1 ∧ f_X12_loadIs S1 48 a1 a2 = some (r, S2) ∧ Rel (j + 1) S2 := by
  have hI := hR.1
  obtain ⟨h65, hF⟩ := id hI
  obtain ⟨-, -, ⟨n, hn, u, v, hl⟩, -⟩ := rel_core hR
  have hC : f_X11_loadIs S 0 a1 a2 = if 0 ≤ a1 ∧ a1 < nI n then (if 0 ≤ a2 ∧ a2 ≤ 10 then bd2 (f_X8_at S 10 a1 a2) (fun r S' => some (r, S')) else some (-100001, tl S (-100001))) else some (-100001, tl S (-100001)) := by
    unfold f_X11_loadIs
    simp (decide := true) only [gd_ob h65, hF, Option.bind_some]
    rw [b_has hI tb10, v]
    simp (decide := true) only [gd_ob h65, hF, Option.bind_some, b_within_X11, if_true, if_false, e_told h65, bd2_eq]
  have hM : ∀ {S' : Wd}, Inv S' → wI S' 49 = wI S 49 → f_X12_loadIs S' 48 a1 a2 = if 0 ≤ a1 ∧ a1 < nI n then (if 0 ≤ a2 ∧ a2 ≤ 10 then some (wI S 49 (112 + 11 * a1.toNatClampNeg + a2.toNatClampNeg), S') else some (-100001, fl S')) else some (-100001, fl S') := by
    intro S' hI' hN
    obtain ⟨g65, hG⟩ := id hI'
    unfold f_X12_loadIs
    simp (decide := true) only [gd_ob g65]
    rw [b_isLoad hI' (by rw [hN]; exact u) (by omega)]
    simp (decide := true) only [gd_ob g65, hG, Option.bind_some, b_within_X12, if_true, if_false, e_finding g65, bd2_eq]
    split
    · rename_i hat
      obtain ⟨i, hi, rfl⟩ := nat_lt hat.1 hat.2 (by omega)
      split
      · rename_i hk
        obtain ⟨c, hc, rfl⟩ := nat_le (n := 10) hk.1 hk.2 (by decide)
        rw [e_ofLoad, bd2_eq, gd_pos (rdN g65 (by omega)), nI_clamp (by omega), nI_clamp (by omega), nI_clamp (by omega), hN]
      · rfl
    · rfl
  rw [hC]
  split
  · rename_i hat
    obtain ⟨i, hi, rfl⟩ := nat_lt hat.1 hat.2 (by omega)
    split
    · rename_i hk
      obtain ⟨c, hc, rfl⟩ := nat_le (n := 10) hk.1 hk.2 (by decide)
      rw [e_at hI tb10 v hn hi (by omega), bd2_eq]
      refine ⟨_, S, S, rfl, rel_w48 hR, ?_, rel_up hR⟩
      rw [hM hI rfl, if_pos hat, if_pos hk, nI_clamp (by omega), nI_clamp (by omega)]
      obtain ⟨l1, l2, l3⟩ := hl i hi
      rcases Nat.lt_or_ge c 10 with h | h
      · obtain ⟨x, -, e1, e2⟩ := l1 c h
        rw [e1, show wI S (10 + 1) (1 + i * 11 + c) = nI x from e2]
      · rw [show c = 10 by omega, ← l2]
    · rename_i hk
      exact ⟨_, _, _, rfl, tl_w48 hR, by rw [hM hI.tl (tl_arr (by decide)), if_pos hat, if_neg hk], rel_fin hR (by decide)⟩
  · rename_i hat
    exact ⟨_, _, _, rfl, tl_w48 hR, by rw [hM hI.tl (tl_arr (by decide)), if_neg hat], rel_fin hR (by decide)⟩
/-- trust -/
theorem e_doneOf {S : Wd} (hI : Inv S) {f : Nat} (hf : f < 10) : f_X1_doneOf S 24 (nI f) = some (wI S 25 (2 * f), S) := by
  obtain ⟨h65, hF⟩ := id hI
  unfold f_X1_doneOf
  rw [b_isFirm_X11, if_pos ⟨nI_pos' (by omega), nI_le (b := 9) (by omega) (by decide)⟩, if_neg (by decide)]
  simp (decide := true) only [gd_ob h65, hF, Option.bind_some]
  rw [show (2 : Int32) * nI f = nI (2 * f) from nI_mul 2 f, gd_pos (ix_of h65 (by decide) (by decide) (by show _ < 20; omega)), nI_clamp (by omega)]
theorem e_judgedOf {S : Wd} (hI : Inv S) {f : Nat} (hf : f < 10) : f_X1_judgedOf S 24 (nI f) = some (wI S 25 (2 * f) + wI S 25 (2 * f + 1), S) := by
  obtain ⟨h65, hF⟩ := id hI
  unfold f_X1_judgedOf
  rw [b_isFirm_X11, if_pos ⟨nI_pos' (by omega), nI_le (b := 9) (by omega) (by decide)⟩, if_neg (by decide)]
  simp (decide := true) only [gd_ob h65, hF, Option.bind_some]
  rw [show (2 : Int32) * nI f = nI (2 * f) from nI_mul 2 f, nI_1, gd_pos (ix_of h65 (by decide) (by decide) (by show _ < 20; omega)), gd_pos (ix_of h65 (by decide) (by decide) (by show _ < 20; omega)), nI_clamp (by omega), nI_clamp (by omega)]
theorem e_trustOf {S : Wd} (hI : Inv S) {f : Nat} (hf : f < 10) (more : Int32) (hz : ¬ wI S 49 (290 + f) + wI S 49 (300 + f) + 3 = 0) : f_X12_trustOf S 48 (nI f) more = some (100 * (wI S 49 (290 + f) + more) / (wI S 49 (290 + f) + wI S 49 (300 + f) + 3), S) := by
  obtain ⟨h65, hF⟩ := id hI
  unfold f_X12_trustOf
  simp (decide := true) only [gd_ob h65, hF, Option.bind_some]
  rw [show (290 : Int32) + nI f = nI (290 + f) from nI_add 290 f, show (300 : Int32) + nI f = nI (300 + f) from nI_add 300 f, gd_pos (rdN h65 (by omega)), gd_pos (rdN h65 (by omega)), gd_pos (rdN h65 (by omega)), nI_clamp (by omega), nI_clamp (by omega), gd_pos hz]
theorem nI_3ne {d e : Nat} (h : d + e ≤ 200) : ¬ nI d + nI e + 3 = 0 := by
  show ¬ nI d + nI e + nI 3 = 0
  rw [nI_add, nI_add]
  exact nI_ne0 (by omega) (by omega)
theorem sim_trust {j : Nat} {S : Wd} (hR : Rel j S) (hj : j < 512) (a1 a2 : Int32) : ∃ r S1 S2, f_X11_trust S 0 a1 a2 = some (r, S1) ∧ 48 < wn S1 ∧ f_X12_trust S1 48 a1 a2 = some (r, S2) ∧ Rel (j + 1) S2 := by
  have hI := hR.1
  obtain ⟨h65, hF⟩ := id hI
  obtain ⟨g65, hG⟩ := id (hI.tl (v := -100001))
  obtain ⟨-, -, -, -, -, -, ht, -⟩ := rel_core hR
  by_cases hat : 0 ≤ a1 ∧ a1 ≤ 9
  · obtain ⟨f, hf, rfl⟩ := nat_le (n := 9) hat.1 hat.2 (by decide)
    obtain ⟨d, e, hde, e1, e2, e3, e4⟩ := ht f (by omega)
    have hz : ¬ wI S 49 (290 + f) + wI S 49 (300 + f) + 3 = 0 := by rw [e1, e2]; exact nI_3ne hde
    by_cases h2 : a2 = 0
    · refine ⟨100 * nI d / (nI d + nI e + 3), S, S, ?_, rel_w48 hR, ?_, rel_up hR⟩
      · unfold f_X11_trust f_X1_leastTrust
        rw [b_isFirm_X11, if_pos hat, if_neg (by decide), if_pos h2]
        simp (decide := true) only [gd_ob h65, hF, Option.bind_some, e_doneOf hI (show f < 10 by omega), e_judgedOf hI (show f < 10 by omega), bd2_eq]
        rw [e3, e4, gd_pos (nI_3ne hde), bd2_eq]
      · unfold f_X12_trust
        rw [b_isFirm_X12, if_pos hat, if_neg (by decide), if_pos h2]
        simp (decide := true) only [gd_ob h65, e_trustOf hI (show f < 10 by omega) _ hz, bd2_eq]
        rw [e1, e2, show nI d + (0 : Int32) = nI d from nI_add d 0]
    · refine ⟨100 * (nI d + 3) / (nI d + nI e + 3), S, S, ?_, rel_w48 hR, ?_, rel_up hR⟩
      · unfold f_X11_trust f_X1_greatestTrust
        rw [b_isFirm_X11, if_pos hat, if_neg (by decide), if_neg h2]
        simp (decide := true) only [gd_ob h65, hF, Option.bind_some, e_doneOf hI (show f < 10 by omega), e_judgedOf hI (show f < 10 by omega), bd2_eq]
        rw [e3, e4, gd_pos (nI_3ne hde), bd2_eq]
      · unfold f_X12_trust
        rw [b_isFirm_X12, if_pos hat, if_neg (by decide), if_neg h2]
        simp (decide := true) only [gd_ob h65, e_trustOf hI (show f < 10 by omega) _ hz, bd2_eq]
        rw [e1, e2]
  · refine ⟨-100001, _, _, ?_, tl_w48 (v := -100001) hR, ?_, rel_fin (v := -100001) hR (by decide)⟩
    · unfold f_X11_trust
      rw [b_isFirm_X11, if_neg hat, if_pos rfl]
      simp (decide := true) only [gd_ob h65, e_told h65, bd2_eq]
    · unfold f_X12_trust
      rw [b_isFirm_X12, if_neg hat, if_pos rfl]
      simp (decide := true) only [gd_ob g65, e_finding g65, bd2_eq]
