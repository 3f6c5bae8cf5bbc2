/-! far -/
theorem rel_mok {j : Nat} {S : Wd} (hR : Rel j S) : MOk S := by
  refine ⟨hR.1, (rel_core hR).1, fun h i hi => ?_⟩
  have := hR.2.2.2.2.1 h i hi
  rw [kv_of rfl, show kv S 49 = wI S 49 from funext fun k => kv_of rfl] at this
  exact this
theorem rel_ways {j : Nat} {S W : Wd} (hR : Rel j S) (hA : Ag (fun a k => a = 7 ∨ (a = 5 ∧ k = 3)) S W) (h5 : wI W 5 3 = wI S 1 5) (h7 : ∀ i, i < 64 → wI W 7 i = fw (wI S 49) i) : Rel j W := by
  obtain ⟨h1, h2, h3, ⟨c, x1, x2, x3, x4⟩, -, h6⟩ := hR
  have ne : ∀ a k, a ≠ 7 → a ≠ 5 → wI W a k = wI S a k := fun a k n1 n2 => hA.2.2.2 a k (by omega)
  have hp : pv W = pv S := pv_congr fun a k hp => hA.2.2.2 a k (by
    rintro (rfl | ⟨rfl, rfl⟩)
    · cases hp
    · cases hp)
  have ek : ∀ a, a ≠ 7 → a ≠ 5 → kv W a = kv S a := fun a n1 n2 => funext fun k => by
    show (if kch a k = true then _ else _) = if kch a k = true then _ else _
    rw [ne a k n1 n2]
  refine ⟨hA.inv h1 (by omega), ?_, ?_, ⟨c, x1, ?_, Or.inr ⟨c, Nat.le_refl _, h5.trans x2⟩, ?_⟩, fun _ i hi => ?_, ?_⟩
  · rw [hp, hA.1, hA.2.1, hA.2.2.1]; exact h2
  · rw [ne 0 12 (by decide) (by decide), ne 48 3 (by decide) (by decide)]; exact h3
  · rw [ne 1 5 (by decide) (by decide)]; exact x2
  · rw [ne 13 12 (by decide) (by decide)]; exact x4
  · rw [kv_of rfl, h7 i hi, ek 49 (by decide) (by decide), show kv S 49 = wI S 49 from funext fun k => kv_of rfl]
  · rw [ne 13 12 (by decide) (by decide), ne 1 5 (by decide) (by decide)]
    unfold GOk at h6 ⊢
    rw [ek 13 (by decide) (by decide), ek 14 (by decide) (by decide), ek 15 (by decide) (by decide), ek 16 (by decide) (by decide), ek 49 (by decide) (by decide)]
    exact h6
/-- the class has measured -/
theorem rel_measure {j : Nat} {S : Wd} (hR : Rel j S) : ∃ W, f_X10_measure S 5 = some W ∧ Ag (fun a k => a = 7 ∨ (a = 5 ∧ k = 3)) S W ∧ Rel j W ∧ ∀ i, i < 64 → wI W 7 i = fw (wI S 49) i := by
  obtain ⟨W, w1, w2, w3, w4⟩ := e_measure (rel_mok hR)
  exact ⟨W, w1, w2, rel_ways hR w2 w3 w4, w4⟩
theorem sim_far {j : Nat} {S : Wd} (hR : Rel j S) (hj : j < 512) (a1 a2 : Int32) : ∃ r S1 S2, f_X11_far S 0 a1 a2 = some (r, S1) ∧ 48 < wn S1 ∧ f_X12_far S1 48 a1 a2 = some (r, S2) ∧ Rel (j + 1) S2 := by
  have hI := hR.1
  obtain ⟨h65, hF⟩ := id hI
  by_cases hok : (0 ≤ a1 ∧ a1 ≤ 7) ∧ (0 ≤ a2 ∧ a2 ≤ 7)
  · obtain ⟨o1, o2⟩ := hok
    obtain ⟨a, ha, rfl⟩ := nat_le (n := 7) o1.1 o1.2 (by decide)
    obtain ⟨b, hb, rfl⟩ := nat_le (n := 7) o2.1 o2.2 (by decide)
    obtain ⟨W, w1, w2, w3, w4⟩ := rel_measure hR
    have hIW := w3.1
    obtain ⟨W65, hWF⟩ := id hIW
    have e49 : wI W 49 = wI S 49 := w2.arr (by omega)
    obtain ⟨w, hw, ew⟩ := fw_small (rel_core hR).1 (show 8 * a + b < 64 by omega)
    have hbt := e_between hIW (show a < 8 by omega) (show b < 8 by omega)
    rw [w4 _ (by omega), ew] at hbt
    have hC : f_X11_far S 0 (nI a) (nI b) = if nI w = 1000000 then some (-100006, tl W (-100006)) else some (nI w, tl W (nI w)) := by
      unfold f_X11_far
      rw [b_isTown_X11, if_pos o1, if_neg (by decide), b_isTown_X11, if_pos o2, if_neg (by decide)]
      simp (decide := true) only [gd_ob h65, hF, Option.bind_some, w1, gd_ob W65, hWF, hbt, bd2_eq, e_told W65]
    have hM : ∀ {V : Wd}, Inv V → wI V 49 = wI S 49 → ∃ V', Ag (fun a _ => a = 54) V V' ∧ f_X12_far V 48 (nI a) (nI b) = if nI w < 1000000 then some (nI w, V') else some (-100006, fl V') := by
      intro V hV e
      obtain ⟨V', v1, v2, v3⟩ := e_findFar hV
      have hIV := v2.inv hV (by omega)
      obtain ⟨V65, hVF⟩ := id hIV
      refine ⟨V', v2, ?_⟩
      unfold f_X12_far f_X12_isApart
      rw [b_isTown_X12, if_pos o1, if_neg (by decide), b_isTown_X12, if_pos o2, if_neg (by decide), gd_pos (ob_of hV.1 (by decide) (by decide)), v1, Option.bind_some]
      simp (decide := true) only [gd_ob V65, hVF, Option.bind_some]
      rw [show (8 : Int32) * nI a + nI b = nI (8 * a + b) by show nI 8 * nI a + nI b = _; rw [nI_mul, nI_add], gd_pos (ix_of V65 (by decide) (by decide) (show 8 * a + b < 64 by omega)), nI_clamp (by omega), v3 _ (by omega), e, ew]
      by_cases hc : nI w < 1000000
      · rw [if_pos hc, if_pos hc, bd2_eq, if_pos rfl]
        simp (decide := true) only [gd_ob V65, hVF, Option.bind_some]
        rw [gd_pos (ix_of V65 (by decide) (by decide) (show 8 * a + b < 64 by omega)), v3 _ (by omega), e, ew]
      · rw [if_neg hc, if_neg hc, bd2_eq, if_neg (by decide), gd_pos (ob_of V65 (by decide) (by decide)), e_finding V65, bd2_eq]
    by_cases hc : w = 1000000
    · obtain ⟨V', v1, v2⟩ := hM (hIW.tl (v := -100006)) ((tl_arr (by decide)).trans e49)
      rw [if_neg (show ¬ nI w < 1000000 from nI_nlt (b := 1000000) (by omega) (by omega))] at v2
      refine ⟨-100006, _, _, by rw [hC, if_pos (show nI w = 1000000 by rw [hc]; rfl)], by rw [tl_wn]; omega, v2, rel_qy (rel_fin w3 (by decide)) ((ag_fl v1 (by omega)).qy (by rintro a k rfl; rfl))⟩
    · obtain ⟨V', v1, v2⟩ := hM hIW e49
      rw [if_pos (show nI w < 1000000 from nI_lt (b := 1000000) (by omega) (by decide))] at v2
      refine ⟨nI w, W, V', by rw [hC, if_neg (show ¬ nI w = 1000000 from fun h => hc ((nI_eq (a := w) (b := 1000000) (by omega) (by decide)).mp h)), tl_ge (nI_nofind (by omega))], by omega, v2, rel_up (rel_qy w3 (v1.qy (by rintro a k rfl; rfl)))⟩
  · obtain ⟨g65, hG⟩ := id (hI.tl (v := -100001))
    refine ⟨-100001, _, _, ?_, tl_w48 (v := -100001) hR, ?_, rel_fin (v := -100001) hR (by decide)⟩
    · unfold f_X11_far
      rw [b_isTown_X11]
      split
      · rename_i o1
        rw [if_neg (by decide), b_isTown_X11, if_neg (fun o2 => hok ⟨o1, o2⟩)]
        simp (decide := true) only [if_true, gd_ob h65, e_told h65, bd2_eq]
      · simp (decide := true) only [if_true, gd_ob h65, e_told h65, bd2_eq]
    · unfold f_X12_far
      rw [b_isTown_X12]
      split
      · rename_i o1
        rw [if_neg (by decide), b_isTown_X12, if_neg (fun o2 => hok ⟨o1, o2⟩)]
        simp (decide := true) only [if_true, gd_ob g65, e_finding g65, bd2_eq]
      · simp (decide := true) only [if_true, gd_ob g65, e_finding g65, bd2_eq]
