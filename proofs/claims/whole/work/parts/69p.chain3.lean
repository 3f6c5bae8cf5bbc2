/-! sim_chain -/
def cnX (S : Wd) (i : Nat) : Nat := (wI S 27 (1 + i * 3)).toNatClampNeg
def cnY (S : Wd) (i : Nat) : Nat := (wI S 27 (1 + i * 3 + 1)).toNatClampNeg
def cnZ (S : Wd) (i : Nat) : Nat := (wI S 27 (1 + i * 3 + 2)).toNatClampNeg
theorem con_facts {S : Wd} (h : cContr (wI S) (wI S 49)) : ∃ n : Nat, n ≤ 20 ∧ wI S 49 67 = nI n ∧ wI S 27 0 = nI n ∧ ∀ i, i < n → cnX S i < 8 ∧ cnY S i < 10 ∧ cnZ S i < 10 ∧ wI S 27 (1 + i * 3) = nI (cnX S i) ∧ wI S 27 (1 + i * 3 + 1) = nI (cnY S i) ∧ wI S 27 (1 + i * 3 + 2) = nI (cnZ S i) ∧ wI S 49 (240 + i) = nI (cnX S i + 8 * cnY S i + 80 * cnZ S i) := by
  obtain ⟨n, hn, u, v, hl⟩ := h
  refine ⟨n, hn, u, v, fun i hi => ?_⟩
  obtain ⟨x, y, z, x1, y1, z1, e1, e2, e3, e4⟩ := hl i hi
  have ex : cnX S i = x := by unfold cnX; rw [e1, nI_clamp (by omega)]
  have ey : cnY S i = y := by unfold cnY; rw [e2, nI_clamp (by omega)]
  have ez : cnZ S i = z := by unfold cnZ; rw [e3, nI_clamp (by omega)]
  rw [ex, ey, ez]
  exact ⟨x1, y1, z1, e1, e2, e3, e4⟩
/-- the class's chain -/
theorem e_follow {S : Wd} (hI : Inv S) {n : Nat} (hn : n ≤ 20) (v : wI S 27 0 = nI n) (hf : ∀ i, i < n → cnX S i < 8 ∧ cnY S i < 10 ∧ cnZ S i < 10 ∧ wI S 27 (1 + i * 3) = nI (cnX S i) ∧ wI S 27 (1 + i * 3 + 1) = nI (cnY S i) ∧ wI S 27 (1 + i * 3 + 2) = nI (cnZ S i) ∧ wI S 49 (240 + i) = nI (cnX S i + 8 * cnY S i + 80 * cnZ S i)) {ld fm : Nat} (hld : ld < 8) (hfm : fm < 10) : f_X1_follow S 24 (nI ld) (nI fm) = some (wCh S (chN (cnX S) (cnY S) (cnZ S) n ld 20 fm 0 0).2 (chN (cnX S) (cnY S) (cnZ S) n ld 20 fm 0 0).1) := by
  obtain ⟨h65, hF⟩ := id hI
  unfold f_X1_follow
  refine (ru_step (show B_X1_follow (0, [24], [nI ld, nI fm], S) = some (.inr (1, [24], [nI ld, nI fm, 0, nI 0], wCh S 0 fm)) from ?_)).trans (e_followL hI hn v (fun i hi => ⟨(hf i hi).1, (hf i hi).2.2.2.1⟩) (fun i hi => ⟨(hf i hi).2.1, (hf i hi).2.2.2.2.1⟩) (fun i hi => ⟨(hf i hi).2.2.1, (hf i hi).2.2.2.2.2.1⟩) hld (nI fm) 20 0 fm 0 0 (by omega) hfm)
  show B_X1_follow_0 S 24 (nI ld) (nI fm) = _
  unfold B_X1_follow_0
  rw [gd_pos (ob_of h65 (by decide) (by decide))]
  show gd (ob (sI S 24 3 0) 24 1) _ = _
  rw [gd_pos (ob_of (show 65 ≤ wn (sI S 24 3 0) from h65) (by decide) (by decide))]
  rfl
/-- the reference's -/
theorem e_endOf {V : Wd} (hI : Inv V) {n : Nat} (hn : n ≤ 20) (u67 : wI V 49 67 = nI n) {X Y Z : Nat → Nat} (eN : ∀ i, i < n → X i < 8 ∧ Y i < 10 ∧ Z i < 10 ∧ wI V 49 (240 + i) = nI (X i + 8 * Y i + 80 * Z i)) {ld fm : Nat} (hld : ld < 8) (hfm : fm < 10) : f_X12_endOf V 48 (nI ld) (nI fm) = some (nI (chN X Y Z n ld 20 fm 0 0).1, sI V 48 21 (nI (chN X Y Z n ld 20 fm 0 0).2)) := by
  obtain ⟨h65, hF⟩ := id hI
  unfold f_X12_endOf
  refine (ru_step (show B_X12_endOf (0, [48], [nI ld, nI fm], V) = some (.inr (1, [48], [nI ld, nI fm, 0, nI fm, 1], sI V 48 21 (nI 0))) from ?_)).trans (e_endO hI hn u67 eN hld (nI fm) 20 fm 0 0 (by have := cnt_le 0 n; omega) hfm)
  show B_X12_endOf_0 V 48 (nI ld) (nI fm) = _
  unfold B_X12_endOf_0
  rw [gd_pos (ob_of h65 (by decide) (by decide))]
  rfl
theorem sim_chain {j : Nat} {S : Wd} (hR : Rel j S) (hj : j < 512) (a1 a2 a3 : Int32) : ∃ r S1 S2, f_X11_chain S 0 a1 a2 a3 = some (r, S1) ∧ 48 < wn S1 ∧ f_X12_chain S1 48 a1 a2 a3 = some (r, S2) ∧ Rel (j + 1) S2 := by
  have hI := hR.1
  obtain ⟨h65, hF⟩ := id hI
  obtain ⟨k1, k2, ⟨m, hm, mu, mv, ml⟩, k4, k5, k6, k7, k8, k9⟩ := rel_core hR
  obtain ⟨n, hn, u, v, hf⟩ := con_facts k5
  have bad : f_X11_chain S 0 a1 a2 a3 = some (-100001, tl S (-100001)) → (∀ {S' : Wd}, Inv S' → wI S' 49 = wI S 49 → f_X12_chain S' 48 a1 a2 a3 = some (-100001, fl S')) → ∃ r S1 S2, f_X11_chain S 0 a1 a2 a3 = some (r, S1) ∧ 48 < wn S1 ∧ f_X12_chain S1 48 a1 a2 a3 = some (r, S2) ∧ Rel (j + 1) S2 := fun h1 h2 => ⟨-100001, _, _, h1, tl_w48 hR, h2 hI.tl (tl_arr (by decide)), rel_fin hR (by decide)⟩
  by_cases c1 : 0 ≤ a1 ∧ a1 < nI m
  · by_cases c2 : 0 ≤ a2 ∧ a2 ≤ 9
    · obtain ⟨ld, hld, rfl⟩ := nat_lt c1.1 c1.2 (by omega)
      obtain ⟨fm, hfm, rfl⟩ := nat_le (n := 9) c2.1 c2.2 (by decide)
      have hfo := e_follow hI hn v hf (show ld < 8 by omega) (show fm < 10 by omega)
      generalize hR' : chN (cnX S) (cnY S) (cnZ S) n ld 20 fm 0 0 = R at hfo
      have hW := wCh_inv hI R.2 R.1
      obtain ⟨W65, hWF⟩ := id hW
      have w49 : wI (wCh S R.2 R.1) 49 = wI S 49 := by unfold wCh; rw [wI_sI' _ _ _ _ _ (by decide), wI_sI' _ _ _ _ _ (by decide)]
      have w4 : wI (wCh S R.2 R.1) 24 4 = nI R.1 := wI_sI_eq
      have w3 : wI (wCh S R.2 R.1) 24 3 = nI R.2 := (wI_sI_ne (by decide)).trans wI_sI_eq
      have hen := e_endOf hW hn (by rw [w49]; exact u) (X := cnX S) (Y := cnY S) (Z := cnZ S) (fun i hi => by rw [w49]; exact ⟨(hf i hi).1, (hf i hi).2.1, (hf i hi).2.2.1, (hf i hi).2.2.2.2.2.2⟩) (show ld < 8 by omega) (show fm < 10 by omega)
      rw [hR'] at hen
      refine ⟨if a3 = 0 then nI R.2 else nI R.1, wCh S R.2 R.1, sI (wCh S R.2 R.1) 48 21 (nI R.2), ?_, by show 48 < wn S; omega, ?_, ?_⟩
      · unfold f_X11_chain f_X1_links f_X1_carrier
        simp (decide := true) only [gd_ob h65, hF, Option.bind_some]
        rw [b_has hI tb10, mv, if_pos c1, if_neg (by decide), b_isFirm_X11, if_pos c2, if_neg (by decide)]
        simp (decide := true) only [gd_ob h65, hF, Option.bind_some, hfo, gd_ob W65, hWF, bd2_eq, w3, w4]
        split <;> rfl
      · unfold f_X12_chain
        rw [gd_pos (ob_of W65 (by decide) (by decide)), b_isLoad hW (by rw [w49]; exact mu) (by omega), if_pos c1, if_neg (by decide), b_isFirm_X12, if_pos c2, if_neg (by decide), gd_pos (ob_of W65 (by decide) (by decide)), hen, bd2_eq]
        by_cases h3 : a3 = 0
        · rw [if_pos h3, if_pos h3, gd_pos (ob_of (show 65 ≤ wn (sI (wCh S R.2 R.1) 48 21 (nI R.2)) from W65) (by decide) (by decide)), wI_sI_eq]
        · rw [if_neg h3, if_neg h3]
      · exact rel_up (rel_qy hR ((Qy.sI rfl).trans ((Qy.sI rfl).trans (Qy.sI rfl))))
    · refine bad ?_ ?_
      · unfold f_X11_chain
        simp (decide := true) only [gd_ob h65, hF, Option.bind_some]
        rw [b_has hI tb10, mv, if_pos c1, if_neg (by decide), b_isFirm_X11, if_neg c2, if_pos rfl]
        simp (decide := true) only [gd_ob h65, e_told h65, bd2_eq]
      · intro S' hI' hN
        obtain ⟨g65, hG⟩ := id hI'
        unfold f_X12_chain
        rw [gd_pos (ob_of g65 (by decide) (by decide)), b_isLoad hI' (by rw [hN]; exact mu) (by omega), if_pos c1, if_neg (by decide), b_isFirm_X12, if_neg c2, if_pos rfl]
        simp (decide := true) only [gd_ob g65, e_finding g65, bd2_eq]
  · refine bad ?_ ?_
    · unfold f_X11_chain
      simp (decide := true) only [gd_ob h65, hF, Option.bind_some]
      rw [b_has hI tb10, mv, if_neg c1, if_pos rfl]
      simp (decide := true) only [gd_ob h65, e_told h65, bd2_eq]
    · intro S' hI' hN
      obtain ⟨g65, hG⟩ := id hI'
      unfold f_X12_chain
      rw [gd_pos (ob_of g65 (by decide) (by decide)), b_isLoad hI' (by rw [hN]; exact mu) (by omega), if_neg c1, if_pos rfl]
      simp (decide := true) only [gd_ob g65, e_finding g65, bd2_eq]
