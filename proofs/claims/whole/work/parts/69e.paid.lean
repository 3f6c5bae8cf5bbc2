/-! paid -/
theorem lane77 {a : Int32} (h : 0 ≤ a ∧ (0 ≤ a / 10 ∧ a / 10 ≤ 7) ∧ (0 ≤ irm a 10 ∧ irm a 10 ≤ 7)) : ∃ x : Nat, x ≤ 77 ∧ x % 10 ≤ 7 ∧ a = nI x := by
  obtain ⟨x, hx, rfl⟩ := nat_of h.1
  have h1 : nI (x / 10) ≤ nI 7 := by
    rw [← pk_div hx (by decide) (by decide)]
    exact h.2.1.2
  have h2 : nI (x % 10) ≤ nI 7 := by
    rw [← irm_nI (d := 10) hx (by decide) (by decide)]
    exact h.2.2.2
  have e1 := nI_le_of (by omega) h1
  have e2 := nI_le_of (by omega) h2
  exact ⟨x, by omega, e2, rfl⟩
theorem sim_paid {j : Nat} {S : Wd} (hR : Rel j S) (hj : j < 512) (a1 a2 a3 : Int32) : ∃ r S1 S2, f_X11_paid S 0 a1 a2 a3 = some (r, S1) ∧ 48 < wn S1 ∧ f_X12_paid S1 48 a1 a2 a3 = some (r, S2) ∧ Rel (j + 1) S2 := by
  have hI := hR.1
  obtain ⟨h65, hF⟩ := id hI
  have hcore := rel_core hR
  obtain ⟨k1, k2, k3, ⟨n, hn, u, v, hl⟩, k5, k6, k7, k8, k9⟩ := id hcore
  have bad : ∀ (V : Wd), Rel j V → ∀ (x : Int32), x < -99999 → f_X11_paid S 0 a1 a2 a3 = some (x, tl V x) → wI V 49 = wI S 49 → (∀ {S' : Wd}, Inv S' → wI S' 49 = wI S 49 → f_X12_paid S' 48 a1 a2 a3 = some (x, fl S')) → ∃ r S1 S2, f_X11_paid S 0 a1 a2 a3 = some (r, S1) ∧ 48 < wn S1 ∧ f_X12_paid S1 48 a1 a2 a3 = some (r, S2) ∧ Rel (j + 1) S2 := fun V hV x hx h1 h3 h2 => ⟨x, _, _, h1, tl_w48 hV, h2 hV.1.tl ((tl_arr (by decide)).trans h3), rel_fin hV hx⟩
  by_cases c1 : 0 ≤ a1 ∧ (0 ≤ a1 / 10 ∧ a1 / 10 ≤ 7) ∧ (0 ≤ irm a1 10 ∧ irm a1 10 ≤ 7)
  · by_cases c2 : 0 ≤ a2 ∧ a2 ≤ 365
    · by_cases c3 : 0 ≤ a3 ∧ a3 ≤ 9999
      · obtain ⟨x, hx, -, rfl⟩ := lane77 c1
        obtain ⟨y, hy, rfl⟩ := nat_le (n := 365) c2.1 c2.2 (by decide)
        obtain ⟨z, hz, rfl⟩ := nat_le (n := 9999) c3.1 c3.2 (by decide)
        obtain ⟨l1, l2, l3, l4, l5, l6, l7, l8, l9⟩ := line3_facts hI (nI x) (nI y) (nI z)
        obtain ⟨L65, hLF⟩ := id l1
        have hC : f_X11_paid S 0 (nI x) (nI y) (nI z) = bd2 (f_X8_add (line3 S (nI x) (nI y) (nI z)) 22 (wn S)) (fun r19 S17 => if r19 = (-100005 : Int32) then gd (ob S17 0 11) (bd2 (f_X11_told S17 0 (-100005)) (fun r35 S33 => some (r35, S33))) else gd (ob S17 0 11) (bd2 (f_X11_told S17 0 (r19 + 1)) (fun r35 S33 => some (r35, S33)))) := by
          unfold f_X11_paid
          rw [b_isLane_X11, if_pos c1, if_neg (by decide), b_within_X11, if_pos c2, if_neg (by decide), b_within_X11, if_pos c3, if_neg (by decide)]
          simp (decide := true) only [gd_ob h65, hF, Option.bind_some]
          unfold f_X5_enter
          rw [e_line3 h65]
          simp (decide := true) only [gd_ob L65, hLF, Option.bind_some]
          rw [bd2_assoc]
          congr 1
          funext r S'
          split <;> rfl
        by_cases hfull : n = 40
        · subst hfull
          refine bad (line3 S (nI x) (nI y) (nI z)) (rel_new hR (by omega) l4 l5 l6) (-100005) (by decide) ?_ (funext fun k => l6 49 k (by omega)) ?_
          · rw [hC, e_addFull l1 tb22 (show wI _ 23 0 = nI 40 by rw [l6 23 0 (by omega)]; exact v), bd2_eq, if_pos rfl]
            simp (decide := true) only [gd_ob L65, e_told L65, bd2_eq]
          · intro S' hI' hN
            obtain ⟨g65, hG⟩ := id hI'
            unfold f_X12_paid
            rw [b_isLane_X12, if_pos c1, if_neg (by decide), b_isDay_X12, if_pos c2, if_neg (by decide), b_within_X12, if_pos c3, if_neg (by decide)]
            simp (decide := true) only [gd_ob g65, hG, Option.bind_some, show (66 : Int32) = nI 66 from rfl]
            rw [gd_pos (rdN g65 (by omega)), nI_clamp (by decide), hN, u, if_pos (show nI 40 = (40 : Int32) from rfl)]
            simp (decide := true) only [gd_ob g65, e_finding g65, bd2_eq]
        · obtain ⟨S1, T, m1, m2, m3, m4, m5, m6, m7, m8⟩ := add_Price hR hj (show n < 40 by omega) u v hx hy hz
          obtain ⟨I65, hIF⟩ := id m3
          obtain ⟨T65, hTF⟩ := id m6
          refine ⟨nI (n + 1), S1, _, ?_, m2, ?_, m8⟩
          · rw [hC, m1, bd2_eq, if_neg (fun h => nI_pos (n := n) (by omega) (by rw [h]; decide)), nI_1]
            simp (decide := true) only [gd_ob I65, e_told I65, bd2_eq]
            rw [tl_ge (nI_nofind (n := n + 1) (by omega))]
          · unfold f_X12_paid
            rw [b_isLane_X12, if_pos c1, if_neg (by decide), b_isDay_X12, if_pos c2, if_neg (by decide), b_within_X12, if_pos c3, if_neg (by decide)]
            simp (decide := true) only [gd_ob I65, hIF, Option.bind_some, show (66 : Int32) = nI 66 from rfl]
            rw [gd_pos (rdN I65 (by omega)), nI_clamp (by decide), m4, u, if_neg (show ¬ nI n = (40 : Int32) from fun h => hfull ((nI_eq (by omega) (by decide)).mp (h : nI n = nI 40))), m5, Option.bind_some]
            simp (decide := true) only [gd_ob T65, hTF, Option.bind_some]
            rw [gd_pos (rdN T65 (by omega)), m7, u, show (200 : Int32) + nI n = nI (200 + n) from nI_add 200 n, gd_pos (rdN T65 (by omega)), nI_clamp (show 200 + n < 2 ^ 31 by omega), show 10000 * (366 * nI x + nI y) + nI z = nI (10000 * (366 * x + y) + z) by show nI 10000 * (nI 366 * nI x + nI y) + nI z = _; rw [nI_mul, nI_add, nI_mul, nI_add]]
            show gd (ob (sI T 49 (200 + n) (nI (10000 * (366 * x + y) + z))) 48 12) _ = _
            have U65 : 65 ≤ wn (sI T 49 (200 + n) (nI (10000 * (366 * x + y) + z))) := T65
            rw [gd_pos (ob_of U65 (by decide) (by decide)), wO_sI]
            simp (decide := true) only [hTF, Option.bind_some]
            rw [gd_pos (rdN U65 (by omega)), gd_pos (rdN U65 (by omega)), wI_sI_ne (by omega), m7, u, nI_1]
            show gd (ob (sI (sI T 49 (200 + n) (nI (10000 * (366 * x + y) + z))) 49 66 (nI (n + 1))) 48 12) _ = _
            have V65 : 65 ≤ wn (sI (sI T 49 (200 + n) (nI (10000 * (366 * x + y) + z))) 49 66 (nI (n + 1))) := T65
            rw [gd_pos (ob_of V65 (by decide) (by decide)), wO_sI, wO_sI]
            simp (decide := true) only [hTF, Option.bind_some]
            rw [gd_pos (rdN V65 (by omega)), wI_sI_eq]
      · refine bad S hR (-100001) (by decide) ?_ rfl ?_
        · unfold f_X11_paid
          rw [b_isLane_X11, if_pos c1, if_neg (by decide), b_within_X11, if_pos c2, if_neg (by decide), b_within_X11, if_neg c3, if_pos rfl]
          simp (decide := true) only [gd_ob h65, e_told h65, bd2_eq]
        · intro S' hI' hN
          obtain ⟨g65, hG⟩ := id hI'
          unfold f_X12_paid
          rw [b_isLane_X12, if_pos c1, if_neg (by decide), b_isDay_X12, if_pos c2, if_neg (by decide), b_within_X12, if_neg c3, if_pos rfl]
          simp (decide := true) only [gd_ob g65, e_finding g65, bd2_eq]
    · refine bad S hR (-100001) (by decide) ?_ rfl ?_
      · unfold f_X11_paid
        rw [b_isLane_X11, if_pos c1, if_neg (by decide), b_within_X11, if_neg c2, if_pos rfl]
        simp (decide := true) only [gd_ob h65, e_told h65, bd2_eq]
      · intro S' hI' hN
        obtain ⟨g65, hG⟩ := id hI'
        unfold f_X12_paid
        rw [b_isLane_X12, if_pos c1, if_neg (by decide), b_isDay_X12, if_neg c2, if_pos rfl]
        simp (decide := true) only [gd_ob g65, e_finding g65, bd2_eq]
  · refine bad S hR (-100001) (by decide) ?_ rfl ?_
    · unfold f_X11_paid
      rw [b_isLane_X11, if_neg c1, if_pos rfl]
      simp (decide := true) only [gd_ob h65, e_told h65, bd2_eq]
    · intro S' hI' hN
      obtain ⟨g65, hG⟩ := id hI'
      unfold f_X12_paid
      rw [b_isLane_X12, if_neg c1, if_pos rfl]
      simp (decide := true) only [gd_ob g65, e_finding g65, bd2_eq]
