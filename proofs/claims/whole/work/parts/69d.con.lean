/-! contract -/
theorem sim_contract {j : Nat} {S : Wd} (hR : Rel j S) (hj : j < 512) (a1 a2 a3 : Int32) : ∃ r S1 S2, f_X11_contract S 0 a1 a2 a3 = some (r, S1) ∧ 48 < wn S1 ∧ f_X12_contract S1 48 a1 a2 a3 = some (r, S2) ∧ Rel (j + 1) S2 := by
  have hI := hR.1
  obtain ⟨h65, hF⟩ := id hI
  have hcore := rel_core hR
  obtain ⟨k1, k2, ⟨m, hm, mu, mv, ml⟩, k4, ⟨n, hn, u, v, hl⟩, k6, k7, k8, k9⟩ := id hcore
  have bad : ∀ (V : Wd), Rel j V → ∀ (x : Int32), x < -99999 → f_X11_contract S 0 a1 a2 a3 = some (x, tl V x) → wI V 49 = wI S 49 → (∀ {S' : Wd}, Inv S' → wI S' 49 = wI S 49 → f_X12_contract S' 48 a1 a2 a3 = some (x, fl S')) → ∃ r S1 S2, f_X11_contract S 0 a1 a2 a3 = some (r, S1) ∧ 48 < wn S1 ∧ f_X12_contract S1 48 a1 a2 a3 = some (r, S2) ∧ Rel (j + 1) S2 := fun V hV x hx h1 h3 h2 => ⟨x, _, _, h1, tl_w48 hV, h2 hV.1.tl ((tl_arr (by decide)).trans h3), rel_fin hV hx⟩
  by_cases c1 : 0 ≤ a1 ∧ a1 < nI m
  · by_cases c2 : 0 ≤ a2 ∧ a2 ≤ 9
    · by_cases c3 : 0 ≤ a3 ∧ a3 ≤ 9
      · by_cases c4 : a2 = a3
        · refine bad S hR (-100003) (by decide) ?_ rfl ?_
          · unfold f_X11_contract
            simp (decide := true) only [gd_ob h65, hF, Option.bind_some]
            rw [b_has hI tb10, mv, if_pos c1, if_neg (by decide), b_isFirm_X11, if_pos c2, if_neg (by decide), b_isFirm_X11, if_pos c3, if_neg (by decide), if_pos c4]
            simp (decide := true) only [gd_ob h65, e_told h65, bd2_eq]
          · intro S' hI' hN
            obtain ⟨g65, hG⟩ := id hI'
            unfold f_X12_contract
            rw [gd_pos (ob_of g65 (by decide) (by decide)), b_isLoad hI' (by rw [hN]; exact mu) (by omega), if_pos c1, if_neg (by decide), b_isFirm_X12, if_pos c2, if_neg (by decide), b_isFirm_X12, if_pos c3, if_neg (by decide), if_pos c4]
            simp (decide := true) only [gd_ob g65, e_finding g65, bd2_eq]
        obtain ⟨x, hx, rfl⟩ := nat_lt c1.1 c1.2 (by omega)
        obtain ⟨y, hy, rfl⟩ := nat_le (n := 9) c2.1 c2.2 (by decide)
        obtain ⟨z, hz, rfl⟩ := nat_le (n := 9) c3.1 c3.2 (by decide)
        obtain ⟨l1, l2, l3, l4, l5, l6, l7, l8, l9⟩ := line3_facts hI (nI x) (nI y) (nI z)
        obtain ⟨L65, hLF⟩ := id l1
        have hC : f_X11_contract S 0 (nI x) (nI y) (nI z) = bd2 (f_X8_add (line3 S (nI x) (nI y) (nI z)) 26 (wn S)) (fun r29 S29 => gd (ob S29 0 11) (bd2 (f_X11_told S29 0 r29) (fun r35 S33 => some (r35, S33)))) := by
          unfold f_X11_contract
          simp (decide := true) only [gd_ob h65, hF, Option.bind_some]
          rw [b_has hI tb10, mv, if_pos c1, if_neg (by decide), b_isFirm_X11, if_pos c2, if_neg (by decide), b_isFirm_X11, if_pos c3, if_neg (by decide), if_neg c4]
          simp (decide := true) only [gd_ob h65, hF, Option.bind_some]
          unfold f_X1_handOn
          rw [e_line3 h65]
          simp (decide := true) only [gd_ob L65, hLF, Option.bind_some]
          rw [bd2_assoc]
          rfl
        by_cases hfull : n = 20
        · subst hfull
          refine bad (line3 S (nI x) (nI y) (nI z)) (rel_new hR (by omega) l4 l5 l6) (-100005) (by decide) ?_ (funext fun k => l6 49 k (by omega)) ?_
          · rw [hC, e_addFull l1 tb26 (show wI _ 27 0 = nI 20 by rw [l6 27 0 (by omega)]; exact v), bd2_eq]
            simp (decide := true) only [gd_ob L65, e_told L65, bd2_eq]
          · intro S' hI' hN
            obtain ⟨g65, hG⟩ := id hI'
            unfold f_X12_contract
            rw [gd_pos (ob_of g65 (by decide) (by decide)), b_isLoad hI' (by rw [hN]; exact mu) (by omega), if_pos c1, if_neg (by decide), b_isFirm_X12, if_pos c2, if_neg (by decide), b_isFirm_X12, if_pos c3, if_neg (by decide), if_neg c4]
            simp (decide := true) only [gd_ob g65, hG, Option.bind_some, show (67 : Int32) = nI 67 from rfl]
            rw [gd_pos (rdN g65 (by omega)), nI_clamp (by decide), hN, u, if_pos (show nI 20 = (20 : Int32) from rfl)]
            simp (decide := true) only [gd_ob g65, e_finding g65, bd2_eq]
        · obtain ⟨S1, T, m1, m2, m3, m4, m5, m6, m7, m8⟩ := add_Contr hR hj (show n < 20 by omega) u v (show x < 8 by omega) (show y < 10 by omega) (show z < 10 by omega)
          obtain ⟨I65, hIF⟩ := id m3
          obtain ⟨T65, hTF⟩ := id m6
          refine ⟨nI n, S1, _, ?_, m2, ?_, m8⟩
          · rw [hC, m1, bd2_eq]
            simp (decide := true) only [gd_ob I65, e_told I65, bd2_eq]
            rw [tl_ge (nI_nofind (n := n) (by omega))]
          · unfold f_X12_contract
            rw [gd_pos (ob_of I65 (by decide) (by decide)), b_isLoad m3 (by rw [m4]; exact mu) (by omega), if_pos c1, if_neg (by decide), b_isFirm_X12, if_pos c2, if_neg (by decide), b_isFirm_X12, if_pos c3, if_neg (by decide), if_neg c4]
            simp (decide := true) only [gd_ob I65, hIF, Option.bind_some, show (67 : Int32) = nI 67 from rfl]
            rw [gd_pos (rdN I65 (by omega)), nI_clamp (by decide), m4, u, if_neg (show ¬ nI n = (20 : Int32) from fun h => hfull ((nI_eq (by omega) (by decide)).mp (h : nI n = nI 20))), m5, Option.bind_some]
            simp (decide := true) only [gd_ob T65, hTF, Option.bind_some]
            rw [gd_pos (rdN T65 (by omega)), m7, u, show (240 : Int32) + nI n = nI (240 + n) from nI_add 240 n, gd_pos (rdN T65 (by omega)), nI_clamp (show 240 + n < 2 ^ 31 by omega), show nI x + 8 * nI y + 80 * nI z = nI (x + 8 * y + 80 * z) by show nI x + nI 8 * nI y + nI 80 * nI z = _; rw [nI_mul, nI_mul, nI_add, nI_add]]
            show gd (ob (sI T 49 (240 + n) (nI (x + 8 * y + 80 * z))) 48 12) _ = _
            have U65 : 65 ≤ wn (sI T 49 (240 + n) (nI (x + 8 * y + 80 * z))) := T65
            rw [gd_pos (ob_of U65 (by decide) (by decide)), wO_sI]
            simp (decide := true) only [hTF, Option.bind_some]
            rw [gd_pos (rdN U65 (by omega)), gd_pos (rdN U65 (by omega)), wI_sI_ne (by omega), m7, u, nI_1]
            show gd (ob (sI (sI T 49 (240 + n) (nI (x + 8 * y + 80 * z))) 49 67 (nI (n + 1))) 48 12) _ = _
            have V65 : 65 ≤ wn (sI (sI T 49 (240 + n) (nI (x + 8 * y + 80 * z))) 49 67 (nI (n + 1))) := T65
            rw [gd_pos (ob_of V65 (by decide) (by decide)), wO_sI, wO_sI]
            simp (decide := true) only [hTF, Option.bind_some]
            rw [gd_pos (rdN V65 (by omega)), wI_sI_eq, nI_pred]
      · refine bad S hR (-100001) (by decide) ?_ rfl ?_
        · unfold f_X11_contract
          simp (decide := true) only [gd_ob h65, hF, Option.bind_some]
          rw [b_has hI tb10, mv, if_pos c1, if_neg (by decide), b_isFirm_X11, if_pos c2, if_neg (by decide), b_isFirm_X11, if_neg c3, if_pos rfl]
          simp (decide := true) only [gd_ob h65, e_told h65, bd2_eq]
        · intro S' hI' hN
          obtain ⟨g65, hG⟩ := id hI'
          unfold f_X12_contract
          rw [gd_pos (ob_of g65 (by decide) (by decide)), b_isLoad hI' (by rw [hN]; exact mu) (by omega), if_pos c1, if_neg (by decide), b_isFirm_X12, if_pos c2, if_neg (by decide), b_isFirm_X12, if_neg c3, if_pos rfl]
          simp (decide := true) only [gd_ob g65, e_finding g65, bd2_eq]
    · refine bad S hR (-100001) (by decide) ?_ rfl ?_
      · unfold f_X11_contract
        simp (decide := true) only [gd_ob h65, hF, Option.bind_some]
        rw [b_has hI tb10, mv, if_pos c1, if_neg (by decide), b_isFirm_X11, if_neg c2, if_pos rfl]
        simp (decide := true) only [gd_ob h65, e_told h65, bd2_eq]
      · intro S' hI' hN
        obtain ⟨g65, hG⟩ := id hI'
        unfold f_X12_contract
        rw [gd_pos (ob_of g65 (by decide) (by decide)), b_isLoad hI' (by rw [hN]; exact mu) (by omega), if_pos c1, if_neg (by decide), b_isFirm_X12, if_neg c2, if_pos rfl]
        simp (decide := true) only [gd_ob g65, e_finding g65, bd2_eq]
  · refine bad S hR (-100001) (by decide) ?_ rfl ?_
    · unfold f_X11_contract
      simp (decide := true) only [gd_ob h65, hF, Option.bind_some]
      rw [b_has hI tb10, mv, if_neg c1, if_pos rfl]
      simp (decide := true) only [gd_ob h65, e_told h65, bd2_eq]
    · intro S' hI' hN
      obtain ⟨g65, hG⟩ := id hI'
      unfold f_X12_contract
      rw [gd_pos (ob_of g65 (by decide) (by decide)), b_isLoad hI' (by rw [hN]; exact mu) (by omega), if_neg c1, if_pos rfl]
      simp (decide := true) only [gd_ob g65, e_finding g65, bd2_eq]
