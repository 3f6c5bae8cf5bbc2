/-! lorry -/
def lnLorry (a1 a2 a3 a4 a5 a6 : Int32) : Nat → Int32 := (upd (upd (upd (upd (upd (upd (upd (fun _ => 0) 0 (a1)) 1 (a2)) 2 (a3)) 3 (irm a4 10)) 4 (a4 / 10)) 5 (a5)) 6 (a6))
theorem sim_lorry {j : Nat} {S : Wd} (hR : Rel j S) (hj : j < 512) (a1 a2 a3 a4 a5 a6 : Int32) : ∃ r S1 S2, f_X11_lorry S 0 a1 a2 a3 a4 a5 a6 = some (r, S1) ∧ 48 < wn S1 ∧ f_X12_lorry S1 48 a1 a2 a3 a4 a5 a6 = some (r, S2) ∧ Rel (j + 1) S2 := by
  have hI := hR.1
  obtain ⟨h65, hF⟩ := id hI
  have hcore := rel_core hR
  obtain ⟨k1, ⟨n, hn, u, v, hl⟩, k3, k4, k5, k6, k7, k8, k9⟩ := id hcore
  have bad : ∀ (V : Wd), Rel j V → ∀ (x : Int32), x < -99999 → f_X11_lorry S 0 a1 a2 a3 a4 a5 a6 = some (x, tl V x) → wI V 49 = wI S 49 → (∀ {S' : Wd}, Inv S' → wI S' 49 = wI S 49 → f_X12_lorry S' 48 a1 a2 a3 a4 a5 a6 = some (x, fl S')) → ∃ r S1 S2, f_X11_lorry S 0 a1 a2 a3 a4 a5 a6 = some (r, S1) ∧ 48 < wn S1 ∧ f_X12_lorry S1 48 a1 a2 a3 a4 a5 a6 = some (r, S2) ∧ Rel (j + 1) S2 := fun V hV x hx h1 h3 h2 => ⟨x, _, _, h1, tl_w48 hV, h2 hV.1.tl ((tl_arr (by decide)).trans h3), rel_fin hV hx⟩
  by_cases c1 : 0 ≤ a1 ∧ a1 ≤ 3
  · by_cases c2 : 0 ≤ a2 ∧ a2 ≤ 7
    · by_cases c3 : 0 ≤ a3 ∧ a3 ≤ 2000
      · by_cases c4 : ¬ a4 < 0
        · by_cases c5 : ¬ 4000 < a4 / 10
          · by_cases c6 : 0 ≤ irm a4 10 ∧ irm a4 10 ≤ 7
            · by_cases c7 : 1 ≤ a5 ∧ a5 ≤ 40
              · by_cases c8 : 1 ≤ a6 ∧ a6 ≤ 40
                · obtain ⟨w, hw⟩ : ∃ w : Int32, w = if a1 = 2 then a5 / 2 else a5 := ⟨_, rfl⟩
                  obtain ⟨l1, l2, l3, l4, l5, l6, l7⟩ := wln_facts hI 7 (lnLorry a1 a2 a3 a4 w a6)
                  obtain ⟨L65, hLF⟩ := id l1
                  have hC : f_X11_lorry S 0 a1 a2 a3 a4 a5 a6 = bd2 (f_X8_add (wln S 7 (lnLorry a1 a2 a3 a4 w a6)) 8 (wn S)) (fun r29 S29 => gd (ob S29 0 11) (bd2 (f_X11_told S29 0 r29) (fun r35 S33 => some (r35, S33)))) := by
                    unfold f_X11_lorry
                    rw [b_within_X11, if_pos c1, if_neg (by decide), b_isTown_X11, if_pos c2, if_neg (by decide), b_within_X11, if_pos c3, if_neg (by decide), if_neg c4, if_neg c5, b_isTown_X11, if_pos c6, if_neg (by decide), b_within_X11, if_pos c7, if_neg (by decide), b_within_X11, if_pos c8, if_neg (by decide), if_neg (by decide)]
                    have key : ∀ W : Wd, Inv W → (gd (ob W 0 11) (Option.bind (wO W 0 2) (fun q85 => gd (ob W q85 8) (bd2 (f_X8_add W q85 (wn S)) (fun r90 S88 => gd (ob S88 0 11) (bd2 (f_X11_told S88 0 r90) (fun r94 S92 => some (r94, S92))))))) : Option (Int32 × Wd)) = bd2 (f_X8_add W 8 (wn S)) (fun r90 S88 => gd (ob S88 0 11) (bd2 (f_X11_told S88 0 r90) (fun r94 S92 => some (r94, S92)))) := by
                      intro W hW
                      obtain ⟨W65, hWF⟩ := id hW
                      simp (decide := true) only [gd_ob W65, hWF, Option.bind_some]
                    by_cases h2 : a1 = 2
                    · rw [if_pos h2] at hw ⊢
                      subst hw
                      refine (ln_al h65 7 _).trans ?_
                      refine (ln_st h65 _ 0 (by decide) (by decide) _ _).trans ?_
                      refine (ln_st h65 _ 1 (by decide) (by decide) _ _).trans ?_
                      refine (ln_st h65 _ 2 (by decide) (by decide) _ _).trans ?_
                      refine (ln_st h65 _ 3 (by decide) (by decide) _ _).trans ?_
                      refine (ln_st h65 _ 4 (by decide) (by decide) _ _).trans ?_
                      refine (ln_st h65 _ 5 (by decide) (by decide) _ _).trans ?_
                      refine (ln_st h65 _ 6 (by decide) (by decide) _ _).trans ?_
                      exact (key _ l1).trans rfl
                    · rw [if_neg h2] at hw ⊢
                      subst hw
                      refine (ln_al h65 7 _).trans ?_
                      refine (ln_st h65 _ 0 (by decide) (by decide) _ _).trans ?_
                      refine (ln_st h65 _ 1 (by decide) (by decide) _ _).trans ?_
                      refine (ln_st h65 _ 2 (by decide) (by decide) _ _).trans ?_
                      refine (ln_st h65 _ 3 (by decide) (by decide) _ _).trans ?_
                      refine (ln_st h65 _ 4 (by decide) (by decide) _ _).trans ?_
                      refine (ln_st h65 _ 5 (by decide) (by decide) _ _).trans ?_
                      refine (ln_st h65 _ 6 (by decide) (by decide) _ _).trans ?_
                      exact (key _ l1).trans rfl
                  by_cases hfull : n = 6
                  · subst hfull
                    refine bad (wln S 7 (lnLorry a1 a2 a3 a4 w a6)) (rel_new hR (by omega) l4 l5 l6) (-100005) (by decide) ?_ (funext fun k => l6 49 k (by omega)) ?_
                    · rw [hC, e_addFull l1 tb8 (show wI _ 9 0 = nI 6 by rw [l6 9 0 (by omega)]; exact v), bd2_eq]
                      simp (decide := true) only [gd_ob L65, e_told L65, bd2_eq]
                    · intro S' hI' hN
                      obtain ⟨g65, hG⟩ := id hI'
                      unfold f_X12_lorry
                      rw [b_within_X12, if_pos c1, if_neg (by decide), b_isTown_X12, if_pos c2, if_neg (by decide), b_within_X12, if_pos c3, if_neg (by decide), if_neg c4, if_neg c5, b_isTown_X12, if_pos c6, if_neg (by decide), b_within_X12, if_pos c7, if_neg (by decide), b_within_X12, if_pos c8, if_neg (by decide)]
                      simp (decide := true) only [gd_ob g65, hG, Option.bind_some, show (64 : Int32) = nI 64 from rfl]
                      rw [gd_pos (rdN g65 (by omega)), nI_clamp (by decide), hN, u, if_pos (show nI 6 = (6 : Int32) from rfl)]
                      simp (decide := true) only [gd_ob g65, e_finding g65, bd2_eq]
                  · obtain ⟨S1, T, m1, m2, m3, m4, m5, m6, m7, m8⟩ := add_Lorry hR hj (lnLorry a1 a2 a3 a4 w a6) (show n < 6 by omega) u v (fun c hc => by
                      obtain ⟨x, hx, hxx⟩ := nat_of (i32nl.mp c4)
                      have v1 : a4 / 10 = nI (x / 10) := by rw [hxx]; exact pk_div (by omega) (by decide) (by decide)
                      have v2 : irm a4 10 = nI (x % 10) := by rw [hxx]; exact irm_nI (d := 10) (by omega) (by decide) (by decide)
                      have e1 : x / 10 ≤ 4000 := nI_le_of (by omega) (by rw [← v1]; exact i32nl.mp c5)
                      have e2 : x % 10 ≤ 7 := nI_le_of (by omega) (by rw [← v2]; exact c6.2)
                      obtain ⟨y1, w1, r1⟩ := nat_le (n := 3) c1.1 c1.2 (by decide)
                      obtain ⟨y2, w2, r2⟩ := nat_le (n := 7) c2.1 c2.2 (by decide)
                      obtain ⟨y3, w3, r3⟩ := nat_le (n := 2000) c3.1 c3.2 (by decide)
                      obtain ⟨y5, w5, r5⟩ := nat_le (n := 40) (Int32.le_trans (by decide) c7.1) c7.2 (by decide)
                      obtain ⟨y6, w6, r6⟩ := nat_le (n := 40) (Int32.le_trans (by decide) c8.1) c8.2 (by decide)
                      have hww : ∃ y : Nat, y ≤ 40 ∧ w = nI y := by
                        by_cases h2 : a1 = 2
                        · exact ⟨y5 / 2, by omega, by rw [hw, if_pos h2, r5]; exact pk_div (by omega) (by decide) (by decide)⟩
                        · exact ⟨y5, w5, by rw [hw, if_neg h2, r5]⟩
                      rcases (show c = 0 ∨ c = 1 ∨ c = 2 ∨ c = 3 ∨ c = 4 ∨ c = 5 ∨ c = 6 by omega) with rfl | rfl | rfl | rfl | rfl | rfl | rfl
                      · exact ⟨y1, w1, r1⟩
                      · exact ⟨y2, w2, r2⟩
                      · exact ⟨y3, w3, r3⟩
                      · exact ⟨x % 10, e2, v2⟩
                      · exact ⟨x / 10, e1, v1⟩
                      · exact hww
                      · exact ⟨y6, w6, r6⟩)
                    obtain ⟨I65, hIF⟩ := id m3
                    refine ⟨nI n, S1, _, ?_, m2, ?_, m8⟩
                    · rw [hC, m1, bd2_eq]
                      simp (decide := true) only [gd_ob I65, e_told I65, bd2_eq]
                      rw [tl_ge (nI_nofind (n := n) (by omega))]
                    · have hTT : T = sA T 49 (wI S 49) := by rw [← m7, sA_self]
                      unfold f_X12_lorry
                      rw [b_within_X12, if_pos c1, if_neg (by decide), b_isTown_X12, if_pos c2, if_neg (by decide), b_within_X12, if_pos c3, if_neg (by decide), if_neg c4, if_neg c5, b_isTown_X12, if_pos c6, if_neg (by decide), b_within_X12, if_pos c7, if_neg (by decide), b_within_X12, if_pos c8, if_neg (by decide)]
                      simp (decide := true) only [gd_ob I65, hIF, Option.bind_some]
                      rw [gd_pos (show ix S1 49 100 (64 : Int32) from rdN I65 (show 64 < 424 by decide)), show wI S1 49 (64 : Int32).toNatClampNeg = nI n by rw [m4]; exact u, if_neg (show ¬ nI n = (6 : Int32) from fun h => hfull ((nI_eq (by omega) (by decide)).mp (h : nI n = nI 6))), m5, Option.bind_some]
                      have fin : upd (upd (upd (upd (upd (upd (upd (upd (wI S 49) (70 + 7 * n + 0) a1) (70 + 7 * n + 1) a2) (70 + 7 * n + 2) a3) (70 + 7 * n + 3) (irm a4 10)) (70 + 7 * n + 4) (a4 / 10)) (70 + 7 * n + 5) w) (70 + 7 * n + 6) a6) 64 ((upd (upd (upd (upd (upd (upd (upd (wI S 49) (70 + 7 * n + 0) a1) (70 + 7 * n + 1) a2) (70 + 7 * n + 2) a3) (70 + 7 * n + 3) (irm a4 10)) (70 + 7 * n + 4) (a4 / 10)) (70 + 7 * n + 5) w) (70 + 7 * n + 6) a6) 64 + 1) = (fun k => if k = 64 then nI (n + 1) else if 70 + 7 * n ≤ k ∧ k < 70 + 7 * n + 7 then (lnLorry a1 a2 a3 a4 w a6) (k - (70 + 7 * n)) else wI S 49 k) := by
                        funext k
                        by_cases h64 : k = 64
                        · rw [if_pos h64, h64, upd_at, upd_ne (by omega), upd_ne (by omega), upd_ne (by omega), upd_ne (by omega), upd_ne (by omega), upd_ne (by omega), upd_ne (by omega), u, nI_1]
                        · rw [if_neg h64, upd_ne h64]
                          by_cases hr : 70 + 7 * n ≤ k ∧ k < 70 + 7 * n + 7
                          · rw [if_pos hr]
                            obtain ⟨c, rfl⟩ : ∃ c, k = 70 + 7 * n + c := ⟨k - (70 + 7 * n), by omega⟩
                            rw [Nat.add_sub_cancel_left]
                            rcases (show c = 0 ∨ c = 1 ∨ c = 2 ∨ c = 3 ∨ c = 4 ∨ c = 5 ∨ c = 6 by omega) with rfl | rfl | rfl | rfl | rfl | rfl | rfl
                            · rw [upd_ne (by omega), upd_ne (by omega), upd_ne (by omega), upd_ne (by omega), upd_ne (by omega), upd_ne (by omega), upd_at]; rfl
                            · rw [upd_ne (by omega), upd_ne (by omega), upd_ne (by omega), upd_ne (by omega), upd_ne (by omega), upd_at]; rfl
                            · rw [upd_ne (by omega), upd_ne (by omega), upd_ne (by omega), upd_ne (by omega), upd_at]; rfl
                            · rw [upd_ne (by omega), upd_ne (by omega), upd_ne (by omega), upd_at]; rfl
                            · rw [upd_ne (by omega), upd_ne (by omega), upd_at]; rfl
                            · rw [upd_ne (by omega), upd_at]; rfl
                            · rw [upd_at]; rfl
                          · rw [if_neg hr, upd_ne (by omega), upd_ne (by omega), upd_ne (by omega), upd_ne (by omega), upd_ne (by omega), upd_ne (by omega), upd_ne (by omega)]
                      by_cases h2 : a1 = 2
                      · rw [if_pos h2] at hw
                        simp only [if_pos h2]
                        conv => lhs; rw [hTT]
                        refine (md_lorry m6 _ 0 (by omega) _ _).trans ?_
                        refine (md_lorry m6 _ 1 (by omega) _ _).trans ?_
                        refine (md_lorry m6 _ 2 (by omega) _ _).trans ?_
                        refine (md_lorry m6 _ 3 (by omega) _ _).trans ?_
                        refine (md_lorry m6 _ 4 (by omega) _ _).trans ?_
                        refine (md_lorry m6 _ 5 (by omega) _ _).trans ?_
                        refine (md_lorry m6 _ 6 (by omega) _ _).trans ?_
                        refine (md_cnt m6 _ 64 (by decide) _).trans ?_
                        rw [← fin, hw]
                      · rw [if_neg h2] at hw
                        simp only [if_neg h2]
                        conv => lhs; rw [hTT]
                        refine (md_lorry m6 _ 0 (by omega) _ _).trans ?_
                        refine (md_lorry m6 _ 1 (by omega) _ _).trans ?_
                        refine (md_lorry m6 _ 2 (by omega) _ _).trans ?_
                        refine (md_lorry m6 _ 3 (by omega) _ _).trans ?_
                        refine (md_lorry m6 _ 4 (by omega) _ _).trans ?_
                        refine (md_lorry m6 _ 5 (by omega) _ _).trans ?_
                        refine (md_lorry m6 _ 6 (by omega) _ _).trans ?_
                        refine (md_cnt m6 _ 64 (by decide) _).trans ?_
                        rw [← fin, hw]
                · refine bad S hR (-100001) (by decide) ?_ rfl ?_
                  · unfold f_X11_lorry
                    rw [b_within_X11, if_pos c1, if_neg (by decide), b_isTown_X11, if_pos c2, if_neg (by decide), b_within_X11, if_pos c3, if_neg (by decide), if_neg c4, if_neg c5, b_isTown_X11, if_pos c6, if_neg (by decide), b_within_X11, if_pos c7, if_neg (by decide), b_within_X11, if_neg c8, if_pos rfl, if_pos rfl]
                    simp (decide := true) only [gd_ob h65, e_told h65, bd2_eq]
                  · intro S' hI' hN
                    obtain ⟨g65, hG⟩ := id hI'
                    unfold f_X12_lorry
                    rw [b_within_X12, if_pos c1, if_neg (by decide), b_isTown_X12, if_pos c2, if_neg (by decide), b_within_X12, if_pos c3, if_neg (by decide), if_neg c4, if_neg c5, b_isTown_X12, if_pos c6, if_neg (by decide), b_within_X12, if_pos c7, if_neg (by decide), b_within_X12, if_neg c8, if_pos rfl]
                    simp (decide := true) only [gd_ob g65, e_finding g65, bd2_eq]
              · refine bad S hR (-100001) (by decide) ?_ rfl ?_
                · unfold f_X11_lorry
                  rw [b_within_X11, if_pos c1, if_neg (by decide), b_isTown_X11, if_pos c2, if_neg (by decide), b_within_X11, if_pos c3, if_neg (by decide), if_neg c4, if_neg c5, b_isTown_X11, if_pos c6, if_neg (by decide), b_within_X11, if_neg c7, if_pos rfl, if_pos rfl]
                  simp (decide := true) only [gd_ob h65, e_told h65, bd2_eq]
                · intro S' hI' hN
                  obtain ⟨g65, hG⟩ := id hI'
                  unfold f_X12_lorry
                  rw [b_within_X12, if_pos c1, if_neg (by decide), b_isTown_X12, if_pos c2, if_neg (by decide), b_within_X12, if_pos c3, if_neg (by decide), if_neg c4, if_neg c5, b_isTown_X12, if_pos c6, if_neg (by decide), b_within_X12, if_neg c7, if_pos rfl]
                  simp (decide := true) only [gd_ob g65, e_finding g65, bd2_eq]
            · refine bad S hR (-100001) (by decide) ?_ rfl ?_
              · unfold f_X11_lorry
                rw [b_within_X11, if_pos c1, if_neg (by decide), b_isTown_X11, if_pos c2, if_neg (by decide), b_within_X11, if_pos c3, if_neg (by decide), if_neg c4, if_neg c5, b_isTown_X11, if_neg c6, if_pos rfl, if_pos rfl]
                simp (decide := true) only [gd_ob h65, e_told h65, bd2_eq]
              · intro S' hI' hN
                obtain ⟨g65, hG⟩ := id hI'
                unfold f_X12_lorry
                rw [b_within_X12, if_pos c1, if_neg (by decide), b_isTown_X12, if_pos c2, if_neg (by decide), b_within_X12, if_pos c3, if_neg (by decide), if_neg c4, if_neg c5, b_isTown_X12, if_neg c6, if_pos rfl]
                simp (decide := true) only [gd_ob g65, e_finding g65, bd2_eq]
          · refine bad S hR (-100001) (by decide) ?_ rfl ?_
            · unfold f_X11_lorry
              rw [b_within_X11, if_pos c1, if_neg (by decide), b_isTown_X11, if_pos c2, if_neg (by decide), b_within_X11, if_pos c3, if_neg (by decide), if_neg c4, if_pos (Decidable.of_not_not c5), if_pos rfl]
              simp (decide := true) only [gd_ob h65, e_told h65, bd2_eq]
            · intro S' hI' hN
              obtain ⟨g65, hG⟩ := id hI'
              unfold f_X12_lorry
              rw [b_within_X12, if_pos c1, if_neg (by decide), b_isTown_X12, if_pos c2, if_neg (by decide), b_within_X12, if_pos c3, if_neg (by decide), if_neg c4, if_pos (Decidable.of_not_not c5)]
              simp (decide := true) only [gd_ob g65, e_finding g65, bd2_eq]
        · refine bad S hR (-100001) (by decide) ?_ rfl ?_
          · unfold f_X11_lorry
            rw [b_within_X11, if_pos c1, if_neg (by decide), b_isTown_X11, if_pos c2, if_neg (by decide), b_within_X11, if_pos c3, if_neg (by decide), if_pos (Decidable.of_not_not c4), if_pos rfl]
            simp (decide := true) only [gd_ob h65, e_told h65, bd2_eq]
          · intro S' hI' hN
            obtain ⟨g65, hG⟩ := id hI'
            unfold f_X12_lorry
            rw [b_within_X12, if_pos c1, if_neg (by decide), b_isTown_X12, if_pos c2, if_neg (by decide), b_within_X12, if_pos c3, if_neg (by decide), if_pos (Decidable.of_not_not c4)]
            simp (decide := true) only [gd_ob g65, e_finding g65, bd2_eq]
      · refine bad S hR (-100001) (by decide) ?_ rfl ?_
        · unfold f_X11_lorry
          rw [b_within_X11, if_pos c1, if_neg (by decide), b_isTown_X11, if_pos c2, if_neg (by decide), b_within_X11, if_neg c3, if_pos rfl, if_pos rfl]
          simp (decide := true) only [gd_ob h65, e_told h65, bd2_eq]
        · intro S' hI' hN
          obtain ⟨g65, hG⟩ := id hI'
          unfold f_X12_lorry
          rw [b_within_X12, if_pos c1, if_neg (by decide), b_isTown_X12, if_pos c2, if_neg (by decide), b_within_X12, if_neg c3, if_pos rfl]
          simp (decide := true) only [gd_ob g65, e_finding g65, bd2_eq]
    · refine bad S hR (-100001) (by decide) ?_ rfl ?_
      · unfold f_X11_lorry
        rw [b_within_X11, if_pos c1, if_neg (by decide), b_isTown_X11, if_neg c2, if_pos rfl, if_pos rfl]
        simp (decide := true) only [gd_ob h65, e_told h65, bd2_eq]
      · intro S' hI' hN
        obtain ⟨g65, hG⟩ := id hI'
        unfold f_X12_lorry
        rw [b_within_X12, if_pos c1, if_neg (by decide), b_isTown_X12, if_neg c2, if_pos rfl]
        simp (decide := true) only [gd_ob g65, e_finding g65, bd2_eq]
  · refine bad S hR (-100001) (by decide) ?_ rfl ?_
    · unfold f_X11_lorry
      rw [b_within_X11, if_neg c1, if_pos rfl, if_pos rfl]
      simp (decide := true) only [gd_ob h65, e_told h65, bd2_eq]
    · intro S' hI' hN
      obtain ⟨g65, hG⟩ := id hI'
      unfold f_X12_lorry
      rw [b_within_X12, if_neg c1, if_pos rfl]
      simp (decide := true) only [gd_ob g65, e_finding g65, bd2_eq]
