/-! load -/
theorem upd_at (F : Nat → Int32) (i : Nat) (v : Int32) : upd F i v i = v := by unfold upd; rw [if_pos rfl]
theorem upd_ne {F : Nat → Int32} {i k : Nat} {v : Int32} (h : k ≠ i) : upd F i v k = F k := by unfold upd; rw [if_neg h]
def lnLoad (a1 a2 a3 a4 a5 : Int32) : Nat → Int32 := (upd (upd (upd (upd (upd (upd (upd (upd (upd (upd (upd (fun _ => 0) 0 (a1 / 10)) 1 (irm a1 10)) 2 (a2)) 3 (a3)) 4 (a4)) 5 (a5)) 6 (0)) 7 (4000)) 8 (0)) 9 (4000)) 10 (-1))
theorem sim_load {j : Nat} {S : Wd} (hR : Rel j S) (hj : j < 512) (a1 a2 a3 a4 a5 : Int32) : ∃ r S1 S2, f_X11_load S 0 a1 a2 a3 a4 a5 = some (r, S1) ∧ 48 < wn S1 ∧ f_X12_load S1 48 a1 a2 a3 a4 a5 = some (r, S2) ∧ Rel (j + 1) S2 := by
  have hI := hR.1
  obtain ⟨h65, hF⟩ := id hI
  have hcore := rel_core hR
  obtain ⟨k1, k2, ⟨n, hn, u, v, hl⟩, k4, k5, k6, k7, k8, k9⟩ := id hcore
  have bad : ∀ (V : Wd), Rel j V → ∀ (x : Int32), x < -99999 → f_X11_load S 0 a1 a2 a3 a4 a5 = some (x, tl V x) → wI V 49 = wI S 49 → (∀ {S' : Wd}, Inv S' → wI S' 49 = wI S 49 → f_X12_load S' 48 a1 a2 a3 a4 a5 = some (x, fl S')) → ∃ r S1 S2, f_X11_load S 0 a1 a2 a3 a4 a5 = some (r, S1) ∧ 48 < wn S1 ∧ f_X12_load S1 48 a1 a2 a3 a4 a5 = some (r, S2) ∧ Rel (j + 1) S2 := fun V hV x hx h1 h3 h2 => ⟨x, _, _, h1, tl_w48 hV, h2 hV.1.tl ((tl_arr (by decide)).trans h3), rel_fin hV hx⟩
  by_cases c1 : 0 ≤ a1 ∧ (0 ≤ a1 / 10 ∧ a1 / 10 ≤ 7) ∧ (0 ≤ irm a1 10 ∧ irm a1 10 ≤ 7)
  · by_cases c2 : 0 ≤ a2 ∧ a2 ≤ 2
    · by_cases c3 : 1 ≤ a3 ∧ a3 ≤ 40
      · by_cases c4 : 1 ≤ a4 ∧ a4 ≤ 40
        · by_cases c5 : 0 ≤ a5 ∧ a5 ≤ 9999
          · by_cases c6 : a1 / 10 = irm a1 10
            · refine bad S hR (-100003) (by decide) ?_ rfl ?_
              · unfold f_X11_load
                rw [b_isLane_X11, if_pos c1, if_neg (by decide), b_within_X11, if_pos c2, if_neg (by decide), b_within_X11, if_pos c3, if_neg (by decide), b_within_X11, if_pos c4, if_neg (by decide), b_within_X11, if_pos c5, if_neg (by decide), if_neg (by decide), if_pos c6]
                simp (decide := true) only [gd_ob h65, e_told h65, bd2_eq]
              · intro S' hI' hN
                obtain ⟨g65, hG⟩ := id hI'
                unfold f_X12_load
                rw [if_neg (i32nl.mpr c1.1), b_isTown_X12, if_pos c1.2.1, if_neg (by decide), b_isTown_X12, if_pos c1.2.2, if_neg (by decide), b_within_X12, if_pos c2, if_neg (by decide), b_within_X12, if_pos c3, if_neg (by decide), b_within_X12, if_pos c4, if_neg (by decide), b_within_X12, if_pos c5, if_neg (by decide), if_pos c6]
                simp (decide := true) only [gd_ob g65, e_finding g65, bd2_eq]
            obtain ⟨l1, l2, l3, l4, l5, l6, l7⟩ := wln_facts hI 11 (lnLoad a1 a2 a3 a4 a5)
            obtain ⟨L65, hLF⟩ := id l1
            have hC : f_X11_load S 0 a1 a2 a3 a4 a5 = bd2 (f_X8_add (wln S 11 (lnLoad a1 a2 a3 a4 a5)) 10 (wn S)) (fun r29 S29 => gd (ob S29 0 11) (bd2 (f_X11_told S29 0 r29) (fun r35 S33 => some (r35, S33)))) := by
              unfold f_X11_load
              rw [b_isLane_X11, if_pos c1, if_neg (by decide), b_within_X11, if_pos c2, if_neg (by decide), b_within_X11, if_pos c3, if_neg (by decide), b_within_X11, if_pos c4, if_neg (by decide), b_within_X11, if_pos c5, if_neg (by decide), if_neg (by decide), if_neg c6]
              have key : ∀ W : Wd, Inv W → (gd (ob W 0 11) (Option.bind (wO W 0 3) (fun q85 => gd (ob W q85 8) (bd2 (f_X8_add W q85 (wn S)) (fun r90 S88 => gd (ob S88 0 11) (bd2 (f_X11_told S88 0 r90) (fun r94 S92 => some (r94, S92))))))) : Option (Int32 × Wd)) = bd2 (f_X8_add W 10 (wn S)) (fun r90 S88 => gd (ob S88 0 11) (bd2 (f_X11_told S88 0 r90) (fun r94 S92 => some (r94, S92)))) := by
                intro W hW
                obtain ⟨W65, hWF⟩ := id hW
                simp (decide := true) only [gd_ob W65, hWF, Option.bind_some]
              refine (ln_al h65 11 _).trans ?_
              refine (ln_st h65 _ 0 (by decide) (by decide) _ _).trans ?_
              refine (ln_st h65 _ 1 (by decide) (by decide) _ _).trans ?_
              refine (ln_st h65 _ 2 (by decide) (by decide) _ _).trans ?_
              refine (ln_st h65 _ 3 (by decide) (by decide) _ _).trans ?_
              refine (ln_st h65 _ 4 (by decide) (by decide) _ _).trans ?_
              refine (ln_st h65 _ 5 (by decide) (by decide) _ _).trans ?_
              refine (ln_st h65 _ 6 (by decide) (by decide) _ _).trans ?_
              refine (ln_st h65 _ 7 (by decide) (by decide) _ _).trans ?_
              refine (ln_st h65 _ 8 (by decide) (by decide) _ _).trans ?_
              refine (ln_st h65 _ 9 (by decide) (by decide) _ _).trans ?_
              refine (ln_st h65 _ 10 (by decide) (by decide) _ _).trans ?_
              exact (key _ l1).trans rfl
            by_cases hfull : n = 8
            · subst hfull
              refine bad (wln S 11 (lnLoad a1 a2 a3 a4 a5)) (rel_new hR (by omega) l4 l5 l6) (-100005) (by decide) ?_ (funext fun k => l6 49 k (by omega)) ?_
              · rw [hC, e_addFull l1 tb10 (show wI _ 11 0 = nI 8 by rw [l6 11 0 (by omega)]; exact v), bd2_eq]
                simp (decide := true) only [gd_ob L65, e_told L65, bd2_eq]
              · intro S' hI' hN
                obtain ⟨g65, hG⟩ := id hI'
                unfold f_X12_load
                rw [if_neg (i32nl.mpr c1.1), b_isTown_X12, if_pos c1.2.1, if_neg (by decide), b_isTown_X12, if_pos c1.2.2, if_neg (by decide), b_within_X12, if_pos c2, if_neg (by decide), b_within_X12, if_pos c3, if_neg (by decide), b_within_X12, if_pos c4, if_neg (by decide), b_within_X12, if_pos c5, if_neg (by decide), if_neg c6]
                simp (decide := true) only [gd_ob g65, hG, Option.bind_some, show (65 : Int32) = nI 65 from rfl]
                rw [gd_pos (rdN g65 (by omega)), nI_clamp (by decide), hN, u, if_pos (show nI 8 = (8 : Int32) from rfl)]
                simp (decide := true) only [gd_ob g65, e_finding g65, bd2_eq]
            · obtain ⟨x, hx, hx7, hxx⟩ := lane77 c1
              obtain ⟨S1, T, m1, m2, m3, m4, m5, m6, m7, m8⟩ := add_Load hR hj (lnLoad a1 a2 a3 a4 a5) (show n < 8 by omega) u v (fun c hc => by
                have v1 : a1 / 10 = nI (x / 10) := by rw [hxx]; exact pk_div (by omega) (by decide) (by decide)
                have v2 : irm a1 10 = nI (x % 10) := by rw [hxx]; exact irm_nI (d := 10) (by omega) (by decide) (by decide)
                obtain ⟨y2, w2, r2⟩ := nat_le (n := 2) c2.1 c2.2 (by decide)
                obtain ⟨y3, w3, r3⟩ := nat_le (n := 40) (Int32.le_trans (by decide) c3.1) c3.2 (by decide)
                obtain ⟨y4, w4, r4⟩ := nat_le (n := 40) (Int32.le_trans (by decide) c4.1) c4.2 (by decide)
                obtain ⟨y5, w5, r5⟩ := nat_le (n := 9999) c5.1 c5.2 (by decide)
                rcases (show c = 0 ∨ c = 1 ∨ c = 2 ∨ c = 3 ∨ c = 4 ∨ c = 5 ∨ c = 6 ∨ c = 7 ∨ c = 8 ∨ c = 9 by omega) with rfl | rfl | rfl | rfl | rfl | rfl | rfl | rfl | rfl | rfl
                · exact ⟨x / 10, by show _ ≤ 7; omega, v1⟩
                · exact ⟨x % 10, by show _ ≤ 7; omega, v2⟩
                · exact ⟨y2, w2, r2⟩
                · exact ⟨y3, w3, r3⟩
                · exact ⟨y4, w4, r4⟩
                · exact ⟨y5, w5, r5⟩
                · exact ⟨0, by decide, rfl⟩
                · exact ⟨4000, by decide, rfl⟩
                · exact ⟨0, by decide, rfl⟩
                · exact ⟨4000, by decide, rfl⟩) rfl
              obtain ⟨I65, hIF⟩ := id m3
              refine ⟨nI n, S1, _, ?_, m2, ?_, m8⟩
              · rw [hC, m1, bd2_eq]
                simp (decide := true) only [gd_ob I65, e_told I65, bd2_eq]
                rw [tl_ge (nI_nofind (n := n) (by omega))]
              · unfold f_X12_load
                rw [if_neg (i32nl.mpr c1.1), b_isTown_X12, if_pos c1.2.1, if_neg (by decide), b_isTown_X12, if_pos c1.2.2, if_neg (by decide), b_within_X12, if_pos c2, if_neg (by decide), b_within_X12, if_pos c3, if_neg (by decide), b_within_X12, if_pos c4, if_neg (by decide), b_within_X12, if_pos c5, if_neg (by decide), if_neg c6, gd_pos (ob_of I65 (by decide) (by decide))]
                simp (decide := true) only [gd_ob I65, hIF, Option.bind_some]
                rw [gd_pos (show ix S1 49 100 (65 : Int32) from rdN I65 (show 65 < 424 by decide)), show wI S1 49 (65 : Int32).toNatClampNeg = nI n by rw [m4]; exact u, if_neg (show ¬ nI n = (8 : Int32) from fun h => hfull ((nI_eq (by omega) (by decide)).mp (h : nI n = nI 8))), m5, Option.bind_some]
                have hTT : T = sA T 49 (wI S 49) := by rw [← m7, sA_self]
                conv => lhs; rw [hTT]
                refine (md_load m6 _ 0 (by omega) _ _).trans ?_
                refine (md_load m6 _ 1 (by omega) _ _).trans ?_
                refine (md_load m6 _ 2 (by omega) _ _).trans ?_
                refine (md_load m6 _ 3 (by omega) _ _).trans ?_
                refine (md_load m6 _ 4 (by omega) _ _).trans ?_
                refine (md_load m6 _ 5 (by omega) _ _).trans ?_
                refine (md_load m6 _ 6 (by omega) _ _).trans ?_
                refine (md_load m6 _ 7 (by omega) _ _).trans ?_
                refine (md_load m6 _ 8 (by omega) _ _).trans ?_
                refine (md_load m6 _ 9 (by omega) _ _).trans ?_
                refine (md_load m6 _ 10 (by omega) _ _).trans ?_
                refine (md_cnt m6 _ 65 (by decide) _).trans ?_
                congr 3
                funext k
                by_cases h65' : k = 65
                · rw [if_pos h65', h65', upd_at, upd_ne (by omega), upd_ne (by omega), upd_ne (by omega), upd_ne (by omega), upd_ne (by omega), upd_ne (by omega), upd_ne (by omega), upd_ne (by omega), upd_ne (by omega), upd_ne (by omega), upd_ne (by omega), u, nI_1]
                · rw [if_neg h65', upd_ne h65']
                  by_cases hr : 112 + 11 * n ≤ k ∧ k < 112 + 11 * n + 11
                  · rw [if_pos hr]
                    obtain ⟨c, rfl⟩ : ∃ c, k = 112 + 11 * n + c := ⟨k - (112 + 11 * n), by omega⟩
                    rw [Nat.add_sub_cancel_left]
                    rcases (show c = 0 ∨ c = 1 ∨ c = 2 ∨ c = 3 ∨ c = 4 ∨ c = 5 ∨ c = 6 ∨ c = 7 ∨ c = 8 ∨ c = 9 ∨ c = 10 by omega) with rfl | rfl | rfl | rfl | rfl | rfl | rfl | rfl | rfl | rfl | rfl
                    · rw [upd_ne (by omega), upd_ne (by omega), upd_ne (by omega), upd_ne (by omega), upd_ne (by omega), upd_ne (by omega), upd_ne (by omega), upd_ne (by omega), upd_ne (by omega), upd_ne (by omega), upd_at]; rfl
                    · rw [upd_ne (by omega), upd_ne (by omega), upd_ne (by omega), upd_ne (by omega), upd_ne (by omega), upd_ne (by omega), upd_ne (by omega), upd_ne (by omega), upd_ne (by omega), upd_at]; rfl
                    · rw [upd_ne (by omega), upd_ne (by omega), upd_ne (by omega), upd_ne (by omega), upd_ne (by omega), upd_ne (by omega), upd_ne (by omega), upd_ne (by omega), upd_at]; rfl
                    · rw [upd_ne (by omega), upd_ne (by omega), upd_ne (by omega), upd_ne (by omega), upd_ne (by omega), upd_ne (by omega), upd_ne (by omega), upd_at]; rfl
                    · rw [upd_ne (by omega), upd_ne (by omega), upd_ne (by omega), upd_ne (by omega), upd_ne (by omega), upd_ne (by omega), upd_at]; rfl
                    · rw [upd_ne (by omega), upd_ne (by omega), upd_ne (by omega), upd_ne (by omega), upd_ne (by omega), upd_at]; rfl
                    · rw [upd_ne (by omega), upd_ne (by omega), upd_ne (by omega), upd_ne (by omega), upd_at]; rfl
                    · rw [upd_ne (by omega), upd_ne (by omega), upd_ne (by omega), upd_at]; rfl
                    · rw [upd_ne (by omega), upd_ne (by omega), upd_at]; rfl
                    · rw [upd_ne (by omega), upd_at]; rfl
                    · rw [upd_at]; rfl
                  · rw [if_neg hr, upd_ne (by omega), upd_ne (by omega), upd_ne (by omega), upd_ne (by omega), upd_ne (by omega), upd_ne (by omega), upd_ne (by omega), upd_ne (by omega), upd_ne (by omega), upd_ne (by omega), upd_ne (by omega)]
          · refine bad S hR (-100001) (by decide) ?_ rfl ?_
            · unfold f_X11_load
              rw [b_isLane_X11, if_pos c1, if_neg (by decide), b_within_X11, if_pos c2, if_neg (by decide), b_within_X11, if_pos c3, if_neg (by decide), b_within_X11, if_pos c4, if_neg (by decide), b_within_X11, if_neg c5, if_pos rfl, if_pos rfl]
              simp (decide := true) only [gd_ob h65, e_told h65, bd2_eq]
            · intro S' hI' hN
              obtain ⟨g65, hG⟩ := id hI'
              unfold f_X12_load
              rw [if_neg (i32nl.mpr c1.1), b_isTown_X12, if_pos c1.2.1, if_neg (by decide), b_isTown_X12, if_pos c1.2.2, if_neg (by decide), b_within_X12, if_pos c2, if_neg (by decide), b_within_X12, if_pos c3, if_neg (by decide), b_within_X12, if_pos c4, if_neg (by decide), b_within_X12, if_neg c5, if_pos rfl]
              simp (decide := true) only [gd_ob g65, e_finding g65, bd2_eq]
        · refine bad S hR (-100001) (by decide) ?_ rfl ?_
          · unfold f_X11_load
            rw [b_isLane_X11, if_pos c1, if_neg (by decide), b_within_X11, if_pos c2, if_neg (by decide), b_within_X11, if_pos c3, if_neg (by decide), b_within_X11, if_neg c4, if_pos rfl, if_pos rfl]
            simp (decide := true) only [gd_ob h65, e_told h65, bd2_eq]
          · intro S' hI' hN
            obtain ⟨g65, hG⟩ := id hI'
            unfold f_X12_load
            rw [if_neg (i32nl.mpr c1.1), b_isTown_X12, if_pos c1.2.1, if_neg (by decide), b_isTown_X12, if_pos c1.2.2, if_neg (by decide), b_within_X12, if_pos c2, if_neg (by decide), b_within_X12, if_pos c3, if_neg (by decide), b_within_X12, if_neg c4, if_pos rfl]
            simp (decide := true) only [gd_ob g65, e_finding g65, bd2_eq]
      · refine bad S hR (-100001) (by decide) ?_ rfl ?_
        · unfold f_X11_load
          rw [b_isLane_X11, if_pos c1, if_neg (by decide), b_within_X11, if_pos c2, if_neg (by decide), b_within_X11, if_neg c3, if_pos rfl, if_pos rfl]
          simp (decide := true) only [gd_ob h65, e_told h65, bd2_eq]
        · intro S' hI' hN
          obtain ⟨g65, hG⟩ := id hI'
          unfold f_X12_load
          rw [if_neg (i32nl.mpr c1.1), b_isTown_X12, if_pos c1.2.1, if_neg (by decide), b_isTown_X12, if_pos c1.2.2, if_neg (by decide), b_within_X12, if_pos c2, if_neg (by decide), b_within_X12, if_neg c3, if_pos rfl]
          simp (decide := true) only [gd_ob g65, e_finding g65, bd2_eq]
    · refine bad S hR (-100001) (by decide) ?_ rfl ?_
      · unfold f_X11_load
        rw [b_isLane_X11, if_pos c1, if_neg (by decide), b_within_X11, if_neg c2, if_pos rfl, if_pos rfl]
        simp (decide := true) only [gd_ob h65, e_told h65, bd2_eq]
      · intro S' hI' hN
        obtain ⟨g65, hG⟩ := id hI'
        unfold f_X12_load
        rw [if_neg (i32nl.mpr c1.1), b_isTown_X12, if_pos c1.2.1, if_neg (by decide), b_isTown_X12, if_pos c1.2.2, if_neg (by decide), b_within_X12, if_neg c2, if_pos rfl]
        simp (decide := true) only [gd_ob g65, e_finding g65, bd2_eq]
  · refine bad S hR (-100001) (by decide) ?_ rfl ?_
    · unfold f_X11_load
      rw [b_isLane_X11, if_neg c1, if_pos rfl, if_pos rfl]
      simp (decide := true) only [gd_ob h65, e_told h65, bd2_eq]
    · intro S' hI' hN
      obtain ⟨g65, hG⟩ := id hI'
      unfold f_X12_load
      by_cases d1 : a1 < 0
      · rw [if_pos d1]
        simp (decide := true) only [gd_ob g65, e_finding g65, bd2_eq]
      · rw [if_neg d1, b_isTown_X12]
        by_cases d2 : 0 ≤ a1 / 10 ∧ a1 / 10 ≤ 7
        · rw [if_pos d2, if_neg (by decide), b_isTown_X12, if_neg (fun d3 => c1 ⟨i32nl.mp d1, d2, d3⟩), if_pos rfl]
          simp (decide := true) only [gd_ob g65, e_finding g65, bd2_eq]
        · rw [if_neg d2, if_pos rfl]
          simp (decide := true) only [gd_ob g65, e_finding g65, bd2_eq]
