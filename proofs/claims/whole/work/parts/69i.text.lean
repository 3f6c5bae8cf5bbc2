/-! text -/
abbrev isg (v : Int32) : Prop := (1 ≤ v ∧ v ≤ 6) ∨ (10 ≤ v ∧ v ≤ 56)
theorem first_bad (P : Nat → Prop) : ∀ n : Nat, (∀ i, i < n → P i) ∨ ∃ k, k < n ∧ ¬ P k ∧ ∀ i, i < k → P i
  | 0 => Or.inl fun i hi => by omega
  | n + 1 => by
    rcases first_bad P n with h | ⟨k, k1, k2, k3⟩
    · rcases Classical.em (P n) with hp | hp
      · exact Or.inl fun i hi => by
          by_cases he : i = n
          · rw [he]; exact hp
          · exact h i (by omega)
      · exact Or.inr ⟨n, by omega, hp, h⟩
    · exact Or.inr ⟨k, by omega, k2, k3⟩
theorem e_at7 {S : Wd} (hI : Inv S) {s n k : Nat} (hs : s < 4) (hn : n ≤ 20) (h2 : wI S (40 + 2 * s) 2 = nI n) (hk : k < n) : f_X7_at S (40 + 2 * s) (nI k) = some (wI S (41 + 2 * s) k, S) := by
  obtain ⟨f1, f2, f3, f4, f5, f6⟩ := sh_facts hI hs
  unfold f_X7_at
  rw [if_neg (nI_pos (by omega)), gd_pos f3, h2, if_neg (nI_ge hk (by omega)), if_neg (show ¬ (20 : Int32) ≤ nI k from nI_ge (b := 20) (by omega) (by decide)), gd_pos f3, f2, Option.bind_some, gd_pos (f5 k (by omega)), nI_clamp (by omega)]
theorem isg_nat {v : Int32} (h : isg v) : ∃ s : Nat, ((1 ≤ s ∧ s ≤ 6) ∨ (10 ≤ s ∧ s ≤ 56)) ∧ v = nI s := by
  rcases h with h | h
  · obtain ⟨s, hs, rfl⟩ := nat_le (n := 6) (Int32.le_trans (by decide) h.1) h.2 (by decide)
    exact ⟨s, Or.inl ⟨nI_le_of (a := 1) (by decide) h.1, hs⟩, rfl⟩
  · obtain ⟨s, hs, rfl⟩ := nat_le (n := 56) (Int32.le_trans (by decide) h.1) h.2 (by decide)
    exact ⟨s, Or.inr ⟨nI_le_of (a := 10) (by decide) h.1, hs⟩, rfl⟩
theorem sim_text {j : Nat} {S : Wd} (hR : Rel j S) (hj : j < 512) (a1 : Int32) : ∃ r S1 S2, f_X11_text S 0 a1 = some (r, S1) ∧ 48 < wn S1 ∧ f_X12_text S1 48 a1 = some (r, S2) ∧ Rel (j + 1) S2 := by
  have hI := hR.1
  obtain ⟨h65, hF⟩ := id hI
  have hcore := rel_core hR
  have hsh := rel_shR hR
  obtain ⟨q, p, hq, hp, h13, h14, h48, hh⟩ := rel_jn hR
  have bad : ∀ (x : Int32), x < -99999 → f_X11_text S 0 a1 = some (x, tl S x) → (∀ {S' : Wd}, Inv S' → wI S' 51 = wI S 51 → wI S' 52 = wI S 52 → wI S' 53 = wI S 53 → f_X12_text S' 48 a1 = some (x, fl S')) → ∃ r S1 S2, f_X11_text S 0 a1 = some (r, S1) ∧ 48 < wn S1 ∧ f_X12_text S1 48 a1 = some (r, S2) ∧ Rel (j + 1) S2 := fun x hx h1 h2 => ⟨x, _, _, h1, tl_w48 hR, h2 hI.tl (tl_arr (by decide)) (tl_arr (by decide)) (tl_arr (by decide)), rel_fin hR hx⟩
  by_cases h1 : 0 ≤ a1 ∧ a1 ≤ 3
  · obtain ⟨s, hs, rfl⟩ := nat_le (n := 3) h1.1 h1.2 (by decide)
    have hs4 : s < 4 := by omega
    have hcs : (nI s).toNatClampNeg = s := nI_clamp (by omega)
    obtain ⟨f1, f2, f3, f4, f5, f6⟩ := sh_facts hI hs4
    have i39 : ix S 39 102 (nI s) := ix_of h65 (by decide) (by decide) hs4
    obtain ⟨⟨x1, x2⟩, ⟨n, x3, x4, x5⟩, x6⟩ := id (hsh s hs4)
    have ms := e_isMissing hI hs4
    rw [x1] at ms
    by_cases hb : wI S 51 s = 0
    · rw [if_pos hb] at ms
      refine bad (-100002) (by decide) ?_ ?_
      · unfold f_X11_text
        rw [b_isSheet_X11, if_pos h1, if_neg (by decide)]
        simp (decide := true) only [if_false, gd_ob h65, hF, Option.bind_some, gd_pos i39, hcs, f1, gd_pos f3, ms, bd2_eq, e_told h65]
      · intro S' hI' e1 e2 e3
        obtain ⟨g65, hG⟩ := id hI'
        refine ru_done ?_
        show B_X12_text_0 S' 48 (nI s) = _
        unfold B_X12_text_0
        rw [b_isSheet_X12, if_pos h1, if_neg (by decide)]
        simp (decide := true) only [gd_ob g65, hG, Option.bind_some, gd_pos (show ix S' 51 100 (nI s) from ix_of g65 (by decide) (by decide) hs4), hcs, e1]
        rw [if_pos hb]
        simp (decide := true) only [gd_ob g65, e_finding g65, bd2_eq]
    · rw [if_neg hb] at ms
      have hC : f_X11_text S 0 (nI s) = bd2 (f_X9_read S 35 (40 + 2 * s)) (fun r28 S26 => gd (ob S26 0 11) (bd2 (f_X11_told S26 0 r28) (fun r32 S30 => some (r32, S30)))) := by
        unfold f_X11_text
        rw [b_isSheet_X11, if_pos h1, if_neg (by decide)]
        simp (decide := true) only [if_true, gd_ob h65, hF, Option.bind_some, gd_pos i39, hcs, f1, gd_pos f3, ms, bd2_eq]
      have hM0 : ∀ {S' : Wd}, Inv S' → wI S' 51 = wI S 51 → wI S' 52 = wI S 52 → B_X12_text_0 S' 48 (nI s) = if nI n ≤ 14 then some (.inr (1, [48], [nI s, 0], S')) else some (.inl (-100003, fl S')) := by
        intro S' hI' e1 e2
        obtain ⟨g65, hG⟩ := id hI'
        unfold B_X12_text_0
        rw [b_isSheet_X12, if_pos h1, if_neg (by decide)]
        simp (decide := true) only [gd_ob g65, hG, Option.bind_some, gd_pos (show ix S' 51 100 (nI s) from ix_of g65 (by decide) (by decide) hs4), gd_pos (show ix S' 52 100 (nI s) from ix_of g65 (by decide) (by decide) hs4), hcs, e1, e2, x5]
        rw [if_neg hb]
        simp (decide := true) only [gd_ob g65, e_finding g65, bd2_eq]
      have r0 : B_X9_read_0 S 35 (40 + 2 * s) = if nI n ≤ 14 then some (.inr (1, [35, 40 + 2 * s], [nI n, 0], S)) else some (.inl (-100003, S)) := by
        unfold B_X9_read_0 f_X7_count
        rw [gd_pos f3, gd_pos f3, bd2_eq, x4]
      by_cases h14n : n ≤ 14
      · have le14 : nI n ≤ 14 := i32nl.mp (show ¬ (14 : Int32) < nI n from nI_nlt (a := 14) (by omega) (by omega))
        rw [if_pos le14] at r0
        have c1 : ∀ k, k < n → isg (wI S (41 + 2 * s) k) → B_X9_read (1, [35, 40 + 2 * s], [nI n, nI k], S) = some (.inr (1, [35, 40 + 2 * s], [nI n, nI (k + 1)], S)) := by
          intro k hk hg
          show B_X9_read_1 S 35 (40 + 2 * s) (nI n) (nI k) = _
          unfold B_X9_read_1
          rw [if_neg (nI_ge hk (by omega)), gd_pos f3, e_at7 hI hs4 x3 x4 hk, bd2_eq, b_isSign_X9, if_pos hg, if_neg (by decide), nI_1]
        have m1 : ∀ {S' : Wd}, Inv S' → wI S' 52 = wI S 52 → wI S' 53 = wI S 53 → ∀ k, k < n → B_X12_text (1, [48], [nI s, nI k], S') = if isg (wI S (41 + 2 * s) k) then some (.inr (1, [48], [nI s, nI (k + 1)], S')) else some (.inl (-100001, fl S')) := by
          intro S' hI' e2 e3 k hk
          obtain ⟨g65, hG⟩ := id hI'
          show B_X12_text_1 S' 48 (nI s) (nI k) = _
          unfold B_X12_text_1
          simp (decide := true) only [gd_ob g65, hG, Option.bind_some, gd_pos (show ix S' 52 100 (nI s) from ix_of g65 (by decide) (by decide) hs4), hcs, e2, x5]
          rw [if_neg (nI_ge hk (by omega)), show (20 : Int32) * nI s + nI k = nI (20 * s + k) by show nI 20 * nI s + nI k = _; rw [nI_mul, nI_add], gd_pos (ix_of g65 (by decide) (by decide) (show _ < 80 by omega)), nI_clamp (by omega), e3, ← x6 k (by omega), b_isSign_X12]
          simp (decide := true) only [if_true, if_false, gd_ob g65, e_finding g65, bd2_eq, nI_1]
        rcases first_bad (fun i => isg (wI S (41 + 2 * s) i)) n with hall | ⟨k, k1, k2, k3⟩
        · obtain ⟨g, hg1, hg2⟩ := e_keep hI (ro := 36) (fr := 0) (m := 15) (by decide) (by decide) (by decide) (by decide) hp hq h14 h13
          have hck0 := ck_kp (S := S) (p := p) (q := q) h65 (show (36 : Nat) ∈ rowset by decide) hg2
          have hIK := ck_inv hI hck0
          generalize hK : kpS S 36 0 15 p q g = K at hg1 hck0 hIK
          obtain ⟨K65, hKF⟩ := id hIK
          let Fc : Nat → Nat → Int32 := fun k i => if i = 0 then nI n else if i ≤ k then wI S (41 + 2 * s) (i - 1) else wI K 36 i
          have hck : CK S (sA K 36 (Fc n)) 36 0 15 (wn S) p q (fun _ _ => False) := hck0.wrA h65 (by decide) (fun i z1 _ => by
            show (if i = 0 then _ else if i ≤ n then _ else _) = _
            rw [if_neg (by omega), if_neg (by omega)])
          have eK : ∀ a k, 37 ≤ a → a < 65 → wI K a k = wI S a k := fun a k z1 z2 => hck0.2.2.2.2.2.2.2.2.2.2.2.2.1 a k (by omega) (by omega) (by omega) (by
            simp only [rowset, List.mem_cons, List.not_mem_nil, or_false]
            omega)
          have IV : ∀ k, Inv (sA K 36 (Fc k)) := fun k => hIK.of (Nat.le_refl _) (fun _ _ _ _ _ => rfl) (fun i k' hi hk => by rw [wI_sA, if_neg (by omega)])
          have c2 : B_X9_read (1, [35, 40 + 2 * s], [nI n, nI n], S) = some (.inr (2, [35, 40 + 2 * s], [nI n, nI 0], sA K 36 (Fc 0))) := by
            show B_X9_read_1 S 35 (40 + 2 * s) (nI n) (nI n) = _
            unfold B_X9_read_1
            rw [if_pos (Int32.le_refl _)]
            simp (decide := true) only [gd_ob h65, hF, Option.bind_some]
            rw [show Int32.ofNat (wlen S 36) = nI 15 by rw [wlen_lt (by decide)]; rfl, show (0 : Int32) = nI 0 from rfl, hg1, Option.bind_some]
            simp (decide := true) only [gd_ob K65, hKF, Option.bind_some]
            rw [gd_pos (ix_of K65 (by decide) (by decide) (show 0 < 15 by decide)), nI_clamp (by decide)]
            show some _ = _
            congr 5
            refine Wd_ext rfl rfl ?_ rfl
            funext a k
            rw [wI_sI, wI_sA]
            by_cases ha : a = 36
            · rw [if_pos ha, if_pos ha, ha]
              show _ = if k = 0 then nI n else if k ≤ 0 then _ else wI K 36 k
              by_cases hk : k = 0
              · rw [if_pos hk, if_pos hk]
              · rw [if_neg hk, if_neg hk, if_neg (by omega)]
            · rw [if_neg ha, if_neg ha]
          have c3 : ∀ k, k < n → B_X9_read (2, [35, 40 + 2 * s], [nI n, nI k], sA K 36 (Fc k)) = some (.inr (2, [35, 40 + 2 * s], [nI n, nI (k + 1)], sA K 36 (Fc (k + 1)))) := by
            intro k hk
            obtain ⟨V65, hVF⟩ := id (IV k)
            show B_X9_read_2 _ 35 (40 + 2 * s) (nI n) (nI k) = _
            unfold B_X9_read_2
            rw [if_neg (nI_ge hk (by omega))]
            simp (decide := true) only [gd_ob V65, hVF, Option.bind_some]
            obtain ⟨v1, v2, v3, v4, v5, v6⟩ := sh_facts (IV k) hs4
            rw [gd_pos v3, e_at7 (IV k) hs4 x3 (by rw [wI_sA, if_neg (by omega), eK _ _ (by omega) (by omega)]; exact x4) hk, bd2_eq, nI_1, gd_pos (ix_of V65 (by decide) (by decide) (show _ < 15 by omega)), nI_clamp (by omega), sI_sA, wI_sA, if_neg (by omega), eK _ _ (by omega) (by omega)]
            show some _ = _
            congr 6
            funext i
            show (if i = k + 1 then _ else if i = 0 then _ else if i ≤ k then _ else _) = if i = 0 then _ else if i ≤ k + 1 then _ else _
            by_cases hi : i = k + 1
            · rw [if_pos hi, if_neg (by omega), if_pos (by omega), hi, Nat.add_sub_cancel]
            · rw [if_neg hi]
              by_cases h0 : i = 0
              · rw [if_pos h0, if_pos h0]
              · rw [if_neg h0, if_neg h0]
                by_cases h : i ≤ k
                · rw [if_pos h, if_pos (by omega)]
                · rw [if_neg h, if_neg (by omega)]
          have hr : f_X9_read S 35 (40 + 2 * s) = some (nI n, sA K 36 (Fc n)) := by
            unfold f_X9_read
            refine (ru_step (show B_X9_read (0, [35, 40 + 2 * s], [], S) = _ from r0)).trans ((ru_for (fun k => (1, [35, 40 + 2 * s], [nI n, nI k], S)) n (fun i hi => c1 i hi (hall i hi))).trans ((ru_step c2).trans ((ru_for (fun k => (2, [35, 40 + 2 * s], [nI n, nI k], sA K 36 (Fc k))) n c3).trans (ru_done ?_))))
            show B_X9_read_2 _ 35 (40 + 2 * s) (nI n) (nI n) = _
            unfold B_X9_read_2
            rw [if_pos (Int32.le_refl _)]
          obtain ⟨w48, e48, e49⟩ := ck_48 h65 hck
          have hI1 := ck_inv hI hck
          have eS1 : ∀ a, 37 ≤ a → a < 65 → wI (sA K 36 (Fc n)) a = wI S a := fun a z1 z2 => funext fun k => by rw [wI_sA, if_neg (by omega), eK a k z1 z2]
          have row36 : wI (sA K 36 (Fc n)) 36 = Fc n := by rw [wI_sA, if_pos rfl]
          generalize sA K 36 (Fc n) = S1 at hck hr w48 e48 e49 hI1 eS1 row36
          obtain ⟨I65, hIF⟩ := id hI1
          obtain ⟨T, t1, t2, t3, t4⟩ := rel_keepM hI1 hq (by rw [e48]; exact h48)
          obtain ⟨T65, hTF⟩ := id t3
          have eT : ∀ a, 51 ≤ a → a < 65 → wI T a = wI S a := fun a z1 z2 => funext fun k => by rw [t2.2.2.2.1 a k (by omega) (by omega) (by omega), eS1 a (by omega) z2]
          let G : Nat → Nat → Int32 := fun k i => if i = 69 then nI n else if 410 ≤ i ∧ i < 410 + k then wI S (41 + 2 * s) (i - 410) else wI S 49 i
          have d2 : B_X12_text (1, [48], [nI s, nI n], S1) = some (.inr (2, [48], [nI s, nI 0], sA T 49 (G 0))) := by
            show B_X12_text_1 S1 48 (nI s) (nI n) = _
            unfold B_X12_text_1
            simp (decide := true) only [gd_ob I65, hIF, Option.bind_some, gd_pos (show ix S1 52 100 (nI s) from ix_of I65 (by decide) (by decide) hs4), hcs, eS1 52 (by decide) (by decide), x5]
            rw [if_pos (Int32.le_refl _), t1, Option.bind_some]
            simp (decide := true) only [gd_ob T65, hTF, Option.bind_some, gd_pos (show ix T 52 100 (nI s) from ix_of T65 (by decide) (by decide) hs4), hcs, eT 52 (by decide) (by decide), x5]
            rw [gd_pos (show ix T 49 100 (69 : Int32) from rdN T65 (show 69 < 424 by decide))]
            show some _ = _
            congr 5
            refine Wd_ext rfl rfl ?_ rfl
            funext a k
            rw [show (69 : Int32).toNatClampNeg = 69 from rfl, wI_sI, wI_sA]
            by_cases ha : a = 49
            · rw [if_pos ha, if_pos ha, ha, t4, e49]
              show _ = if k = 69 then nI n else if 410 ≤ k ∧ k < 410 + 0 then _ else wI S 49 k
              by_cases hk : k = 69
              · rw [if_pos hk, if_pos hk]
              · rw [if_neg hk, if_neg hk, if_neg (by omega)]
            · rw [if_neg ha, if_neg ha]
          have d3 : ∀ k, k < n → B_X12_text (2, [48], [nI s, nI k], sA T 49 (G k)) = some (.inr (2, [48], [nI s, nI (k + 1)], sA T 49 (G (k + 1)))) := by
            intro k hk
            have V65 : 65 ≤ wn (sA T 49 (G k)) := T65
            show B_X12_text_2 _ 48 (nI s) (nI k) = _
            unfold B_X12_text_2
            simp (decide := true) only [gd_ob V65, wO_sA, hTF, Option.bind_some, gd_pos (show ix (sA T 49 (G k)) 52 100 (nI s) from ix_of V65 (by decide) (by decide) hs4), hcs, wI_sA, if_false, eT 52 (by decide) (by decide), eT 53 (by decide) (by decide), x5]
            rw [if_neg (nI_ge hk (by omega)), show (20 : Int32) * nI s + nI k = nI (20 * s + k) by show nI 20 * nI s + nI k = _; rw [nI_mul, nI_add], gd_pos (ix_of V65 (by decide) (by decide) (show _ < 80 by omega)), show (410 : Int32) + nI k = nI (410 + k) from nI_add 410 k, gd_pos (rdN V65 (by omega)), nI_clamp (by omega), nI_clamp (by omega), nI_1, sI_sA, ← x6 k (by omega)]
            show some _ = _
            congr 6
            funext i
            show (if i = 410 + k then _ else if i = 69 then _ else if 410 ≤ i ∧ i < 410 + k then _ else _) = if i = 69 then _ else if 410 ≤ i ∧ i < 410 + (k + 1) then _ else _
            by_cases hi : i = 410 + k
            · rw [if_pos hi, if_neg (by omega), if_pos (by omega), hi, Nat.add_sub_cancel_left]
            · rw [if_neg hi]
              by_cases h0 : i = 69
              · rw [if_pos h0, if_pos h0]
              · rw [if_neg h0, if_neg h0]
                by_cases h : 410 ≤ i ∧ i < 410 + k
                · rw [if_pos h, if_pos (by omega)]
                · rw [if_neg h, if_neg (by omega)]
          refine ⟨nI n, S1, sA T 49 (G n), ?_, w48, ?_, ?_⟩
          · rw [hC, hr, bd2_eq]
            simp (decide := true) only [gd_ob I65, e_told I65, bd2_eq]
            rw [tl_ge (nI_nofind (n := n) (by omega))]
          · unfold f_X12_text
            refine (ru_step (show B_X12_text (0, [48], [nI s], S1) = some (.inr (1, [48], [nI s, nI 0], S1)) from (hM0 hI1 (eS1 51 (by decide) (by decide)) (eS1 52 (by decide) (by decide))).trans (if_pos le14))).trans ((ru_for (fun k => (1, [48], [nI s, nI k], S1)) n (fun i hi => (m1 hI1 (eS1 52 (by decide) (by decide)) (eS1 53 (by decide) (by decide)) i hi).trans (if_pos (hall i hi)))).trans ((ru_step d2).trans ((ru_for (fun k => (2, [48], [nI s, nI k], sA T 49 (G k))) n d3).trans (ru_done ?_))))
            have V65 : 65 ≤ wn (sA T 49 (G n)) := T65
            show B_X12_text_2 _ 48 (nI s) (nI n) = _
            unfold B_X12_text_2
            simp (decide := true) only [gd_ob V65, wO_sA, hTF, Option.bind_some, gd_pos (show ix (sA T 49 (G n)) 52 100 (nI s) from ix_of V65 (by decide) (by decide) hs4), hcs, wI_sA, if_false, eT 52 (by decide) (by decide), x5]
            rw [if_pos (Int32.le_refl _)]
          · have eN : ∀ k, wI (sA T 49 (G n)) 49 k = G n k := fun k => by rw [wI_sA, if_pos rfl]
            refine rel_row hR hq hp hh (show (36 : Nat) ∈ rowset by decide) (show 0 + 15 ≤ 15 by decide) hck (fun _ _ h => h.elim) t2.wrA ?_ (st_none _) ?_ hj
            · refine core_Text same_row (fun k _ h1 h2 => ?_) ⟨n, h14n, ?_, ?_, fun i hi => ?_⟩ hcore
              · rw [eN]
                show (if k = 69 then _ else if 410 ≤ k ∧ k < 410 + n then _ else _) = _
                rw [if_neg h2, if_neg (by omega)]
              · rw [eN]
                exact if_pos rfl
              · show (if (36 : Nat) = 36 then wI S1 36 else wI S 36) 0 = _
                rw [if_pos rfl, row36]
                exact if_pos rfl
              · obtain ⟨z, z1, z2⟩ := isg_nat (hall i hi)
                refine ⟨z, z1, ?_, ?_⟩
                · rw [eN]
                  show (if 410 + i = 69 then _ else if 410 ≤ 410 + i ∧ 410 + i < 410 + n then _ else _) = _
                  rw [if_neg (by omega), if_pos (by omega), Nat.add_sub_cancel_left]
                  exact z2
                · show (if (36 : Nat) = 36 then wI S1 36 else wI S 36) (1 + i) = _
                  rw [if_pos rfl, row36]
                  show (if 1 + i = 0 then _ else if 1 + i ≤ n then _ else _) = _
                  rw [if_neg (by omega), if_pos (by omega), Nat.add_sub_cancel_left]
                  exact z2
            · intro c c1 c2
              rw [eN]
              show _ ≤ if c = 69 then _ else if 410 ≤ c ∧ c < 410 + n then _ else wI S 49 c
              rw [if_neg (by omega), if_neg (by omega)]
              exact Int32.le_refl _
        · refine bad (-100001) (by decide) ?_ ?_
          · have hr : f_X9_read S 35 (40 + 2 * s) = some (-100001, S) := by
              unfold f_X9_read
              refine (ru_step (show B_X9_read (0, [35, 40 + 2 * s], [], S) = _ from r0)).trans ((ru_for (fun k => (1, [35, 40 + 2 * s], [nI n, nI k], S)) k (fun i hi => c1 i (by omega) (k3 i hi))).trans (ru_done ?_))
              show B_X9_read_1 S 35 (40 + 2 * s) (nI n) (nI k) = _
              unfold B_X9_read_1
              rw [if_neg (nI_ge k1 (by omega)), gd_pos f3, e_at7 hI hs4 x3 x4 k1, bd2_eq, b_isSign_X9, if_neg k2, if_pos rfl]
            rw [hC, hr, bd2_eq]
            simp (decide := true) only [gd_ob h65, e_told h65, bd2_eq]
          · intro S' hI' e1 e2 e3
            unfold f_X12_text
            refine (ru_step (show B_X12_text (0, [48], [nI s], S') = some (.inr (1, [48], [nI s, nI 0], S')) from (hM0 hI' e1 e2).trans (if_pos le14))).trans ((ru_for (fun k => (1, [48], [nI s, nI k], S')) k (fun i hi => (m1 hI' e2 e3 i (by omega)).trans (if_pos (k3 i hi)))).trans (ru_done ((m1 hI' e2 e3 k k1).trans (if_neg k2))))
      · have nle : ¬ nI n ≤ 14 := fun h => h14n (nI_le_of (b := 14) (by omega) h)
        rw [if_neg nle] at r0
        refine bad (-100003) (by decide) ?_ ?_
        · have hr : f_X9_read S 35 (40 + 2 * s) = some (-100003, S) := ru_done r0
          rw [hC, hr, bd2_eq]
          simp (decide := true) only [gd_ob h65, e_told h65, bd2_eq]
        · intro S' hI' e1 e2 e3
          exact ru_done ((hM0 hI' e1 e2).trans (if_neg nle))
  · refine bad (-100001) (by decide) ?_ ?_
    · unfold f_X11_text
      rw [b_isSheet_X11, if_neg h1, if_pos rfl]
      simp (decide := true) only [gd_ob h65, e_told h65, bd2_eq]
    · intro S' hI' e1 e2 e3
      obtain ⟨g65, hG⟩ := id hI'
      refine ru_done ?_
      show B_X12_text_0 S' 48 a1 = _
      unfold B_X12_text_0
      rw [b_isSheet_X12, if_neg h1, if_pos rfl]
      simp (decide := true) only [gd_ob g65, e_finding g65, bd2_eq]
