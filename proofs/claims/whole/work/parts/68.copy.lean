/-! copy -/
theorem sum64 {x y n : Nat} (hx : x < 2 ^ 31) (hy : y < 2 ^ 31) (hn : n < 2 ^ 31) : (nI x).toInt64 + (nI y).toInt64 ≤ (nI n).toInt64 ↔ x + y ≤ n := by
  rw [Int64.le_iff_toInt_le, Int64.toInt_add, Int32.toInt_toInt64, Int32.toInt_toInt64, Int32.toInt_toInt64, nI_toInt hx, nI_toInt hy, nI_toInt hn, Int.bmod_eq_of_le (by omega) (by omega)]
  omega
theorem sim_copy {j : Nat} {S : Wd} (hR : Rel j S) (hj : j < 512) (a1 a2 a3 a4 a5 : Int32) : ∃ r S1 S2, f_X11_copy S 0 a1 a2 a3 a4 a5 = some (r, S1) ∧ 48 < wn S1 ∧ f_X12_copy S1 48 a1 a2 a3 a4 a5 = some (r, S2) ∧ Rel (j + 1) S2 := by
  have hI := hR.1
  obtain ⟨h65, hF⟩ := id hI
  have hsh := rel_shR hR
  have bad : ∀ (x : Int32), x < -99999 → f_X11_copy S 0 a1 a2 a3 a4 a5 = some (x, tl S x) → (∀ {S' : Wd}, Inv S' → wI S' 51 = wI S 51 → wI S' 52 = wI S 52 → B_X12_copy_0 S' 48 a1 a2 a3 a4 a5 = some (.inl (x, fl S'))) → ∃ r S1 S2, f_X11_copy S 0 a1 a2 a3 a4 a5 = some (r, S1) ∧ 48 < wn S1 ∧ f_X12_copy S1 48 a1 a2 a3 a4 a5 = some (r, S2) ∧ Rel (j + 1) S2 := fun x hx h1 h2 => ⟨x, _, _, h1, tl_w48 hR, ru_done (h2 hI.tl (tl_arr (by decide)) (tl_arr (by decide))), rel_fin hR hx⟩
  by_cases h1 : 0 ≤ a1 ∧ a1 ≤ 3
  · by_cases h3 : 0 ≤ a3 ∧ a3 ≤ 3
    · obtain ⟨s, hs, rfl⟩ := nat_le (n := 3) h1.1 h1.2 (by decide)
      obtain ⟨t, ht, rfl⟩ := nat_le (n := 3) h3.1 h3.2 (by decide)
      have hs4 : s < 4 := by omega
      have ht4 : t < 4 := by omega
      have hcs : (nI s).toNatClampNeg = s := nI_clamp (by omega)
      have hct : (nI t).toNatClampNeg = t := nI_clamp (by omega)
      obtain ⟨f1, f2, f3, f4, f5, f6⟩ := sh_facts hI hs4
      obtain ⟨g1, g2, g3, g4, g5, g6⟩ := sh_facts hI ht4
      have i39 : ix S 39 102 (nI s) := ix_of h65 (by decide) (by decide) hs4
      have k39 : ix S 39 102 (nI t) := ix_of h65 (by decide) (by decide) ht4
      obtain ⟨⟨x1, x2⟩, ⟨n, x3, x4, x5⟩, x6⟩ := id (hsh s hs4)
      obtain ⟨⟨y1, y2⟩, ⟨m, y3, y4, y5⟩, y6⟩ := id (hsh t ht4)
      have ms := e_isMissing hI hs4
      have mt := e_isMissing hI ht4
      rw [x1] at ms
      rw [y1] at mt
      have wd : f_X7_isAsWideAs S (40 + 2 * s) (40 + 2 * t) = some (if wI S 51 s = wI S 51 t then 1 else 0, S) := by
        unfold f_X7_isAsWideAs
        rw [gd_pos f3, gd_pos g3, x1, y1]
        split <;> rfl
      have hM : ∀ {S' : Wd}, Inv S' → wI S' 51 = wI S 51 → wI S' 52 = wI S 52 → B_X12_copy_0 S' 48 (nI s) a2 (nI t) a4 a5 = if wI S 51 s = 0 then some (.inl (-100002, fl S')) else if wI S 51 t = 0 then some (.inl (-100002, fl S')) else if wI S 51 s = wI S 51 t then (if a2 < 0 then some (.inl (-100001, fl S')) else if a4 < 0 then some (.inl (-100001, fl S')) else if a5 < 0 then some (.inl (-100001, fl S')) else if 0 < lg_cmp (a2.toInt64 + a5.toInt64) (nI n).toInt64 then some (.inl (-100001, fl S')) else if lg_cmp (a4.toInt64 + a5.toInt64) (nI m).toInt64 ≤ 0 then some (.inr (1, [48], [nI s, a2, nI t, a4, a5, 0], S')) else some (.inl (-100001, fl S'))) else some (.inl (-100004, fl S')) := by
        intro S' hI' e1 e2
        obtain ⟨g65, hG⟩ := id hI'
        have i51 : ix S' 51 100 (nI s) := ix_of g65 (by decide) (by decide) hs4
        have i52 : ix S' 52 100 (nI s) := ix_of g65 (by decide) (by decide) hs4
        have k51 : ix S' 51 100 (nI t) := ix_of g65 (by decide) (by decide) ht4
        have k52 : ix S' 52 100 (nI t) := ix_of g65 (by decide) (by decide) ht4
        unfold B_X12_copy_0
        rw [b_isSheet_X12, if_pos h1, if_neg (by decide), b_isSheet_X12, if_pos h3, if_neg (by decide)]
        simp (decide := true) only [gd_ob g65, hG, Option.bind_some, gd_pos i51, gd_pos i52, gd_pos k51, gd_pos k52, hcs, hct, e1, e2, x5, y5, e_finding g65, bd2_eq]
      by_cases b1 : wI S 51 s = 0
      · refine bad (-100002) (by decide) ?_ (fun u v w => by rw [hM u v w, if_pos b1])
        rw [if_pos b1] at ms
        unfold f_X11_copy
        rw [b_isSheet_X11, if_pos h1, if_neg (by decide), b_isSheet_X11, if_pos h3, if_neg (by decide)]
        simp (decide := true) only [if_true, if_false, gd_ob h65, hF, Option.bind_some, gd_pos i39, hcs, f1, gd_pos f3, ms, bd2_eq, e_told h65]
      · rw [if_neg b1] at ms
        by_cases b2 : wI S 51 t = 0
        · refine bad (-100002) (by decide) ?_ (fun u v w => by rw [hM u v w, if_neg b1, if_pos b2])
          rw [if_pos b2] at mt
          unfold f_X11_copy
          rw [b_isSheet_X11, if_pos h1, if_neg (by decide), b_isSheet_X11, if_pos h3, if_neg (by decide)]
          simp (decide := true) only [if_true, if_false, gd_ob h65, hF, Option.bind_some, gd_pos i39, hcs, f1, gd_pos f3, ms, bd2_eq, gd_pos k39, hct, g1, gd_pos g3, mt, e_told h65]
        · rw [if_neg b2] at mt
          by_cases b3 : wI S 51 s = wI S 51 t
          · rw [if_pos b3] at wd
            rcases e_reaches hI hs4 x3 x4 a2 a5 with ⟨x, l, e1, e2, e3, e4⟩ | ⟨e1, e2⟩
            · subst e1
              subst e2
              have hx0 : ¬ nI x < 0 := nI_pos (by omega)
              have hl0 : ¬ nI l < 0 := nI_pos (by omega)
              have hgt : ¬ 0 < lg_cmp ((nI x).toInt64 + (nI l).toInt64) (nI n).toInt64 := by
                rw [lg_cmp_gt, Int64.not_lt, sum64 (by omega) (by omega) (by omega)]
                exact e3
              rcases e_reaches hI ht4 y3 y4 a4 (nI l) with ⟨z, l', e1, e2, e5, e6⟩ | ⟨e1, e2⟩
              · subst e1
                have hll : l' = l := (nI_eq (by omega) (by omega)).mp e2.symm
                subst hll
                have hz0 : ¬ nI z < 0 := nI_pos (by omega)
                have hle : lg_cmp ((nI z).toInt64 + (nI l').toInt64) (nI m).toInt64 ≤ 0 := by
                  rw [lg_cmp_le, sum64 (by omega) (by omega) (by omega)]
                  exact e5
                have htk : f_X7_take S (40 + 2 * t) (40 + 2 * s) (nI x) (nI z) (nI l') = some (sA S (41 + 2 * t) (va_cpy (wI S (41 + 2 * s)) (wI S (41 + 2 * t)) x z l')) := by
                  unfold f_X7_take
                  rw [gd_pos f3, e4, bd2_eq, if_neg (by decide), gd_pos g3, e6, bd2_eq, if_neg (by decide), gd_pos f3, f2, Option.bind_some, gd_pos g3, g2, Option.bind_some, gd_pos f4, gd_pos g4, nI_clamp (show x < 2 ^ 31 by omega), nI_clamp (show z < 2 ^ 31 by omega), nI_clamp (show l' < 2 ^ 31 by omega), f6, g6, gd_pos ⟨hx0, hz0, hl0, by omega, by omega⟩]
                  rfl
                have hC : f_X11_copy S 0 (nI s) (nI x) (nI t) (nI z) (nI l') = some (nI l', sA S (41 + 2 * t) (va_cpy (wI S (41 + 2 * s)) (wI S (41 + 2 * t)) x z l')) := by
                  unfold f_X11_copy
                  rw [b_isSheet_X11, if_pos h1, if_neg (by decide), b_isSheet_X11, if_pos h3, if_neg (by decide)]
                  simp (decide := true) only [if_true, if_false, gd_ob h65, hF, Option.bind_some, gd_pos i39, hcs, f1, gd_pos f3, ms, bd2_eq, gd_pos k39, hct, g1, gd_pos g3, mt, wd, e4, e6, htk]
                have hI1 : Inv (sA S (41 + 2 * t) (va_cpy (wI S (41 + 2 * s)) (wI S (41 + 2 * t)) x z l')) := hI.of (Nat.le_refl _) (fun _ _ _ _ _ => rfl) (fun i k hi hk => by rw [wI_sA, if_neg (by omega)])
                have eT : ∀ a, a ≠ 41 + 2 * t → wI (sA S (41 + 2 * t) (va_cpy (wI S (41 + 2 * s)) (wI S (41 + 2 * t)) x z l')) a = wI S a := fun a ha => by rw [wI_sA, if_neg ha]
                have eTt : wI (sA S (41 + 2 * t) (va_cpy (wI S (41 + 2 * s)) (wI S (41 + 2 * t)) x z l')) (41 + 2 * t) = va_cpy (wI S (41 + 2 * s)) (wI S (41 + 2 * t)) x z l' := by rw [wI_sA, if_pos rfl]
                have Twn : wn (sA S (41 + 2 * t) (va_cpy (wI S (41 + 2 * s)) (wI S (41 + 2 * t)) x z l')) = wn S := rfl
                have Twl : wl (sA S (41 + 2 * t) (va_cpy (wI S (41 + 2 * s)) (wI S (41 + 2 * t)) x z l')) = wl S := rfl
                have TwO : wO (sA S (41 + 2 * t) (va_cpy (wI S (41 + 2 * s)) (wI S (41 + 2 * t)) x z l')) = wO S := rfl
                generalize sA S (41 + 2 * t) (va_cpy (wI S (41 + 2 * s)) (wI S (41 + 2 * t)) x z l') = T at hC hI1 eT eTt Twn Twl TwO
                obtain ⟨T65, hTF⟩ := id hI1
                have e53 := eT 53 (by omega)
                let F : Nat → Nat → Int32 := fun k i => if i < k then wI S 53 (20 * s + x + i) else wI T 64 i
                let G : Nat → Nat → Int32 := fun k i => if 20 * t + z ≤ i ∧ i < 20 * t + z + k then wI S 53 (20 * s + x + (i - (20 * t + z))) else wI S 53 i
                have s0 : B_X12_copy (0, [48], [nI s, nI x, nI t, nI z, nI l'], T) = some (.inr (1, [48], [nI s, nI x, nI t, nI z, nI l', nI 0], sA T 64 (F 0))) := by
                  show B_X12_copy_0 T 48 (nI s) (nI x) (nI t) (nI z) (nI l') = _
                  rw [hM hI1 (eT 51 (by omega)) (eT 52 (by omega)), if_neg b1, if_neg b2, if_pos b3, if_neg hx0, if_neg hz0, if_neg hl0, if_neg hgt, if_pos hle, show F 0 = wI T 64 from funext fun i => if_neg (by omega), sA_self]
                  rfl
                have s1 : ∀ k, k < l' → B_X12_copy (1, [48], [nI s, nI x, nI t, nI z, nI l', nI k], sA T 64 (F k)) = some (.inr (1, [48], [nI s, nI x, nI t, nI z, nI l', nI (k + 1)], sA T 64 (F (k + 1)))) := by
                  intro k hk
                  show B_X12_copy_1 _ 48 (nI s) (nI x) (nI t) (nI z) (nI l') (nI k) = _
                  unfold B_X12_copy_1
                  rw [if_neg (nI_ge hk (by omega))]
                  simp (decide := true) only [gd_ob (show 65 ≤ wn (sA T 64 (F k)) from T65), wO_sA, hTF, Option.bind_some, wI_sA, if_false, e53]
                  rw [show (20 : Int32) * nI s + nI x + nI k = nI (20 * s + x + k) by show nI 20 * nI s + nI x + nI k = _; rw [nI_mul, nI_add, nI_add], gd_pos (ix_of (by exact T65) (by decide) (by decide) (show _ < 80 by omega)), gd_pos (ix_of (by exact T65) (by decide) (by decide) (show _ < 20 by omega)), nI_clamp (by omega), nI_clamp (by omega), nI_1, sI_sA]
                  show some _ = _
                  congr 6
                  funext i
                  show (if i = k then _ else if i < k then _ else _) = if i < k + 1 then _ else _
                  by_cases hi : i = k
                  · rw [if_pos hi, if_pos (by omega), hi]
                  · rw [if_neg hi]
                    by_cases h : i < k
                    · rw [if_pos h, if_pos (by omega)]
                    · rw [if_neg h, if_neg (by omega)]
                have s2 : B_X12_copy (1, [48], [nI s, nI x, nI t, nI z, nI l', nI l'], sA T 64 (F l')) = some (.inr (2, [48], [nI s, nI x, nI t, nI z, nI l', nI 0], sA (sA T 64 (F l')) 53 (G 0))) := by
                  show B_X12_copy_1 _ 48 (nI s) (nI x) (nI t) (nI z) (nI l') (nI l') = _
                  unfold B_X12_copy_1
                  rw [if_pos (Int32.le_refl _), show G 0 = wI (sA T 64 (F l')) 53 from (funext fun i => if_neg (by omega)).trans (by rw [wI_sA, if_neg (by decide), e53]), sA_self]
                  rfl
                have s3 : ∀ k, k < l' → B_X12_copy (2, [48], [nI s, nI x, nI t, nI z, nI l', nI k], sA (sA T 64 (F l')) 53 (G k)) = some (.inr (2, [48], [nI s, nI x, nI t, nI z, nI l', nI (k + 1)], sA (sA T 64 (F l')) 53 (G (k + 1)))) := by
                  intro k hk
                  show B_X12_copy_2 _ 48 (nI s) (nI x) (nI t) (nI z) (nI l') (nI k) = _
                  unfold B_X12_copy_2
                  rw [if_neg (nI_ge hk (by omega))]
                  simp (decide := true) only [gd_ob (show 65 ≤ wn (sA (sA T 64 (F l')) 53 (G k)) from T65), wO_sA, hTF, Option.bind_some, wI_sA, if_false, if_true]
                  rw [show (20 : Int32) * nI t + nI z + nI k = nI (20 * t + z + k) by show nI 20 * nI t + nI z + nI k = _; rw [nI_mul, nI_add, nI_add], gd_pos (ix_of (by exact T65) (by decide) (by decide) (show _ < 20 by omega)), gd_pos (ix_of (by exact T65) (by decide) (by decide) (show _ < 80 by omega)), nI_clamp (by omega), nI_clamp (by omega), nI_1, sI_sA, show F l' k = wI S 53 (20 * s + x + k) from if_pos hk]
                  show some _ = _
                  congr 6
                  funext i
                  show (if i = 20 * t + z + k then _ else if 20 * t + z ≤ i ∧ i < 20 * t + z + k then _ else _) = if 20 * t + z ≤ i ∧ i < 20 * t + z + (k + 1) then _ else _
                  by_cases hi : i = 20 * t + z + k
                  · rw [if_pos hi, if_pos (by omega), hi]
                    congr 1
                    omega
                  · rw [if_neg hi]
                    by_cases h : 20 * t + z ≤ i ∧ i < 20 * t + z + k
                    · rw [if_pos h, if_pos (by omega)]
                    · rw [if_neg h, if_neg (by omega)]
                refine ⟨nI l', T, sA (sA T 64 (F l')) 53 (G l'), hC, by rw [Twn]; omega, ?_, ?_⟩
                · unfold f_X12_copy
                  refine (ru_step s0).trans ((ru_for (fun k => (1, [48], [nI s, nI x, nI t, nI z, nI l', nI k], sA T 64 (F k))) l' s1).trans ((ru_step s2).trans ((ru_for (fun k => (2, [48], [nI s, nI x, nI t, nI z, nI l', nI k], sA (sA T 64 (F l')) 53 (G k))) l' s3).trans (ru_done ?_))))
                  show B_X12_copy_2 _ 48 (nI s) (nI x) (nI t) (nI z) (nI l') (nI l') = _
                  unfold B_X12_copy_2
                  rw [if_pos (Int32.le_refl _)]
                · have U : ∀ a, a ≠ 53 → a ≠ 64 → wI (sA (sA T 64 (F l')) 53 (G l')) a = wI T a := fun a u1 u2 => by rw [wI_sA, if_neg u1, wI_sA, if_neg u2]
                  have U53 : wI (sA (sA T 64 (F l')) 53 (G l')) 53 = G l' := by rw [wI_sA, if_pos rfl]
                  refine rel_sh hR Twn Twl TwO (fun a k u1 u2 u3 => by rw [U a (by omega) u3, eT a (by omega)]) ?_
                  intro s' hs'
                  obtain ⟨⟨z1, z2⟩, ⟨n', z3, z4, z5⟩, z6⟩ := hsh s' hs'
                  rw [U (40 + 2 * s') (by omega) (by omega), U 51 (by omega) (by omega), U 52 (by omega) (by omega), U (41 + 2 * s') (by omega) (by omega), U53, eT (40 + 2 * s') (by omega), eT 51 (by omega), eT 52 (by omega)]
                  refine ⟨⟨z1, z2⟩, ⟨n', z3, z4, z5⟩, fun i hi => ?_⟩
                  by_cases he : s' = t
                  · subst he
                    rw [eTt]
                    show (if z ≤ i ∧ i < z + l' then wI S (41 + 2 * s) (x + (i - z)) else wI S (41 + 2 * s') i) = if 20 * s' + z ≤ 20 * s' + i ∧ 20 * s' + i < 20 * s' + z + l' then wI S 53 (20 * s + x + (20 * s' + i - (20 * s' + z))) else wI S 53 (20 * s' + i)
                    by_cases hc : z ≤ i ∧ i < z + l'
                    · rw [if_pos hc, if_pos (by omega), x6 (x + (i - z)) (by omega)]
                      congr 1
                      omega
                    · rw [if_neg hc, if_neg (by omega)]
                      exact z6 i hi
                  · rw [eT (41 + 2 * s') (by omega)]
                    show _ = if 20 * t + z ≤ 20 * s' + i ∧ 20 * s' + i < 20 * t + z + l' then _ else wI S 53 (20 * s' + i)
                    rw [if_neg (by omega)]
                    exact z6 i hi
              · refine bad (-100001) (by decide) ?_ (fun u v w => ?_)
                · unfold f_X11_copy
                  rw [b_isSheet_X11, if_pos h1, if_neg (by decide), b_isSheet_X11, if_pos h3, if_neg (by decide)]
                  simp (decide := true) only [if_true, if_false, gd_ob h65, hF, Option.bind_some, gd_pos i39, hcs, f1, gd_pos f3, ms, bd2_eq, gd_pos k39, hct, g1, gd_pos g3, mt, wd, e4, e2, e_told h65]
                · rw [hM u v w, if_neg b1, if_neg b2, if_pos b3, if_neg hx0]
                  by_cases c4 : a4 < 0
                  · rw [if_pos c4]
                  · rw [if_neg c4, if_neg hl0, if_neg hgt, if_neg]
                    rw [lg_cmp_le]
                    obtain ⟨z, hz, rfl⟩ := nat_of (i32nl.mp c4)
                    rw [sum64 hz (by omega) (by omega)]
                    have := e1 z l rfl rfl hz (by omega)
                    omega
            · refine bad (-100001) (by decide) ?_ (fun u v w => ?_)
              · unfold f_X11_copy
                rw [b_isSheet_X11, if_pos h1, if_neg (by decide), b_isSheet_X11, if_pos h3, if_neg (by decide)]
                simp (decide := true) only [if_true, if_false, gd_ob h65, hF, Option.bind_some, gd_pos i39, hcs, f1, gd_pos f3, ms, bd2_eq, gd_pos k39, hct, g1, gd_pos g3, mt, wd, e2, e_told h65]
              · rw [hM u v w, if_neg b1, if_neg b2, if_pos b3]
                by_cases c2 : a2 < 0
                · rw [if_pos c2]
                · rw [if_neg c2]
                  by_cases c4 : a4 < 0
                  · rw [if_pos c4]
                  · rw [if_neg c4]
                    by_cases c5 : a5 < 0
                    · rw [if_pos c5]
                    · rw [if_neg c5, if_pos]
                      obtain ⟨x, hx, rfl⟩ := nat_of (i32nl.mp c2)
                      obtain ⟨y, hy, rfl⟩ := nat_of (i32nl.mp c5)
                      rw [lg_cmp_gt, ← Int64.not_le, sum64 hx hy (by omega)]
                      have := e1 x y rfl rfl hx hy
                      omega
          · rw [if_neg b3] at wd
            refine bad (-100004) (by decide) ?_ (fun u v w => by rw [hM u v w, if_neg b1, if_neg b2, if_neg b3])
            unfold f_X11_copy
            rw [b_isSheet_X11, if_pos h1, if_neg (by decide), b_isSheet_X11, if_pos h3, if_neg (by decide)]
            simp (decide := true) only [if_true, if_false, gd_ob h65, hF, Option.bind_some, gd_pos i39, hcs, f1, gd_pos f3, ms, bd2_eq, gd_pos k39, hct, g1, gd_pos g3, mt, wd, e_told h65]
    · refine bad (-100001) (by decide) ?_ ?_
      · unfold f_X11_copy
        rw [b_isSheet_X11, if_pos h1, if_neg (by decide), b_isSheet_X11, if_neg h3, if_pos rfl]
        simp (decide := true) only [gd_ob h65, e_told h65, bd2_eq]
      · intro S' hI' _ _
        obtain ⟨g65, hG⟩ := id hI'
        unfold B_X12_copy_0
        rw [b_isSheet_X12, if_pos h1, if_neg (by decide), b_isSheet_X12, if_neg h3, if_pos rfl]
        simp (decide := true) only [gd_ob g65, e_finding g65, bd2_eq]
  · refine bad (-100001) (by decide) ?_ ?_
    · unfold f_X11_copy
      rw [b_isSheet_X11, if_neg h1, if_pos rfl]
      simp (decide := true) only [gd_ob h65, e_told h65, bd2_eq]
    · intro S' hI' _ _
      obtain ⟨g65, hG⟩ := id hI'
      unfold B_X12_copy_0
      rw [b_isSheet_X12, if_neg h1, if_pos rfl]
      simp (decide := true) only [gd_ob g65, e_finding g65, bd2_eq]
