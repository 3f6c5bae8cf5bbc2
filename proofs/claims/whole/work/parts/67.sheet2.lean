/-! sheet -/
def begS (S : Wd) (s : Nat) (b : Int32) (m : Nat) : Wd := sA (sI (sI S (40 + 2 * s) 1 b) (40 + 2 * s) 2 (nI m)) (41 + 2 * s) (fun i => if i < 20 then 0 else wI S (41 + 2 * s) i)
theorem e_begin {S : Wd} (hI : Inv S) {s m : Nat} (hs : s < 4) (hm : m ≤ 20) (b : Int32) : f_X7_begin S (40 + 2 * s) b (nI m) = some (begS S s b m) := by
  obtain ⟨f1, f2, f3, f4, f5, f6⟩ := sh_facts hI hs
  unfold f_X7_begin
  have o1 : ob (sI S (40 + 2 * s) 1 b) (40 + 2 * s) 7 := f3
  have o2 : ∀ v, ob (sI (sI S (40 + 2 * s) 1 b) (40 + 2 * s) 2 v) (40 + 2 * s) 7 := fun _ => f3
  have o3 : ∀ v, ob (sI (sI S (40 + 2 * s) 1 b) (40 + 2 * s) 2 v) (41 + 2 * s) 100 := fun _ => f4
  rw [gd_pos f3]
  show gd (ob (sI S (40 + 2 * s) 1 b) (40 + 2 * s) 7) _ = _
  rw [gd_pos o1, show mMin (mMax (nI m) 0) 20 = nI m by
    rw [show (0 : Int32) = nI 0 from rfl, show (20 : Int32) = nI 20 from rfl, mMax_nI (by omega) (by decide), mMin_nI (by omega) (by decide)]
    congr 1
    omega]
  show gd (ob (sI (sI S (40 + 2 * s) 1 b) (40 + 2 * s) 2 (nI m)) (40 + 2 * s) 7) _ = _
  rw [gd_pos (o2 _), wO_sI, wO_sI, f2, Option.bind_some, e_fill (o3 _) (by show wlen S _ < _; rw [f6]; decide)]
  show some _ = some _
  unfold begS
  rw [show wlen (sI (sI S (40 + 2 * s) 1 b) (40 + 2 * s) 2 (nI m)) (41 + 2 * s) = 20 from f6, wI_sI' _ _ _ _ _ (by omega), wI_sI' _ _ _ _ _ (by omega)]
theorem sim_sheet {j : Nat} {S : Wd} (hR : Rel j S) (hj : j < 512) (a1 a2 a3 : Int32) : ∃ r S1 S2, f_X11_sheet S 0 a1 a2 a3 = some (r, S1) ∧ 48 < wn S1 ∧ f_X12_sheet S1 48 a1 a2 a3 = some (r, S2) ∧ Rel (j + 1) S2 := by
  have hI := hR.1
  obtain ⟨h65, hF⟩ := id hI
  have hsh := rel_shR hR
  have bad : ∀ (x : Int32), x < -99999 → f_X11_sheet S 0 a1 a2 a3 = some (x, tl S x) → (∀ {S' : Wd}, Inv S' → B_X12_sheet_0 S' 48 a1 a2 a3 = some (.inl (x, fl S'))) → ∃ r S1 S2, f_X11_sheet S 0 a1 a2 a3 = some (r, S1) ∧ 48 < wn S1 ∧ f_X12_sheet S1 48 a1 a2 a3 = some (r, S2) ∧ Rel (j + 1) S2 := fun x hx h1 h2 => ⟨x, _, _, h1, tl_w48 hR, ru_done (h2 hI.tl), rel_fin hR hx⟩
  by_cases h1 : 0 ≤ a1 ∧ a1 ≤ 3
  · obtain ⟨s, hs, rfl⟩ := nat_le (n := 3) h1.1 h1.2 (by decide)
    have hs4 : s < 4 := by omega
    have hcl : (nI s).toNatClampNeg = s := nI_clamp (by omega)
    obtain ⟨f1, f2, f3, f4, f5, f6⟩ := sh_facts hI hs4
    have i39 : ix S 39 102 (nI s) := ix_of h65 (by decide) (by decide) hs4
    by_cases hb : a2 = 0 ∨ a2 = 8 ∨ a2 = 16 ∨ a2 = 32
    · have hC : f_X11_sheet S 0 (nI s) a2 a3 = if 0 ≤ a3 then (if a3 ≤ 20 then Option.bind (f_X7_begin S (40 + 2 * s) a2 (if a2 = 0 then 0 else a3)) (fun S' => some (if a2 = 0 then 0 else a3, S')) else some (-100001, tl S (-100001))) else some (-100003, tl S (-100003)) := by
        unfold f_X11_sheet
        rw [b_isSheet_X11, if_pos h1, if_neg (by decide)]
        rcases hb with rfl | rfl | rfl | rfl <;> simp (decide := true) only [if_true, if_false, gd_ob h65, hF, Option.bind_some, gd_pos i39, hcl, f1, gd_pos f3, e_told h65, bd2_eq]
      have hM : ∀ {S' : Wd}, Inv S' → B_X12_sheet_0 S' 48 (nI s) a2 a3 = if 0 ≤ a3 then (if a3 ≤ 20 then some (.inr (1, [48], [nI s, a2, a3, 0], sI (sI S' 51 s a2) 52 s (if a2 = 0 then 0 else a3))) else some (.inl (-100001, fl S'))) else some (.inl (-100003, fl S')) := by
        intro S' hI'
        obtain ⟨g65, hG⟩ := id hI'
        have i51 : ix S' 51 100 (nI s) := ix_of g65 (by decide) (by decide) hs4
        have i52 : ∀ v, ix (sI S' 51 s v) 52 100 (nI s) := fun _ => ix_of (by exact g65) (by decide) (by decide) hs4
        have o48 : ∀ v, ob (sI S' 51 s v) 48 12 := fun _ => ob_of g65 (by decide) (by decide)
        unfold B_X12_sheet_0
        rw [b_isSheet_X12, if_pos h1, if_neg (by decide)]
        rcases hb with rfl | rfl | rfl | rfl <;> simp (decide := true) only [if_true, if_false, gd_ob g65, hG, Option.bind_some, gd_pos i51, hcl, ltS, gd_pos (o48 _), wO_sI, gd_pos (i52 _), e_finding g65, bd2_eq]
      by_cases c1 : 0 ≤ a3
      · by_cases c2 : a3 ≤ 20
        · obtain ⟨n, hn, rfl⟩ := nat_le (n := 20) c1 c2 (by decide)
          obtain ⟨m, hm, em⟩ : ∃ m : Nat, m ≤ 20 ∧ (if a2 = 0 then 0 else nI n) = nI m := by
            by_cases h : a2 = 0
            · exact ⟨0, by decide, if_pos h⟩
            · exact ⟨n, hn, if_neg h⟩
          rw [em] at hC hM
          rw [if_pos c1, if_pos c2, e_begin hI hs4 hm] at hC
          have hI1 : Inv (begS S s a2 m) := hI.of (Nat.le_refl _) (fun _ _ _ _ _ => rfl) (fun i k hi hk => by unfold begS; rw [wI_sA, if_neg (by omega), wI_sI_ne (by omega), wI_sI_ne (by omega)])
          generalize hB : begS S s a2 m = B at hC hI1
          have hT : Inv (sI (sI B 51 s a2) 52 s (nI m)) := hI1.of (Nat.le_refl _) (fun _ _ _ _ _ => rfl) (fun i k hi hk => by rw [wI_sI_ne (by omega), wI_sI_ne (by omega)])
          have hM0 := hM hI1
          rw [if_pos c1, if_pos c2] at hM0
          have T52 : wI (sI (sI B 51 s a2) 52 s (nI m)) 52 s = nI m := wI_sI_eq
          have T51 : wI (sI (sI B 51 s a2) 52 s (nI m)) 51 s = a2 := (wI_sI_ne (by omega)).trans wI_sI_eq
          have Tot : ∀ a k, ¬ (a = 51 ∧ k = s) → ¬ (a = 52 ∧ k = s) → wI (sI (sI B 51 s a2) 52 s (nI m)) a k = wI B a k := fun a k x1 x2 => by rw [wI_sI_ne x2, wI_sI_ne x1]
          have Twn : wn (sI (sI B 51 s a2) 52 s (nI m)) = wn S := by rw [← hB]; rfl
          have Twl : wl (sI (sI B 51 s a2) 52 s (nI m)) = wl S := by rw [← hB]; rfl
          have TwO : wO (sI (sI B 51 s a2) 52 s (nI m)) = wO S := by rw [← hB]; rfl
          generalize sI (sI B 51 s a2) 52 s (nI m) = T at hM0 hT T52 T51 Tot Twn Twl TwO
          obtain ⟨T65, hTF⟩ := id hT
          have s0 : B_X12_sheet (0, [48], [nI s, a2, nI n], B) = some (.inr (1, [48], [nI s, a2, nI n, nI 0], sA T 53 (fun i => if 20 * s ≤ i ∧ i < 20 * s + 0 then 0 else wI T 53 i))) := by
            show B_X12_sheet_0 B 48 (nI s) a2 (nI n) = _
            rw [hM0, show (fun i => if 20 * s ≤ i ∧ i < 20 * s + 0 then 0 else wI T 53 i) = wI T 53 from funext fun i => if_neg (by omega), sA_self]
            rfl
          have s1 : ∀ k, k < 20 → B_X12_sheet (1, [48], [nI s, a2, nI n, nI k], sA T 53 (fun i => if 20 * s ≤ i ∧ i < 20 * s + k then 0 else wI T 53 i)) = some (.inr (1, [48], [nI s, a2, nI n, nI (k + 1)], sA T 53 (fun i => if 20 * s ≤ i ∧ i < 20 * s + (k + 1) then 0 else wI T 53 i))) := by
            intro k hk
            show B_X12_sheet_1 _ 48 (nI s) a2 (nI n) (nI k) = _
            unfold B_X12_sheet_1
            rw [if_neg (show ¬ (20 : Int32) ≤ nI k from nI_ge (b := 20) hk (by decide))]
            simp (decide := true) only [gd_ob (show 65 ≤ wn (sA T 53 _) from T65), wO_sA, hTF, Option.bind_some]
            rw [show (20 : Int32) * nI s + nI k = nI (20 * s + k) by show nI 20 * nI s + nI k = _; rw [nI_mul, nI_add], gd_pos (ix_of (by exact T65) (by decide) (by decide) (show _ < 80 by omega)), nI_clamp (by omega), nI_1, sI_sA]
            show some _ = _
            congr 6
            funext i
            unfold upd
            by_cases hi : i = 20 * s + k
            · rw [if_pos hi, if_pos (by omega)]
            · rw [if_neg hi]
              dsimp only
              by_cases h : 20 * s ≤ i ∧ i < 20 * s + k
              · rw [if_pos h, if_pos (by omega)]
              · rw [if_neg h, if_neg (by omega)]
          refine ⟨nI m, B, sA T 53 (fun i => if 20 * s ≤ i ∧ i < 20 * s + 20 then 0 else wI T 53 i), hC, by rw [← hB]; show 48 < wn S; omega, ?_, ?_⟩
          · unfold f_X12_sheet
            refine (ru_step s0).trans ((ru_for (fun k => (1, [48], [nI s, a2, nI n, nI k], sA T 53 (fun i => if 20 * s ≤ i ∧ i < 20 * s + k then 0 else wI T 53 i))) 20 s1).trans (ru_done ?_))
            show B_X12_sheet_1 _ 48 (nI s) a2 (nI n) (nI 20) = _
            unfold B_X12_sheet_1
            rw [if_pos (by decide)]
            simp (decide := true) only [gd_ob (show 65 ≤ wn (sA T 53 _) from T65), wO_sA, hTF, Option.bind_some, gd_pos (show ix (sA T 53 _) 52 100 (nI s) from ix_of (by exact T65) (by decide) (by decide) hs4), hcl, wI_sA, if_false, T52]
          · have eB : ∀ a k, ¬ (a = 40 + 2 * s ∧ (k = 1 ∨ k = 2)) → ¬ (a = 41 + 2 * s ∧ k < 20) → wI B a k = wI S a k := by
              intro a k x1 x2
              rw [← hB]
              unfold begS
              rw [wI_sA]
              by_cases h : a = 41 + 2 * s
              · rw [if_pos h, if_neg (fun h' => x2 ⟨h, h'⟩), h]
              · rw [if_neg h, wI_sI_ne (by omega), wI_sI_ne (by omega)]
            have b1 : wI B (40 + 2 * s) 1 = a2 := by rw [← hB]; unfold begS; rw [wI_sA, if_neg (by omega), wI_sI_ne (by omega), wI_sI_eq]
            have b2 : wI B (40 + 2 * s) 2 = nI m := by rw [← hB]; unfold begS; rw [wI_sA, if_neg (by omega), wI_sI_eq]
            have b3 : ∀ i, i < 20 → wI B (41 + 2 * s) i = 0 := fun i hi => by rw [← hB]; unfold begS; rw [wI_sA, if_pos rfl, if_pos hi]
            refine rel_sh hR Twn Twl TwO (fun a k y1 y2 y3 => by rw [wI_sA, if_neg (by omega), Tot a k (by omega) (by omega), eB a k (by omega) (by omega)]) ?_
            intro s' hs'
            obtain ⟨⟨z1, z2⟩, ⟨n', z3, z4, z5⟩, z6⟩ := hsh s' hs'
            rw [wI_sA, wI_sA, wI_sA, wI_sA, wI_sA, if_neg (by omega), if_neg (by omega), if_neg (by omega), if_neg (by omega), if_pos rfl]
            by_cases he : s' = s
            · subst he
              refine ⟨?_, ⟨m, hm, ?_, T52⟩, fun i hi => ?_⟩
              · rw [T51, Tot _ _ (by omega) (by omega), b1]
                exact ⟨rfl, hb⟩
              · rw [Tot _ _ (by omega) (by omega), b2]
              · rw [if_pos (by omega), Tot _ _ (by omega) (by omega), b3 i hi]
            · refine ⟨?_, ⟨n', z3, ?_, ?_⟩, fun i hi => ?_⟩
              · rw [Tot _ _ (by omega) (by omega), Tot _ _ (by omega) (by omega), eB _ _ (by omega) (by omega), eB _ _ (by omega) (by omega)]
                exact ⟨z1, z2⟩
              · rw [Tot _ _ (by omega) (by omega), eB _ _ (by omega) (by omega)]; exact z4
              · rw [Tot _ _ (by omega) (by omega), eB _ _ (by omega) (by omega)]; exact z5
              · rw [if_neg (by omega), Tot _ _ (by omega) (by omega), Tot _ _ (by omega) (by omega), eB _ _ (by omega) (by omega), eB _ _ (by omega) (by omega)]
                exact z6 i hi
        · exact bad (-100001) (by decide) (by rw [hC, if_pos c1, if_neg c2]) (fun h => by rw [hM h, if_pos c1, if_neg c2])
      · exact bad (-100003) (by decide) (by rw [hC, if_neg c1]) (fun h => by rw [hM h, if_neg c1])
    · have b0 : ¬ a2 = 0 := fun h => hb (Or.inl h)
      have b8 : ¬ a2 = 8 := fun h => hb (Or.inr (Or.inl h))
      have b16 : ¬ a2 = 16 := fun h => hb (Or.inr (Or.inr (Or.inl h)))
      have b32 : ¬ a2 = 32 := fun h => hb (Or.inr (Or.inr (Or.inr h)))
      refine bad (-100001) (by decide) ?_ ?_
      · unfold f_X11_sheet
        rw [b_isSheet_X11, if_pos h1, if_neg (by decide), if_neg b0, if_neg b8, if_neg b16, if_neg b32, if_pos rfl]
        simp (decide := true) only [gd_ob h65, e_told h65, bd2_eq]
      · intro S' hI'
        obtain ⟨g65, hG⟩ := id hI'
        unfold B_X12_sheet_0
        rw [b_isSheet_X12, if_pos h1, if_neg (by decide), if_neg b0, if_neg b8, if_neg b16, if_neg b32]
        simp (decide := true) only [gd_ob g65, e_finding g65, bd2_eq]
  · refine bad (-100001) (by decide) ?_ ?_
    · unfold f_X11_sheet
      rw [b_isSheet_X11, if_neg h1, if_pos rfl, if_pos rfl]
      simp (decide := true) only [gd_ob h65, e_told h65, bd2_eq]
    · intro S' hI'
      obtain ⟨g65, hG⟩ := id hI'
      unfold B_X12_sheet_0
      rw [b_isSheet_X12, if_neg h1, if_pos rfl]
      simp (decide := true) only [gd_ob g65, e_finding g65, bd2_eq]
