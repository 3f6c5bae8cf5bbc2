/-! cannot: the loops -/
theorem cbI_zero {P : Nat → Nat → Prop} {i : Nat} : ∀ (f j : Nat) (s : Nat × Int32), (cbI P i f j s).1 = 0 → cbI P i f j s = s
  | 0, _, _, _ => rfl
  | f + 1, j, s, h => by
    unfold cbI at h ⊢
    rcases Classical.em (P i j) with hp | hp
    · rw [cbS_pos hp] at h
      have := (cbI_pos (P := P) (i := i) f (j + 1) (s.1 + 1, if s.1 = 0 then 100 * nI i + nI j else s.2) (Nat.succ_pos _)).1
      omega
    · rw [cbS_neg hp] at h ⊢
      exact cbI_zero f (j + 1) s h
def cbJ (s : Nat × Int32) : Prop := s.1 = 0 ∨ ∃ k : Nat, k < 2 ^ 20 ∧ s.2 = nI k
theorem cbI_J {P : Nat → Nat → Prop} {i : Nat} (hi : i < 100) : ∀ (f j : Nat) (s : Nat × Int32), j + f ≤ 100 → cbJ s → cbJ (cbI P i f j s)
  | 0, _, _, _, h => h
  | f + 1, j, s, hj, h => by
    unfold cbI
    refine cbI_J hi f (j + 1) _ (by omega) ?_
    rcases Classical.em (P i j) with hp | hp
    · rw [cbS_pos hp]
      refine Or.inr ?_
      by_cases h0 : s.1 = 0
      · refine ⟨100 * i + j, by omega, ?_⟩
        show (if s.1 = 0 then _ else _) = _
        rw [if_pos h0]
        show nI 100 * nI i + nI j = _
        rw [nI_mul, nI_add]
      · obtain ⟨k, k1, k2⟩ := h.resolve_left h0
        exact ⟨k, k1, (if_neg h0).trans k2⟩
    · rw [cbS_neg hp]
      exact h
theorem cbO_J {P : Nat → Nat → Prop} {n : Nat} (hn : n ≤ 100) : ∀ (f i : Nat) (s : Nat × Int32), i + f ≤ n → cbJ s → cbJ (cbO P n f i s)
  | 0, _, _, _, h => h
  | f + 1, i, s, hi, h => by
    unfold cbO
    exact cbO_J hn f (i + 1) _ (by omega) (cbI_J (by omega) _ _ _ (by omega) h)
theorem e_cmpI {S : Wd} (hI : Inv S) {n : Nat} (hn : n ≤ 30) (v : wI S 30 0 = nI n) {X Y Z : Nat → Nat} (hf : ∀ i, i < n → X i < 6 ∧ Y i < 8 ∧ Z i ≤ 4000 ∧ wI S 30 (1 + i * 3) = nI (X i) ∧ wI S 30 (1 + i * 3 + 1) = nI (Y i) ∧ wI S 30 (1 + i * 3 + 2) = nI (Z i)) {w : Nat → Int32} (hw : ∀ k, k < 64 → wI S 7 k = w k) {l : Nat} (hl : l < 6) {i : Nat} (hi : i < n) : ∀ (f j : Nat) (W : Wd) (s : Nat × Int32), j + f = n → s.1 + f < 2 ^ 31 → Ag (fun a k => a = 28 ∧ (k = 2 ∨ k = 3)) S W → wI W 28 2 = nI s.1 → wI W 28 3 = s.2 → ∃ W', ru B_X6_compare (2, [28], [nI l, nI i, nI j], W) = ru B_X6_compare (1, [28], [nI l, nI (i + 1)], W') ∧ Ag (fun a k => a = 28 ∧ (k = 2 ∨ k = 3)) S W' ∧ wI W' 28 2 = nI (cbI (cbP X Y Z w l) i f j s).1 ∧ wI W' 28 3 = (cbI (cbP X Y Z w l) i f j s).2
  | 0, j, W, s, hj, hs, hA, h2, h3 => by
    have hIW := hA.inv hI (by omega)
    obtain ⟨h65, hF⟩ := id hIW
    have v' : wI W (29 + 1) 0 = nI n := by rw [hA.arr (by omega)]; exact v
    refine ⟨W, ru_step ?_, hA, h2, h3⟩
    show B_X6_compare_2 W 28 (nI l) (nI i) (nI j) = _
    unfold B_X6_compare_2
    simp (decide := true) only [gd_ob h65, hF, Option.bind_some, e_count hIW tb29, bd2_eq]
    rw [v', if_pos (nI_le (by omega) (by omega)), nI_1]
  | f + 1, j, W, s, hj, hs, hA, h2, h3 => by
    have hIW := hA.inv hI (by omega)
    obtain ⟨h65, hF⟩ := id hIW
    have r30 : wI W 30 = wI S 30 := hA.arr (by omega)
    have r7 : wI W 7 = wI S 7 := hA.arr (by omega)
    have v' : wI W (29 + 1) 0 = nI n := by rw [r30]; exact v
    have hjn : j < n := by omega
    obtain ⟨x1, y1, z1, x2, -, -⟩ := hf i hi
    obtain ⟨x3, y3, z3, x4, -, -⟩ := hf j hjn
    have a0 := e_at hIW tb29 v' hn hi (show 0 < 3 by decide)
    have b0 := e_at hIW tb29 v' hn hjn (show 0 < 3 by decide)
    rw [show wI W (29 + 1) (1 + i * 3 + 0) = nI (X i) by rw [r30]; exact x2] at a0
    rw [show wI W (29 + 1) (1 + j * 3 + 0) = nI (X j) by rw [r30]; exact x4] at b0
    have cb := e_cannotBe hIW hn v' (X := X) (Y := Y) (Z := Z) (fun i hi => by rw [r30]; exact hf i hi) hi hjn
    rw [r7, hw _ (by omega)] at cb
    unfold cbI
    have hno : ∀ (hp : ¬ cbP X Y Z w l i j), B_X6_compare (2, [28], [nI l, nI i, nI j], W) = some (.inr (2, [28], [nI l, nI i, nI (j + 1)], W)) → ∃ W', ru B_X6_compare (2, [28], [nI l, nI i, nI j], W) = ru B_X6_compare (1, [28], [nI l, nI (i + 1)], W') ∧ Ag (fun a k => a = 28 ∧ (k = 2 ∨ k = 3)) S W' ∧ wI W' 28 2 = nI (cbI (cbP X Y Z w l) i f (j + 1) (cbS (cbP X Y Z w l) i j s)).1 ∧ wI W' 28 3 = (cbI (cbP X Y Z w l) i f (j + 1) (cbS (cbP X Y Z w l) i j s)).2 := by
      intro hp hst
      rw [cbS_neg hp]
      obtain ⟨W', w1, w2, w3, w4⟩ := e_cmpI hI hn v hf hw hl hi f (j + 1) W s (by omega) (by omega) hA h2 h3
      exact ⟨W', (ru_step hst).trans w1, w2, w3, w4⟩
    have base : B_X6_compare (2, [28], [nI l, nI i, nI j], W) = B_X6_compare_2 W 28 (nI l) (nI i) (nI j) := rfl
    have z0 : (0 : Int32) = nI 0 := rfl
    by_cases h1 : X i = l
    · by_cases hx2 : X j = l
      · by_cases hb : w (8 * Y i + Y j) ≤ mAbs (nI (Z i) - nI (Z j))
        · rw [if_pos hb] at cb
          refine hno (fun hp => hp.2.2 hb) ?_
          rw [base]
          unfold B_X6_compare_2
          simp (decide := true) only [gd_ob h65, hF, Option.bind_some, e_count hIW tb29, bd2_eq]
          rw [v', if_neg (nI_ge hjn (by omega)), z0, a0, bd2_eq, if_pos (show nI (X i) = nI l by rw [h1])]
          simp (decide := true) only [gd_ob h65, hF, Option.bind_some]
          rw [b0, bd2_eq, if_pos (show nI (X j) = nI l by rw [hx2]), gd_pos (ob_of h65 (by decide) (by decide)), cb, bd2_eq, if_pos (show (0 : Int32) = nI 0 from rfl), nI_1]
        · rw [if_neg hb] at cb
          have hp : cbP X Y Z w l i j := ⟨h1, hx2, hb⟩
          rw [cbS_pos hp]
          have hst : ∃ W1, B_X6_compare (2, [28], [nI l, nI i, nI j], W) = some (.inr (2, [28], [nI l, nI i, nI (j + 1)], W1)) ∧ Ag (fun a k => a = 28 ∧ (k = 2 ∨ k = 3)) S W1 ∧ wI W1 28 2 = nI (s.1 + 1) ∧ wI W1 28 3 = (if s.1 = 0 then 100 * nI i + nI j else s.2) := by
            have hb2 : B_X6_compare (2, [28], [nI l, nI i, nI j], W) = if nI s.1 = 0 then some (.inr (2, [28], [nI l, nI i, nI (j + 1)], sI (sI W 28 3 (100 * nI i + nI j)) 28 2 (nI (s.1 + 1)))) else some (.inr (2, [28], [nI l, nI i, nI (j + 1)], sI (sI W 28 3 s.2) 28 2 (nI (s.1 + 1)))) := by
              rw [base]
              unfold B_X6_compare_2
              simp (decide := true) only [gd_ob h65, hF, Option.bind_some, e_count hIW tb29, bd2_eq]
              rw [v', if_neg (nI_ge hjn (by omega)), z0, a0, bd2_eq, if_pos (show nI (X i) = nI l by rw [h1])]
              simp (decide := true) only [gd_ob h65, hF, Option.bind_some]
              rw [b0, bd2_eq, if_pos (show nI (X j) = nI l by rw [hx2]), gd_pos (ob_of h65 (by decide) (by decide)), cb, bd2_eq, if_neg (by decide), gd_pos (ob_of h65 (by decide) (by decide)), h2, h3, gd_pos (ob_of h65 (by decide) (by decide)), gd_pos (ob_of h65 (by decide) (by decide)), gd_pos (ob_of h65 (by decide) (by decide)), nI_1]
              have g1 : ∀ x, 65 ≤ wn (sI W 28 3 x) := fun _ => h65
              unfold ltS
              simp (decide := true) only [gd_ob (g1 _), wI_sI_ne (show ¬ ((28 : Nat) = 28 ∧ (2 : Nat) = 3) by decide), h2, nI_1]
            by_cases h0 : s.1 = 0
            · rw [if_pos (show nI s.1 = 0 by rw [h0]; rfl)] at hb2
              refine ⟨_, hb2, hA.trans ((Ag.sI ⟨rfl, Or.inr rfl⟩).trans (Ag.sI ⟨rfl, Or.inl rfl⟩)), wI_sI_eq, ?_⟩
              rw [wI_sI_ne (by decide), wI_sI_eq, if_pos h0]
            · rw [if_neg (nI_ne0 (by omega) (by omega))] at hb2
              refine ⟨_, hb2, hA.trans ((Ag.sI ⟨rfl, Or.inr rfl⟩).trans (Ag.sI ⟨rfl, Or.inl rfl⟩)), wI_sI_eq, ?_⟩
              rw [wI_sI_ne (by decide), wI_sI_eq, if_neg h0]
          obtain ⟨W1, s1, s2, s3, s4⟩ := hst
          obtain ⟨W', w1, w2, w3, w4⟩ := e_cmpI hI hn v hf hw hl hi f (j + 1) W1 (s.1 + 1, if s.1 = 0 then 100 * nI i + nI j else s.2) (by omega) (by show s.1 + 1 + f < _; omega) s2 s3 s4
          exact ⟨W', (ru_step s1).trans w1, w2, w3, w4⟩
      · refine hno (fun hp => hx2 hp.2.1) ?_
        rw [base]
        unfold B_X6_compare_2
        simp (decide := true) only [gd_ob h65, hF, Option.bind_some, e_count hIW tb29, bd2_eq]
        rw [v', if_neg (nI_ge hjn (by omega)), z0, a0, bd2_eq, if_pos (show nI (X i) = nI l by rw [h1])]
        simp (decide := true) only [gd_ob h65, hF, Option.bind_some]
        rw [b0, bd2_eq, if_neg (fun h => hx2 ((nI_eq (by omega) (by omega)).mp h)), nI_1]
    · refine hno (fun hp => h1 hp.1) ?_
      rw [base]
      unfold B_X6_compare_2
      simp (decide := true) only [gd_ob h65, hF, Option.bind_some, e_count hIW tb29, bd2_eq]
      rw [v', if_neg (nI_ge hjn (by omega)), z0, a0, bd2_eq, if_neg (fun h => h1 ((nI_eq (by omega) (by omega)).mp h)), nI_1]
theorem e_cmpO {S : Wd} (hI : Inv S) {n : Nat} (hn : n ≤ 30) (v : wI S 30 0 = nI n) {X Y Z : Nat → Nat} (hf : ∀ i, i < n → X i < 6 ∧ Y i < 8 ∧ Z i ≤ 4000 ∧ wI S 30 (1 + i * 3) = nI (X i) ∧ wI S 30 (1 + i * 3 + 1) = nI (Y i) ∧ wI S 30 (1 + i * 3 + 2) = nI (Z i)) {w : Nat → Int32} (hw : ∀ k, k < 64 → wI S 7 k = w k) {l : Nat} (hl : l < 6) : ∀ (f i : Nat) (W : Wd) (s : Nat × Int32), i + f = n → s.1 + f * n < 2 ^ 31 → Ag (fun a k => a = 28 ∧ (k = 2 ∨ k = 3)) S W → wI W 28 2 = nI s.1 → wI W 28 3 = s.2 → ∃ W', ru B_X6_compare (1, [28], [nI l, nI i], W) = some W' ∧ Ag (fun a k => a = 28 ∧ (k = 2 ∨ k = 3)) S W' ∧ wI W' 28 2 = nI (cbO (cbP X Y Z w l) n f i s).1 ∧ wI W' 28 3 = (cbO (cbP X Y Z w l) n f i s).2
  | 0, i, W, s, hi, hs, hA, h2, h3 => by
    have hIW := hA.inv hI (by omega)
    obtain ⟨h65, hF⟩ := id hIW
    have v' : wI W (29 + 1) 0 = nI n := by rw [hA.arr (by omega)]; exact v
    refine ⟨W, ru_done ?_, hA, h2, h3⟩
    show B_X6_compare_1 W 28 (nI l) (nI i) = _
    unfold B_X6_compare_1
    simp (decide := true) only [gd_ob h65, hF, Option.bind_some, e_count hIW tb29, bd2_eq]
    rw [v', if_pos (nI_le (by omega) (by omega))]
  | f + 1, i, W, s, hi, hs, hA, h2, h3 => by
    have hIW := hA.inv hI (by omega)
    obtain ⟨h65, hF⟩ := id hIW
    have v' : wI W (29 + 1) 0 = nI n := by rw [hA.arr (by omega)]; exact v
    rw [Nat.add_mul] at hs
    obtain ⟨W1, w1, w2, w3, w4⟩ := e_cmpI hI hn v hf hw hl (show i < n by omega) (n - (i + 1)) (i + 1) W s (by omega) (by omega) hA h2 h3
    have hle := cbI_le (P := cbP X Y Z w l) (i := i) (n - (i + 1)) (i + 1) s
    obtain ⟨W', x1, x2, x3, x4⟩ := e_cmpO hI hn v hf hw hl f (i + 1) W1 _ (by omega) (by omega) w2 w3 w4
    refine ⟨W', (ru_step ?_).trans (w1.trans x1), x2, x3, x4⟩
    show B_X6_compare_1 W 28 (nI l) (nI i) = _
    unfold B_X6_compare_1
    simp (decide := true) only [gd_ob h65, hF, Option.bind_some, e_count hIW tb29, bd2_eq]
    rw [v', if_neg (nI_ge (show i < n by omega) (by omega)), nI_1]
