/-! the class works the giving out: work -/
theorem fac_gv {N : Nat → Int32} {n m : Nat} (hf : Fac N n m) : gvN N m = amN m ^^^ frN N m := gv_fr hf.2.2.2.2.2.2.2
theorem e_work {S : Wd} {N : Nat → Int32} {n m : Nat} (h : RD S N n m) (hne : ¬ wI S 13 12 = wI S 1 5) : ∃ W, f_X2_work S 13 = some W ∧ WS S W N n m ∧ GOkN (wI W 13) (wI W 14) (wI W 16) N n m := by
  have hf := h.2.2.2.2
  have n6 := hf.1
  have m8 := hf.2.1
  obtain ⟨h65, hF⟩ := id h.1.1
  have hfr := fr_lt N m8
  have hgv := fac_gv hf
  -- the beginning
  have hA0 : Ag (fun a k => a = 13 ∧ (k = 11 ∨ k = 12)) S (sI (sI S 13 12 (wI S 1 5)) 13 11 0) := (Ag.sI ⟨rfl, Or.inr rfl⟩).trans (Ag.sI ⟨rfl, Or.inl rfl⟩)
  have st0 : B_X2_work (0, [13], [], S) = some (.inr (1, [13], [nI 0], sI (sI S 13 12 (wI S 1 5)) 13 11 0)) := by
    show B_X2_work_0 S 13 = _
    unfold B_X2_work_0 f_X3_changes
    simp (decide := true) only [gd_ob h65, hF, Option.bind_some, bd2_eq]
    rw [if_neg hne]
    dsimp only [ltS]
    rw [gd_pos (ob_of (show 65 ≤ wn (sI S 13 12 (wI S 1 5)) from h65) (by decide) (by decide))]
    rfl
  have hW0 : WS S (sI (sI S 13 12 (wI S 1 5)) 13 11 0) N n m := ⟨rd_ag h hA0 (by omega), hA0.mono (by omega), Or.inl (by rw [wI_sI_ne (by decide), wI_sI_ne (by decide)]), by rw [wI_sI_ne (by decide), wI_sI_eq]⟩
  -- the free loads
  have free : ∀ k, k ≤ m → ∃ V, ru B_X2_work (0, [13], [], S) = ru B_X2_work (1, [13], [nI k], V) ∧ WS S V N n m ∧ wI V 13 11 = nI (frN N k) := by
    intro k
    induction k with
    | zero => exact fun _ => ⟨_, ru_step st0, hW0, wI_sI_eq⟩
    | succ k ih =>
      intro hk
      obtain ⟨V, v1, v2, v3⟩ := ih (by omega)
      obtain ⟨p65, hP⟩ := id v2.1.1.1
      obtain ⟨c9, c11⟩ := rd_cnt v2.1
      obtain ⟨m', m8', mu, mv, ml⟩ := v2.1.2.2.2.1
      have em : m' = m := (nI_eq (by omega) (by omega)).mp (mu.symm.trans hf.2.2.2.1)
      subst em
      have hat := e_at v2.1.1.1 tb10 (show wI V (10 + 1) 0 = nI m' from c11) m8 (show k < m' by omega) (show 10 < 11 by decide)
      rw [show wI V (10 + 1) (1 + k * 11 + 10) = N (112 + 11 * k + 10) from (ml k (by omega)).2.1] at hat
      have hcnt : f_X8_count V 10 = some (nI m', V) := by rw [e_count v2.1.1.1 tb10, c11]
      have hbit : f_X2_bitOf V (nI k) = some (nI (2 ^ k), V) := e_bitOf V (o := some k) (show k < 8 by omega)
      have st : B_X2_work (1, [13], [nI k], V) = if N (112 + 11 * k + 10) = -1 then some (.inr (1, [13], [nI (k + 1)], sI V 13 11 (nI (frN N k ||| 2 ^ k)))) else some (.inr (1, [13], [nI (k + 1)], V)) := by
        show B_X2_work_1 V 13 (nI k) = _
        unfold B_X2_work_1
        simp (decide := true) only [gd_ob p65, hP, Option.bind_some, hcnt, bd2_eq]
        rw [if_neg (nI_ge (by omega) (by omega)), show f_X8_at V 10 (nI k) 10 = _ from hat, bd2_eq, hbit, bd2_eq, v3, nI_or, nI_1]
        simp (decide := true) only [gd_ob p65]
        rfl
      have hfk : frN N (k + 1) = if N (112 + 11 * k + 10) = -1 then frN N k ||| 2 ^ k else frN N k := rfl
      by_cases hc : N (112 + 11 * k + 10) = -1
      · rw [if_pos hc] at st hfk
        exact ⟨_, v1.trans (ru_step st), ws_g v2 (Ag.sI ⟨by omega, by omega⟩), by rw [wI_sI_eq, hfk]⟩
      · rw [if_neg hc] at st hfk
        exact ⟨V, v1.trans (ru_step st), v2, by rw [v3, hfk]⟩
  obtain ⟨V1, a1, a2, a3⟩ := free m (Nat.le_refl _)
  have st1 : B_X2_work (1, [13], [nI m], V1) = some (.inr (2, [13], [nI n, nI 0], V1)) := by
    obtain ⟨p65, hP⟩ := id a2.1.1.1
    obtain ⟨c9, c11⟩ := rd_cnt a2.1
    have hcnt : f_X8_count V1 10 = some (nI m, V1) := by rw [e_count a2.1.1.1 tb10, c11]
    have hcnt2 : f_X8_count V1 8 = some (nI n, V1) := by rw [e_count a2.1.1.1 tb8, c9]
    show B_X2_work_1 V1 13 (nI m) = _
    unfold B_X2_work_1
    simp (decide := true) only [gd_ob p65, hP, Option.bind_some, hcnt, hcnt2, bd2_eq]
    rw [if_pos (Int32.le_refl _), show mMin (nI n) 6 = nI (min n 6) from mMin_nI (b := 6) (by omega) (by decide), Nat.min_eq_left n6]
    rfl
  -- the last level
  have zero : ∀ s, s ≤ 256 → ∃ V, ru B_X2_work (2, [13], [nI n, nI 0], V1) = ru B_X2_work (2, [13], [nI n, nI s], V) ∧ WS S V N n m ∧ wI V 13 11 = nI (frN N m) ∧ ∀ s', s' < s → wI V 14 (256 * n + s') = 0 := by
    intro s
    induction s with
    | zero => exact fun _ => ⟨V1, rfl, a2, a3, fun s' hs' => by omega⟩
    | succ s ih =>
      intro hs
      obtain ⟨V, v1, v2, v3, v4⟩ := ih (by omega)
      obtain ⟨p65, hP⟩ := id v2.1.1.1
      refine ⟨sI V 14 (256 * n + s) 0, v1.trans (ru_step ?_), ws_g v2 (Ag.sI ⟨by omega, by omega⟩), (wI_sI_ne (by omega)).trans v3, fun s' hs' => ?_⟩
      · show B_X2_work_2 V 13 (nI n) (nI s) = _
        unfold B_X2_work_2
        rw [if_neg (show ¬ (256 : Int32) ≤ nI s from nI_ge (b := 256) (by omega) (by decide))]
        simp (decide := true) only [gd_ob p65, hP, Option.bind_some]
        rw [show nI n * 256 + nI s = nI (256 * n + s) by show nI n * nI 256 + nI s = _; rw [nI_mul, nI_add, Nat.mul_comm], gd_pos (ix_of p65 (by decide) (by decide) (show 256 * n + s < 1792 by omega)), nI_clamp (by omega), nI_1]
        rfl
      · by_cases he : s' = s
        · rw [he, wI_sI_eq]
        · rw [wI_sI_ne (by omega)]
          exact v4 s' (by omega)
  obtain ⟨V2, b1, b2, b3, b4⟩ := zero 256 (Nat.le_refl _)
  have hT0 : CT N n m (frN N m) V2 n := fun l' h1 h2 s hs _ _ => by
    rw [show l' = n by omega, Nat.sub_self]
    exact ⟨b4 s hs, fun hh => absurd hh (Nat.lt_irrefl _)⟩
  -- lorry by lorry
  have down : ∀ j, j ≤ n → ∃ V, ru B_X2_work (3, [13], [nI n, nI n - 1], V2) = ru B_X2_work (3, [13], [nI n, nI (n - j) - 1], V) ∧ WS S V N n m ∧ wI V 13 11 = nI (frN N m) ∧ CT N n m (frN N m) V (n - j) := by
    intro j
    induction j with
    | zero => exact fun _ => ⟨V2, rfl, b2, b3, hT0⟩
    | succ j ih =>
      intro hj
      obtain ⟨V, v1, v2, v3, v4⟩ := ih (by omega)
      have e1 : n - j = (n - (j + 1)) + 1 := by omega
      rw [e1] at v4
      have hl : n - (j + 1) < n := by omega
      obtain ⟨T, t1, t2, t3⟩ := e_gatherRows v2.1 hfr v3 hl
      have hWT := ws_s v2 t2
      have t11 : wI T 13 11 = nI (frN N m) := (t2.2.1.2.2.2 13 11 (by omega)).trans v3
      have tT : CT N n m (frN N m) T ((n - (j + 1)) + 1) := fun l' h1 h2 s x1 x2 x3 => by
        rw [t2.2.1.arr (a := 14) (by omega), t2.2.1.arr (a := 15) (by omega)]
        exact v4 l' h1 h2 s x1 x2 x3
      obtain ⟨U, u1, u2, u3, u4⟩ := e_sets m8 hl hWT t11 t3 tT
      refine ⟨U, v1.trans ((ru_step ?_).trans u1), u2, u3, u4⟩
      show B_X2_work_3 V 13 (nI n) (nI (n - j) - 1) = _
      unfold B_X2_work_3
      rw [e1, nI_pred, if_neg (nI_pos (by omega)), gd_pos (ob_of v2.1.1.1.1 (by decide) (by decide)), t1, Option.bind_some, show (2 : Int32) * nI (n - (j + 1)) + 1 = nI (2 * (n - (j + 1)) + 1) by show nI 2 * nI (n - (j + 1)) + nI 1 = _; rw [nI_mul, nI_add]]
      rfl
  obtain ⟨V3, c1, c2, c3, c4⟩ := down n (Nat.le_refl _)
  rw [Nat.sub_self] at c1 c4
  obtain ⟨W, w1, w2, w3⟩ := e_handOut c2.1.1.1 hf c3 c4 hgv
  have hWW : WS S W N n m := ws_g c2 (w2.mono (by omega))
  have rd14 : ∀ s, s < 256 → sub s (frN N m) → cardN (dfN (frN N m) s) ≤ 1 → wI W 14 s = zI (bsZ N n m n (amN m ^^^ s)) := fun s x1 x2 x3 => by
    have := (c4 0 (Nat.le_refl _) (Nat.zero_le _) s x1 x2 (by omega)).1
    rw [show 256 * 0 + s = s by omega, show n - 0 = n by omega] at this
    rw [w2.arr (a := 14) (by omega)]
    exact this
  refine ⟨W, ?_, hWW, (w2.2.2.2 13 11 (by omega)).trans c3, ?_, fun d hd => ?_, w3⟩
  · unfold f_X2_work
    refine a1.trans ((ru_step st1).trans (b1.trans ((ru_step (show B_X2_work (2, [13], [nI n, nI 256], V2) = some (.inr (3, [13], [nI n, nI n - 1], V2)) from ?_)).trans (c1.trans (ru_done ?_)))))
    · show B_X2_work_2 V2 13 (nI n) (nI 256) = _
      unfold B_X2_work_2
      rw [if_pos (by decide)]
    · show B_X2_work_3 V3 13 (nI n) (nI 0 - 1) = _
      unfold B_X2_work_3
      rw [if_pos (by decide), gd_pos (ob_of c2.1.1.1.1 (by decide) (by decide)), w1, Option.bind_some]
  · rw [hgv]
    refine rd14 _ hfr (fun _ hi => hi) ?_
    rw [(df_zero hfr).mpr (fun _ hi => hi)]
    decide
  · rw [gv_pw m8 hd hgv]
    have cp : cardN (2 ^ d) ≤ 1 := by
      have hall : ∀ i : Fin 8, cardN (2 ^ i.val) ≤ 1 := by decide +kernel
      exact hall ⟨d, by omega⟩
    have cd := card_df (fr := frN N m) (s := frN N m) (t := 2 ^ d) hfr hfr
    rw [(df_zero hfr).mpr (fun _ hi => hi), show cardN 0 = 0 from by decide] at cd
    exact rd14 _ (dfN_lt hfr) (sub_df hfr (fun _ hi => hi)) (by omega)
theorem rel_give {j : Nat} {S W : Wd} {n m : Nat} (hR : Rel j S) (hW : WS S W (wI S 49) n m) (hg : GOkN (wI W 13) (wI W 14) (wI W 16) (wI S 49) n m) : Rel j W := by
  obtain ⟨hRD, hA, h53, h12⟩ := hW
  obtain ⟨h1, h2, h3, ⟨c, x1, x2, x3, x4⟩, h5, h6⟩ := hR
  have ne : ∀ a k, ¬ DK a k → wI W a k = wI S a k := fun a k q => hA.2.2.2 a k q
  have hp : pv W = pv S := pv_congr fun a k hp => ne a k (by
    rintro (⟨rfl, -⟩ | rfl | ⟨rfl, rfl⟩ | ⟨q1, q2⟩)
    · exact absurd hp (by show ¬ pers 12 k = true; exact fun e => by cases e)
    · cases hp
    · cases hp
    · rcases (show a = 13 ∨ a = 14 ∨ a = 15 ∨ a = 16 ∨ a = 17 ∨ a = 18 ∨ a = 19 by omega) with rfl | rfl | rfl | rfl | rfl | rfl | rfl <;> cases hp)
  have e49 : kv W 49 = wI S 49 := funext fun k => (kv_of rfl).trans (ne 49 k (by omega))
  have n6 := hRD.2.2.2.2.1
  have m8 := hRD.2.2.2.2.2.1
  refine ⟨hRD.1.1, ?_, ?_, ⟨c, x1, ?_, ?_, ?_⟩, fun q i hi => ?_, fun _ => ?_⟩
  · rw [hp, hA.1, hA.2.1, hA.2.2.1]; exact h2
  · rw [ne 0 12 (by omega), ne 48 3 (by omega)]; exact h3
  · rw [ne 1 5 (by omega)]; exact x2
  · rcases h53 with q | q
    · rw [q]; exact x3
    · exact Or.inr ⟨c, Nat.le_refl _, q.trans x2⟩
  · exact Or.inr ⟨c, Nat.le_refl _, h12.trans x2⟩
  · have := hRD.1.2.2 q i hi
    rw [hRD.2.1] at this
    rw [kv_of rfl, this, e49]
  · unfold GOk GOk5
    rw [e49, hRD.2.2.2.2.2.2.1, hRD.2.2.2.2.2.2.2.1, nI_clamp (by omega), nI_clamp (by omega)]
    rw [show kv W 13 = wI W 13 from funext fun k => kv_of rfl, show kv W 14 = wI W 14 from funext fun k => kv_of rfl, show kv W 16 = wI W 16 from funext fun k => kv_of rfl]
    exact hg
/-- the class's giving, worked out or kept -/
theorem rel_work {j : Nat} {S : Wd} (hR : Rel j S) {n m : Nat} (hRD : RD S (wI S 49) n m) : ∃ W, f_X2_work S 13 = some W ∧ Ag DK S W ∧ Rel j W ∧ RD W (wI S 49) n m ∧ GOkN (wI W 13) (wI W 14) (wI W 16) (wI S 49) n m := by
  by_cases hc : wI S 13 12 = wI S 1 5
  · obtain ⟨h65, hF⟩ := id hR.1
    have n6 := hRD.2.2.2.2.1
    have m8 := hRD.2.2.2.2.2.1
    have hg := hR.2.2.2.2.2 hc
    unfold GOk GOk5 at hg
    rw [show kv S 49 = wI S 49 from funext fun k => kv_of rfl, hRD.2.2.2.2.2.2.1, hRD.2.2.2.2.2.2.2.1, nI_clamp (by omega), nI_clamp (by omega)] at hg
    rw [show kv S 13 = wI S 13 from funext fun k => kv_of rfl, show kv S 14 = wI S 14 from funext fun k => kv_of rfl, show kv S 16 = wI S 16 from funext fun k => kv_of rfl] at hg
    refine ⟨S, ru_done ?_, Ag.rf, hR, hRD, hg⟩
    show B_X2_work_0 S 13 = _
    unfold B_X2_work_0 f_X3_changes
    simp (decide := true) only [gd_ob h65, hF, Option.bind_some, bd2_eq]
    rw [if_pos hc]
  · obtain ⟨W, w1, w2, w3⟩ := e_work hRD hc
    exact ⟨W, w1, w2.2.1, rel_give hR w2 w3, w2.1, w3⟩
