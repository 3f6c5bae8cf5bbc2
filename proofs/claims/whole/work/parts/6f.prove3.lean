/-! sim_proves -/
theorem e_proLoop {j : Nat} {N : Nat → Int32} {n m s : Nat} (hs : s < 4) {Z : Nat → Int32} : ∀ (f l left : Nat) (sum : Int) (W : Wd), l + f = n → Rel j W → RD W N n m → GOkN (wI W 13) (wI W 14) (wI W 16) N n m → wI W (40 + 2 * s) 2 = nI n → (∀ i, i < n → wI W (41 + 2 * s) i = Z i) → left < 256 → sub left (frN N m) → -(20000 * (l : Int)) ≤ sum ∧ sum ≤ 20000 * (l : Int) → ∃ r W', ru B_X2_firstDoubt (1, [13, 40 + 2 * s], [nI left, zI sum, nI l], W) = some (r, W') ∧ Rel j W' ∧ wI W' 49 = N ∧ (∀ a, 13 ≤ a → wI W' a = wI W a) ∧ ∀ {V : Wd}, Inv V → wI V 49 = N → FR N n m V (81 * n) → (∀ i, i < n → wI V 53 (20 * s + i) = Z i) → ∃ V', ru B_X12_proves (1, [48], [nI s, nI n, nI (amN m ^^^ left), zI sum, nI l], V) = some (r, V') ∧ Ag D58 V V'
  | 0, l, left, sum, W, hl, hR, h, hg, h20, hZ, hlt, hlf, hsum => by
    have hln : l = n := by omega
    subst hln
    have hf := h.2.2.2.2
    have n6 := hf.1
    have m8 := hf.2.1
    obtain ⟨h65, hF⟩ := id hR.1
    have hcnt : f_X8_count W 8 = some (nI l, W) := by rw [e_count hR.1 tb8, (rd_cnt h).1]
    have o1 : wO W 13 1 = some 8 := by simp only [hF]
    have hb := bz_b hf (k := l) (g := gvN N m) (Nat.le_refl _)
    refine ⟨if sum = bsZ N l m l (gvN N m) then -1 else nI l, W, ru_done ?_, hR, h.2.1, fun _ _ => rfl, ?_⟩
    · show B_X2_firstDoubt_1 W 13 (40 + 2 * s) (nI left) (zI sum) (nI l) = _
      unfold B_X2_firstDoubt_1
      rw [gd_pos (ob_of h65 (by decide) (by decide)), o1, Option.bind_some, gd_pos (ob_of h65 (by decide) (by decide)), hcnt, bd2_eq, if_pos (Int32.le_refl _), gd_pos (ob_of h65 (by decide) (by decide)), e_value hR.1 hf hg, bd2_eq]
      by_cases he : sum = bsZ N l m l (gvN N m)
      · rw [if_pos (show zI sum = zI _ by rw [he]), if_pos he]
      · rw [if_neg (fun q => he ((zI_eq (by omega) hb).mp q)), if_neg he, gd_pos (ob_of h65 (by decide) (by decide)), o1, Option.bind_some, gd_pos (ob_of h65 (by decide) (by decide)), hcnt, bd2_eq]
    · intro V hV e hFR hZV
      obtain ⟨V', x1, x2, -⟩ := e_findGiving hV e hf hFR (gv_lt N m8)
      refine ⟨V', ru_done ?_, x2⟩
      show B_X12_proves_1 V 48 (nI s) (nI l) _ (zI sum) (nI l) = _
      unfold B_X12_proves_1
      rw [if_pos (Int32.le_refl _), gd_pos (ob_of hV.1 (by decide) (by decide)), e_given hV e hf, bd2_eq, gd_pos (ob_of hV.1 (by decide) (by decide)), x1, bd2_eq]
      by_cases he : sum = bsZ N l m l (gvN N m)
      · rw [if_pos (show zI sum = zI _ by rw [he]), if_pos he]
      · rw [if_neg (fun q => he ((zI_eq (by omega) hb).mp q)), if_neg he]
  | f + 1, l, left, sum, W, hl, hR, h, hg, h20, hZ, hlt, hlf, hsum => by
    have hf := h.2.2.2.2
    have m8 := hf.2.1
    have hl' : l < n := by omega
    have hfa := fr_sub N m
    have hla : sub left (amN m) := fun i hi => hfa i (hlf i hi)
    have hg256 : amN m ^^^ left < 256 := xor_lt (am_lt m8) hlt
    obtain ⟨d1, d2⟩ := e_douStep (sum := sum) hR h hl' hg.1 hs h20 (hZ l hl') hlt hlf
    by_cases hex : ∃ r, gdR N m l (amN m ^^^ left) (Z l) r
    · obtain ⟨r, hr⟩ := hex
      obtain ⟨W', w1, w2, w3, w4⟩ := d1 r hr
      have hsl := (gd_of m8 hlt hlf hfa hr).2.2
      have vb := vl_b hf (l := l) (r := r) hl'
      have q : ∀ a, 13 ≤ a → wI W' a = wI W a := fun a ha => w4.arr (by omega)
      obtain ⟨x, W2, y1, y2, y3, y5, y4⟩ := e_proLoop hs (Z := Z) f (l + 1) (dfN left (stN r)) (sum + vlZ N m l r) W' (by omega) w2 w3 (by rw [q 13 (by omega), q 14 (by omega), q 16 (by omega)]; exact hg) (by rw [q _ (by omega)]; exact h20) (fun i hi => by rw [q _ (by omega)]; exact hZ i hi) (dfN_lt hlt) (sub_df hlt hlf) (by omega)
      refine ⟨x, W2, w1.trans y1, y2, y3, fun a ha => (y5 a ha).trans (q a ha), ?_⟩
      intro V hV e hFR hZV
      obtain ⟨V', v1, v2⟩ := y4 hV e hFR hZV
      rw [gone_df hlt hsl hla] at v1
      exact ⟨V', ((e_proStep hV e hf hFR hl' hs (hZV l hl') hg256).1 r hr).trans v1, v2⟩
    · obtain ⟨W', w1, w2, w3, w4⟩ := d2 hex
      exact ⟨nI l, W', w1, w2, w3.2.1, fun a ha => w4.arr (by omega), fun {V} hV e hFR hZV => ⟨V, (e_proStep hV e hf hFR hl' hs (hZV l hl') hg256).2 hex, Ag.rf⟩⟩
theorem sim_proves {j : Nat} {S : Wd} (hR : Rel j S) (hj : j < 512) (a1 : Int32) : ∃ r S1 S2, f_X11_proves S 0 a1 = some (r, S1) ∧ 48 < wn S1 ∧ f_X12_proves S1 48 a1 = some (r, S2) ∧ Rel (j + 1) S2 := by
  have hI := hR.1
  obtain ⟨h65, hF⟩ := id hI
  have hsh := rel_shR hR
  obtain ⟨n, m, hRD⟩ := rd_rel hR
  obtain ⟨c9, c11⟩ := rd_cnt hRD
  have hf := hRD.2.2.2.2
  have n6 := hf.1
  have m8 := hf.2.1
  have bad : ∀ (x : Int32), x < -99999 → f_X11_proves S 0 a1 = some (x, tl S x) → (∀ {S' : Wd}, Inv S' → wI S' 49 = wI S 49 → wI S' 51 = wI S 51 → wI S' 52 = wI S 52 → B_X12_proves_0 S' 48 a1 = some (.inl (x, fl S'))) → ∃ r S1 S2, f_X11_proves S 0 a1 = some (r, S1) ∧ 48 < wn S1 ∧ f_X12_proves S1 48 a1 = some (r, S2) ∧ Rel (j + 1) S2 := fun x hx h1 h2 => ⟨x, _, _, h1, tl_w48 hR, ru_done (h2 hI.tl (tl_arr (by decide)) (tl_arr (by decide)) (tl_arr (by decide))), rel_fin hR hx⟩
  by_cases h1 : 0 ≤ a1 ∧ a1 ≤ 3
  · obtain ⟨s, hs, rfl⟩ := nat_le (n := 3) h1.1 h1.2 (by decide)
    have hs4 : s < 4 := by omega
    have hcs : (nI s).toNatClampNeg = s := nI_clamp (by omega)
    obtain ⟨f1, f2, f3, f4, f5, f6⟩ := sh_facts hI hs4
    have i39 : ix S 39 102 (nI s) := ix_of h65 (by decide) (by decide) hs4
    obtain ⟨⟨x1, x2⟩, ⟨q, x3, x4, x5⟩, x6⟩ := id (hsh s hs4)
    have ms := e_isMissing hI hs4
    rw [x1] at ms
    by_cases hb : wI S 51 s = 0
    · rw [if_pos hb] at ms
      refine bad (-100002) (by decide) ?_ ?_
      · unfold f_X11_proves
        rw [b_isSheet_X11, if_pos h1, if_neg (by decide)]
        simp (decide := true) only [if_false, gd_ob h65, hF, Option.bind_some, gd_pos i39, hcs, f1, gd_pos f3, ms, bd2_eq, e_told h65]
      · intro S' hI' e0 e1 e2
        obtain ⟨g65, hG⟩ := id hI'
        unfold B_X12_proves_0
        rw [b_isSheet_X12, if_pos h1, if_neg (by decide)]
        simp (decide := true) only [gd_ob g65, hG, Option.bind_some, gd_pos (show ix S' 51 100 (nI s) from ix_of g65 (by decide) (by decide) hs4), hcs, e1]
        rw [if_pos hb]
        simp (decide := true) only [gd_ob g65, e_finding g65, bd2_eq]
    · rw [if_neg hb] at ms
      have hct : f_X7_count S (40 + 2 * s) = some (nI q, S) := by
        unfold f_X7_count
        rw [gd_pos f3, x4]
      have hct8 : f_X8_count S 8 = some (nI n, S) := by rw [e_count hI tb8, c9]
      have hM0 : ∀ {S' : Wd}, Inv S' → wI S' 49 = wI S 49 → wI S' 51 = wI S 51 → wI S' 52 = wI S 52 → B_X12_proves_0 S' 48 (nI s) = if nI q = nI n then (Option.bind (f_X12_findRows S' 48) (fun S20 => gd (ob S20 48 12) (bd2 (f_X12_given S20 48) (fun r25 S23 => some (.inr (1, [48], [nI s, nI n, r25, (0 : Int32), (0 : Int32)], S23)))))) else some (.inl (-100003, fl S')) := by
        intro S' hI' e0 e1 e2
        obtain ⟨g65, hG⟩ := id hI'
        unfold B_X12_proves_0
        rw [b_isSheet_X12, if_pos h1, if_neg (by decide)]
        simp (decide := true) only [gd_ob g65, hG, Option.bind_some, gd_pos (show ix S' 51 100 (nI s) from ix_of g65 (by decide) (by decide) hs4), gd_pos (show ix S' 52 100 (nI s) from ix_of g65 (by decide) (by decide) hs4), gd_pos (show ix S' 49 100 (64 : Int32) from rdN g65 (show 64 < 424 by decide)), show (64 : Int32).toNatClampNeg = 64 from rfl, hcs, e0, e1, e2, x5, hf.2.2.1]
        rw [if_neg hb]
        simp (decide := true) only [e_finding g65, bd2_eq]
      by_cases hqn : q = n
      · subst hqn
        obtain ⟨W, w1, w2, w3, w4, w5⟩ := rel_work hR hRD
        obtain ⟨W65, hWF⟩ := id w3.1
        have hq : ∀ a, 40 ≤ a → wI W a = wI S a := fun a ha => w2.arr (by omega)
        have hfr := fr_lt (wI S 49) m8
        obtain ⟨r, W', y1, y2, y3, y5, y4⟩ := e_proLoop (j := j) (N := wI S 49) (n := q) (m := m) hs4 (Z := fun i => wI S 53 (20 * s + i)) q 0 (frN (wI S 49) m) 0 W (by omega) w3 w4 w5 (by rw [hq _ (by omega)]; exact x4) (fun i hi => by rw [hq _ (by omega)]; exact x6 i (by omega)) hfr (fun _ hi => hi) ⟨by omega, by omega⟩
        have hIW' := y2.1
        have hq' : ∀ a, 40 ≤ a → wI W' a = wI S a := fun a ha => (y5 a (by omega)).trans (hq a ha)
        have hgv := fac_gv hf
        have hdou : f_X2_firstDoubt W 13 (40 + 2 * s) = some (r, W') := by
          unfold f_X2_firstDoubt
          refine (ru_step (show B_X2_firstDoubt (0, [13, 40 + 2 * s], [], W) = some (.inr (1, [13, 40 + 2 * s], [nI (frN (wI S 49) m), zI 0, nI 0], W)) from ?_)).trans y1
          show B_X2_firstDoubt_0 W 13 (40 + 2 * s) = _
          unfold B_X2_firstDoubt_0
          rw [gd_pos (ob_of W65 (by decide) (by decide)), w5.1]
          rfl
        obtain ⟨V1, v1, v2, v3⟩ := e_findRows hIW' y3 hf
        have hV1 := v2.inv hIW' (by omega)
        have e49 : wI V1 49 = wI S 49 := (v2.arr (by omega)).trans y3
        obtain ⟨V', z1, z2⟩ := y4 hV1 e49 v3 (fun i _ => by rw [v2.arr (a := 53) (by omega), hq' 53 (by omega)])
        rw [← hgv] at z1
        obtain ⟨w1f, w2f, w3f, -⟩ := sh_facts w3.1 hs4
        refine ⟨r, W', V', ?_, by have := hIW'.1; omega, ?_, rel_up (rel_qy y2 (((v2.mono (by omega)).trans (z2.mono (by omega))).qy quU))⟩
        · unfold f_X11_proves
          rw [b_isSheet_X11, if_pos h1, if_neg (by decide)]
          simp (decide := true) only [if_true, gd_ob h65, hF, Option.bind_some, gd_pos i39, hcs, f1, gd_pos f3, ms, hct, hct8, bd2_eq]
          rw [w1, Option.bind_some]
          simp (decide := true) only [gd_ob W65, hWF, Option.bind_some, gd_pos (show ix W 39 102 (nI s) from ix_of W65 (by decide) (by decide) hs4), w1f, hdou, bd2_eq]
        · unfold f_X12_proves
          refine (ru_step (show B_X12_proves (0, [48], [nI s], W') = some (.inr (1, [48], [nI s, nI q, nI (gvN (wI S 49) m), zI 0, nI 0], V1)) from ?_)).trans z1
          show B_X12_proves_0 W' 48 (nI s) = _
          rw [hM0 hIW' y3 (hq' 51 (by omega)) (hq' 52 (by omega)), if_pos rfl, v1, Option.bind_some, gd_pos (ob_of hV1.1 (by decide) (by decide)), e_given hV1 e49 hf, bd2_eq]
          rfl
      · refine bad (-100003) (by decide) ?_ ?_
        · unfold f_X11_proves
          rw [b_isSheet_X11, if_pos h1, if_neg (by decide)]
          simp (decide := true) only [if_true, gd_ob h65, hF, Option.bind_some, gd_pos i39, hcs, f1, gd_pos f3, ms, hct, hct8, bd2_eq, e_told h65]
          rw [if_neg (fun e => hqn ((nI_eq (by omega) (by omega)).mp e))]
        · intro S' hI' e0 e1 e2
          rw [hM0 hI' e0 e1 e2, if_neg (fun e => hqn ((nI_eq (by omega) (by omega)).mp e))]
  · refine bad (-100001) (by decide) ?_ ?_
    · unfold f_X11_proves
      rw [b_isSheet_X11, if_neg h1, if_pos rfl]
      simp (decide := true) only [gd_ob h65, e_told h65, bd2_eq]
    · intro S' hI' e0 e1 e2
      obtain ⟨g65, hG⟩ := id hI'
      unfold B_X12_proves_0
      rw [b_isSheet_X12, if_neg h1, if_pos rfl]
      simp (decide := true) only [gd_ob g65, e_finding g65, bd2_eq]
