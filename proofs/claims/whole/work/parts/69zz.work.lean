/-! the class works the giving out -/
abbrev DK (a k : Nat) : Prop := (a = 12 ∧ 3 ≤ k) ∨ a = 7 ∨ (a = 5 ∧ k = 3) ∨ (13 ≤ a ∧ a ≤ 19)
def WS (S W : Wd) (N : Nat → Int32) (n m : Nat) : Prop := RD W N n m ∧ Ag DK S W ∧ (wI W 5 3 = wI S 5 3 ∨ wI W 5 3 = wI S 1 5) ∧ wI W 13 12 = wI S 1 5
theorem ws_g {S W V : Wd} {N : Nat → Int32} {n m : Nat} (h : WS S W N n m) (hA : Ag (fun a k => (13 ≤ a ∧ a ≤ 19) ∧ ¬ (a = 13 ∧ k = 12)) W V) : WS S V N n m := by
  obtain ⟨h1, h2, h3, h4⟩ := h
  refine ⟨rd_ag h1 hA (by omega), h2.trans (hA.mono (by omega)), ?_, ?_⟩
  · rw [hA.2.2.2 5 3 (by omega)]; exact h3
  · rw [hA.2.2.2 13 12 (by omega)]; exact h4
theorem ws_s {S W V : Wd} {N : Nat → Int32} {n m : Nat} (h : WS S W N n m) (hG : GS W V N n m) : WS S V N n m := by
  obtain ⟨h1, h2, h3, h4⟩ := h
  obtain ⟨g1, g2, g3⟩ := hG
  refine ⟨g1, h2.trans (g2.mono (by omega)), ?_, ?_⟩
  · rcases g3 with q | q
    · rw [q]; exact h3
    · exact Or.inr (q.trans (h2.2.2.2 1 5 (by omega)))
  · rw [g2.2.2.2 13 12 (by omega)]; exact h4
theorem sub_le {s t : Nat} (h : sub s t) : s ≤ t := by
  have e : s &&& t = s := by
    refine Nat.eq_of_testBit_eq fun i => ?_
    rw [Nat.testBit_and]
    cases hs : s.testBit i with
    | false => rfl
    | true => rw [h i hs]; rfl
  rw [← e]
  exact Nat.and_le_right
section WK
variable {N : Nat → Int32} {n m : Nat}
/-- one lorry's sets -/
theorem e_sets {S W : Wd} {l : Nat} (hm : m ≤ 8) (hl : l < n) (h : WS S W N n m) (h11 : wI W 13 11 = nI (frN N m)) (hG : GI N m l (frN N m) W 81) (hT : CT N n m (frN N m) W (l + 1)) : ∃ V, ru B_X2_work (4, [13], [nI n, nI l, nI (2 * l + 1), nI 0], W) = ru B_X2_work (3, [13], [nI n, nI l - 1], V) ∧ WS S V N n m ∧ wI V 13 11 = nI (frN N m) ∧ CT N n m (frN N m) V l := by
  have hfr := fr_lt N hm
  have hfa := fr_sub N m
  have loop : ∀ s, s ≤ frN N m + 1 → ∃ V, ru B_X2_work (4, [13], [nI n, nI l, nI (2 * l + 1), nI 0], W) = ru B_X2_work (4, [13], [nI n, nI l, nI (2 * l + 1), nI s], V) ∧ WS S V N n m ∧ wI V 13 11 = nI (frN N m) ∧ GI N m l (frN N m) V 81 ∧ CT N n m (frN N m) V (l + 1) ∧ ∀ s', s' < s → sub s' (frN N m) → cardN (dfN (frN N m) s') ≤ 2 * l + 1 → wI V 14 (256 * l + s') = zI (bsZ N n m (n - l) (amN m ^^^ s')) ∧ wI V 15 (256 * l + s') = nI (rwN (chR N n m l (amN m ^^^ s'))) := by
    intro s
    induction s with
    | zero => exact fun _ => ⟨W, rfl, h, h11, hG, hT, fun s' hs' => by omega⟩
    | succ s ih =>
      intro hs
      obtain ⟨V, v1, v2, v3, v4, v5, v6⟩ := ih (by omega)
      have hI := v2.1.1.1
      obtain ⟨h65, hF⟩ := id hI
      have hf := v2.1.2.2.2.2
      have n6 := hf.1
      have hs8 : s < 256 := by omega
      have cl := card_le (dfN (frN N m) s)
      have base : B_X2_work (4, [13], [nI n, nI l, nI (2 * l + 1), nI s], V) = if nI s &&& (nI (frN N m) ^^^ (-1)) = 0 then (if nI (2 * l + 1) < nI (cardN (dfN (frN N m) s)) then some (.inr (4, [13], [nI n, nI l, nI (2 * l + 1), nI (s + 1)], V)) else Option.bind (f_X2_choose V 13 (nI l) (nI s)) (fun S77 => some (.inr (4, [13], [nI n, nI l, nI (2 * l + 1), nI (s + 1)], S77)))) else some (.inr (4, [13], [nI n, nI l, nI (2 * l + 1), nI (s + 1)], V)) := by
        show B_X2_work_4 V 13 (nI n) (nI l) (nI (2 * l + 1)) (nI s) = _
        unfold B_X2_work_4
        simp (decide := true) only [gd_ob h65, h11, v3, e_bc, bd2_eq, nI_df hfr, bc_card (dfN_lt hfr), nI_1]
        rw [if_neg (nI_nlt (by omega) (by omega))]
      by_cases c1 : sub s (frN N m)
      · rw [if_pos ((sub_test hs8).mpr c1)] at base
        by_cases c2 : cardN (dfN (frN N m) s) ≤ 2 * l + 1
        · rw [if_neg (nI_nlt c2 (by omega)), e_choose hI hf hfr hfa hl hs8 c1 c2 v4 v5, Option.bind_some] at base
          have hA : Ag (fun a k => a = 14 ∨ a = 15) V (sI (sI V 14 (256 * l + s) (zI (bsZ N n m (n - l) (amN m ^^^ s)))) 15 (256 * l + s) (nI (rwN (chR N n m l (amN m ^^^ s))))) := (Ag.sI (Or.inl rfl)).trans (Ag.sI (Or.inr rfl))
          refine ⟨_, v1.trans (ru_step base), ws_g v2 (hA.mono (by omega)), (hA.2.2.2 13 11 (by omega)).trans v3, ?_, ?_, ?_⟩
          · obtain ⟨g1, g2⟩ := v4
            refine ⟨(hA.2.2.2 13 10 (by omega)).trans g1, fun r hr hi => ?_⟩
            rw [hA.arr (a := 17) (by omega), hA.arr (a := 18) (by omega), hA.arr (a := 19) (by omega)]
            exact g2 r hr hi
          · intro l' h1 h2 s' x1 x2 x3
            obtain ⟨y1, y2⟩ := v5 l' h1 h2 s' x1 x2 x3
            refine ⟨?_, fun hln => ?_⟩
            · rw [wI_sI_ne (by omega), wI_sI_ne (by omega)]; exact y1
            · rw [wI_sI_ne (by omega), wI_sI_ne (by omega)]; exact y2 hln
          · intro s' x1 x2 x3
            by_cases he : s' = s
            · subst he
              refine ⟨?_, ?_⟩
              · rw [wI_sI_ne (by omega), wI_sI_eq]
              · rw [wI_sI_eq]
            · obtain ⟨y1, y2⟩ := v6 s' (by omega) x2 x3
              refine ⟨?_, ?_⟩
              · rw [wI_sI_ne (by omega), wI_sI_ne (by omega)]; exact y1
              · rw [wI_sI_ne (by omega), wI_sI_ne (by omega)]; exact y2
        · rw [if_pos (nI_lt (by omega) (by omega))] at base
          refine ⟨V, v1.trans (ru_step base), v2, v3, v4, v5, fun s' x1 x2 x3 => ?_⟩
          by_cases he : s' = s
          · subst he; exact absurd x3 c2
          · exact v6 s' (by omega) x2 x3
      · rw [if_neg (fun hh => c1 ((sub_test hs8).mp hh))] at base
        refine ⟨V, v1.trans (ru_step base), v2, v3, v4, v5, fun s' x1 x2 x3 => ?_⟩
        by_cases he : s' = s
        · subst he; exact absurd x2 c1
        · exact v6 s' (by omega) x2 x3
  obtain ⟨V, v1, v2, v3, v4, v5, v6⟩ := loop (frN N m + 1) (Nat.le_refl _)
  refine ⟨V, v1.trans (ru_step ?_), v2, v3, fun l' h1 h2 s x1 x2 x3 => ?_⟩
  · show B_X2_work_4 V 13 (nI n) (nI l) (nI (2 * l + 1)) (nI (frN N m + 1)) = _
    unfold B_X2_work_4
    rw [gd_pos (ob_of v2.1.1.1.1 (by decide) (by decide)), v3, if_pos (nI_lt (by omega) (by omega)), Int32.sub_eq_add_neg]
  · by_cases he : l' = l
    · subst he
      obtain ⟨y1, y2⟩ := v6 s (by have := sub_le x2; omega) x2 x3
      exact ⟨y1, fun _ => y2⟩
    · exact v5 l' (by omega) h2 s x1 x2 x3
/-- the rows are handed out -/
theorem e_handOut {W : Wd} (hI : Inv W) (hf : Fac N n m) (h11 : wI W 13 11 = nI (frN N m)) (hT : CT N n m (frN N m) W 0) (hgv : gvN N m = amN m ^^^ frN N m) : ∃ V, f_X2_handOut W 13 (nI n) = some V ∧ Ag (fun a _ => a = 16) W V ∧ ∀ l, l < n → wI V 16 l = nI (rwN (chR N n m l (gnS N n m l))) := by
  have n6 := hf.1
  have m8 := hf.2.1
  have hfr := fr_lt N m8
  have hfa := fr_sub N m
  obtain ⟨h65, hF⟩ := id hI
  have loop : ∀ l, l ≤ n → ∃ V lf, ru B_X2_handOut (0, [13], [nI n], W) = ru B_X2_handOut (1, [13], [nI n, nI lf, nI l], V) ∧ Ag (fun a _ => a = 16) W V ∧ lf < 256 ∧ sub lf (frN N m) ∧ cardN (dfN (frN N m) lf) ≤ 2 * l ∧ amN m ^^^ lf = gnS N n m l ∧ ∀ l', l' < l → wI V 16 l' = nI (rwN (chR N n m l' (gnS N n m l'))) := by
    intro l
    induction l with
    | zero =>
      intro _
      refine ⟨W, frN N m, ru_step ?_, Ag.rf, hfr, fun _ hi => hi, ?_, hgv.symm, fun l' hl' => by omega⟩
      · show B_X2_handOut_0 W 13 (nI n) = _
        unfold B_X2_handOut_0
        rw [gd_pos (ob_of h65 (by decide) (by decide)), h11]
        rfl
      · rw [(df_zero hfr).mpr (fun _ hi => hi)]
        decide
    | succ l ih =>
      intro hl
      obtain ⟨V, lf, v1, v2, v3, v4, v5, v6, v7⟩ := ih (by omega)
      obtain ⟨p65, hP⟩ := id (v2.inv hI (by omega))
      have hrd := (hT l (Nat.zero_le _) (by omega) lf v3 v4 (by omega)).2 (by omega)
      rw [v6] at hrd
      obtain ⟨c1, c2, c3, c4⟩ := ch_props (N := N) (n := n) (m := m) (l := l) (g := gnS N n m l) (by omega)
      have hla : sub lf (amN m) := fun i hi => hfa i (v4 i hi)
      have hsub : sub (stN (chR N n m l (gnS N n m l))) lf := by
        unfold opB at c2
        rw [Bool.and_eq_true, Bool.or_eq_true] at c2
        have hst : sub (stN (chR N n m l (gnS N n m l))) (amN m) := by
          rcases c2.1 with q | q
          · exact st_am (rg_81 m8 q).2
          · rw [of_decide_eq_true q]
            intro i hi
            have h0 : (0 : Nat).testBit i = true := hi
            rw [Nat.zero_testBit] at h0; cases h0
        have := of_decide_eq_true c2.2
        rw [← v6] at this
        exact (open_sub hst hla).mp (by rw [← v6] at *; exact this)
      generalize hc : chR N n m l (gnS N n m l) = c at *
      have hgn : gnS N n m (l + 1) = gnS N n m l ||| stN c := by
        show gnS N n m l ||| stN (chR N n m l (gnS N n m l)) = _
        rw [hc]
      have cd := card_df (fr := frN N m) (s := lf) (t := stN c) hfr v3
      have cs := card_st (show c < 81 by omega)
      refine ⟨sI V 16 l (nI (rwN c)), dfN lf (stN c), v1.trans (ru_step ?_), v2.trans (Ag.sI rfl), dfN_lt v3, sub_df v3 v4, by omega, ?_, fun l' hl' => ?_⟩
      · show B_X2_handOut_1 V 13 (nI n) (nI lf) (nI l) = _
        unfold B_X2_handOut_1
        rw [if_neg (nI_ge (by omega) (by omega))]
        simp (decide := true) only [gd_ob p65, hP, Option.bind_some]
        rw [show nI l * 256 + nI lf = nI (256 * l + lf) by show nI l * nI 256 + nI lf = _; rw [nI_mul, nI_add, Nat.mul_comm], gd_pos (ix_of p65 (by decide) (by decide) (show 256 * l + lf < 1536 by omega)), gd_pos (ix_of p65 (by decide) (by decide) (show l < 6 by omega)), nI_clamp (show 256 * l + lf < 2 ^ 31 by omega), nI_clamp (show l < 2 ^ 31 by omega), v2.arr (a := 15) (by omega), hrd]
        dsimp only [ltS]
        have q65 : 65 ≤ wn (sI V 16 l (nI (rwN c))) := p65
        simp (decide := true) only [gd_ob q65, wO_sI, hP, Option.bind_some, gd_pos (show ix (sI V 16 l (nI (rwN c))) 16 100 (nI l) from ix_of q65 (by decide) (by decide) (show l < 6 by omega)), wI_sI_eq, e_loadsOf _ (show c < 81 by omega), bd2_eq, nI_df v3, nI_1]
      · rw [gone_df v3 hsub hla, v6, hgn]
      · by_cases he : l' = l
        · rw [he, wI_sI_eq, hc]
        · rw [wI_sI_ne (by omega)]
          exact v7 l' (by omega)
  obtain ⟨V, lf, v1, v2, v3, v4, v5, v6, v7⟩ := loop n (Nat.le_refl _)
  refine ⟨V, v1.trans (ru_done ?_), v2, v7⟩
  show B_X2_handOut_1 V 13 (nI n) (nI lf) (nI n) = _
  unfold B_X2_handOut_1
  rw [if_pos (Int32.le_refl _)]
end WK
