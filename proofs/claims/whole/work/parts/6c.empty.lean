/-! empty -/
theorem is_0 (N : Nat → Int32) (m l : Nat) : isB N m l 0 = true := by
  unfold isB
  rw [Bool.and_eq_true, Bool.and_eq_true, Bool.and_eq_true, Bool.or_eq_true]
  exact ⟨⟨⟨Or.inr rfl, decide_eq_true (Nat.zero_le _)⟩, decide_eq_true (Nat.zero_le _)⟩, rfl⟩
theorem e_emptyOf {W : Wd} {N : Nat → Int32} {n m l r : Nat} (h : RD W N n m) (hl : l < n) (hr : r < 81) (hok : isB N m l r = true) : ∃ V, f_X2_emptyOf W 13 (nI l) (nI (rwN r)) = some (nI (emN N m l r), V) ∧ Ag DR W V ∧ RD V N n m ∧ wI V 5 3 = wI W 1 5 ∧ ∀ i, i < 64 → wI V 7 i = fw N i := by
  obtain ⟨h65, hF⟩ := id h.1.1
  have hf := h.2.2.2.2
  obtain ⟨q1, q2, q3, q4⟩ := is_facts hok
  obtain ⟨V, v1, v2, v3, v4, v5, v6, v7⟩ := e_runR h hl (op_rO q2) (op_rT q3)
  obtain ⟨V65, hVF⟩ := id v3.1.1
  have c4 := (runN_ok (w := wyN N) (fac_lo hf hl).1 (fac_lo hf hl).2.1 (fac_lo hf hl).2.2.1 (fac_ld hf) (op_rO q2) (op_rT q3)).2
  refine ⟨V, ?_, v2, v3, v6, v7⟩
  have o3 : wO W 13 3 = some 12 := by simp only [hF]
  unfold f_X2_emptyOf
  rw [gd_pos (ob_of h65 (by decide) (by decide)), o3, Option.bind_some, e_firstOf W hr, bd2_eq, e_secondOf W hr, bd2_eq, gd_pos (ob_of h65 (by decide) (by decide)), v1, bd2_eq]
  have hdv : dvN N l r = runN (wyN N) (loN N l) (ldN N) (rO r) (rT r) := rfl
  unfold emN
  rw [rg_is, hok, Bool.true_and, hdv]
  generalize runN (wyN N) (loN N l) (ldN N) (rO r) (rT r) = z at *
  by_cases c5 : z.1 = 0
  · rw [if_pos (show nI z.1 = 0 by rw [c5]; rfl), if_pos (show decide (z.1 = 0) = true from decide_eq_true c5)]
    simp (decide := true) only [gd_ob V65, hVF, Option.bind_some, v5, bd2_eq]
    rfl
  · rw [if_neg (nI_ne0 (by omega) (by omega)), if_neg (show ¬ decide (z.1 = 0) = true from fun q => c5 (of_decide_eq_true q))]
    rfl
def esN (N : Nat → Int32) (m : Nat) (c : Nat → Nat) : Nat → Nat
  | 0 => 0
  | l + 1 => esN N m c l + emN N m l (c l)
theorem sim_empty {j : Nat} {S : Wd} (hR : Rel j S) (hj : j < 512) (a1 : Int32) : ∃ r S1 S2, f_X11_empty S 0 a1 = some (r, S1) ∧ 48 < wn S1 ∧ f_X12_empty S1 48 a1 = some (r, S2) ∧ Rel (j + 1) S2 := by
  have hI := hR.1
  obtain ⟨h65, hF⟩ := id hI
  obtain ⟨n, m, hRD⟩ := rd_rel hR
  obtain ⟨W, w1, w2, w3, w4, w5⟩ := rel_work hR hRD
  generalize wI S 49 = N at *
  have hf := w4.2.2.2.2
  have n6 := hf.1
  have m8 := hf.2.1
  have hcl : ∀ l, l < n → chR N n m l (gnS N n m l) < 81 ∧ isB N m l (chR N n m l (gnS N n m l)) = true := by
    intro l hl
    obtain ⟨c1, c2, -⟩ := ch_props (N := N) (n := n) (m := m) (l := l) (g := gnS N n m l) hl
    refine ⟨by omega, ?_⟩
    unfold opB at c2
    rw [Bool.and_eq_true, Bool.or_eq_true] at c2
    rcases c2.1 with q | q
    · exact (rg_81 m8 q).2
    · rw [of_decide_eq_true q]
      exact is_0 N m l
  -- the rows that are asked for
  have hcc : ∃ c : Nat → Nat, (∀ l, l < n → c l < 81 ∧ isB N m l (c l) = true) ∧ (a1 = 0 → c = fun l => chR N n m l (gnS N n m l)) ∧ (¬ a1 = 0 → c = fun _ => 0) := by
    by_cases h0 : a1 = 0
    · exact ⟨fun l => chR N n m l (gnS N n m l), hcl, fun _ => rfl, fun q => absurd h0 q⟩
    · exact ⟨fun _ => 0, fun l _ => ⟨by show 0 < 81; decide, is_0 N m l⟩, fun q => absurd q h0, fun _ => rfl⟩
  obtain ⟨c, hc, hcO, hcN⟩ := hcc
  have clsL : ∀ l, l ≤ n → ∃ V, ru B_X11_empty (1, [0], [a1, 0, 0], W) = ru B_X11_empty (1, [0], [a1, nI (esN N m c l), nI l], V) ∧ Rel j V ∧ RD V N n m ∧ wI V 16 = wI W 16 := by
    intro l
    induction l with
    | zero => exact fun _ => ⟨W, rfl, w3, w4, rfl⟩
    | succ l ih =>
      intro hl
      obtain ⟨V, v1, v2, v3, v4⟩ := ih (by omega)
      obtain ⟨p65, hP⟩ := id v2.1
      obtain ⟨c9, c11⟩ := rd_cnt v3
      obtain ⟨U, u1, u2, u3, u4, u5⟩ := e_emptyOf v3 (show l < n by omega) (hc l (by omega)).1 (hc l (by omega)).2
      have hRU : Rel j U := rel_run v2 u2 u4 (by rw [v3.2.1]; exact u5)
      refine ⟨U, v1.trans (ru_step ?_), hRU, u3, (u2.arr (by omega)).trans v4⟩
      have hcnt : f_X8_count V 8 = some (nI n, V) := by rw [e_count v2.1 tb8, c9]
      show B_X11_empty_1 V 0 a1 (nI (esN N m c l)) (nI l) = _
      unfold B_X11_empty_1
      simp (decide := true) only [gd_ob p65, hP, Option.bind_some, hcnt, bd2_eq]
      rw [if_neg (nI_ge (by omega) (by omega))]
      by_cases h0 : a1 = 0
      · have hrow : f_X2_rowOf V 13 (nI l) = some (nI (rwN (c l)), V) := by
          unfold f_X2_rowOf
          rw [if_neg (nI_pos (by omega)), if_neg (show ¬ (6 : Int32) ≤ nI l from nI_ge (b := 6) (by omega) (by decide))]
          simp (decide := true) only [gd_ob p65, hP, Option.bind_some]
          rw [gd_pos (ix_of p65 (by decide) (by decide) (show l < 6 by omega)), nI_clamp (by omega), v4, w5.2.2.2 l (by omega), hcO h0]
        rw [if_pos h0, hrow, bd2_eq]
        simp (decide := true) only [gd_ob p65, u1, bd2_eq, nI_add, nI_1]
        rfl
      · have hc0 : c l = 0 := by rw [hcN h0]
        rw [hc0] at u1
        rw [if_neg h0, show f_X2_emptyOf V 13 (nI l) 0 = _ from u1, bd2_eq, nI_add, nI_1]
        show _ = some (Sum.inr (1, [0], [a1, nI (esN N m c l + emN N m l (c l)), nI (l + 1)], U))
        rw [hc0]
  obtain ⟨V, v1, v2, v3, v4⟩ := clsL n (Nat.le_refl _)
  have hIV := v2.1
  obtain ⟨p65, hP⟩ := id hIV
  obtain ⟨R1, R2, r1, r2, r3, r4, r5, r6, r7, r8, r9, r10, r11⟩ := e_refGive hIV v3.2.1 hf
  obtain ⟨q65, hQ⟩ := id r5
  have refL : ∀ l, l ≤ n → ru B_X12_empty (1, [48], [a1, zI (bsZ N n m n (gvN N m)), 0, 0], R2) = ru B_X12_empty (1, [48], [a1, zI (bsZ N n m n (gvN N m)), nI (esN N m c l), nI l], R2) := by
    intro l
    induction l with
    | zero => exact fun _ => rfl
    | succ l ih =>
      intro hl
      refine (ih (by omega)).trans (ru_step ?_)
      have hc81 := (hc l (by omega)).1
      have rd := (r10 l (c l) (by omega) hc81 (by omega)).2.2
      show B_X12_empty_1 R2 48 a1 _ (nI (esN N m c l)) (nI l) = _
      unfold B_X12_empty_1
      simp (decide := true) only [gd_ob q65, hQ, Option.bind_some, gd_pos (show ix R2 49 100 (64 : Int32) from rdN q65 (show 64 < 424 by decide)), show (64 : Int32).toNatClampNeg = 64 from rfl, r8, hf.2.2.1]
      rw [if_neg (nI_ge (by omega) (by omega))]
      show _ = some (Sum.inr (1, [48], [a1, zI (bsZ N n m n (gvN N m)), nI (esN N m c l + emN N m l (c l)), nI (l + 1)], R2))
      by_cases h0 : a1 = 0
      · rw [if_pos h0, gd_pos (ix_of q65 (by decide) (by decide) (show l < 6 by omega)), nI_clamp (show l < 2 ^ 31 by omega), r11 l (by omega), show chR N n m l (gnS N n m l) = c l by rw [hcO h0], show (81 : Int32) * nI l + nI (c l) = nI (81 * l + c l) by show nI 81 * nI l + nI (c l) = _; rw [nI_mul, nI_add], gd_pos (ix_of q65 (by decide) (by decide) (show 81 * l + c l < 486 by omega)), nI_clamp (by omega), rd, nI_add, nI_1]
      · have hc0 : c l = 0 := by rw [hcN h0]
        rw [hc0] at rd ⊢
        rw [if_neg h0, show (81 : Int32) * nI l + 0 = nI (81 * l + 0) by show nI 81 * nI l + nI 0 = _; rw [nI_mul, nI_add], gd_pos (ix_of q65 (by decide) (by decide) (show 81 * l + 0 < 486 by omega)), nI_clamp (by omega), rd, nI_add, nI_1]
  refine ⟨nI (esN N m c n), V, R2, ?_, by omega, ?_, rel_up (rel_qy v2 (r7.qy quU))⟩
  · unfold f_X11_empty
    refine (ru_step (show B_X11_empty (0, [0], [a1], S) = some (.inr (1, [0], [a1, 0, 0], W)) from ?_)).trans (v1.trans (ru_done ?_))
    · show B_X11_empty_0 S 0 a1 = _
      unfold B_X11_empty_0
      simp (decide := true) only [gd_ob h65, hF, Option.bind_some, w1]
    · have hcnt : f_X8_count V 8 = some (nI n, V) := by rw [e_count hIV tb8, (rd_cnt v3).1]
      show B_X11_empty_1 V 0 a1 (nI (esN N m c n)) (nI n) = _
      unfold B_X11_empty_1
      simp (decide := true) only [gd_ob p65, hP, Option.bind_some, hcnt, bd2_eq]
      rw [if_pos (Int32.le_refl _)]
  · unfold f_X12_empty
    refine (ru_step (show B_X12_empty (0, [48], [a1], V) = some (.inr (1, [48], [a1, zI (bsZ N n m n (gvN N m)), 0, 0], R2)) from ?_)).trans ((refL n (Nat.le_refl _)).trans (ru_done ?_))
    · show B_X12_empty_0 V 48 a1 = _
      unfold B_X12_empty_0
      rw [gd_pos (ob_of p65 (by decide) (by decide)), r1, Option.bind_some, gd_pos (ob_of r2.1 (by decide) (by decide)), r3, bd2_eq, gd_pos (ob_of r2.1 (by decide) (by decide)), r4, bd2_eq]
    · show B_X12_empty_1 R2 48 a1 _ (nI (esN N m c n)) (nI n) = _
      unfold B_X12_empty_1
      simp (decide := true) only [gd_ob q65, hQ, Option.bind_some, gd_pos (show ix R2 49 100 (64 : Int32) from rdN q65 (show 64 < 424 by decide)), show (64 : Int32).toNatClampNeg = 64 from rfl, r8, hf.2.2.1]
      rw [if_pos (Int32.le_refl _)]
