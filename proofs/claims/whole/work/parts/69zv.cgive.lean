/-! the class's giving: small methods -/
theorem e_bitOf (S : Wd) {o : Option Nat} (ho : opLt 8 o) : f_X2_bitOf S (ans o) = some (nI (bitO o), S) := by
  unfold f_X2_bitOf
  cases o with
  | none => rfl
  | some d =>
    have hd : d < 8 := ho
    show (if nI d < 0 then _ else if (8 : Int32) ≤ nI d then _ else _) = _
    rw [if_neg (nI_pos (by omega)), if_neg (show ¬ (8 : Int32) ≤ nI d from nI_ge (b := 8) hd (by decide)), show ans (some d) = nI d from rfl, pw_nI hd]
    rfl
theorem op8O {r : Nat} (hr : r < 81) : opLt 8 (rO r) := op_rO (by omega)
theorem op8T {r : Nat} (hr : r < 81) : opLt 8 (rT r) := op_rT (by omega)
theorem an_O1 {r : Nat} (hr : r < 81) : nI (r / 9) - 1 = ans (rO r) := by
  have := an_rO hr
  rwa [show nI r / 9 = nI (r / 9) from pk_div (d := 9) (by omega) (by decide) (by decide)] at this
theorem an_T1 {r : Nat} (hr : r < 81) : nI (r % 9) - 1 = ans (rT r) := by
  have := an_rT hr
  rwa [show irm (nI r) 9 = nI (r % 9) from irm_nI (d := 9) (by omega) (by decide) (by decide)] at this
theorem e_firstOf (S : Wd) {r : Nat} (hr : r < 81) : f_X2_firstOf S (nI (rwN r)) = some (ans (rO r), S) := by
  unfold f_X2_firstOf rwN
  rw [show nI (100 * (r / 9) + r % 9) / 100 = nI ((100 * (r / 9) + r % 9) / 100) from pk_div (d := 100) (by omega) (by decide) (by decide), show (100 * (r / 9) + r % 9) / 100 = r / 9 by omega, an_O1 hr]
theorem e_secondOf (S : Wd) {r : Nat} (hr : r < 81) : f_X2_secondOf S (nI (rwN r)) = some (ans (rT r), S) := by
  unfold f_X2_secondOf rwN
  rw [show irm (nI (100 * (r / 9) + r % 9)) 100 = nI ((100 * (r / 9) + r % 9) % 100) from irm_nI (d := 100) (by omega) (by decide) (by decide), show (100 * (r / 9) + r % 9) % 100 = r % 9 by omega, an_T1 hr]
theorem e_loadsOf (S : Wd) {r : Nat} (hr : r < 81) : f_X2_loadsOf S (nI (rwN r)) = some (nI (stN r), S) := by
  unfold f_X2_loadsOf
  rw [e_firstOf S hr, bd2_eq, e_bitOf S (op8O hr), bd2_eq, e_secondOf S hr, bd2_eq, e_bitOf S (op8T hr), bd2_eq, nI_or, stN_or]
theorem e_rowBy (S : Wd) {r : Nat} (hr : r < 81) : f_X2_rowBy S (ans (rO r)) (ans (rT r)) = some (nI (rwN r), S) := by
  unfold f_X2_rowBy rwN
  rw [← an_O1 hr, ← an_T1 hr, Int32.sub_add_cancel, Int32.add_assoc, Int32.sub_add_cancel]
  show some (nI 100 * nI (r / 9) + nI (r % 9), S) = _
  rw [nI_mul, nI_add]
/-- the loads that fit a lorry -/
def ftN (N : Nat → Int32) (l : Nat) : Nat → Nat
  | 0 => 0
  | k + 1 => if fitI N l k = 0 then ftN N l k else ftN N l k ||| 2 ^ k
theorem ft_lt (N : Nat → Int32) (l : Nat) : ∀ {m : Nat}, m ≤ 8 → ftN N l m < 256
  | 0, _ => by show 0 < 256; decide
  | m + 1, h => by
    unfold ftN
    split
    · exact ft_lt N l (by omega)
    · exact or_lt (ft_lt N l (by omega)) (pw_lt (by omega))
theorem tb_ft (N : Nat → Int32) (l : Nat) : ∀ (m i : Nat), (ftN N l m).testBit i = (decide (i < m) && !decide (fitI N l i = 0))
  | 0, i => by
    show (0 : Nat).testBit i = _
    rw [Nat.zero_testBit]
    simp
  | m + 1, i => by
    unfold ftN
    have ih := tb_ft N l m i
    by_cases hc : fitI N l m = 0
    · rw [if_pos hc, ih]
      by_cases hi : m = i
      · subst hi
        simp [hc]
      · have e : decide (i < m + 1) = decide (i < m) := by
          by_cases q : i < m
          · rw [decide_eq_true q, decide_eq_true (by omega)]
          · rw [decide_eq_false q, decide_eq_false (by omega)]
        rw [e]
    · rw [if_neg hc, Nat.testBit_or, ih, tb_pw]
      by_cases hi : m = i
      · subst hi
        simp [hc]
      · have e : decide (i < m + 1) = decide (i < m) := by
          by_cases q : i < m
          · rw [decide_eq_true q, decide_eq_true (by omega)]
          · rw [decide_eq_false q, decide_eq_false (by omega)]
        rw [e, decide_eq_false hi, Bool.or_false]
/-- what the class's drives need of a world -/
def RD (W : Wd) (N : Nat → Int32) (n m : Nat) : Prop := MOk W ∧ wI W 49 = N ∧ cLorry (wI W) N ∧ cLoad (wI W) N ∧ Fac N n m
theorem rd_ag {S W : Wd} {D : Nat → Nat → Prop} {N : Nat → Int32} {n m : Nat} (h : RD S N n m) (hA : Ag D S W) (hd : ∀ a k, D a k → (a = 12 ∧ 3 ≤ k) ∨ (13 ≤ a ∧ a ≤ 19) ∨ (40 ≤ a ∧ a ≤ 48) ∨ 51 ≤ a) : RD W N n m := by
  obtain ⟨⟨h1, h2, h3⟩, h4, h5, h6, h7⟩ := h
  have q : ∀ a, a < 12 ∨ a = 49 → wI W a = wI S a := fun a ha => hA.arr fun k hk => by have := hd a k hk; omega
  refine ⟨⟨hA.inv h1 fun a k hk => by have := hd a k hk; omega, ?_, ?_⟩, ?_, ?_, ?_, h7⟩
  · rw [q 49 (by omega)]
    exact cRoad_c (q 6 (by omega)) (fun _ _ => rfl) h2
  · rw [q 5 (by omega), q 1 (by omega), q 7 (by omega), q 49 (by omega)]
    exact h3
  · rw [q 49 (by omega)]; exact h4
  · exact cLorry_c (q 9 (by omega)) rfl (fun _ _ _ => rfl) h5
  · exact cLoad_c (q 11 (by omega)) rfl (fun _ _ _ => rfl) h6
theorem rd_rel {j : Nat} {S : Wd} (hR : Rel j S) : ∃ n m, RD S (wI S 49) n m := by
  have hc := rel_core hR
  obtain ⟨n, m, hf⟩ := fac_of hc
  exact ⟨n, m, rel_mok hR, rfl, hc.2.1, hc.2.2.1, hf⟩
theorem rd_cnt {W : Wd} {N : Nat → Int32} {n m : Nat} (h : RD W N n m) : wI W 9 0 = nI n ∧ wI W 11 0 = nI m := by
  obtain ⟨-, h4, h5, h6, h7⟩ := h
  obtain ⟨n', n6, nu, nv, -⟩ := h5
  obtain ⟨m', m8, mu, mv, -⟩ := h6
  have en : n' = n := (nI_eq (by omega) (by have := h7.1; omega)).mp (nu.symm.trans h7.2.2.1)
  have em : m' = m := (nI_eq (by omega) (by have := h7.2.1; omega)).mp (mu.symm.trans h7.2.2.2.1)
  subst en em
  exact ⟨nv, mv⟩
theorem e_runR {S : Wd} {N : Nat → Int32} {n m l : Nat} (h : RD S N n m) (hl : l < n) {one two : Option Nat} (h1 : opLt m one) (h2 : opLt m two) : ∃ W, f_X0_run S 12 (nI l) (ans one) (ans two) = some (nI (runN (wyN N) (loN N l) (ldN N) one two).1, W) ∧ Ag DR S W ∧ RD W N n m ∧ f_X0_value W 12 = some (zI (((pyO (ldN N) one + pyO (ldN N) two : Nat) : Int) - ((runN (wyN N) (loN N l) (ldN N) one two).2.2.2.2.2.1 : Int)), W) ∧ f_X0_emptyMinutes W 12 = some (nI (runN (wyN N) (loN N l) (ldN N) one two).2.2.2.2.2.1, W) ∧ wI W 5 3 = wI S 1 5 ∧ (∀ i, i < 64 → wI W 7 i = fw N i) := by
  obtain ⟨hM, hN, h5, h6, h7⟩ := h
  obtain ⟨W, w1, w2, w3, w4, w5, w6, w7, w8⟩ := e_runC hM (by rw [hN]; exact h5) (by rw [hN]; exact h6) (by rw [hN]; exact h7.2.2.1) h7.1 (by rw [hN]; exact h7.2.2.2.1) h7.2.1 hl h1 h2
  rw [hN] at w1 w4 w5 w6 w7 w8
  have hIW : Inv W := w2.inv hM.1 (by omega)
  have q49 : wI W 49 = N := (w2.arr (by omega)).trans hN
  have p1 := pyO_le (fac_ld h7) h1
  have p2 := pyO_le (fac_ld h7) h2
  refine ⟨W, w1, w2, ⟨⟨hIW, ?_, fun _ => by rw [q49]; exact w4⟩, q49, cLorry_c (w2.arr (by omega)) rfl (fun _ _ _ => rfl) h5, cLoad_c (w2.arr (by omega)) rfl (fun _ _ _ => rfl) h6, h7⟩, ?_, ?_, w3, w4⟩
  · rw [q49]
    have := hM.2.1
    rw [hN] at this
    exact cRoad_c (w2.arr (by omega)) (fun _ _ => rfl) this
  · unfold f_X0_value
    generalize runN (wyN N) (loN N l) (ldN N) one two = z at *
    obtain ⟨c, t, mi, s, d, e, r, q⟩ := z
    obtain ⟨b1, b2, b3, b4, b5, b6, b7⟩ := w7
    obtain ⟨d3, d4, d5, d6, d7, d8, d9⟩ := w5
    rw [gd_pos (ob_of hIW.1 (by decide) (by decide)), gd_pos (ob_of hIW.1 (by decide) (by decide)), w6, d7, zI_sub (by omega) (by omega)]
  · unfold f_X0_emptyMinutes
    generalize runN (wyN N) (loN N l) (ldN N) one two = z at *
    obtain ⟨c, t, mi, s, d, e, r, q⟩ := z
    obtain ⟨d3, d4, d5, d6, d7, d8, d9⟩ := w5
    rw [gd_pos (ob_of hIW.1 (by decide) (by decide)), d7]
theorem e_fitR {S : Wd} {N : Nat → Int32} {n m l d : Nat} (h : RD S N n m) (hl : l < n) (hd : d < m) : f_X0_fits S 12 (nI l) (nI d) = some (fitI N l d, S) := by
  obtain ⟨v9, v11⟩ := rd_cnt h
  obtain ⟨hM, hN, h5, h6, h7⟩ := h
  obtain ⟨n', n6, nu, nv, nl⟩ := lo_facts h5
  obtain ⟨m', m8, mu, mv, ml⟩ := ld_facts h6
  have en : n' = n := (nI_eq (by omega) (by have := h7.1; omega)).mp (nu.symm.trans h7.2.2.1)
  have em : m' = m := (nI_eq (by omega) (by have := h7.2.1; omega)).mp (mu.symm.trans h7.2.2.2.1)
  subst en em
  exact e_fitsC hM.1 v9 n6 v11 m8 hl hd (fun c hc => by rw [(nl l hl c hc).2.1, (nl l hl c hc).2.2]) (fun c hc => by rw [((ml d hd).1 c hc).2.1, ((ml d hd).1 c hc).2.2])
theorem e_fitting {S : Wd} {N : Nat → Int32} {n m l fr : Nat} (h : RD S N n m) (hl : l < n) (hfr : wI S 13 11 = nI fr) : f_X2_fitting S 13 (nI l) = some (nI (ftN N l m &&& fr), S) := by
  obtain ⟨h65, hF⟩ := id h.1.1
  obtain ⟨v9, v11⟩ := rd_cnt h
  have m8 := h.2.2.2.2.2.1
  have hcnt : f_X8_count S 10 = some (nI m, S) := by rw [e_count h.1.1 tb10, v11]
  unfold f_X2_fitting
  refine (ru_step (show B_X2_fitting (0, [13], [nI l], S) = some (.inr (1, [13], [nI l, nI (ftN N l 0), nI 0], S)) from rfl)).trans ((ru_for (fun k => (1, [13], [nI l, nI (ftN N l k), nI k], S)) m (fun k hk => ?_)).trans (ru_done ?_))
  · show B_X2_fitting_1 S 13 (nI l) (nI (ftN N l k)) (nI k) = _
    unfold B_X2_fitting_1
    simp (decide := true) only [gd_ob h65, hF, Option.bind_some, hcnt, bd2_eq, e_fitR h hl hk]
    rw [if_neg (nI_ge hk (by omega)), show f_X2_bitOf S (nI k) = some (nI (2 ^ k), S) from e_bitOf S (o := some k) (show k < 8 by omega), bd2_eq, nI_or, nI_1]
    show _ = some (Sum.inr (1, [13], [nI l, nI (if fitI N l k = 0 then ftN N l k else ftN N l k ||| 2 ^ k), nI (k + 1)], S))
    split <;> rfl
  · show B_X2_fitting_1 S 13 (nI l) (nI (ftN N l m)) (nI m) = _
    unfold B_X2_fitting_1
    simp (decide := true) only [gd_ob h65, hF, Option.bind_some, hcnt, bd2_eq]
    rw [if_pos (Int32.le_refl _), hfr, nI_and]
