/-! proves -/
theorem rwN_inj {r r' : Nat} (hr : r < 81) (hr' : r' < 81) (h : nI (rwN r) = nI (rwN r')) : r = r' := by
  unfold rwN at h
  have := (nI_eq (by omega) (by omega)).mp h
  omega
/-- a row of these loads -/
def ofT (left : Nat) (r : Nat) : Prop := r = 0 ∨ (r / 9 ≠ 0 ∧ r % 9 ≠ r / 9 ∧ left.testBit (r / 9 - 1) = true ∧ (r % 9 = 0 ∨ left.testBit (r % 9 - 1) = true))
theorem e_isOf1 (S : Wd) {left r : Nat} (hr : r < 81) (h : ofT left r) : f_X2_isOfThese S (nI (rwN r)) (nI left) = some (1, S) := by
  unfold f_X2_isOfThese
  rcases h with rfl | ⟨h1, h2, h3, h4⟩
  · rw [if_pos (by decide)]
  · have hk : 0 < rwN r ∧ rwN r < 2 ^ 31 := by unfold rwN; omega
    have eO : rO r = some (r / 9 - 1) := by unfold rO; rw [if_neg h1]
    rw [if_neg (nI_ne0 hk.1 hk.2), e_firstOf S hr, bd2_eq, e_secondOf S hr, bd2_eq, if_neg (nI_nle hk.1 hk.2)]
    have hne : ¬ ans (rO r) = ans (rT r) := by
      rw [eO]
      unfold rT
      by_cases q : r % 9 = 0
      · rw [if_pos q]
        exact nI_nm1 (by omega)
      · rw [if_neg q]
        intro e
        have := (nI_eq (a := r / 9 - 1) (b := r % 9 - 1) (by omega) (by omega)).mp e
        omega
    rw [if_neg hne, e_bitOf S (op8O hr), bd2_eq, eO]
    have hb : ¬ nI (bitO (some (r / 9 - 1))) &&& nI left = 0 := fun e => by
      have := (pw_and (s := left) (d := r / 9 - 1) (by omega)).mp e
      rw [h3] at this
      cases this
    rw [if_neg hb]
    by_cases q : r % 9 = 0
    · rw [if_pos (show ans (rT r) = -1 by unfold rT; rw [if_pos q]; rfl)]
    · have eT : rT r = some (r % 9 - 1) := by unfold rT; rw [if_neg q]
      rw [if_neg (show ¬ ans (rT r) = -1 by rw [eT]; exact nI_nm1 (by omega)), e_bitOf S (op8T hr), bd2_eq, eT]
      have hb2 : ¬ nI (bitO (some (r % 9 - 1))) &&& nI left = 0 := fun e => by
        have := (pw_and (s := left) (d := r % 9 - 1) (by omega)).mp e
        rw [h4.resolve_left q] at this
        cases this
      rw [if_neg hb2]
theorem bit_hi (S : Wd) {k : Nat} (hk : k < 2 ^ 31) (h8 : 8 ≤ k) : f_X2_bitOf S (nI k) = some (0, S) := by
  unfold f_X2_bitOf
  rw [if_neg (nI_pos hk), if_pos (show (8 : Int32) ≤ nI k from nI_le (a := 8) h8 hk)]
theorem e_isOf0 (S : Wd) {left : Nat} {v : Int32} (h : ¬ ∃ r, r < 81 ∧ v = nI (rwN r) ∧ ofT left r) : f_X2_isOfThese S v (nI left) = some (0, S) := by
  have h0 : ¬ v = 0 := fun e => h ⟨0, by decide, e.trans (show (0 : Int32) = nI (rwN 0) from by decide), Or.inl rfl⟩
  unfold f_X2_isOfThese f_X2_firstOf f_X2_secondOf
  rw [if_neg h0, bd2_eq, bd2_eq]
  by_cases hn : v ≤ 0
  · rw [if_pos hn]
  · rw [if_neg hn]
    have hv : 0 ≤ v := Int32.le_of_lt (i32nle.mp hn)
    obtain ⟨k, hk, rfl⟩ := nat_of hv
    rw [show nI k / 100 = nI (k / 100) from pk_div (d := 100) hk (by decide) (by decide), show irm (nI k) 100 = nI (k % 100) from irm_nI (d := 100) hk (by decide) (by decide)]
    have z1 : nI 0 - 1 = -1 := rfl
    have zz : (0 : Int32) &&& nI left = 0 := by rw [show (0 : Int32) = nI 0 from rfl, nI_and, Nat.zero_and]
    split
    · rfl
    · rename_i hne
      by_cases x0 : k / 100 = 0
      · rw [x0, z1, show f_X2_bitOf S (-1) = some (0, S) from rfl, bd2_eq, if_pos zz]
      · rw [show nI (k / 100) - 1 = nI (k / 100 - 1) from nI_sub (b := 1) (by omega)] at hne ⊢
        by_cases x8 : 8 ≤ k / 100 - 1
        · rw [bit_hi S (by omega) x8, bd2_eq, if_pos zz]
        · rw [show f_X2_bitOf S (nI (k / 100 - 1)) = some (nI (2 ^ (k / 100 - 1)), S) from e_bitOf S (o := some (k / 100 - 1)) (show k / 100 - 1 < 8 by omega), bd2_eq]
          by_cases bx : left.testBit (k / 100 - 1) = false
          · rw [if_pos ((pw_and (by omega)).mpr bx)]
          · have bx' : left.testBit (k / 100 - 1) = true := by
              cases q : left.testBit (k / 100 - 1) with
              | true => rfl
              | false => exact absurd q bx
            rw [if_neg (fun e => bx ((pw_and (by omega)).mp e))]
            by_cases y0 : k % 100 = 0
            · exfalso
              refine h ⟨9 * (k / 100), by omega, ?_, Or.inr ⟨by omega, by omega, ?_, Or.inl (by omega)⟩⟩
              · unfold rwN
                exact congrArg nI (by omega)
              · rw [show 9 * (k / 100) / 9 = k / 100 by omega]
                exact bx'
            · rw [show nI (k % 100) - 1 = nI (k % 100 - 1) from nI_sub (b := 1) (by omega)] at hne ⊢
              rw [if_neg (nI_nm1 (by omega))]
              by_cases y8 : 8 ≤ k % 100 - 1
              · rw [bit_hi S (by omega) y8, bd2_eq, if_pos zz]
              · rw [show f_X2_bitOf S (nI (k % 100 - 1)) = some (nI (2 ^ (k % 100 - 1)), S) from e_bitOf S (o := some (k % 100 - 1)) (show k % 100 - 1 < 8 by omega), bd2_eq]
                by_cases by' : left.testBit (k % 100 - 1) = false
                · rw [if_pos ((pw_and (by omega)).mpr by')]
                · exfalso
                  have by'' : left.testBit (k % 100 - 1) = true := by
                    cases q : left.testBit (k % 100 - 1) with
                    | true => rfl
                    | false => exact absurd q by'
                  have hxy : k / 100 ≠ k % 100 := fun e => hne (by rw [e])
                  refine h ⟨9 * (k / 100) + k % 100, by omega, ?_, Or.inr ⟨by omega, by omega, ?_, Or.inr ?_⟩⟩
                  · unfold rwN
                    exact congrArg nI (by omega)
                  · rw [show (9 * (k / 100) + k % 100) / 9 = k / 100 by omega]
                    exact bx'
                  · rw [show (9 * (k / 100) + k % 100) % 9 = k % 100 by omega]
                    exact by''
/-- a sheet's number v that stands for a row that lorry l may have -/
def gdR (N : Nat → Int32) (m l g : Nat) (v : Int32) (r : Nat) : Prop := r < 81 ∧ v = nI (rwN r) ∧ r / 9 ≤ m ∧ r % 9 ≤ m ∧ opB N m l r g = true
theorem gd_of {N : Nat → Int32} {m l fr left : Nat} {v : Int32} {r : Nat} (hm : m ≤ 8) (hl : left < 256) (hlf : sub left fr) (hfa : sub fr (amN m)) (h : gdR N m l (amN m ^^^ left) v r) : ofT left r ∧ (r ≠ 0 → rgB N m l r = true ∧ isB N m l r = true ∧ sub (stN r) (ftN N l m &&& fr)) ∧ sub (stN r) left := by
  obtain ⟨h1, h2, h3, h4, h5⟩ := h
  have hla : sub left (amN m) := fun i hi => hfa i (hlf i hi)
  by_cases h0 : r = 0
  · subst h0
    refine ⟨Or.inl rfl, fun q => absurd rfl q, fun i hi => ?_⟩
    have e : (0 : Nat).testBit i = true := hi
    rw [Nat.zero_testBit] at e; cases e
  · unfold opB at h5
    rw [decide_eq_false h0, Bool.or_false, Bool.and_eq_true] at h5
    obtain ⟨hrg, hst⟩ := h5
    have his := (rg_81 hm hrg).2
    obtain ⟨q1, q2, q3, q4⟩ := is_facts his
    have h9 : r / 9 ≠ 0 := by omega
    have hsub : sub (stN r) left := (open_sub (st_am his) hla).mp (of_decide_eq_true hst)
    have hsf : sub (stN r) fr := fun i hi => hlf i (hsub i hi)
    obtain ⟨k1, k2, k3⟩ := (may_is (N := N) (l := l) (fr := fr) h1 h9 q2 q3).mpr ⟨his, (df_zero (stN_lt h1)).mpr hsf⟩
    have eO : rO r = some (r / 9 - 1) := by unfold rO; rw [if_neg h9]
    have tb : ∀ i, (stN r).testBit i = (decide (r / 9 - 1 = i) || (bitO (rT r)).testBit i) := by
      intro i
      rw [stN_or, eO, Nat.testBit_or]
      show ((2 ^ (r / 9 - 1)).testBit i || _) = _
      rw [tb_pw]
    refine ⟨Or.inr ⟨h9, k1, hsub _ (by rw [tb, decide_eq_true rfl]; rfl), ?_⟩, fun _ => ⟨hrg, his, fun i hi => ?_⟩, hsub⟩
    · by_cases y0 : r % 9 = 0
      · exact Or.inl y0
      · refine Or.inr (hsub _ ?_)
        rw [tb, show rT r = some (r % 9 - 1) by unfold rT; rw [if_neg y0]]
        show (_ || (2 ^ (r % 9 - 1)).testBit (r % 9 - 1)) = true
        rw [tb_pw, decide_eq_true rfl, Bool.or_true]
    · rw [tb, Bool.or_eq_true] at hi
      rcases hi with hi | hi
      · rw [← of_decide_eq_true hi]; exact k2
      · exact k3 i hi
theorem gd_mk {N : Nat → Int32} {m l fr left : Nat} {v : Int32} {r : Nat} (hlf : sub left fr) (hfa : sub fr (amN m)) (hr : r < 81) (hv : v = nI (rwN r)) (hof : ofT left r) (hsb : sub (stN r) (ftN N l m &&& fr)) (hrun : r ≠ 0 → (dvN N l r).1 = 0) : gdR N m l (amN m ^^^ left) v r ∧ isB N m l r = true := by
  have hla : sub left (amN m) := fun i hi => hfa i (hlf i hi)
  by_cases h0 : r = 0
  · subst h0
    refine ⟨⟨hr, hv, Nat.zero_le _, Nat.zero_le _, ?_⟩, is_0 N m l⟩
    unfold opB
    rw [Bool.and_eq_true]
    refine ⟨by simp, decide_eq_true ?_⟩
    show (0 : Nat) &&& _ = 0
    exact Nat.zero_and _
  · obtain ⟨h9, hne, b1, b2⟩ := hof.resolve_left h0
    have eO : rO r = some (r / 9 - 1) := by unfold rO; rw [if_neg h9]
    have tb : ∀ i, (stN r).testBit i = (decide (r / 9 - 1 = i) || (bitO (rT r)).testBit i) := by
      intro i
      rw [stN_or, eO, Nat.testBit_or]
      show ((2 ^ (r / 9 - 1)).testBit i || _) = _
      rw [tb_pw]
    have m1 : r / 9 ≤ m := by
      have := hla _ b1
      rw [tb_am] at this
      have := of_decide_eq_true this
      omega
    have m2 : r % 9 ≤ m := by
      rcases b2 with q | q
      · omega
      · have := hla _ q
        rw [tb_am] at this
        have := of_decide_eq_true this
        omega
    have hsl : sub (stN r) left := by
      intro i hi
      rw [tb, Bool.or_eq_true] at hi
      rcases hi with hi | hi
      · rw [← of_decide_eq_true hi]; exact b1
      · by_cases y0 : r % 9 = 0
        · rw [show rT r = none by unfold rT; rw [if_pos y0]] at hi
          have e : (0 : Nat).testBit i = true := hi
          rw [Nat.zero_testBit] at e; cases e
        · rw [show rT r = some (r % 9 - 1) by unfold rT; rw [if_neg y0]] at hi
          have e : (2 ^ (r % 9 - 1)).testBit i = true := hi
          rw [tb_pw] at e
          rw [← of_decide_eq_true e]
          exact b2.resolve_left y0
    have hmay := (may_is (N := N) (l := l) (fr := fr) hr h9 m1 m2).mp ⟨hne, hsb _ (by rw [tb, decide_eq_true rfl]; rfl), fun i hi => hsb i (by rw [tb, hi, Bool.or_true])⟩
    refine ⟨⟨hr, hv, m1, m2, ?_⟩, hmay.1⟩
    unfold opB
    rw [rg_is, hmay.1, Bool.true_and, decide_eq_true (hrun h0), Bool.true_or, Bool.true_and]
    exact decide_eq_true ((open_sub (st_am hmay.1) hla).mpr hsl)
