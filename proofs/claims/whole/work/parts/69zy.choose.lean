/-! the class's choice -/
def cardK (s : Nat) : Nat → Nat
  | 0 => 0
  | k + 1 => cardK s k + (if s.testBit k = true then 1 else 0)
def cardN (s : Nat) : Nat := cardK s 8
theorem cardK_or (a b : Nat) : ∀ k, cardK (a ||| b) k ≤ cardK a k + cardK b k
  | 0 => Nat.le_refl _
  | k + 1 => by
    have ih := cardK_or a b k
    unfold cardK
    rw [Nat.testBit_or]
    cases a.testBit k <;> cases b.testBit k <;> simp <;> omega
theorem cardK_mono {a b : Nat} (h : sub a b) : ∀ k, cardK a k ≤ cardK b k
  | 0 => Nat.le_refl _
  | k + 1 => by
    have ih := cardK_mono h k
    unfold cardK
    by_cases ha : a.testBit k = true
    · rw [if_pos ha, if_pos (h k ha)]
      omega
    · rw [if_neg ha]
      omega
theorem card_st {r : Nat} (hr : r < 81) : cardN (stN r) ≤ 2 := by
  have h : ∀ i : Fin 81, cardN (stN i.val) ≤ 2 := by decide +kernel
  exact h ⟨r, hr⟩
theorem bc_card {s : Nat} (hs : s < 256) : bcI (nI s) = nI (cardN s) := by
  have h : ∀ a : Fin 16, ∀ b : Fin 16, bcI (nI (16 * a.val + b.val)) = nI (cardN (16 * a.val + b.val)) := by decide +kernel
  have := h ⟨s / 16, by omega⟩ ⟨s % 16, by omega⟩
  rw [show 16 * (s / 16) + s % 16 = s by omega] at this
  exact this
theorem card_le (s : Nat) : cardN s ≤ 8 := by
  have h : ∀ k, cardK s k ≤ k := by
    intro k
    induction k with
    | zero => exact Nat.le_refl _
    | succ k ih =>
      unfold cardK
      split <;> omega
  exact h 8
theorem card_df {fr s t : Nat} (hfr : fr < 256) (hs : s < 256) : cardN (dfN fr (dfN s t)) ≤ cardN (dfN fr s) + cardN t := by
  refine Nat.le_trans (cardK_mono (b := dfN fr s ||| t) (fun i hi => ?_) 8) (cardK_or _ _ 8)
  rw [tb_dfN hfr, tb_dfN hs] at hi
  rw [Nat.testBit_or, tb_dfN hfr]
  cases a : fr.testBit i <;> cases b : s.testBit i <;> cases c : t.testBit i <;> rw [a, b, c] at hi <;> first | rfl | cases hi
theorem st_am {N : Nat → Int32} {m l r : Nat} (h : isB N m l r = true) : sub (stN r) (amN m) := by
  obtain ⟨-, h2, h3, -⟩ := is_facts h
  intro i hi
  rw [stN_or, Nat.testBit_or] at hi
  rw [tb_am]
  refine decide_eq_true ?_
  rw [Bool.or_eq_true] at hi
  rcases hi with hi | hi
  · unfold rO at hi
    by_cases q : r / 9 = 0
    · rw [if_pos q] at hi
      have h0 : (0 : Nat).testBit i = true := hi
      rw [Nat.zero_testBit] at h0; cases h0
    · rw [if_neg q] at hi
      have h1 : (2 ^ (r / 9 - 1)).testBit i = true := hi
      rw [tb_pw] at h1
      have := of_decide_eq_true h1
      omega
  · unfold rT at hi
    by_cases q : r % 9 = 0
    · rw [if_pos q] at hi
      have h0 : (0 : Nat).testBit i = true := hi
      rw [Nat.zero_testBit] at h0; cases h0
    · rw [if_neg q] at hi
      have h1 : (2 ^ (r % 9 - 1)).testBit i = true := hi
      rw [tb_pw] at h1
      have := of_decide_eq_true h1
      omega
theorem rg_81 {N : Nat → Int32} {m l r : Nat} (hm : m ≤ 8) (h : rgB N m l r = true) : r < 81 ∧ isB N m l r = true := by
  rw [rg_is, Bool.and_eq_true] at h
  obtain ⟨-, h2, h3, -⟩ := is_facts h.1
  exact ⟨by omega, h.1⟩
/-- the class's table, from lorry l on -/
def CT (N : Nat → Int32) (n m fr : Nat) (W : Wd) (l : Nat) : Prop := ∀ l', l ≤ l' → l' ≤ n → ∀ s, s < 256 → sub s fr → cardN (dfN fr s) ≤ 2 * l' + 1 → wI W 14 (256 * l' + s) = zI (bsZ N n m (n - l') (amN m ^^^ s)) ∧ (l' < n → wI W 15 (256 * l' + s) = nI (rwN (chR N n m l' (amN m ^^^ s))))
theorem cf_le {f : Nat → Int} {p : Nat → Bool} : ∀ k, (cfF f p k).2 ≤ k
  | 0 => Nat.le_refl _
  | k + 1 => by
    have := cf_le (f := f) (p := p) k
    unfold cfF
    split
    · exact Nat.le_refl _
    · omega
theorem cf_b {f : Nat → Int} {p : Nat → Bool} (h : ∀ r, -2000000 ≤ f r ∧ f r ≤ 2000000) : ∀ k, -2000000 ≤ (cfF f p k).1 ∧ (cfF f p k).1 ≤ 2000000
  | 0 => h 0
  | k + 1 => by
    have := cf_b (p := p) h k
    unfold cfF
    split
    · exact h (k + 1)
    · exact this
theorem e_choose {W : Wd} (hI : Inv W) {N : Nat → Int32} {n m l fr s : Nat} (hf : Fac N n m) (hfr : fr < 256) (hfa : sub fr (amN m)) (hl : l < n) (hs : s < 256) (hsf : sub s fr) (hc : cardN (dfN fr s) ≤ 2 * l + 1) (hG : GI N m l fr W 81) (hT : CT N n m fr W (l + 1)) : f_X2_choose W 13 (nI l) (nI s) = some (sI (sI W 14 (256 * l + s) (zI (bsZ N n m (n - l) (amN m ^^^ s)))) 15 (256 * l + s) (nI (rwN (chR N n m l (amN m ^^^ s))))) := by
  obtain ⟨h65, hF⟩ := id hI
  have n6 := hf.1
  have m8 := hf.2.1
  obtain ⟨g1, g2⟩ := hG
  have hsa : sub s (amN m) := fun i hi => hfa i (hsf i hi)
  have fb : ∀ r, -2000000 ≤ vlZ N m l r + bsZ N n m (n - (l + 1)) ((amN m ^^^ s) ||| stN r) ∧ vlZ N m l r + bsZ N n m (n - (l + 1)) ((amN m ^^^ s) ||| stN r) ≤ 2000000 := fun r => wz_b hf hl
  -- the class's table, read
  have rd : ∀ {r}, r < 81 → sub (stN r) s → wI W 14 (256 * (l + 1) + dfN s (stN r)) = zI (bsZ N n m (n - (l + 1)) ((amN m ^^^ s) ||| stN r)) := by
    intro r hr hsub
    have h1 := card_df (fr := fr) (s := s) (t := stN r) hfr hs
    have h2 := card_st hr
    rw [(hT (l + 1) (Nat.le_refl _) (by omega) (dfN s (stN r)) (dfN_lt hs) (sub_df hs hsf) (by omega)).1, gone_df hs hsub hsa]
  have inc0 : incB N m l fr 0 = true := by unfold incB; rfl
  obtain ⟨hch1, hch2, hch3, hch4⟩ := ch_eq (N := N) (n := n) (m := m) (l := l) (g := amN m ^^^ s) hl (p := fun r => incB N m l fr r && decide (dfN (stN r) s = 0)) (by
    intro r hr hp
    rw [Bool.and_eq_true] at hp
    obtain ⟨i1, -, -⟩ := inc_rg hp.1 (by omega)
    obtain ⟨r81, ris⟩ := rg_81 m8 i1
    unfold opB
    rw [i1, Bool.true_or, Bool.true_and]
    exact decide_eq_true ((open_sub (st_am ris) hsa).mpr ((df_zero (stN_lt r81)).mp (of_decide_eq_true hp.2)))) (by
    intro r hr ho hp
    unfold opB at ho
    rw [Bool.and_eq_true] at ho
    have hrg : rgB N m l r = true := by
      have := ho.1
      rw [decide_eq_false (show ¬ r = 0 by omega), Bool.or_false] at this
      exact this
    obtain ⟨r81, ris⟩ := rg_81 m8 hrg
    have hsub : sub (stN r) s := (open_sub (st_am ris) hsa).mp (of_decide_eq_true ho.2)
    have hsubf : sub (stN r) fr := fun i hi => hsf i (hsub i hi)
    rcases Int.lt_or_le (vlZ N m l 0) (vlZ N m l r) with hlt | hge
    · exfalso
      refine hp ?_
      rw [Bool.and_eq_true]
      refine ⟨?_, decide_eq_true ((df_zero (stN_lt r81)).mpr hsub)⟩
      unfold incB
      rw [hrg, decide_eq_true ((df_zero (stN_lt r81)).mpr hsubf), decide_eq_true hlt]
      simp
    · exact hge)
  -- the loop
  have fE : ∀ k, k < 81 → glC (incB N m l fr) (k + 1) = glC (incB N m l fr) k + (if incB N m l fr k = true then 1 else 0) := fun k _ => rfl
  generalize hfd : (fun r => vlZ N m l r + bsZ N n m (n - (l + 1)) ((amN m ^^^ s) ||| stN r)) = f at *
  have fb' : ∀ r, -2000000 ≤ f r ∧ f r ≤ 2000000 := fun r => by rw [← hfd]; exact fb r
  have fv : ∀ {r}, r < 81 → sub (stN r) s → zI (vlZ N m l r) + wI W 14 (256 * (l + 1) + dfN s (stN r)) = zI (f r) := fun hr hsub => by
    rw [rd hr hsub, zI_add, ← hfd]
  have walk : ∀ k, k ≤ 80 → ru B_X2_choose (0, [13], [nI l, nI s], W) = ru B_X2_choose (1, [13], [nI l, nI s, nI (256 * (l + 1)), zI (cfF f (fun r => incB N m l fr r && decide (dfN (stN r) s = 0)) k).1, nI (rwN (cfF f (fun r => incB N m l fr r && decide (dfN (stN r) s = 0)) k).2), nI (glC (incB N m l fr) (k + 1))], W) := by
    intro k
    induction k with
    | zero =>
      intro _
      refine ru_step ?_
      obtain ⟨x1, x2, x3⟩ := g2 0 (by decide) inc0
      have hz : dfN s (stN 0) = s := by
        refine Nat.eq_of_testBit_eq fun i => ?_
        rw [tb_dfN hs]
        show (s.testBit i && !(0 : Nat).testBit i) = _
        rw [Nat.zero_testBit]
        simp
      have f0 := fv (r := 0) (by decide) (fun i hi => by
        have h0 : (0 : Nat).testBit i = true := hi
        rw [Nat.zero_testBit] at h0; cases h0)
      rw [hz] at f0
      show B_X2_choose_0 W 13 (nI l) (nI s) = _
      unfold B_X2_choose_0
      simp (decide := true) only [gd_ob h65, hF, Option.bind_some]
      rw [gd_pos (show ix W 19 100 (0 : Int32) from ix_of (i := 0) h65 (by decide) (by decide) (by decide)), nI_1, show nI (l + 1) * 256 = nI (256 * (l + 1)) by show nI (l + 1) * nI 256 = _; rw [nI_mul, Nat.mul_comm], nI_add, gd_pos (ix_of h65 (by decide) (by decide) (show 256 * (l + 1) + s < 1792 by omega)), nI_clamp (by omega), show wI W 19 (0 : Int32).toNatClampNeg = zI (vlZ N m l 0) from x3, f0]
      rw [show glC (incB N m l fr) (0 + 1) = 1 by rw [fE 0 (by decide), if_pos inc0]; rfl, show cfF f (fun r => incB N m l fr r && decide (dfN (stN r) s = 0)) 0 = (f 0, 0) from rfl]
      have rw0 : rwN 0 = 0 := by decide
      show _ = some (Sum.inr (1, [13], [nI l, nI s, nI (256 * (l + 1)), zI (f 0), nI (rwN 0), nI 1], W))
      rw [rw0]
      rfl
    | succ k ih =>
      intro hk
      refine (ih (by omega)).trans ?_
      have hcb := cf_b (p := fun r => incB N m l fr r && decide (dfN (stN r) s = 0)) fb' k
      have hcl := cf_le (f := f) (p := fun r => incB N m l fr r && decide (dfN (stN r) s = 0)) k
      rw [show cfF f (fun r => incB N m l fr r && decide (dfN (stN r) s = 0)) (k + 1) = if (incB N m l fr (k + 1) && decide (dfN (stN (k + 1)) s = 0)) = true ∧ (cfF f (fun r => incB N m l fr r && decide (dfN (stN r) s = 0)) k).1 < f (k + 1) then (f (k + 1), k + 1) else cfF f (fun r => incB N m l fr r && decide (dfN (stN r) s = 0)) k from rfl]
      generalize cfF f (fun r => incB N m l fr r && decide (dfN (stN r) s = 0)) k = Q at *
      rw [fE (k + 1) (by omega)]
      by_cases hi : incB N m l fr (k + 1) = true
      · rw [if_pos hi]
        obtain ⟨x1, x2, x3⟩ := g2 (k + 1) (by omega) hi
        have h65i := inc_65 (show k + 1 < 81 by omega) hi
        have hgl : glC (incB N m l fr) (k + 1) < glC (incB N m l fr) 81 := by
          have a1 : glC (incB N m l fr) (k + 1 + 1) ≤ glC (incB N m l fr) 81 := glC_le (by omega)
          rw [fE (k + 1) (by omega), if_pos hi] at a1
          omega
        have g65 := glC_65 N m l fr (Nat.le_refl 81)
        refine ru_step ?_
        show B_X2_choose_1 W 13 (nI l) (nI s) (nI (256 * (l + 1))) (zI Q.1) (nI (rwN Q.2)) (nI (glC (incB N m l fr) (k + 1))) = _
        unfold B_X2_choose_1
        rw [gd_pos (ob_of h65 (by decide) (by decide)), g1, if_neg (nI_ge hgl (by omega))]
        simp (decide := true) only [gd_ob h65, hF, Option.bind_some, gd_pos (show ix W 18 100 (nI (glC (incB N m l fr) (k + 1))) from ix_of h65 (by decide) (by decide) h65i), gd_pos (show ix W 19 100 (nI (glC (incB N m l fr) (k + 1))) from ix_of h65 (by decide) (by decide) h65i), gd_pos (show ix W 17 100 (nI (glC (incB N m l fr) (k + 1))) from ix_of h65 (by decide) (by decide) h65i), nI_clamp (show glC (incB N m l fr) (k + 1) < 2 ^ 31 by omega), x1, x2, x3]
        have st81 := stN_lt (show k + 1 < 81 by omega)
        by_cases hsub : sub (stN (k + 1)) s
        · have hd := dfN_lt (s := s) (t := stN (k + 1)) hs
          rw [if_pos ((sub_test st81).mpr hsub), nI_df hs, nI_add, gd_pos (ix_of h65 (by decide) (by decide) (show 256 * (l + 1) + dfN s (stN (k + 1)) < 1792 by omega)), nI_clamp (show 256 * (l + 1) + dfN s (stN (k + 1)) < 2 ^ 31 by omega), fv (by omega) hsub, nI_1, hi, decide_eq_true ((df_zero st81).mpr hsub)]
          by_cases hlt : Q.1 < f (k + 1)
          · rw [if_neg (fun hh => by have := (zI_le (fb' _) hcb).mp hh; omega), if_pos ⟨rfl, hlt⟩]
          · rw [if_pos ((zI_le (fb' _) hcb).mpr (by omega)), if_neg (fun hh => hlt hh.2)]
        · rw [if_neg (fun hh => hsub ((sub_test st81).mp hh)), nI_1, hi, decide_eq_false (fun hh => hsub ((df_zero st81).mp hh)), if_neg (fun hh => by have := hh.1; cases this)]
      · rw [if_neg hi]
        have hi' : incB N m l fr (k + 1) = false := by
          cases q : incB N m l fr (k + 1) with
          | false => rfl
          | true => exact absurd q hi
        rw [hi', Bool.false_and, if_neg (fun hh => by have := hh.1; cases this)]
        rfl
  unfold f_X2_choose
  refine (walk 80 (Nat.le_refl _)).trans (ru_done ?_)
  rw [hch1, hch2]
  show B_X2_choose_1 W 13 (nI l) (nI s) (nI (256 * (l + 1))) (zI (bsZ N n m (n - l) (amN m ^^^ s))) (nI (rwN (chR N n m l (amN m ^^^ s)))) (nI (glC (incB N m l fr) (80 + 1))) = _
  unfold B_X2_choose_1
  rw [gd_pos (ob_of h65 (by decide) (by decide)), g1, if_pos (Int32.le_refl _)]
  simp (decide := true) only [gd_ob h65, hF, Option.bind_some]
  rw [show nI l * 256 + nI s = nI (256 * l + s) by show nI l * nI 256 + nI s = _; rw [nI_mul, nI_add, Nat.mul_comm], gd_pos (ix_of h65 (by decide) (by decide) (show 256 * l + s < 1792 by omega)), nI_clamp (by omega)]
  dsimp only [ltS]
  have p1 : 65 ≤ wn (sI W 14 (256 * l + s) (zI (bsZ N n m (n - l) (amN m ^^^ s)))) := h65
  simp (decide := true) only [gd_ob p1, wO_sI, hF, Option.bind_some]
  rw [gd_pos (ix_of p1 (by decide) (by decide) (show 256 * l + s < 1536 by omega))]
