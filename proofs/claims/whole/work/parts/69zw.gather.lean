/-! the class's rows -/
def incB (N : Nat → Int32) (m l fr r : Nat) : Bool := decide (r = 0) || (rgB N m l r && decide (dfN (stN r) fr = 0) && decide (vlZ N m l 0 < vlZ N m l r))
def glC (p : Nat → Bool) : Nat → Nat
  | 0 => 0
  | k + 1 => glC p k + (if p k = true then 1 else 0)
theorem glC_le {p : Nat → Bool} : ∀ {a b : Nat}, a ≤ b → glC p a ≤ glC p b
  | a, 0, h => by rw [show a = 0 by omega]; exact Nat.le_refl _
  | a, b + 1, h => by
    by_cases he : a = b + 1
    · rw [he]; exact Nat.le_refl _
    · have := glC_le (p := p) (show a ≤ b by omega)
      show glC p a ≤ glC p b + _
      omega
theorem glC_mono {p q : Nat → Bool} (h : ∀ r, r < 81 → p r = true → q r = true) : ∀ k, k ≤ 81 → glC p k ≤ glC q k
  | 0, _ => Nat.le_refl _
  | k + 1, hk => by
    have ih := glC_mono h k (by omega)
    unfold glC
    by_cases hp : p k = true
    · rw [if_pos hp, if_pos (h k (by omega) hp)]
      omega
    · rw [if_neg hp]
      omega
theorem rf_ne {N : Nat → Int32} {l r : Nat} (h : rfN N l (rO r) (rT r) = 0) : r / 9 = 0 ∨ r % 9 ≠ r / 9 := by
  by_cases h1 : r / 9 = 0
  · exact Or.inl h1
  · refine Or.inr fun h2 => ?_
    unfold rO rT at h
    rw [if_neg h1, if_neg (by omega), h2] at h
    have h' : (if r / 9 - 1 = r / 9 - 1 then (-100001 : Int32) else _) = 0 := h
    rw [if_pos rfl] at h'
    exact absurd h' (by decide)
theorem inc_rg {N : Nat → Int32} {m l fr r : Nat} (h : incB N m l fr r = true) (h0 : r ≠ 0) : rgB N m l r = true ∧ dfN (stN r) fr = 0 ∧ vlZ N m l 0 < vlZ N m l r := by
  unfold incB at h
  rw [decide_eq_false h0, Bool.false_or, Bool.and_eq_true, Bool.and_eq_true] at h
  exact ⟨h.1.1, of_decide_eq_true h.1.2, of_decide_eq_true h.2⟩
theorem inc_sh {N : Nat → Int32} {m l fr r : Nat} (h : incB N m l fr r = true) : (decide (r = 0) || (decide (r / 9 ≠ 0) && decide (r % 9 ≠ r / 9))) = true := by
  by_cases h0 : r = 0
  · rw [decide_eq_true h0]; rfl
  · obtain ⟨h1, -, -⟩ := inc_rg h h0
    rw [rg_is, Bool.and_eq_true] at h1
    obtain ⟨q1, q2, q3, q4⟩ := is_facts h1.1
    have q5 := rf_ne q4
    rw [decide_eq_false h0, Bool.false_or, Bool.and_eq_true]
    exact ⟨decide_eq_true (by omega), decide_eq_true (by omega)⟩
theorem inc_65 {N : Nat → Int32} {m l fr r : Nat} (hr : r < 81) (h : incB N m l fr r = true) : glC (incB N m l fr) r < 65 := by
  have h1 : glC (incB N m l fr) (r + 1) ≤ glC (incB N m l fr) 81 := glC_le (by omega)
  have h2 : glC (incB N m l fr) 81 ≤ glC (fun r => decide (r = 0) || (decide (r / 9 ≠ 0) && decide (r % 9 ≠ r / 9))) 81 := glC_mono (fun r _ hr => inc_sh hr) 81 (Nat.le_refl _)
  have h3 : glC (fun r => decide (r = 0) || (decide (r / 9 ≠ 0) && decide (r % 9 ≠ r / 9))) 81 = 65 := by decide +kernel
  have h4 : glC (incB N m l fr) (r + 1) = glC (incB N m l fr) r + 1 := by
    show glC (incB N m l fr) r + (if incB N m l fr r = true then 1 else 0) = _
    rw [if_pos h]
  omega
theorem glC_65 (N : Nat → Int32) (m l fr : Nat) {k : Nat} (hk : k ≤ 81) : glC (incB N m l fr) k ≤ 65 := by
  have h1 : glC (incB N m l fr) k ≤ glC (incB N m l fr) 81 := glC_le hk
  have h2 : glC (incB N m l fr) 81 ≤ glC (fun r => decide (r = 0) || (decide (r / 9 ≠ 0) && decide (r % 9 ≠ r / 9))) 81 := glC_mono (fun r _ hr => inc_sh hr) 81 (Nat.le_refl _)
  have h3 : glC (fun r => decide (r = 0) || (decide (r / 9 ≠ 0) && decide (r % 9 ≠ r / 9))) 81 = 65 := by decide +kernel
  omega
/-- the class's tables of rows, up to row k -/
def GI (N : Nat → Int32) (m l fr : Nat) (W : Wd) (k : Nat) : Prop := wI W 13 10 = nI (glC (incB N m l fr) k) ∧ ∀ r, r < k → incB N m l fr r = true → wI W 17 (glC (incB N m l fr) r) = nI (rwN r) ∧ wI W 18 (glC (incB N m l fr) r) = nI (stN r) ∧ wI W 19 (glC (incB N m l fr) r) = zI (vlZ N m l r)
theorem GI_skip {N : Nat → Int32} {m l fr : Nat} {W : Wd} {a : Nat} : ∀ {b : Nat}, a ≤ b → (∀ r, a ≤ r → r < b → incB N m l fr r = false) → GI N m l fr W a → GI N m l fr W b
  | 0, h, _, hg => by rw [show (0 : Nat) = a by omega]; exact hg
  | b + 1, h, hn, hg => by
    by_cases he : a = b + 1
    · rw [← he]; exact hg
    · obtain ⟨g1, g2⟩ := GI_skip (b := b) (by omega) (fun r h1 h2 => hn r h1 (by omega)) hg
      have hb := hn b (by omega) (by omega)
      refine ⟨?_, fun r hr hi => ?_⟩
      · show wI W 13 10 = nI (glC (incB N m l fr) b + (if incB N m l fr b = true then 1 else 0))
        rw [hb, if_neg (by decide)]
        exact g1
      · by_cases hrb : r = b
        · rw [hrb, hb] at hi; cases hi
        · exact g2 r (by omega) hi
theorem e_addRow {W : Wd} (hI : Inv W) {c r : Nat} (hc : c < 65) (h10 : wI W 13 10 = nI c) (hr : r < 81) (v : Int32) : f_X2_addRow W 13 (nI (rwN r)) v = some (sI (sI (sI (sI W 17 c (nI (rwN r))) 18 c (nI (stN r))) 19 c v) 13 10 (nI (c + 1))) := by
  obtain ⟨h65, hF⟩ := id hI
  have cc : (nI c).toNatClampNeg = c := nI_clamp (by omega)
  unfold f_X2_addRow
  rw [gd_pos (ob_of h65 (by decide) (by decide)), h10, if_neg (show ¬ (65 : Int32) ≤ nI c from nI_ge (b := 65) hc (by decide))]
  simp (decide := true) only [gd_ob h65, hF, Option.bind_some, cc]
  rw [gd_pos (ix_of h65 (by decide) (by decide) (show c < 65 from hc))]
  dsimp only [ltS]
  have p1 : 65 ≤ wn (sI W 17 c (nI (rwN r))) := h65
  have p2 : 65 ≤ wn (sI (sI W 17 c (nI (rwN r))) 18 c (nI (stN r))) := h65
  have p3 : 65 ≤ wn (sI (sI (sI W 17 c (nI (rwN r))) 18 c (nI (stN r))) 19 c v) := h65
  simp (decide := true) only [gd_ob p1, wO_sI, hF, Option.bind_some, e_loadsOf _ hr, bd2_eq]
  rw [wI_sI_ne (by omega), h10, cc, gd_pos (ix_of p1 (by decide) (by decide) (show c < 65 from hc))]
  simp (decide := true) only [gd_ob p2, wO_sI, hF, Option.bind_some]
  rw [wI_sI_ne (by omega), wI_sI_ne (by omega), h10, cc, gd_pos (ix_of p2 (by decide) (by decide) (show c < 65 from hc))]
  simp (decide := true) only [gd_ob p3]
  rw [wI_sI_ne (by omega), wI_sI_ne (by omega), wI_sI_ne (by omega), h10, nI_1]
theorem GI_add {N : Nat → Int32} {m l fr : Nat} {W : Wd} {k : Nat} (hi : incB N m l fr k = true) (h : GI N m l fr W k) : GI N m l fr (sI (sI (sI (sI W 17 (glC (incB N m l fr) k) (nI (rwN k))) 18 (glC (incB N m l fr) k) (nI (stN k))) 19 (glC (incB N m l fr) k) (zI (vlZ N m l k))) 13 10 (nI (glC (incB N m l fr) k + 1))) (k + 1) := by
  obtain ⟨g1, g2⟩ := h
  refine ⟨?_, fun r hr hri => ?_⟩
  · show _ = nI (glC (incB N m l fr) k + (if incB N m l fr k = true then 1 else 0))
    rw [wI_sI_eq, if_pos hi]
  · by_cases he : r = k
    · subst he
      refine ⟨?_, ?_, ?_⟩
      · rw [wI_sI_ne (by omega), wI_sI_ne (by omega), wI_sI_ne (by omega), wI_sI_eq]
      · rw [wI_sI_ne (by omega), wI_sI_ne (by omega), wI_sI_eq]
      · rw [wI_sI_ne (by omega), wI_sI_eq]
    · have hlt : glC (incB N m l fr) r < glC (incB N m l fr) k := by
        have h1 : glC (incB N m l fr) (r + 1) ≤ glC (incB N m l fr) k := glC_le (by omega)
        have h2 : glC (incB N m l fr) (r + 1) = glC (incB N m l fr) r + 1 := by
          show glC (incB N m l fr) r + (if incB N m l fr r = true then 1 else 0) = _
          rw [if_pos hri]
        omega
      obtain ⟨x1, x2, x3⟩ := g2 r (by omega) hri
      refine ⟨?_, ?_, ?_⟩
      · rw [wI_sI_ne (by omega), wI_sI_ne (by omega), wI_sI_ne (by omega), wI_sI_ne (by omega)]; exact x1
      · rw [wI_sI_ne (by omega), wI_sI_ne (by omega), wI_sI_ne (by omega), wI_sI_ne (by omega)]; exact x2
      · rw [wI_sI_ne (by omega), wI_sI_ne (by omega), wI_sI_ne (by omega), wI_sI_ne (by omega)]; exact x3
theorem pw_and {s d : Nat} (hd : d < 8) : nI (2 ^ d) &&& nI s = 0 ↔ s.testBit d = false := by
  rw [and_test (pw_lt hd)]
  constructor
  · intro h
    have e : (2 ^ d &&& s).testBit d = false := by rw [h, Nat.zero_testBit]
    rw [Nat.testBit_and, tb_pw, decide_eq_true rfl, Bool.true_and] at e
    exact e
  · intro h
    refine Nat.eq_of_testBit_eq fun i => ?_
    rw [Nat.testBit_and, tb_pw, Nat.zero_testBit]
    by_cases he : d = i
    · rw [← he, h, Bool.and_false]
    · rw [decide_eq_false he, Bool.false_and]
theorem nle_rT {m r : Nat} (hm : m ≤ 8) : nI m ≤ ans (rT r) ↔ ¬ r % 9 ≤ m := by
  unfold rT
  by_cases h0 : r % 9 = 0
  · rw [if_pos h0]
    constructor
    · intro h
      exact absurd (Int32.le_trans (nI_pos' (n := m) (by omega)) h) (by decide)
    · intro h
      omega
  · rw [if_neg h0]
    show nI m ≤ nI (r % 9 - 1) ↔ _
    rw [nI_leI (by omega) (by omega)]
    omega
theorem bitO_lt {o : Option Nat} (ho : opLt 8 o) : bitO o < 256 := by
  cases o with
  | none => show 0 < 256; decide
  | some d => exact pw_lt ho
/-- a row that the class may look at is one, and of the free loads -/
theorem may_is {N : Nat → Int32} {m l fr r : Nat} (hr : r < 81) (h9 : r / 9 ≠ 0) (hm : r / 9 ≤ m) (hq : r % 9 ≤ m) : (r % 9 ≠ r / 9 ∧ (ftN N l m &&& fr).testBit (r / 9 - 1) = true ∧ sub (bitO (rT r)) (ftN N l m &&& fr)) ↔ (isB N m l r = true ∧ dfN (stN r) fr = 0) := by
  have hO : rO r = some (r / 9 - 1) := by unfold rO; rw [if_neg h9]
  have bit1 : ∀ i, (ftN N l m &&& fr).testBit i = true ↔ (i < m ∧ ¬ fitI N l i = 0 ∧ fr.testBit i = true) := by
    intro i
    rw [Nat.testBit_and, tb_ft]
    by_cases h1 : i < m
    · by_cases h2 : fitI N l i = 0
      · simp [h1, h2]
      · simp [h1, h2]
    · simp [h1]
  have hst : ∀ i, (stN r).testBit i = (decide (r / 9 - 1 = i) || (bitO (rT r)).testBit i) := by
    intro i
    rw [stN_or, hO, Nat.testBit_or]
    show ((2 ^ (r / 9 - 1)).testBit i || _) = _
    rw [tb_pw]
  rw [df_zero (stN_lt hr)]
  have isI : isB N m l r = true ↔ rfN N l (rO r) (rT r) = 0 := by
    constructor
    · exact fun h => (is_facts h).2.2.2
    · intro h
      unfold isB
      rw [Bool.and_eq_true, Bool.and_eq_true, Bool.and_eq_true, Bool.or_eq_true]
      exact ⟨⟨⟨Or.inl (decide_eq_true h9), decide_eq_true hm⟩, decide_eq_true hq⟩, decide_eq_true h⟩
  rw [isI, hO]
  have tbT : ∀ {b : Nat}, rT r = some b → ∀ i, (bitO (rT r)).testBit i = decide (b = i) := fun e i => by rw [e]; exact tb_pw
  cases hT : rT r with
  | none =>
    have h0 : r % 9 = 0 := by
      unfold rT at hT
      by_cases q : r % 9 = 0
      · exact q
      · rw [if_neg q] at hT; cases hT
    have rf : rfN N l (some (r / 9 - 1)) none = if fitI N l (r / 9 - 1) = 0 then -100004 else 0 := rfl
    have tbN : ∀ i, (bitO (rT r)).testBit i = false := fun i => by rw [hT]; exact Nat.zero_testBit i
    rw [rf]
    constructor
    · rintro ⟨-, h2, -⟩
      obtain ⟨x1, x2, x3⟩ := (bit1 _).mp h2
      refine ⟨if_neg x2, fun i hi => ?_⟩
      rw [hst, tbN, Bool.or_false] at hi
      rw [← of_decide_eq_true hi]
      exact x3
    · rintro ⟨h1, h2⟩
      have x2 : ¬ fitI N l (r / 9 - 1) = 0 := fun q => by rw [if_pos q] at h1; exact absurd h1 (by decide)
      refine ⟨by omega, (bit1 _).mpr ⟨by omega, x2, h2 _ (by rw [hst, decide_eq_true rfl]; rfl)⟩, fun i hi => ?_⟩
      have := tbN i
      rw [hT] at this
      rw [this] at hi
      cases hi
  | some b =>
    have hb : r % 9 ≠ 0 ∧ b = r % 9 - 1 := by
      unfold rT at hT
      by_cases q : r % 9 = 0
      · rw [if_pos q] at hT; cases hT
      · rw [if_neg q] at hT
        exact ⟨q, (Option.some.inj hT).symm⟩
    have rf : rfN N l (some (r / 9 - 1)) (some b) = if r / 9 - 1 = b then -100001 else if fitI N l (r / 9 - 1) = 0 then -100004 else if fitI N l b = 0 then -100004 else 0 := rfl
    have tbS := tbT hT
    rw [rf]
    constructor
    · rintro ⟨h0, h2, h3⟩
      obtain ⟨x1, x2, x3⟩ := (bit1 _).mp h2
      obtain ⟨y1, y2, y3⟩ := (bit1 b).mp (h3 b (by show (2 ^ b).testBit b = true; rw [tb_pw, decide_eq_true rfl]))
      refine ⟨by rw [if_neg (by omega), if_neg x2, if_neg y2], fun i hi => ?_⟩
      rw [hst, tbS, Bool.or_eq_true] at hi
      rcases hi with hi | hi
      · rw [← of_decide_eq_true hi]; exact x3
      · rw [← of_decide_eq_true hi]; exact y3
    · rintro ⟨h1, h2⟩
      have x0 : ¬ r / 9 - 1 = b := fun q => by rw [if_pos q] at h1; exact absurd h1 (by decide)
      rw [if_neg x0] at h1
      have x2 : ¬ fitI N l (r / 9 - 1) = 0 := fun q => by rw [if_pos q] at h1; exact absurd h1 (by decide)
      rw [if_neg x2] at h1
      have x4 : ¬ fitI N l b = 0 := fun q => by rw [if_pos q] at h1; exact absurd h1 (by decide)
      refine ⟨by omega, (bit1 _).mpr ⟨by omega, x2, h2 _ (by rw [hst, decide_eq_true rfl]; rfl)⟩, fun i hi => ?_⟩
      have hi' : (2 ^ b).testBit i = true := hi
      rw [tb_pw] at hi'
      have := of_decide_eq_true hi'
      subst this
      exact (bit1 _).mpr ⟨by omega, x4, h2 _ (by rw [hst, tbS, decide_eq_true rfl, Bool.or_true])⟩
