/-! numbers that may be negative, sets as numbers -/
theorem zI_add (x y : Int) : zI x + zI y = zI (x + y) := (Int32.ofInt_add x y).symm
theorem zI_toInt {x : Int} (h1 : -2147483648 ≤ x) (h2 : x < 2147483648) : (zI x).toInt = x := by
  unfold zI
  rw [Int32.toInt_ofInt]
  show Int.bmod x 4294967296 = x
  exact Int.bmod_eq_of_le (by omega) (by omega)
theorem nI_zI {a : Nat} (h : a < 2 ^ 31) : nI a = zI (a : Int) := by
  apply Int32.toInt_inj.mp
  rw [nI_toInt h, zI_toInt (by omega) (by omega)]
theorem zI_sub {a b : Nat} (ha : a < 2 ^ 30) (hb : b < 2 ^ 30) : nI a - nI b = zI ((a : Int) - (b : Int)) := by
  apply Int32.toInt_inj.mp
  rw [zI_toInt (by omega) (by omega), Int32.toInt_sub, nI_toInt (by omega), nI_toInt (by omega)]
  exact Int.bmod_eq_of_le (by omega) (by omega)
theorem zI_le {x y : Int} (h1 : -2000000 ≤ x ∧ x ≤ 2000000) (h2 : -2000000 ≤ y ∧ y ≤ 2000000) : zI x ≤ zI y ↔ x ≤ y := by
  rw [Int32.le_iff_toInt_le, zI_toInt (by omega) (by omega), zI_toInt (by omega) (by omega)]
theorem zI_lt {x y : Int} (h1 : -2000000 ≤ x ∧ x ≤ 2000000) (h2 : -2000000 ≤ y ∧ y ≤ 2000000) : zI x < zI y ↔ x < y := by
  rw [Int32.lt_iff_toInt_lt, zI_toInt (by omega) (by omega), zI_toInt (by omega) (by omega)]
theorem zI_eq {x y : Int} (h1 : -2000000 ≤ x ∧ x ≤ 2000000) (h2 : -2000000 ≤ y ∧ y ≤ 2000000) : zI x = zI y ↔ x = y := by
  constructor
  · intro h
    have := congrArg Int32.toInt h
    rwa [zI_toInt (by omega) (by omega), zI_toInt (by omega) (by omega)] at this
  · intro h
    rw [h]
theorem zI_0 : zI 0 = 0 := rfl
theorem zI_max {x y : Int} (h1 : -2000000 ≤ x ∧ x ≤ 2000000) (h2 : -2000000 ≤ y ∧ y ≤ 2000000) : mMax (zI x) (zI y) = zI (max x y) := by
  unfold mMax
  by_cases h : x < y
  · rw [if_pos ((zI_lt h1 h2).mpr h), Int.max_eq_right (by omega)]
  · rw [if_neg (fun q => h ((zI_lt h1 h2).mp q)), Int.max_eq_left (by omega)]
theorem bt_nI {x i : Nat} (hi : i < 32) : bt (nI x) i = x.testBit i := by
  show (BitVec.ofNat 32 x).getLsbD i = _
  rw [BitVec.getLsbD_ofNat]
  simp [hi]
theorem bt_xor (u v : Int32) (k : Nat) : bt (u ^^^ v) k = (bt u k ^^ bt v k) := by
  unfold bt
  rw [Int32.toBitVec_xor, BitVec.getLsbD_xor]
theorem bt_m1 {k : Nat} (hk : k < 32) : bt (-1) k = true := by
  have h : ∀ i : Fin 32, bt (-1) i.val = true := by decide +kernel
  exact h ⟨k, hk⟩
theorem nI_or (a b : Nat) : nI a ||| nI b = nI (a ||| b) := bt_ext fun k hk => by rw [bt_or, bt_nI hk, bt_nI hk, bt_nI hk, Nat.testBit_or]
theorem nI_and (a b : Nat) : nI a &&& nI b = nI (a &&& b) := bt_ext fun k hk => by rw [bt_and, bt_nI hk, bt_nI hk, bt_nI hk, Nat.testBit_and]
theorem tb_hi {s : Nat} (h : s < 256) {i : Nat} (hi : 8 ≤ i) : s.testBit i = false := Nat.testBit_lt_two_pow (Nat.lt_of_lt_of_le h (show 2 ^ 8 ≤ 2 ^ i from Nat.pow_le_pow_right (by decide) hi))
theorem tb255 (i : Nat) : (255 : Nat).testBit i = decide (i < 8) := Nat.testBit_two_pow_sub_one 8 i
theorem tb_dfN {s t : Nat} (hs : s < 256) (i : Nat) : (dfN s t).testBit i = (s.testBit i && !t.testBit i) := by
  unfold dfN
  rw [Nat.testBit_and, Nat.testBit_xor, tb255]
  by_cases h : i < 8
  · rw [decide_eq_true h]
    simp
  · rw [tb_hi hs (by omega)]
    rfl
theorem dfN_lt {s t : Nat} (hs : s < 256) : dfN s t < 256 := Nat.lt_of_le_of_lt Nat.and_le_left hs
theorem nI_df {s t : Nat} (hs : s < 256) : nI s &&& (nI t ^^^ (-1)) = nI (dfN s t) := bt_ext fun k hk => by
  rw [bt_and, bt_xor, bt_m1 hk, bt_nI hk, bt_nI hk, bt_nI hk, tb_dfN hs]
  cases s.testBit k <;> cases t.testBit k <;> rfl
def sub (s t : Nat) : Prop := ∀ i, s.testBit i = true → t.testBit i = true
theorem df_zero {s t : Nat} (hs : s < 256) : dfN s t = 0 ↔ sub s t := by
  constructor
  · intro h i hi
    have := tb_dfN (t := t) hs i
    rw [h, Nat.zero_testBit, hi] at this
    cases ht : t.testBit i with
    | true => rfl
    | false => rw [ht] at this; cases this
  · intro h
    refine Nat.eq_of_testBit_eq fun i => ?_
    rw [tb_dfN hs, Nat.zero_testBit]
    cases hi : s.testBit i with
    | false => rfl
    | true => rw [h i hi]; rfl
/-- the class's test whether one set lies in another -/
theorem sub_test {s t : Nat} (hs : s < 256) : nI s &&& (nI t ^^^ (-1)) = 0 ↔ sub s t := by
  have := dfN_lt (t := t) hs
  rw [nI_df hs, ← df_zero hs]
  constructor
  · intro h
    exact (nI_eq (by omega) (by decide)).mp (h.trans nI_0.symm)
  · intro h
    rw [h]
    rfl
theorem and_test {s t : Nat} (hs : s < 256) : nI s &&& nI t = 0 ↔ s &&& t = 0 := by
  have h1 : s &&& t < 256 := Nat.lt_of_le_of_lt Nat.and_le_left hs
  rw [nI_and]
  constructor
  · intro h
    exact (nI_eq (by omega) (by decide)).mp (h.trans nI_0.symm)
  · intro h
    rw [h]
    rfl
theorem or_lt {s t : Nat} (hs : s < 256) (ht : t < 256) : s ||| t < 256 := Nat.or_lt_two_pow (n := 8) hs ht
theorem pw_nI {d : Nat} (hd : d < 8) : (1 : Int32) <<< (nI d &&& 31) = nI (2 ^ d) := by
  have h : ∀ i : Fin 8, (1 : Int32) <<< (nI i.val &&& 31) = nI (2 ^ i.val) := by decide +kernel
  exact h ⟨d, hd⟩
theorem pw_lt {d : Nat} (hd : d < 8) : 2 ^ d < 256 := Nat.pow_lt_pow_right (by decide) hd
theorem tb_pw {d i : Nat} : (2 ^ d).testBit i = decide (d = i) := Nat.testBit_two_pow
def bitO : Option Nat → Nat
  | none => 0
  | some d => 2 ^ d
theorem stN_or (r : Nat) : stN r = bitO (rO r) ||| bitO (rT r) := by
  unfold stN rO rT
  split
  · split <;> rfl
  · split <;> rfl
theorem stN_lt {r : Nat} (hr : r < 81) : stN r < 256 := by
  have h : ∀ i : Fin 81, stN i.val < 256 := by decide +kernel
  exact h ⟨r, hr⟩
theorem e_setOf (V : Wd) {r : Nat} (hr : r < 81) : f_X12_setOf V (nI r) = some (nI (stN r), V) := by
  unfold f_X12_setOf stN
  rw [show nI r / 9 = nI (r / 9) from pk_div (d := 9) (by omega) (by decide) (by decide), show irm (nI r) 9 = nI (r % 9) from irm_nI (d := 9) (by omega) (by decide) (by decide)]
  by_cases h1 : r / 9 = 0
  · rw [if_pos (show nI (r / 9) ≤ 0 by rw [h1]; decide), if_pos h1]
    by_cases h2 : r % 9 = 0
    · rw [if_pos (show nI (r % 9) ≤ 0 by rw [h2]; decide), if_pos h2]
      rfl
    · rw [if_neg (nI_nle (by omega) (by omega)), if_neg h2, show nI (r % 9) - 1 = nI (r % 9 - 1) from nI_sub (b := 1) (by omega), pw_nI (by omega), show (0 : Int32) = nI 0 from rfl, nI_or]
  · rw [if_neg (nI_nle (by omega) (by omega)), if_neg h1]
    by_cases h2 : r % 9 = 0
    · rw [if_pos (show nI (r % 9) ≤ 0 by rw [h2]; decide), if_pos h2, show nI (r / 9) - 1 = nI (r / 9 - 1) from nI_sub (b := 1) (by omega), pw_nI (by omega), show (0 : Int32) = nI 0 from rfl, nI_or]
    · rw [if_neg (nI_nle (by omega) (by omega)), if_neg h2, show nI (r % 9) - 1 = nI (r % 9 - 1) from nI_sub (b := 1) (by omega), show nI (r / 9) - 1 = nI (r / 9 - 1) from nI_sub (b := 1) (by omega), pw_nI (by omega), pw_nI (by omega), nI_or]
/-- all loads of a bourse with m of them -/
def amN (m : Nat) : Nat := 2 ^ m - 1
theorem tb_am (m i : Nat) : (amN m).testBit i = decide (i < m) := Nat.testBit_two_pow_sub_one m i
theorem am_lt {m : Nat} (hm : m ≤ 8) : amN m < 256 := by
  have : 2 ^ m ≤ 2 ^ 8 := Nat.pow_le_pow_right (by decide) hm
  unfold amN
  omega
theorem xor_lt {s t : Nat} (hs : s < 256) (ht : t < 256) : s ^^^ t < 256 := Nat.xor_lt_two_pow (n := 8) hs ht
theorem gone_df {m s t : Nat} (hs : s < 256) (h1 : sub t s) (h2 : sub s (amN m)) : amN m ^^^ dfN s t = (amN m ^^^ s) ||| t := by
  refine Nat.eq_of_testBit_eq fun i => ?_
  rw [Nat.testBit_xor, tb_dfN hs, Nat.testBit_or, Nat.testBit_xor]
  cases ht : t.testBit i with
  | true =>
    have a := h1 i ht
    have b := h2 i a
    rw [a, b]
    rfl
  | false =>
    cases s.testBit i <;> cases (amN m).testBit i <;> rfl
theorem open_sub {m s t : Nat} (h1 : sub t (amN m)) (h2 : sub s (amN m)) : t &&& (amN m ^^^ s) = 0 ↔ sub t s := by
  constructor
  · intro h i hi
    have e : (t &&& (amN m ^^^ s)).testBit i = false := by rw [h, Nat.zero_testBit]
    rw [Nat.testBit_and, Nat.testBit_xor, hi, h1 i hi] at e
    cases hs : s.testBit i with
    | true => rfl
    | false => rw [hs] at e; cases e
  · intro h
    refine Nat.eq_of_testBit_eq fun i => ?_
    rw [Nat.testBit_and, Nat.testBit_xor, Nat.zero_testBit]
    cases ht : t.testBit i with
    | false => rfl
    | true =>
      rw [h i ht, h2 i (h i ht)]
      rfl
theorem sub_df {s t u : Nat} (hs : s < 256) (h : sub s u) : sub (dfN s t) u := by
  intro i hi
  rw [tb_dfN hs] at hi
  cases hsi : s.testBit i with
  | true => exact h i hsi
  | false => rw [hsi] at hi; cases hi
theorem fr_lt (N : Nat → Int32) : ∀ {m : Nat}, m ≤ 8 → frN N m < 256
  | 0, _ => by show 0 < 256; decide
  | m + 1, h => by
    unfold frN
    split
    · exact or_lt (fr_lt N (by omega)) (pw_lt (by omega))
    · exact fr_lt N (by omega)
theorem gv_lt (N : Nat → Int32) : ∀ {m : Nat}, m ≤ 8 → gvN N m < 256
  | 0, _ => by show 0 < 256; decide
  | m + 1, h => by
    unfold gvN
    split
    · exact gv_lt N (by omega)
    · exact or_lt (gv_lt N (by omega)) (pw_lt (by omega))
theorem tb_fr (N : Nat → Int32) : ∀ (m i : Nat), (frN N m).testBit i = (decide (i < m) && decide (N (112 + 11 * i + 10) = -1))
  | 0, i => by
    show (0 : Nat).testBit i = _
    rw [Nat.zero_testBit]
    simp
  | m + 1, i => by
    unfold frN
    have ih := tb_fr N m i
    by_cases hc : N (112 + 11 * m + 10) = -1
    · rw [if_pos hc, Nat.testBit_or, ih, tb_pw]
      by_cases hi : m = i
      · subst hi
        simp [hc]
      · have e : decide (i < m + 1) = decide (i < m) := by
          by_cases q : i < m
          · rw [decide_eq_true q, decide_eq_true (by omega)]
          · rw [decide_eq_false q, decide_eq_false (by omega)]
        rw [e, decide_eq_false hi, Bool.or_false]
    · rw [if_neg hc, ih]
      by_cases hi : m = i
      · subst hi
        simp [hc]
      · have e : decide (i < m + 1) = decide (i < m) := by
          by_cases q : i < m
          · rw [decide_eq_true q, decide_eq_true (by omega)]
          · rw [decide_eq_false q, decide_eq_false (by omega)]
        rw [e]
theorem tb_gv (N : Nat → Int32) : ∀ (m i : Nat), (gvN N m).testBit i = (decide (i < m) && !decide (N (112 + 11 * i + 10) < 0))
  | 0, i => by
    show (0 : Nat).testBit i = _
    rw [Nat.zero_testBit]
    simp
  | m + 1, i => by
    unfold gvN
    have ih := tb_gv N m i
    by_cases hc : N (112 + 11 * m + 10) < 0
    · rw [if_pos hc, ih]
      by_cases hi : m = i
      · subst hi
        simp [hc]
      · have e : decide (i < m + 1) = decide (i < m) := by
          by_cases q : i < m
          · rw [decide_eq_true q, decide_eq_true (by omega)]
          · rw [decide_eq_false q, decide_eq_false (by omega)]
        rw [e]
    · rw [if_neg hc, Nat.testBit_or, ih, tb_pw]
      by_cases hi : m = i
      · subst hi
        simp [hc]
      · have e : decide (i < m + 1) = decide (i < m) := by
          by_cases q : i < m
          · rw [decide_eq_true q, decide_eq_true (by omega)]
          · rw [decide_eq_false q, decide_eq_false (by omega)]
        rw [e, decide_eq_false hi, Bool.or_false]
theorem fr_sub (N : Nat → Int32) (m : Nat) : sub (frN N m) (amN m) := by
  intro i hi
  rw [tb_fr] at hi
  rw [tb_am]
  cases h : decide (i < m) with
  | true => rfl
  | false => rw [h] at hi; cases hi
theorem gv_fr {N : Nat → Int32} {m : Nat} (h : ∀ d, d < m → N (112 + 11 * d + 10) = -1 ∨ ∃ g : Nat, g < 6 ∧ N (112 + 11 * d + 10) = nI g) : gvN N m = amN m ^^^ frN N m := by
  refine Nat.eq_of_testBit_eq fun i => ?_
  rw [Nat.testBit_xor, tb_gv, tb_fr, tb_am]
  by_cases hi : i < m
  · rw [decide_eq_true hi]
    rcases h i hi with e | ⟨g, g1, e⟩
    · rw [e]
      decide
    · rw [e, decide_eq_false (nI_pos (n := g) (by omega)), decide_eq_false (nI_nm1 (k := g) (by omega))]
      rfl
  · rw [decide_eq_false hi]
    rfl
theorem gv_pw {N : Nat → Int32} {m d : Nat} (hm : m ≤ 8) (hd : d < m) (h : gvN N m = amN m ^^^ frN N m) : gvN N m ||| 2 ^ d = amN m ^^^ dfN (frN N m) (2 ^ d) := by
  rw [h]
  refine Nat.eq_of_testBit_eq fun i => ?_
  rw [Nat.testBit_or, Nat.testBit_xor, Nat.testBit_xor, tb_dfN (fr_lt N hm), tb_pw, tb_am]
  by_cases hi : d = i
  · rw [decide_eq_true hi, decide_eq_true (show i < m by omega), Bool.or_true]
    simp
  · rw [decide_eq_false hi, Bool.or_false]
    simp
