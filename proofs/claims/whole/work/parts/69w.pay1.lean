/-! payments: the numbers -/
def isum (h : Nat → Int) : Nat → Int
  | 0 => 0
  | k + 1 => isum h k + h k
theorem isum_congr {g h : Nat → Int} : ∀ n : Nat, (∀ k, k < n → g k = h k) → isum g n = isum h n
  | 0, _ => rfl
  | n + 1, e => by rw [isum, isum, isum_congr n fun k hk => e k (by omega), e n (by omega)]
theorem isum_add (g h : Nat → Int) : ∀ n : Nat, isum (fun k => g k + h k) n = isum g n + isum h n
  | 0 => rfl
  | n + 1 => by
    show isum (fun k => g k + h k) n + (g n + h n) = (isum g n + g n) + (isum h n + h n)
    rw [isum_add g h n]
    omega
theorem isum_sub (g h : Nat → Int) : ∀ n : Nat, isum (fun k => g k - h k) n = isum g n - isum h n
  | 0 => rfl
  | n + 1 => by
    show isum (fun k => g k - h k) n + (g n - h n) = (isum g n + g n) - (isum h n + h n)
    rw [isum_sub g h n]
    omega
theorem isum_zero : ∀ n : Nat, isum (fun _ => 0) n = 0
  | 0 => rfl
  | n + 1 => by
    show isum (fun _ => 0) n + 0 = 0
    rw [isum_zero n]
    rfl
theorem isum_comm (a : Nat → Nat → Int) (m : Nat) : ∀ n : Nat, isum (fun f => isum (fun k => a k f) m) n = isum (fun k => isum (a k) n) m
  | 0 => (isum_zero m).symm
  | n + 1 => by
    show isum (fun f => isum (fun k => a k f) m) n + isum (fun k => a k n) m = isum (fun k => isum (a k) n + a k n) m
    rw [isum_comm a m n, isum_add]
theorem isum_anti (a : Nat → Nat → Int) (n : Nat) : isum (fun f => isum (fun k => a k f - a f k) n) n = 0 := by
  have e : isum (fun f => isum (fun k => a k f - a f k) n) n = isum (fun f => isum (fun k => a k f) n - isum (a f) n) n := isum_congr n fun f _ => isum_sub (fun k => a k f) (a f) n
  rw [e, isum_sub, isum_comm]
  omega
theorem isum_upd (h : Nat → Int) (t : Nat) (x : Int) : ∀ n : Nat, isum (fun i => if i = t then x else h i) n = isum h n + (if t < n then x - h t else 0)
  | 0 => by
    show (0 : Int) = 0 + _
    rw [if_neg (by omega)]
    rfl
  | n + 1 => by
    show isum (fun i => if i = t then x else h i) n + (if n = t then x else h n) = isum h n + h n + _
    rw [isum_upd h t x n]
    by_cases he : n = t
    · subst he
      rw [if_pos rfl, if_neg (by omega), if_pos (by omega)]
      omega
    · rw [if_neg he]
      by_cases hl : t < n
      · rw [if_pos hl, if_pos (by omega)]
        omega
      · rw [if_neg hl, if_neg (by omega)]
        omega
theorem isum_ge {h : Nat → Int} : ∀ {n : Nat}, (∀ i, i < n → 0 ≤ h i) → 0 ≤ isum h n
  | 0, _ => Int.le_refl _
  | n + 1, e => by
    have h1 := isum_ge (n := n) fun i hi => e i (by omega)
    have h2 := e n (by omega)
    show 0 ≤ isum h n + h n
    omega
theorem isum_one {h : Nat → Int} {t : Nat} : ∀ {n : Nat}, (∀ i, i < n → 0 ≤ h i) → t < n → h t ≤ isum h n
  | 0, _, ht => by omega
  | n + 1, e, ht => by
    have h2 := e n (by omega)
    show h t ≤ isum h n + h n
    by_cases he : t = n
    · subst he
      have h1 := isum_ge (n := t) fun i hi => e i (by omega)
      omega
    · have h1 := isum_one (n := n) (fun i hi => e i (by omega)) (by omega : t < n)
      omega
theorem isum_two {h : Nat → Int} {t p : Nat} (hne : t ≠ p) : ∀ {n : Nat}, (∀ i, i < n → 0 ≤ h i) → t < n → p < n → h t + h p ≤ isum h n
  | 0, _, ht, _ => by omega
  | n + 1, e, ht, hp => by
    have h2 := e n (by omega)
    show h t + h p ≤ isum h n + h n
    by_cases he : t = n
    · subst he
      have h1 := isum_one (n := t) (fun i hi => e i (by omega)) (by omega : p < t)
      omega
    · by_cases he2 : p = n
      · subst he2
        have h1 := isum_one (n := p) (fun i hi => e i (by omega)) (by omega : t < p)
        omega
      · have h1 := isum_two hne (n := n) (fun i hi => e i (by omega)) (by omega) (by omega)
        omega
theorem isum_le {h : Nat → Int} {b : Int} : ∀ {n : Nat}, (∀ i, i < n → -b ≤ h i ∧ h i ≤ b) → -(b * n) ≤ isum h n ∧ isum h n ≤ b * n
  | 0, _ => by
    show -(b * ((0 : Nat) : Int)) ≤ 0 ∧ 0 ≤ b * ((0 : Nat) : Int)
    simp
  | n + 1, e => by
    obtain ⟨h1, h2⟩ := isum_le (n := n) fun i hi => e i (by omega)
    obtain ⟨h3, h4⟩ := e n (by omega)
    have e1 : b * ((n + 1 : Nat) : Int) = b * n + b := by
      rw [Int.natCast_add, Int.mul_add]
      simp
    rw [e1]
    show -(b * n + b) ≤ isum h n + h n ∧ isum h n + h n ≤ b * n + b
    omega
/-- the firm that is owed most, the one that owes most, of the first k + 1 -/
def mxN (s : Nat → Int32) : Nat → Nat
  | 0 => 0
  | k + 1 => if s (k + 1) ≤ s (mxN s k) then mxN s k else k + 1
def mnN (s : Nat → Int32) : Nat → Nat
  | 0 => 0
  | k + 1 => if s (mnN s k) ≤ s (k + 1) then mnN s k else k + 1
theorem mxN_le (s : Nat → Int32) : ∀ k : Nat, mxN s k ≤ k ∧ ∀ i, i ≤ k → s i ≤ s (mxN s k)
  | 0 => ⟨Nat.le_refl _, fun i hi => by rw [show i = 0 by omega]; exact Int32.le_refl _⟩
  | k + 1 => by
    obtain ⟨h1, h2⟩ := mxN_le s k
    unfold mxN
    by_cases h : s (k + 1) ≤ s (mxN s k)
    · rw [if_pos h]
      refine ⟨by omega, fun i hi => ?_⟩
      by_cases he : i = k + 1
      · rw [he]; exact h
      · exact h2 i (by omega)
    · rw [if_neg h]
      refine ⟨Nat.le_refl _, fun i hi => ?_⟩
      by_cases he : i = k + 1
      · rw [he]; exact Int32.le_refl _
      · exact Int32.le_trans (h2 i (by omega)) (Int32.le_of_lt (i32nle.mp h))
theorem mnN_le (s : Nat → Int32) : ∀ k : Nat, mnN s k ≤ k ∧ ∀ i, i ≤ k → s (mnN s k) ≤ s i
  | 0 => ⟨Nat.le_refl _, fun i hi => by rw [show i = 0 by omega]; exact Int32.le_refl _⟩
  | k + 1 => by
    obtain ⟨h1, h2⟩ := mnN_le s k
    unfold mnN
    by_cases h : s (mnN s k) ≤ s (k + 1)
    · rw [if_pos h]
      refine ⟨by omega, fun i hi => ?_⟩
      by_cases he : i = k + 1
      · rw [he]; exact h
      · exact h2 i (by omega)
    · rw [if_neg h]
      refine ⟨Nat.le_refl _, fun i hi => ?_⟩
      by_cases he : i = k + 1
      · rw [he]; exact Int32.le_refl _
      · exact Int32.le_trans (Int32.le_of_lt (i32nle.mp h)) (h2 i (by omega))
/-- one payment -/
def pyA (s : Nat → Int32) : Int32 := mMin (s (mxN s 9)) (-(s (mnN s 9)))
def pyS (s : Nat → Int32) : Nat → Int32 := upd (upd s (mxN s 9) (s (mxN s 9) - pyA s)) (mnN s 9) (upd s (mxN s 9) (s (mxN s 9) - pyA s) (mnN s 9) + pyA s)
def pyP (s : Nat → Int32) : Int32 := 1000000 * nI (mnN s 9) + 100000 * nI (mxN s 9) + pyA s
def pyR : Nat → (Nat → Int32) → (Nat → Int32) → Nat → Nat × (Nat → Int32)
  | 0, _, P, c => (c, P)
  | f + 1, s, P, c => if s (mxN s 9) ≤ 0 then (c, P) else pyR f (pyS s) (upd P c (pyP s)) (c + 1)
def PZ (s : Nat → Int32) (c : Nat) : Prop := isum (fun i => (s i).toInt) 10 = 0 ∧ (∀ i, i < 10 → -199980 ≤ (s i).toInt ∧ (s i).toInt ≤ 199980) ∧ isum (fun i => if (s i).toInt = 0 then 0 else 1) 10 ≤ 10 - (c : Int)
theorem i32_sub {x y : Int32} (h1 : -400000000 ≤ x.toInt - y.toInt) (h2 : x.toInt - y.toInt ≤ 400000000) : (x - y).toInt = x.toInt - y.toInt := by
  rw [Int32.toInt_sub]
  exact Int.bmod_eq_of_le (by omega) (by omega)
theorem i32_add {x y : Int32} (h1 : -400000000 ≤ x.toInt + y.toInt) (h2 : x.toInt + y.toInt ≤ 400000000) : (x + y).toInt = x.toInt + y.toInt := by
  rw [Int32.toInt_add]
  exact Int.bmod_eq_of_le (by omega) (by omega)
theorem i32_neg {x : Int32} (h1 : -400000000 ≤ x.toInt) (h2 : x.toInt ≤ 400000000) : (-x).toInt = -x.toInt := by
  rw [Int32.toInt_neg]
  exact Int.bmod_eq_of_le (by omega) (by omega)
theorem py_step {s : Nat → Int32} {c : Nat} (h : PZ s c) (hp : ¬ s (mxN s 9) ≤ 0) : s (mnN s 9) < 0 ∧ c ≤ 8 ∧ PZ (pyS s) (c + 1) := by
  obtain ⟨h1, h2, h3⟩ := h
  obtain ⟨x1, x2⟩ := mxN_le s 9
  obtain ⟨y1, y2⟩ := mnN_le s 9
  generalize ht : mxN s 9 = t at *
  generalize hq : mnN s 9 = p at *
  have e0 : (0 : Int32).toInt = 0 := rfl
  have hp' : 0 < (s t).toInt := by
    have := Int32.lt_iff_toInt_lt.mp (i32nle.mp hp)
    rw [e0] at this
    exact this
  have hneg : (s p).toInt < 0 := by
    rcases Int.lt_or_le (s p).toInt 0 with h | h
    · exact h
    · exfalso
      have hall : ∀ i, i < 10 → 0 ≤ (s i).toInt := fun i hi => Int.le_trans h (Int32.le_iff_toInt_le.mp (y2 i (by omega)))
      have := isum_one (h := fun i => (s i).toInt) (t := t) (n := 10) hall (by omega)
      rw [h1] at this
      have : (s t).toInt ≤ 0 := this
      omega
  have hne : t ≠ p := by
    rintro rfl
    omega
  have bt' := h2 t (by omega)
  have bp' := h2 p (by omega)
  have two := isum_two (h := fun i => if (s i).toInt = 0 then (0 : Int) else 1) hne (n := 10) (fun i _ => by split <;> decide) (by omega) (by omega)
  rw [if_neg (by omega), if_neg (by omega)] at two
  refine ⟨Int32.lt_iff_toInt_lt.mpr (by rw [e0]; exact hneg), by omega, ?_⟩
  have hA : ∃ n : Int, (pyA s).toInt = n ∧ 0 < n ∧ n ≤ (s t).toInt ∧ n ≤ -(s p).toInt ∧ (n = (s t).toInt ∨ n = -(s p).toInt) := by
    unfold pyA mMin
    rw [ht, hq]
    have en : (-(s p)).toInt = -(s p).toInt := i32_neg (by omega) (by omega)
    by_cases hc : -(s p) < s t
    · rw [if_pos hc, en]
      have := Int32.lt_iff_toInt_lt.mp hc
      rw [en] at this
      exact ⟨_, rfl, by omega, by omega, by omega, Or.inr rfl⟩
    · rw [if_neg hc]
      have := Int32.le_iff_toInt_le.mp (i32nl.mp hc)
      rw [en] at this
      exact ⟨_, rfl, by omega, by omega, by omega, Or.inl rfl⟩
  obtain ⟨n, n1, n2, n3, n4, n5⟩ := hA
  have eS : ∀ i, ((pyS s) i).toInt = if i = p then (s p).toInt + n else if i = t then (s t).toInt - n else (s i).toInt := by
    intro i
    unfold pyS upd
    rw [ht, hq]
    by_cases hi : i = p
    · rw [if_pos hi, if_pos hi, if_neg (fun e => hne e.symm), i32_add (by omega) (by omega), n1]
    · rw [if_neg hi, if_neg hi]
      by_cases hi2 : i = t
      · rw [if_pos hi2, if_pos hi2, i32_sub (by omega) (by omega), n1]
      · rw [if_neg hi2, if_neg hi2]
  refine ⟨?_, fun i hi => ?_, ?_⟩
  · rw [isum_congr 10 fun i _ => eS i, isum_upd (fun i => if i = t then (s t).toInt - n else (s i).toInt) p, isum_upd (fun i => (s i).toInt) t, h1, if_pos (by omega), if_pos (by omega), if_neg (fun e => hne e.symm)]
    omega
  · rw [eS]
    have := h2 i hi
    split
    · omega
    · split
      · omega
      · exact this
  · have e2 : isum (fun i => if (pyS s i).toInt = 0 then (0 : Int) else 1) 10 = isum (fun i => if i = p then (if (s p).toInt + n = 0 then (0 : Int) else 1) else if i = t then (if (s t).toInt - n = 0 then (0 : Int) else 1) else (if (s i).toInt = 0 then (0 : Int) else 1)) 10 := by
      refine isum_congr 10 fun i _ => ?_
      rw [eS]
      by_cases hi : i = p
      · rw [if_pos hi, if_pos hi]
      · rw [if_neg hi, if_neg hi]
        by_cases hi2 : i = t
        · rw [if_pos hi2, if_pos hi2]
        · rw [if_neg hi2, if_neg hi2]
    rw [e2, isum_upd (fun i => if i = t then (if (s t).toInt - n = 0 then (0 : Int) else 1) else (if (s i).toInt = 0 then (0 : Int) else 1)) p, isum_upd (fun i => if (s i).toInt = 0 then (0 : Int) else 1) t, if_pos (show t < 10 by omega), if_pos (show p < 10 by omega), if_neg (show ¬ p = t from fun e => hne e.symm), if_neg (show ¬ (s p).toInt = 0 by omega), if_neg (show ¬ (s t).toInt = 0 by omega)]
    rcases n5 with h | h
    · rw [if_pos (show (s t).toInt - n = 0 by omega)]
      split <;> omega
    · rw [if_pos (show (s p).toInt + n = 0 by omega)]
      split <;> omega
/-- what firms are owed together is nothing -/
theorem nsum_int {g : Nat → Int32} {h : Nat → Int} : ∀ n : Nat, n ≤ 10 → (∀ k, k < n → (g k).toInt = h k ∧ -19998 ≤ h k ∧ h k ≤ 19998) → (nsum g n).toInt = isum h n ∧ -(19998 * (n : Int)) ≤ isum h n ∧ isum h n ≤ 19998 * (n : Int)
  | 0, _, _ => ⟨rfl, by show -(19998 * ((0 : Nat) : Int)) ≤ 0; decide, by show 0 ≤ 19998 * ((0 : Nat) : Int); decide⟩
  | n + 1, hn, e => by
    obtain ⟨h1, h2, h3⟩ := nsum_int n (by omega) fun k hk => e k (by omega)
    obtain ⟨e1, e2, e3⟩ := e n (by omega)
    show (nsum g n + g n).toInt = isum h n + h n ∧ -(19998 * ((n + 1 : Nat) : Int)) ≤ isum h n + h n ∧ isum h n + h n ≤ 19998 * ((n + 1 : Nat) : Int)
    refine ⟨?_, by omega, by omega⟩
    rw [i32_add (by omega) (by omega), h1, e1]
def netI (N : Nat → Int32) (f : Nat) : Int32 := nsum (fun k => N (310 + 10 * k + f) - N (310 + 10 * f + k)) 10
theorem i32_m9999 {x : Int32} (h : -9999 ≤ x ∧ x ≤ 9999) : -9999 ≤ x.toInt ∧ x.toInt ≤ 9999 := by
  have h1 := Int32.le_iff_toInt_le.mp h.1
  have h2 := Int32.le_iff_toInt_le.mp h.2
  exact ⟨h1, h2⟩
theorem net_PZ {N : Nat → Int32} (h : ∀ k, k < 100 → -9999 ≤ N (310 + k) ∧ N (310 + k) ≤ 9999) {s : Nat → Int32} (hs : ∀ f, f < 10 → s f = netI N f) : PZ s 0 := by
  have hb : ∀ a b, a < 10 → b < 10 → -9999 ≤ (N (310 + 10 * a + b)).toInt ∧ (N (310 + 10 * a + b)).toInt ≤ 9999 := fun a b ha hb => by
    have := i32_m9999 (h (10 * a + b) (by omega))
    rw [show 310 + (10 * a + b) = 310 + 10 * a + b by omega] at this
    exact this
  have key : ∀ f, f < 10 → (s f).toInt = isum (fun k => (N (310 + 10 * k + f)).toInt - (N (310 + 10 * f + k)).toInt) 10 ∧ -199980 ≤ (s f).toInt ∧ (s f).toInt ≤ 199980 := by
    intro f hf
    have := nsum_int (g := fun k => N (310 + 10 * k + f) - N (310 + 10 * f + k)) (h := fun k => (N (310 + 10 * k + f)).toInt - (N (310 + 10 * f + k)).toInt) 10 (by decide) (fun k hk => by
      have b1 := hb k f hk hf
      have b2 := hb f k hf hk
      exact ⟨i32_sub (by omega) (by omega), by omega, by omega⟩)
    obtain ⟨t1, t2, t3⟩ := this
    rw [hs f hf]
    unfold netI
    rw [t1]
    exact ⟨rfl, by omega, by omega⟩
  refine ⟨?_, fun i hi => (key i hi).2, ?_⟩
  · rw [isum_congr 10 fun f hf => (key f hf).1]
    exact isum_anti (fun a b => (N (310 + 10 * a + b)).toInt) 10
  · have := (isum_le (h := fun i => if (s i).toInt = 0 then (0 : Int) else 1) (b := 1) (n := 10) (fun i _ => by split <;> decide)).2
    omega
