/-! the most, as numbers -/
theorem mxF_ge0 (f : Nat → Int) (o : Nat → Bool) : ∀ k, f 0 ≤ mxF f o k
  | 0 => Int.le_refl _
  | k + 1 => by
    unfold mxF
    have := mxF_ge0 f o k
    split
    · omega
    · exact this
theorem mxF_ge {f : Nat → Int} {o : Nat → Bool} : ∀ {k r : Nat}, r ≤ k → o r = true → f r ≤ mxF f o k
  | 0, r, hr, _ => by
    rw [show r = 0 by omega]
    exact Int.le_refl _
  | k + 1, r, hr, ho => by
    unfold mxF
    by_cases he : r = k + 1
    · rw [← he, if_pos ho]
      omega
    · have := mxF_ge (f := f) (show r ≤ k by omega) ho
      split
      · omega
      · exact this
theorem mxF_le {f : Nat → Int} {o : Nat → Bool} {b : Int} : ∀ {k : Nat}, (∀ r, r ≤ k → f r ≤ b) → mxF f o k ≤ b
  | 0, h => h 0 (Nat.le_refl _)
  | k + 1, h => by
    unfold mxF
    have h1 := mxF_le (o := o) (k := k) fun r hr => h r (by omega)
    have h2 := h (k + 1) (Nat.le_refl _)
    split
    · omega
    · exact h1
theorem mxF_mono {f g : Nat → Int} {o p : Nat → Bool} : ∀ {k : Nat}, f 0 ≤ g 0 → (∀ r, 1 ≤ r → r ≤ k → o r = true → p r = true ∧ f r ≤ g r) → mxF f o k ≤ mxF g p k
  | 0, h0, _ => h0
  | k + 1, h0, h => by
    have ih := mxF_mono (k := k) h0 fun r h1 h2 => h r h1 (by omega)
    unfold mxF
    by_cases ho : o (k + 1) = true
    · obtain ⟨h1, h2⟩ := h (k + 1) (by omega) (Nat.le_refl _) ho
      rw [if_pos ho, if_pos h1]
      omega
    · rw [if_neg ho]
      split
      · omega
      · exact ih
theorem mxF_congr {f g : Nat → Int} {o p : Nat → Bool} : ∀ {k : Nat}, (∀ r, r ≤ k → f r = g r ∧ o r = p r) → mxF f o k = mxF g p k
  | 0, h => (h 0 (Nat.le_refl _)).1
  | k + 1, h => by
    unfold mxF
    rw [mxF_congr (k := k) fun r hr => h r (by omega), (h (k + 1) (Nat.le_refl _)).1, (h (k + 1) (Nat.le_refl _)).2]
section BZ
variable {N : Nat → Int32} {n m : Nat}
theorem bsZ_b (hv : ∀ l, l < n → ∀ r, r < 81 → -540 ≤ vlZ N m l r ∧ vlZ N m l r ≤ 19998) : ∀ (k : Nat) (g : Nat), k ≤ n → -(540 * (k : Int)) ≤ bsZ N n m k g ∧ bsZ N n m k g ≤ 19998 * (k : Int)
  | 0, g, _ => ⟨by show -(540 * ((0 : Nat) : Int)) ≤ 0; omega, by show (0 : Int) ≤ _; omega⟩
  | k + 1, g, hk => by
    have ih := fun g => bsZ_b hv k g (by omega)
    unfold bsZ
    constructor
    · have h0 := mxF_ge0 (fun r => vlZ N m (n - (k + 1)) r + bsZ N n m k (g ||| stN r)) (fun r => opB N m (n - (k + 1)) r g) 80
      have h1 := (hv (n - (k + 1)) (by omega) 0 (by decide)).1
      have h2 := (ih (g ||| stN 0)).1
      omega
    · refine mxF_le fun r hr => ?_
      have h1 := (hv (n - (k + 1)) (by omega) r (by omega)).2
      have h2 := (ih (g ||| stN r)).2
      omega
theorem opB_or {l r g t : Nat} (h : opB N m l r (g ||| t) = true) : opB N m l r g = true := by
  unfold opB at h ⊢
  rw [Bool.and_eq_true] at h ⊢
  refine ⟨h.1, ?_⟩
  have h2 := of_decide_eq_true h.2
  refine decide_eq_true ?_
  refine Nat.eq_of_testBit_eq fun i => ?_
  have e : (stN r &&& (g ||| t)).testBit i = false := by rw [h2, Nat.zero_testBit]
  rw [Nat.testBit_and, Nat.testBit_or] at e
  rw [Nat.testBit_and, Nat.zero_testBit]
  cases a : (stN r).testBit i with
  | false => rfl
  | true =>
    rw [a] at e
    cases b : g.testBit i with
    | false => rfl
    | true => rw [b] at e; cases e
theorem or_swap (g t s : Nat) : (g ||| t) ||| s = (g ||| s) ||| t := by
  refine Nat.eq_of_testBit_eq fun i => ?_
  rw [Nat.testBit_or, Nat.testBit_or, Nat.testBit_or, Nat.testBit_or]
  cases g.testBit i <;> cases t.testBit i <;> cases s.testBit i <;> rfl
/-- with more gone it is worth no more -/
theorem bsZ_mono : ∀ (k g t : Nat), bsZ N n m k (g ||| t) ≤ bsZ N n m k g
  | 0, _, _ => Int.le_refl _
  | k + 1, g, t => by
    unfold bsZ
    refine mxF_mono ?_ fun r _ _ ho => ⟨opB_or ho, ?_⟩
    · have := bsZ_mono k (g ||| stN 0) t
      rw [or_swap g t (stN 0)]
      omega
    · have := bsZ_mono k (g ||| stN r) t
      rw [or_swap g t (stN r)]
      omega
end BZ
/-- the class's choice -/
def cfF (f : Nat → Int) (p : Nat → Bool) : Nat → Int × Nat
  | 0 => (f 0, 0)
  | k + 1 => if p (k + 1) = true ∧ (cfF f p k).1 < f (k + 1) then (f (k + 1), k + 1) else cfF f p k
theorem cf_eq {f : Nat → Int} {o p : Nat → Bool} (h0 : o 0 = true) (h1 : ∀ r, 1 ≤ r → p r = true → o r = true) (h2 : ∀ r, 1 ≤ r → o r = true → ¬ p r = true → f r ≤ f 0) : ∀ k, (cfF f p k).1 = mxF f o k ∧ (cfF f p k).2 ≤ k ∧ o (cfF f p k).2 = true ∧ f (cfF f p k).2 = mxF f o k ∧ ∀ r, r ≤ k → o r = true → f r = mxF f o k → (cfF f p k).2 ≤ r
  | 0 => ⟨rfl, Nat.le_refl _, h0, rfl, fun r hr _ _ => Nat.zero_le _⟩
  | k + 1 => by
    obtain ⟨i1, i2, i3, i4, i5⟩ := cf_eq h0 h1 h2 k
    have hge := mxF_ge0 f o k
    unfold cfF mxF
    by_cases hp : p (k + 1) = true ∧ (cfF f p k).1 < f (k + 1)
    · have ho := h1 (k + 1) (by omega) hp.1
      have hlt := hp.2
      rw [i1] at hlt
      rw [if_pos hp, if_pos ho]
      have e : max (mxF f o k) (f (k + 1)) = f (k + 1) := by omega
      rw [e]
      refine ⟨rfl, Nat.le_refl _, ho, rfl, fun r hr hor hfr => ?_⟩
      dsimp only
      by_cases he : r = k + 1
      · omega
      · have := mxF_ge (f := f) (show r ≤ k by omega) hor
        omega
    · rw [if_neg hp]
      have key : (if o (k + 1) = true then max (mxF f o k) (f (k + 1)) else mxF f o k) = mxF f o k := by
        by_cases ho : o (k + 1) = true
        · rw [if_pos ho]
          by_cases hpp : p (k + 1) = true
          · have : ¬ (cfF f p k).1 < f (k + 1) := fun q => hp ⟨hpp, q⟩
            rw [i1] at this
            omega
          · have := h2 (k + 1) (by omega) ho hpp
            omega
        · rw [if_neg ho]
      rw [key]
      refine ⟨i1, by omega, i3, i4, fun r hr hor hfr => ?_⟩
      by_cases he : r = k + 1
      · omega
      · exact i5 r (by omega) hor hfr
theorem fs_least {q : Nat → Bool} : ∀ (f r c : Nat), r ≤ c → c < r + f → q c = true → (∀ i, r ≤ i → i < c → q i = false) → fsN q f r = c
  | 0, r, c, h1, h2, _, _ => by omega
  | f + 1, r, c, h1, h2, h3, h4 => by
    unfold fsN
    by_cases he : r = c
    · rw [he, if_pos h3]
    · rw [h4 r (Nat.le_refl _) (by omega)]
      rw [if_neg (by decide)]
      exact fs_least f (r + 1) c (by omega) (by omega) h3 fun i hi hi2 => h4 i (by omega) hi2
/-- the class's choice is the reference's -/
theorem ch_eq {N : Nat → Int32} {n m l g : Nat} (hl : l < n) {p : Nat → Bool} (h1 : ∀ r, 1 ≤ r → p r = true → opB N m l r g = true) (h2 : ∀ r, 1 ≤ r → opB N m l r g = true → ¬ p r = true → vlZ N m l r ≤ vlZ N m l 0) : (cfF (fun r => vlZ N m l r + bsZ N n m (n - (l + 1)) (g ||| stN r)) p 80).1 = bsZ N n m (n - l) g ∧ (cfF (fun r => vlZ N m l r + bsZ N n m (n - (l + 1)) (g ||| stN r)) p 80).2 = chR N n m l g ∧ chR N n m l g ≤ 80 ∧ opB N m l (chR N n m l g) g = true := by
  have hbs : bsZ N n m (n - l) g = mxF (fun r => vlZ N m l r + bsZ N n m (n - (l + 1)) (g ||| stN r)) (fun r => opB N m l r g) 80 := by
    rw [show n - l = (n - (l + 1)) + 1 by omega]
    show mxF (fun r => vlZ N m (n - ((n - (l + 1)) + 1)) r + bsZ N n m (n - (l + 1)) (g ||| stN r)) (fun r => opB N m (n - ((n - (l + 1)) + 1)) r g) 80 = _
    rw [show n - ((n - (l + 1)) + 1) = l by omega]
  have o0 : opB N m l 0 g = true := by
    unfold opB
    rw [Bool.and_eq_true]
    refine ⟨by simp, decide_eq_true ?_⟩
    show (0 : Nat) &&& g = 0
    exact Nat.zero_and g
  obtain ⟨c1, c2, c3, c4, c5⟩ := cf_eq (f := fun r => vlZ N m l r + bsZ N n m (n - (l + 1)) (g ||| stN r)) (o := fun r => opB N m l r g) (p := p) o0 h1 (fun r hr ho hp => by
    have := h2 r hr ho hp
    have h3 := bsZ_mono (N := N) (n := n) (m := m) (n - (l + 1)) g (stN r)
    have h4 : g ||| stN 0 = g := Nat.or_zero g
    rw [h4]
    omega) 80
  rw [← hbs] at c1 c4 c5
  have hch : chR N n m l g = (cfF (fun r => vlZ N m l r + bsZ N n m (n - (l + 1)) (g ||| stN r)) p 80).2 := by
    unfold chR
    refine fs_least 81 0 _ (Nat.zero_le _) (by omega) ?_ fun i _ hi => ?_
    · rw [Bool.and_eq_true]
      exact ⟨c3, decide_eq_true c4⟩
    · cases ho : opB N m l i g with
      | false => rfl
      | true =>
        rw [Bool.true_and]
        refine decide_eq_false fun e => ?_
        have := c5 i (by omega) ho e
        omega
  exact ⟨c1, hch.symm, by rw [hch]; exact c2, by rw [hch]; exact c3⟩
