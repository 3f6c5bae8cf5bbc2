/-! claim: the row of numbers -/
def jnI (s a b : Int32) : Int32 := if s = 50 then a + b else if s = 51 then a - b else if s = 52 then a * b else if s = 53 then (if b = 0 then 0 else a / b) else if s = 54 then mMin a b else if s = 55 then mMax a b else if b ≤ a then 0 else 1
theorem e_jC (S : Wd) (s a b : Int32) : f_X9_joined S s a b = some (jnI s a b, S) := by
  unfold f_X9_joined jnI
  split
  · rfl
  split
  · rfl
  split
  · rfl
  split
  · split
    · rfl
    · rename_i h
      rw [gd_pos h]
  split
  · rfl
  split
  · rfl
  split <;> rfl
theorem e_jM (S : Wd) (s a b : Int32) : f_X12_joined S s a b = some (jnI s a b, S) := by
  unfold f_X12_joined jnI
  split
  · rfl
  split
  · rfl
  split
  · rfl
  split
  · split
    · rfl
    · rename_i h
      rw [gd_pos h]
  split
  · rfl
  split
  · rfl
  split <;> rfl
def stk (g : Int32 → Int32) (Z : Nat → Int32) : Nat → Nat → Nat → (Nat → Int32) → Nat → Int32
  | 0, _, _, A => A
  | f + 1, d, i, A => if Z i < 50 then stk g Z f (d + 1) (i + 1) (upd A d (g (Z i))) else stk g Z f (d - 1) (i + 1) (upd A (d - 2) (jnI (Z i) (A (d - 2)) (A (d - 1))))
theorem nI_nm1 {k : Nat} (hk : k < 2 ^ 31) : nI k ≠ -1 := fun h => nI_pos hk (by rw [h]; decide)
/-- two rows that agree below the depth end alike -/
theorem stk_congr {g : Int32 → Int32} {Z : Nat → Int32} {n : Nat} (hn : n ≤ 14) (h0 : 0 < n) : ∀ (f d i : Nat) (A B : Nat → Int32), i + f = n → wrF Z n f d i = -1 → (∀ k, k < d → A k = B k) → stk g Z f d i A 0 = stk g Z f d i B 0
  | 0, d, i, A, B, hi, hw, hab => by
    unfold wrF at hw
    rw [if_neg (by omega)] at hw
    by_cases h1 : d = 1
    · exact hab 0 (by omega)
    · rw [if_neg h1] at hw
      exact absurd hw (nI_nm1 (by omega))
  | f + 1, d, i, A, B, hi, hw, hab => by
    unfold wrF at hw
    unfold stk
    by_cases hz : Z i < 50
    · rw [if_pos hz] at hw
      rw [if_pos hz, if_pos hz]
      by_cases h5 : d < 5
      · rw [if_pos h5] at hw
        refine stk_congr hn h0 f (d + 1) (i + 1) _ _ (by omega) hw fun k hk => ?_
        unfold upd
        by_cases he : k = d
        · rw [if_pos he, if_pos he]
        · rw [if_neg he, if_neg he]
          exact hab k (by omega)
      · rw [if_neg h5] at hw
        exact absurd hw (nI_nm1 (by omega))
    · rw [if_neg hz] at hw
      rw [if_neg hz, if_neg hz]
      by_cases h2 : 2 ≤ d
      · rw [if_pos h2] at hw
        refine stk_congr hn h0 f (d - 1) (i + 1) _ _ (by omega) hw fun k hk => ?_
        unfold upd
        by_cases he : k = d - 2
        · rw [if_pos he, if_pos he, hab (d - 2) (by omega), hab (d - 1) (by omega)]
        · rw [if_neg he, if_neg he]
          exact hab k (by omega)
      · rw [if_neg h2] at hw
        exact absurd hw (nI_nm1 (by omega))
