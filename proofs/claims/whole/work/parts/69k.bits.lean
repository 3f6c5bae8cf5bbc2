/-! sets of bits -/
def bt (u : Int32) (i : Nat) : Bool := u.toBitVec.getLsbD i
theorem sh_amt {i : Nat} (hi : i < 32) : ((nI i &&& 31).toBitVec.smod 32) = BitVec.ofNat 32 i := by
  have h : ∀ k : Fin 32, ((nI k.val &&& 31).toBitVec.smod 32) = BitVec.ofNat 32 k.val := by decide +kernel
  exact h ⟨i, hi⟩
theorem amt_nat {i : Nat} (hi : i < 32) : (BitVec.ofNat 32 i).toNat = i := by
  rw [BitVec.toNat_ofNat]
  exact Nat.mod_eq_of_lt (by omega)
theorem bt_one {i k : Nat} (hi : i < 32) (hk : k < 32) : bt ((1 : Int32) <<< (nI i &&& 31)) k = decide (k = i) := by
  unfold bt
  rw [Int32.toBitVec_shiftLeft, sh_amt hi]
  rw [show (1 : Int32).toBitVec <<< BitVec.ofNat 32 i = (1#32) <<< i by
    show (1#32) <<< (BitVec.ofNat 32 i).toNat = _
    rw [amt_nat hi]]
  rw [BitVec.getLsbD_shiftLeft, BitVec.getLsbD_one]
  by_cases h : k = i
  · subst h
    simp [hk]
  · rw [decide_eq_false h]
    by_cases h2 : k < i
    · simp [h2]
    · have : ¬ (k - i = 0) := by omega
      simp [this]
theorem bt_or (u v : Int32) (k : Nat) : bt (u ||| v) k = (bt u k || bt v k) := by
  unfold bt
  rw [Int32.toBitVec_or, BitVec.getLsbD_or]
theorem bt_and (u v : Int32) (k : Nat) : bt (u &&& v) k = (bt u k && bt v k) := by
  unfold bt
  rw [Int32.toBitVec_and, BitVec.getLsbD_and]
theorem bt_zero (k : Nat) : bt 0 k = false := by
  unfold bt
  show (0#32).getLsbD k = false
  exact BitVec.getLsbD_zero
theorem bt_ext {u v : Int32} (h : ∀ k, k < 32 → bt u k = bt v k) : u = v := by
  apply Int32.toBitVec_inj.mp
  exact BitVec.eq_of_getLsbD_eq fun i hi => h i hi
/-- the class's test of a set -/
theorem bit_c {u : Int32} {i : Nat} (hi : i < 32) : (u &&& ((1 : Int32) <<< (nI i &&& 31)) = 0) ↔ bt u i = false := by
  constructor
  · intro h
    have e := bt_and u ((1 : Int32) <<< (nI i &&& 31)) i
    rw [h, bt_zero, bt_one hi hi, decide_eq_true rfl, Bool.and_true] at e
    exact e.symm
  · intro h
    refine bt_ext fun k hk => ?_
    rw [bt_and, bt_one hi hk, bt_zero]
    by_cases he : k = i
    · rw [he, h, Bool.false_and]
    · rw [decide_eq_false he, Bool.and_false]
/-- the reference's -/
theorem bit_m {u : Int32} {i : Nat} (hi : i < 32) : ((u >>> (nI i &&& 31)) &&& 1 = 0) ↔ bt u i = false := by
  have e0 : bt (u >>> (nI i &&& 31)) 0 = bt u i := by
    unfold bt
    rw [Int32.toBitVec_shiftRight, sh_amt hi]
    show (u.toBitVec.sshiftRight (BitVec.ofNat 32 i).toNat).getLsbD 0 = _
    rw [amt_nat hi, BitVec.getLsbD_sshiftRight]
    simp [hi]
  have one : ∀ k, k < 32 → bt (1 : Int32) k = decide (k = 0) := fun k hk => by
    show (1#32).getLsbD k = _
    rw [BitVec.getLsbD_one]
    simp
  constructor
  · intro h
    have e := bt_and (u >>> (nI i &&& 31)) 1 0
    rw [h, bt_zero, one 0 (by decide), decide_eq_true rfl, Bool.and_true, e0] at e
    exact e.symm
  · intro h
    refine bt_ext fun k hk => ?_
    rw [bt_and, one k hk, bt_zero]
    by_cases he : k = 0
    · rw [he, e0, h, Bool.false_and]
    · rw [decide_eq_false he, Bool.and_false]
