/-! THE RELATION between the class's cells and the reference's -/
abbrev Pv : Type := Nat → Nat → Int32
/-- the cells that hold the bourse itself -/
def pers (a k : Nat) : Bool := decide (65 ≤ a) || [1, 4, 6, 8, 9, 10, 11, 22, 23, 25, 26, 27, 29, 30, 32, 36, 40, 41, 42, 43, 44, 45, 46, 47, 49, 50, 51, 52, 53].contains a || (a == 48 && k == 2)
/-- and those of what was worked out, and the findings -/
def keepc (a k : Nat) : Bool := pers a k || [5, 7, 13, 14, 15, 16].contains a || (a == 0 && k == 12) || (a == 48 && k == 3)
def pv (S : Wd) : Pv := fun a k => if pers a k = true then wI S a k else 0
def lorryMax (c : Nat) : Nat := [3, 7, 2000, 7, 4000, 40, 40].getD c 0
def loadMax (c : Nat) : Nat := [7, 7, 2, 40, 40, 9999, 4000, 4000, 4000, 4000].getD c 0
def cRoad (C : Pv) (N : Nat → Int32) : Prop := ∀ a b : Nat, a < 8 → b < 8 → ∃ r : Nat, r ≤ 400 ∧ N (8 * a + b) = nI r ∧ (a ≠ b → C 6 (8 * min a b + max a b) = nI r)
def cLorry (C : Pv) (N : Nat → Int32) : Prop := ∃ n : Nat, n ≤ 6 ∧ N 64 = nI n ∧ C 9 0 = nI n ∧ ∀ i : Nat, i < n → ∀ c : Nat, c < 7 → ∃ v : Nat, v ≤ lorryMax c ∧ N (70 + 7 * i + c) = nI v ∧ C 9 (1 + i * 7 + c) = nI v
def cLoad (C : Pv) (N : Nat → Int32) : Prop := ∃ n : Nat, n ≤ 8 ∧ N 65 = nI n ∧ C 11 0 = nI n ∧ ∀ i : Nat, i < n → (∀ c : Nat, c < 10 → ∃ v : Nat, v ≤ loadMax c ∧ N (112 + 11 * i + c) = nI v ∧ C 11 (1 + i * 11 + c) = nI v) ∧ C 11 (1 + i * 11 + 10) = N (112 + 11 * i + 10) ∧ (N (112 + 11 * i + 10) = -1 ∨ ∃ g : Nat, g < 6 ∧ N (112 + 11 * i + 10) = nI g)
def cPrice (C : Pv) (N : Nat → Int32) : Prop := ∃ n : Nat, n ≤ 40 ∧ N 66 = nI n ∧ C 23 0 = nI n ∧ ∀ i : Nat, i < n → ∃ x y z : Nat, x ≤ 77 ∧ y ≤ 365 ∧ z ≤ 9999 ∧ C 23 (1 + i * 3) = nI x ∧ C 23 (1 + i * 3 + 1) = nI y ∧ C 23 (1 + i * 3 + 2) = nI z ∧ N (200 + i) = nI (10000 * (366 * x + y) + z)
def cContr (C : Pv) (N : Nat → Int32) : Prop := ∃ n : Nat, n ≤ 20 ∧ N 67 = nI n ∧ C 27 0 = nI n ∧ ∀ i : Nat, i < n → ∃ x y z : Nat, x < 8 ∧ y < 10 ∧ z < 10 ∧ C 27 (1 + i * 3) = nI x ∧ C 27 (1 + i * 3 + 1) = nI y ∧ C 27 (1 + i * 3 + 2) = nI z ∧ N (240 + i) = nI (x + 8 * y + 80 * z)
def cRep (C : Pv) (N : Nat → Int32) : Prop := ∃ n : Nat, n ≤ 30 ∧ N 68 = nI n ∧ C 30 0 = nI n ∧ ∀ i : Nat, i < n → ∃ x y z : Nat, x < 6 ∧ y < 8 ∧ z ≤ 4000 ∧ C 30 (1 + i * 3) = nI x ∧ C 30 (1 + i * 3 + 1) = nI y ∧ C 30 (1 + i * 3 + 2) = nI z ∧ N (260 + i) = nI (x + 6 * y + 48 * z)
def cTrust (C : Pv) (N : Nat → Int32) : Prop := ∀ f : Nat, f < 10 → ∃ d e : Nat, d + e ≤ 200 ∧ N (290 + f) = nI d ∧ N (300 + f) = nI e ∧ C 25 (2 * f) = nI d ∧ C 25 (2 * f + 1) = nI e
def cOwe (C : Pv) (N : Nat → Int32) : Prop := ∀ k : Nat, k < 100 → C 32 k = N (310 + k) ∧ -9999 ≤ N (310 + k) ∧ N (310 + k) ≤ 9999
def cText (C : Pv) (N : Nat → Int32) : Prop := ∃ n : Nat, n ≤ 14 ∧ N 69 = nI n ∧ C 36 0 = nI n ∧ ∀ i : Nat, i < n → ∃ s : Nat, ((1 ≤ s ∧ s ≤ 6) ∨ (10 ≤ s ∧ s ≤ 56)) ∧ N (410 + i) = nI s ∧ C 36 (1 + i) = nI s
/-- the class's rows and the reference's row say the same -/
def core (C : Pv) (N : Nat → Int32) : Prop := cRoad C N ∧ cLorry C N ∧ cLoad C N ∧ cPrice C N ∧ cContr C N ∧ cRep C N ∧ cTrust C N ∧ cOwe C N ∧ cText C N
/-- the journal's place of the k-th act back -/
def slot (nx k : Nat) : Nat := (nx + 15 - k) % 16
/-- the rows with the latest k acts taken back -/
def und (C : Pv) (O : Nat → Nat → Option Nat) (len : Nat → Nat) (nx : Nat) : Nat → Pv
  | 0 => C
  | k + 1 => match O 2 (slot nx k), O 3 (slot nx k) with
    | some ro, some o => fun a i => if a = ro ∧ (C 4 (slot nx k)).toNatClampNeg ≤ i ∧ i < (C 4 (slot nx k)).toNatClampNeg + len o then C o (i - (C 4 (slot nx k)).toNatClampNeg) else und C O len nx k a i
    | _, _ => und C O len nx k
def rowset : List Nat := [6, 9, 11, 23, 25, 27, 30, 32, 36]
def ent (C : Pv) (O : Nat → Nat → Option Nat) (len : Nat → Nat) (n p : Nat) : Prop := ∃ ro o fr : Nat, O 2 p = some ro ∧ O 3 p = some o ∧ C 4 p = nI fr ∧ ro ∈ rowset ∧ 65 ≤ o ∧ o < n ∧ fr + len o ≤ (kT ro).2
/-- the reference's row as it was k acts back -/
def pst (C : Pv) (kp k : Nat) : Nat → Int32 := if k = 0 then C 49 else fun i => C 50 (424 * (kp - k) + i)
def hist (C : Pv) (O : Nat → Nat → Option Nat) (len : Nat → Nat) (n kp nx : Nat) : Prop :=
  (∀ k : Nat, k ≤ kp → core (und C O len nx k) (pst C kp k)) ∧ (∀ k : Nat, k < kp → ent C O len n (slot nx k)) ∧ ∀ k : Nat, k < kp → ∀ c : Nat, 64 ≤ c → c ≤ 68 → pst C kp (k + 1) c ≤ pst C kp k c
/-- sheets -/
def shR (C : Pv) : Prop := ∀ s : Nat, s < 4 → (C (40 + 2 * s) 1 = C 51 s ∧ (C 51 s = 0 ∨ C 51 s = 8 ∨ C 51 s = 16 ∨ C 51 s = 32)) ∧ (∃ n : Nat, n ≤ 20 ∧ C (40 + 2 * s) 2 = nI n ∧ C 52 s = nI n) ∧ ∀ i : Nat, i < 20 → C (41 + 2 * s) i = C 53 (20 * s + i)
def RelQ (C : Pv) (O : Nat → Nat → Option Nat) (len : Nat → Nat) (n : Nat) : Prop := shR C ∧ ∃ kp nx : Nat, kp ≤ 16 ∧ nx < 16 ∧ C 1 3 = nI kp ∧ C 1 4 = nI nx ∧ C 48 2 = nI kp ∧ hist C O len n kp nx
theorem pv_of {S : Wd} {a k : Nat} (h : pers a k = true) : pv S a k = wI S a k := by unfold pv; rw [if_pos h]
theorem pv_arr {S : Wd} {a : Nat} (h : ∀ k, pers a k = true) : pv S a = wI S a := by funext k; exact pv_of (h k)
theorem pers_dyn {a k : Nat} (h : 65 ≤ a) : pers a k = true := by
  unfold pers
  rw [decide_eq_true h]
  rfl
/-- what a call that asks leaves -/
def Qy (S S' : Wd) : Prop := wn S' = wn S ∧ wl S' = wl S ∧ wO S' = wO S ∧ ∀ a k : Nat, keepc a k = true → wI S' a k = wI S a k
theorem Qy.rf {S : Wd} : Qy S S := ⟨rfl, rfl, rfl, fun _ _ _ => rfl⟩
theorem Qy.trans {S S1 S2 : Wd} (h : Qy S S1) (h' : Qy S1 S2) : Qy S S2 := ⟨h'.1.trans h.1, h'.2.1.trans h.2.1, h'.2.2.1.trans h.2.2.1, fun a k hk => (h'.2.2.2 a k hk).trans (h.2.2.2 a k hk)⟩
theorem Qy.sI {S : Wd} {i k : Nat} {v : Int32} (h : keepc i k = false) : Qy S (sI S i k v) := by
  refine ⟨rfl, rfl, rfl, fun a c hc => ?_⟩
  rw [wI_sI]
  split
  · rename_i e
    split
    · rename_i e2
      subst e; subst e2
      rw [h] at hc
      cases hc
    · rfl
  · rfl
theorem keepc_pers {a k : Nat} (h : pers a k = true) : keepc a k = true := by
  unfold keepc
  rw [h]
  rfl
theorem Qy.same {S S' : Wd} (h : Qy S S') : pv S' = pv S := by
  funext a k
  unfold pv
  split
  · rename_i hp
    exact h.2.2.2 a k (keepc_pers hp)
  · rfl
