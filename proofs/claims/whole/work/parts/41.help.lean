/-! small methods, evaluated -/
theorem bd2_assoc {α β γ : Type} (o : Option (α × Wd)) (f : α → Wd → Option (β × Wd)) (g : β → Wd → Option γ) : bd2 (bd2 o f) g = bd2 o (fun x S => bd2 (f x S) g) := by
  cases o <;> rfl
theorem bd2_ite {α β : Type} {c : Prop} {i : Decidable c} (x y : Option (α × Wd)) (g : α → Wd → Option β) : bd2 (if c then x else y) g = if c then bd2 x g else bd2 y g := by split <;> rfl
theorem i32nl {a b : Int32} : ¬ a < b ↔ b ≤ a := Int32.not_lt
theorem i32nle {a b : Int32} : ¬ a ≤ b ↔ b < a := Int32.not_le
theorem nat_of {i : Int32} (h : 0 ≤ i) : ∃ a : Nat, a < 2 ^ 31 ∧ i = nI a := by
  have h1 := Int32.le_iff_toInt_le.mp h
  rw [Int32.toInt_zero] at h1
  have h2 := Int32.toInt_lt i
  refine ⟨i.toInt.toNat, by omega, ?_⟩
  apply Int32.toInt_inj.mp
  rw [nI_toInt (by omega)]
  omega
theorem nat_lt {i : Int32} {n : Nat} (h : 0 ≤ i) (h1 : i < nI n) (hn : n < 2 ^ 31) : ∃ a : Nat, a < n ∧ i = nI a := by
  obtain ⟨a, ha, rfl⟩ := nat_of h
  refine ⟨a, ?_, rfl⟩
  rw [Int32.lt_iff_toInt_lt, nI_toInt ha, nI_toInt hn] at h1
  omega
theorem nat_le {i : Int32} {n : Nat} (h : 0 ≤ i) (h1 : i ≤ nI n) (hn : n < 2 ^ 31) : ∃ a : Nat, a ≤ n ∧ i = nI a := by
  obtain ⟨a, ha, rfl⟩ := nat_of h
  refine ⟨a, ?_, rfl⟩
  rw [Int32.le_iff_toInt_le, nI_toInt ha, nI_toInt hn] at h1
  omega
theorem nb1 : narrow .boolean (.int 1) = .int 1 := rfl
theorem nb0 : narrow .boolean (.int 0) = .int 0 := rfl
theorem nI_mul (a b : Nat) : nI a * nI b = nI (a * b) := (Int32.ofNat_mul a b).symm
def tl (S : Wd) (v : Int32) : Wd := if v < -99999 then sI S 0 12 (wI S 0 12 + 1) else S
theorem e_told {S : Wd} (h : 65 ≤ wn S) (v : Int32) : f_X11_told S 0 v = some (v, tl S v) := by
  unfold f_X11_told tl
  by_cases h1 : (-99999 : Int32) ≤ v
  · rw [if_pos h1, if_neg (i32nl.mpr h1)]
  · rw [if_neg h1, if_pos (i32nle.mp h1)]
    simp (decide := true) only [gd_ob h, ltS]
def fl (S : Wd) : Wd := sI S 48 3 (wI S 48 3 + 1)
theorem e_finding {S : Wd} (h : 65 ≤ wn S) (v : Int32) : f_X12_finding S 48 v = some (v, fl S) := by
  unfold f_X12_finding fl
  simp (decide := true) only [gd_ob h, ltS]
theorem b_within_X11 {β : Type} {S : Wd} {v lo hi : Int32} {F : Int32 → Wd → Option β} : bd2 (f_X11_within S v lo hi) F = if lo ≤ v ∧ v ≤ hi then F 1 S else F 0 S := by
  unfold f_X11_within
  by_cases h1 : v < lo
  · rw [if_pos h1, if_neg (fun h => absurd h1 (i32nl.mpr h.1))]; rfl
  · rw [if_neg h1]
    by_cases h2 : hi < v
    · rw [if_pos h2, if_neg (fun h => absurd h2 (i32nl.mpr h.2))]; rfl
    · rw [if_neg h2, if_pos ⟨i32nl.mp h1, i32nl.mp h2⟩]; rfl
theorem b_isTown_X11 {β : Type} {S : Wd} {v : Int32} {F : Int32 → Wd → Option β} : bd2 (f_X11_isTown S v) F = if 0 ≤ v ∧ v ≤ 7 then F 1 S else F 0 S := by
  unfold f_X11_isTown
  rw [bd2_assoc, b_within_X11]
  split
  · rw [gd_pos nb1]; rfl
  · rw [gd_pos nb0]; rfl
theorem b_isFirm_X11 {β : Type} {S : Wd} {v : Int32} {F : Int32 → Wd → Option β} : bd2 (f_X11_isFirm S v) F = if 0 ≤ v ∧ v ≤ 9 then F 1 S else F 0 S := by
  unfold f_X11_isFirm
  rw [bd2_assoc, b_within_X11]
  split
  · rw [gd_pos nb1]; rfl
  · rw [gd_pos nb0]; rfl
theorem b_isSheet_X11 {β : Type} {S : Wd} {v : Int32} {F : Int32 → Wd → Option β} : bd2 (f_X11_isSheet S v) F = if 0 ≤ v ∧ v ≤ 3 then F 1 S else F 0 S := by
  unfold f_X11_isSheet
  rw [bd2_assoc, b_within_X11]
  split
  · rw [gd_pos nb1]; rfl
  · rw [gd_pos nb0]; rfl
theorem b_isLane_X11 {β : Type} {S : Wd} {v : Int32} {F : Int32 → Wd → Option β} : bd2 (f_X11_isLane S v) F = if 0 ≤ v ∧ (0 ≤ v / 10 ∧ v / 10 ≤ 7) ∧ (0 ≤ irm v 10 ∧ irm v 10 ≤ 7) then F 1 S else F 0 S := by
  unfold f_X11_isLane
  by_cases h1 : v < 0
  · rw [if_pos h1, if_neg (fun h => absurd h1 (i32nl.mpr h.1))]; rfl
  · have h1' := i32nl.mp h1
    rw [if_neg h1, bd2_assoc, b_isTown_X11]
    by_cases h2 : 0 ≤ v / 10 ∧ v / 10 ≤ 7
    · rw [if_pos h2, if_neg (by decide), bd2_assoc, b_isTown_X11]
      by_cases h3 : 0 ≤ irm v 10 ∧ irm v 10 ≤ 7
      · rw [if_pos h3, if_neg (by decide), if_pos ⟨h1', h2, h3⟩]; rfl
      · rw [if_neg h3, if_pos rfl, if_neg (fun h => h3 h.2.2)]; rfl
    · rw [if_neg h2, if_pos rfl, if_neg (fun h => h2 h.2.1)]; rfl
theorem b_within_X12 {β : Type} {S : Wd} {v lo hi : Int32} {F : Int32 → Wd → Option β} : bd2 (f_X12_within S v lo hi) F = if lo ≤ v ∧ v ≤ hi then F 1 S else F 0 S := by
  unfold f_X12_within
  by_cases h1 : v < lo
  · rw [if_pos h1, if_neg (fun h => absurd h1 (i32nl.mpr h.1))]; rfl
  · rw [if_neg h1]
    by_cases h2 : hi < v
    · rw [if_pos h2, if_neg (fun h => absurd h2 (i32nl.mpr h.2))]; rfl
    · rw [if_neg h2, if_pos ⟨i32nl.mp h1, i32nl.mp h2⟩]; rfl
theorem b_isTown_X12 {β : Type} {S : Wd} {v : Int32} {F : Int32 → Wd → Option β} : bd2 (f_X12_isTown S v) F = if 0 ≤ v ∧ v ≤ 7 then F 1 S else F 0 S := by
  unfold f_X12_isTown
  rw [bd2_assoc, b_within_X12]
  split
  · rw [gd_pos nb1]; rfl
  · rw [gd_pos nb0]; rfl
theorem b_isFirm_X12 {β : Type} {S : Wd} {v : Int32} {F : Int32 → Wd → Option β} : bd2 (f_X12_isFirm S v) F = if 0 ≤ v ∧ v ≤ 9 then F 1 S else F 0 S := by
  unfold f_X12_isFirm
  rw [bd2_assoc, b_within_X12]
  split
  · rw [gd_pos nb1]; rfl
  · rw [gd_pos nb0]; rfl
theorem b_isSheet_X12 {β : Type} {S : Wd} {v : Int32} {F : Int32 → Wd → Option β} : bd2 (f_X12_isSheet S v) F = if 0 ≤ v ∧ v ≤ 3 then F 1 S else F 0 S := by
  unfold f_X12_isSheet
  rw [bd2_assoc, b_within_X12]
  split
  · rw [gd_pos nb1]; rfl
  · rw [gd_pos nb0]; rfl
theorem b_isDay_X12 {β : Type} {S : Wd} {v : Int32} {F : Int32 → Wd → Option β} : bd2 (f_X12_isDay S v) F = if 0 ≤ v ∧ v ≤ 365 then F 1 S else F 0 S := by
  unfold f_X12_isDay
  rw [bd2_assoc, b_within_X12]
  split
  · rw [gd_pos nb1]; rfl
  · rw [gd_pos nb0]; rfl
theorem b_isLane_X12 {β : Type} {S : Wd} {v : Int32} {F : Int32 → Wd → Option β} : bd2 (f_X12_isLane S v) F = if 0 ≤ v ∧ (0 ≤ v / 10 ∧ v / 10 ≤ 7) ∧ (0 ≤ irm v 10 ∧ irm v 10 ≤ 7) then F 1 S else F 0 S := by
  unfold f_X12_isLane
  by_cases h1 : v < 0
  · rw [if_pos h1, if_neg (fun h => absurd h1 (i32nl.mpr h.1))]; rfl
  · have h1' := i32nl.mp h1
    rw [if_neg h1, bd2_assoc, b_isTown_X12]
    by_cases h2 : 0 ≤ v / 10 ∧ v / 10 ≤ 7
    · rw [if_pos h2, if_neg (by decide), bd2_assoc, b_isTown_X12]
      by_cases h3 : 0 ≤ irm v 10 ∧ irm v 10 ≤ 7
      · rw [if_pos h3, if_neg (by decide), if_pos ⟨h1', h2, h3⟩]; rfl
      · rw [if_neg h3, if_pos rfl, if_neg (fun h => h3 h.2.2)]; rfl
    · rw [if_neg h2, if_pos rfl, if_neg (fun h => h2 h.2.1)]; rfl
theorem b_isSign_X9 {β : Type} {S : Wd} {v : Int32} {F : Int32 → Wd → Option β} : bd2 (f_X9_isSign S v) F = if (1 ≤ v ∧ v ≤ 6) ∨ (10 ≤ v ∧ v ≤ 56) then F 1 S else F 0 S := by
  unfold f_X9_isSign
  rw [bd2_assoc, b_within_X11]
  by_cases h2 : 1 ≤ v ∧ v ≤ 6
  · rw [if_pos h2, if_neg (by decide), if_pos (Or.inl h2)]; rfl
  · rw [if_neg h2, if_pos rfl, bd2_assoc, b_within_X11]
    by_cases h3 : 10 ≤ v ∧ v ≤ 56
    · rw [if_pos h3, if_neg (by decide), if_pos (Or.inr h3)]; rfl
    · rw [if_neg h3, if_pos rfl, if_neg (fun h => h.elim h2 h3)]; rfl
theorem b_isSign_X12 {β : Type} {S : Wd} {v : Int32} {F : Int32 → Wd → Option β} : bd2 (f_X12_isSign S v) F = if (1 ≤ v ∧ v ≤ 6) ∨ (10 ≤ v ∧ v ≤ 56) then F 1 S else F 0 S := by
  unfold f_X12_isSign
  rw [bd2_assoc, b_within_X12]
  by_cases h2 : 1 ≤ v ∧ v ≤ 6
  · rw [if_pos h2, if_neg (by decide), if_pos (Or.inl h2)]; rfl
  · rw [if_neg h2, if_pos rfl, bd2_assoc, b_within_X12]
    by_cases h3 : 10 ≤ v ∧ v ≤ 56
    · rw [if_pos h3, if_neg (by decide), if_pos (Or.inr h3)]; rfl
    · rw [if_neg h3, if_pos rfl, if_neg (fun h => h.elim h2 h3)]; rfl
/-- a table: its number, columns, most lines -/
def tbl (t cols most : Nat) : Prop := (t = 8 ∧ cols = 7 ∧ most = 6) ∨ (t = 10 ∧ cols = 11 ∧ most = 8) ∨ (t = 22 ∧ cols = 3 ∧ most = 40) ∨ (t = 26 ∧ cols = 3 ∧ most = 20) ∨ (t = 29 ∧ cols = 3 ∧ most = 30)
theorem b_has {β : Type} {S : Wd} (hI : Inv S) {t cols most : Nat} (ht : tbl t cols most) {i : Int32} {F : Int32 → Wd → Option β} : bd2 (f_X8_has S t i) F = if 0 ≤ i ∧ i < wI S (t + 1) 0 then F 1 S else F 0 S := by
  obtain ⟨h65, hI⟩ := hI
  have key : f_X8_has S t i = if i < 0 then some (0, S) else if wI S (t + 1) 0 ≤ i then some (0, S) else some (1, S) := by
    rcases ht with ⟨rfl, -, -⟩ | ⟨rfl, -, -⟩ | ⟨rfl, -, -⟩ | ⟨rfl, -, -⟩ | ⟨rfl, -, -⟩ <;>
    (unfold f_X8_has; simp (decide := true) only [gd_ob h65, gd_ix h65, hI, Option.bind_some]; rfl)
  rw [key]
  by_cases h1 : i < 0
  · rw [if_pos h1, if_neg (fun h => absurd h1 (i32nl.mpr h.1))]; rfl
  · rw [if_neg h1]
    by_cases h2 : wI S (t + 1) 0 ≤ i
    · rw [if_pos h2, if_neg (fun h => absurd h.2 (i32nl.mpr h2))]; rfl
    · rw [if_neg h2, if_pos ⟨i32nl.mp h1, i32nle.mp h2⟩]; rfl
theorem e_count {S : Wd} (hI : Inv S) {t cols most : Nat} (ht : tbl t cols most) : f_X8_count S t = some (wI S (t + 1) 0, S) := by
  obtain ⟨h65, hI⟩ := hI
  rcases ht with ⟨rfl, -, -⟩ | ⟨rfl, -, -⟩ | ⟨rfl, -, -⟩ | ⟨rfl, -, -⟩ | ⟨rfl, -, -⟩ <;>
    (unfold f_X8_count; simp (decide := true) only [gd_ob h65, gd_ix h65, hI, Option.bind_some]; rfl)
theorem nI_x {a b c : Nat} : (1 : Int32) + nI a * nI b + nI c = nI (1 + a * b + c) := by
  show nI 1 + nI a * nI b + nI c = _
  rw [nI_mul, nI_add, nI_add]
theorem e_at {S : Wd} (hI : Inv S) {t cols most n : Nat} (ht : tbl t cols most) (hn : wI S (t + 1) 0 = nI n) (hm : n ≤ most) {a k : Nat} (ha : a < n) (hk : k < cols) : f_X8_at S t (nI a) (nI k) = some (wI S (t + 1) (1 + a * cols + k), S) := by
  obtain ⟨h65, hI⟩ := hI
  have ha2 : a < 2 ^ 31 := by rcases ht with ⟨-, -, rfl⟩ | ⟨-, -, rfl⟩ | ⟨-, -, rfl⟩ | ⟨-, -, rfl⟩ | ⟨-, -, rfl⟩ <;> omega
  have hk2 : k < 2 ^ 31 := by rcases ht with ⟨-, rfl, -⟩ | ⟨-, rfl, -⟩ | ⟨-, rfl, -⟩ | ⟨-, rfl, -⟩ | ⟨-, rfl, -⟩ <;> omega
  have hn2 : n < 2 ^ 31 := by rcases ht with ⟨-, -, rfl⟩ | ⟨-, -, rfl⟩ | ⟨-, -, rfl⟩ | ⟨-, -, rfl⟩ | ⟨-, -, rfl⟩ <;> omega
  have hc : wI S t 1 = nI cols := by
    rcases ht with ⟨rfl, rfl, -⟩ | ⟨rfl, rfl, -⟩ | ⟨rfl, rfl, -⟩ | ⟨rfl, rfl, -⟩ | ⟨rfl, rfl, -⟩ <;> (simp only [hI]; rfl)
  have hcm : cols < 2 ^ 31 ∧ 1 + a * cols + k < (kT (t + 1)).2 := by
    rcases ht with ⟨rfl, rfl, rfl⟩ | ⟨rfl, rfl, rfl⟩ | ⟨rfl, rfl, rfl⟩ | ⟨rfl, rfl, rfl⟩ | ⟨rfl, rfl, rfl⟩
    · exact ⟨by decide, by show _ < 43; omega⟩
    · exact ⟨by decide, by show _ < 89; omega⟩
    · exact ⟨by decide, by show _ < 121; omega⟩
    · exact ⟨by decide, by show _ < 61; omega⟩
    · exact ⟨by decide, by show _ < 91; omega⟩
  have hq : wO S t 3 = some (t + 1) := by
    rcases ht with ⟨rfl, -, -⟩ | ⟨rfl, -, -⟩ | ⟨rfl, -, -⟩ | ⟨rfl, -, -⟩ | ⟨rfl, -, -⟩ <;> simp only [hI]
  have ho : ob S t 8 := by
    rcases ht with ⟨rfl, -, -⟩ | ⟨rfl, -, -⟩ | ⟨rfl, -, -⟩ | ⟨rfl, -, -⟩ | ⟨rfl, -, -⟩ <;> exact ob_of h65 (by decide) (by decide)
  have hx : ∀ j, j < (kT (t + 1)).2 → ix S (t + 1) 100 (nI j) := by
    rcases ht with ⟨rfl, -, -⟩ | ⟨rfl, -, -⟩ | ⟨rfl, -, -⟩ | ⟨rfl, -, -⟩ | ⟨rfl, -, -⟩ <;> exact fun j hj => ix_of h65 (by decide) (by decide) hj
  have hb : (kT (t + 1)).2 < 2 ^ 31 := by
    rcases ht with ⟨rfl, -, -⟩ | ⟨rfl, -, -⟩ | ⟨rfl, -, -⟩ | ⟨rfl, -, -⟩ | ⟨rfl, -, -⟩ <;> decide
  have e1 : f_X8_isCell S t (nI a) (nI k) = some (1, S) := by
    unfold f_X8_isCell
    have z0 : ix S (t + 1) 100 (0 : Int32) := hx 0 (by omega)
    rw [if_neg (nI_pos ha2), gd_pos ho, hq, Option.bind_some, gd_pos z0]
    rw [show wI S (t + 1) (0 : Int32).toNatClampNeg = nI n from hn, if_neg (nI_ge ha hn2), if_neg (nI_pos hk2), gd_pos ho, hc, if_neg (nI_ge hk hcm.1)]
  unfold f_X8_at
  rw [gd_pos ho, e1, bd2_eq, if_neg (by decide), gd_pos ho, hq, Option.bind_some, gd_pos ho, hc, nI_x, gd_pos (hx _ hcm.2), nI_clamp (by omega)]

