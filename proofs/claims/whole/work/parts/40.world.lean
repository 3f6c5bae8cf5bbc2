/-! worlds, read: what an update leaves -/
theorem wn_sI (S : Wd) (i k : Nat) (v : Int32) : wn (sI S i k v) = wn S := rfl
theorem wl_sI (S : Wd) (i k : Nat) (v : Int32) : wl (sI S i k v) = wl S := rfl
theorem wO_sI (S : Wd) (i k : Nat) (v : Int32) : wO (sI S i k v) = wO S := rfl
theorem wI_sI (S : Wd) (i k : Nat) (v : Int32) (a c : Nat) : wI (sI S i k v) a c = if a = i then (if c = k then v else wI S a c) else wI S a c := by
  show (if a = i then (fun b => if b = k then v else S.2.2.1 a b) else S.2.2.1 a) c = _
  split <;> rfl
theorem wI_sI' (S : Wd) (i k : Nat) (v : Int32) (a : Nat) (h : a ≠ i) : wI (sI S i k v) a = wI S a := by
  show (if a = i then _ else _) = _
  rw [if_neg h]; rfl
theorem wn_sA (S : Wd) (i : Nat) (f : Nat → Int32) : wn (sA S i f) = wn S := rfl
theorem wl_sA (S : Wd) (i : Nat) (f : Nat → Int32) : wl (sA S i f) = wl S := rfl
theorem wO_sA (S : Wd) (i : Nat) (f : Nat → Int32) : wO (sA S i f) = wO S := rfl
theorem wI_sA (S : Wd) (i : Nat) (f : Nat → Int32) (a : Nat) : wI (sA S i f) a = if a = i then f else wI S a := rfl
theorem wn_sO (S : Wd) (i k : Nat) (v : Option Nat) : wn (sO S i k v) = wn S := rfl
theorem wl_sO (S : Wd) (i k : Nat) (v : Option Nat) : wl (sO S i k v) = wl S := rfl
theorem wI_sO (S : Wd) (i k : Nat) (v : Option Nat) : wI (sO S i k v) = wI S := rfl
theorem wO_sO (S : Wd) (i k : Nat) (v : Option Nat) (a c : Nat) : wO (sO S i k v) a c = if a = i then (if c = k then v else wO S a c) else wO S a c := by
  show (if a = i then (fun b => if b = k then v else S.2.2.2 a b) else S.2.2.2 a) c = _
  split <;> rfl
theorem wn_sN (S : Wd) (len : Nat) : wn (sN S len) = wn S + 1 := rfl
theorem wl_sN (S : Wd) (len a : Nat) : wl (sN S len) a = if a = wn S then len else wl S a := rfl
theorem wI_sN (S : Wd) (len a : Nat) : wI (sN S len) a = if a = wn S then (fun _ => 0) else wI S a := rfl
theorem wO_sN (S : Wd) (len a : Nat) : wO (sN S len) a = if a = wn S then (fun _ => none) else wO S a := rfl
theorem wlen_lt {S : Wd} {i : Nat} (h : i < 65) : wlen S i = (kT i).2 := by unfold wlen; rw [if_pos h]
theorem wlen_ge {S : Wd} {i : Nat} (h : 65 ≤ i) : wlen S i = wl S i := by unfold wlen; rw [if_neg (by omega)]
theorem gd_ob {α : Type} {S : Wd} {i k : Nat} {x : Option α} (h : 65 ≤ wn S) (hi : i < 65) (hk : (kT i).1 = k) : gd (ob S i k) x = x := gd_pos ⟨Nat.lt_of_lt_of_le hi h, hk⟩
theorem gd_ix {α : Type} {S : Wd} {a k : Nat} {i : Int32} {x : Option α} (h : 65 ≤ wn S) (ha : a < 65) (hk : (kT a).1 = k) (h1 : 0 ≤ i) (h2 : i < Int32.ofNat (kT a).2) : gd (ix S a k i) x = x := by
  refine gd_pos ⟨⟨Nat.lt_of_lt_of_le ha h, hk⟩, ?_⟩
  rw [wlen_lt ha, vp_in_iff]
  have e1 := Int32.le_iff_toInt_le.mp h1
  have e2 := Int32.lt_iff_toInt_lt.mp h2
  rw [Int32.toInt_zero] at e1
  have hb : (kT a).2 < 2 ^ 31 := by
    have hall : ∀ a, a < 65 → (kT a).2 < 2 ^ 31 := by decide +kernel
    exact hall a ha
  rw [show (Int32.ofNat (kT a).2).toInt = ((kT a).2 : Int) from nI_toInt hb] at e2
  exact ⟨e1, e2⟩
theorem ob_of {S : Wd} {i k : Nat} (h : 65 ≤ wn S) (hi : i < 65) (hk : (kT i).1 = k) : ob S i k := ⟨Nat.lt_of_lt_of_le hi h, hk⟩
theorem ix_of {S : Wd} {a k i : Nat} (h : 65 ≤ wn S) (ha : a < 65) (hk : (kT a).1 = k) (hi : i < (kT a).2) : ix S a k (nI i) := by
  have hb : (kT a).2 < 2 ^ 31 := by
    have hall : ∀ a, a < 65 → (kT a).2 < 2 ^ 31 := by decide +kernel
    exact hall a ha
  exact ⟨⟨Nat.lt_of_lt_of_le ha h, hk⟩, by rw [wlen_lt ha]; exact vp_in_nI hi hb⟩
theorem kT_0 : kT 0 = (11, 0) := rfl
theorem kT_1 : kT 1 = (3, 0) := rfl
theorem kT_2 : kT 2 = (103, 16) := rfl
theorem kT_3 : kT 3 = (103, 16) := rfl
theorem kT_4 : kT 4 = (100, 16) := rfl
theorem kT_5 : kT 5 = (10, 0) := rfl
theorem kT_6 : kT 6 = (100, 64) := rfl
theorem kT_7 : kT 7 = (100, 64) := rfl
theorem kT_8 : kT 8 = (8, 0) := rfl
theorem kT_9 : kT 9 = (100, 43) := rfl
theorem kT_10 : kT 10 = (8, 0) := rfl
theorem kT_11 : kT 11 = (100, 89) := rfl
theorem kT_12 : kT 12 = (0, 0) := rfl
theorem kT_13 : kT 13 = (2, 0) := rfl
theorem kT_14 : kT 14 = (100, 1792) := rfl
theorem kT_15 : kT 15 = (100, 1536) := rfl
theorem kT_16 : kT 16 = (100, 6) := rfl
theorem kT_17 : kT 17 = (100, 65) := rfl
theorem kT_18 : kT 18 = (100, 65) := rfl
theorem kT_19 : kT 19 = (100, 65) := rfl
theorem kT_20 : kT 20 = (5, 0) := rfl
theorem kT_21 : kT 21 = (100, 40) := rfl
theorem kT_22 : kT 22 = (8, 0) := rfl
theorem kT_23 : kT 23 = (100, 121) := rfl
theorem kT_24 : kT 24 = (1, 0) := rfl
theorem kT_25 : kT 25 = (100, 20) := rfl
theorem kT_26 : kT 26 = (8, 0) := rfl
theorem kT_27 : kT 27 = (100, 61) := rfl
theorem kT_28 : kT 28 = (6, 0) := rfl
theorem kT_29 : kT 29 = (8, 0) := rfl
theorem kT_30 : kT 30 = (100, 91) := rfl
theorem kT_31 : kT 31 = (4, 0) := rfl
theorem kT_32 : kT 32 = (100, 100) := rfl
theorem kT_33 : kT 33 = (100, 10) := rfl
theorem kT_34 : kT 34 = (100, 10) := rfl
theorem kT_35 : kT 35 = (9, 0) := rfl
theorem kT_36 : kT 36 = (100, 15) := rfl
theorem kT_37 : kT 37 = (100, 7) := rfl
theorem kT_38 : kT 38 = (100, 5) := rfl
theorem kT_39 : kT 39 = (102, 4) := rfl
theorem kT_40 : kT 40 = (7, 0) := rfl
theorem kT_41 : kT 41 = (100, 20) := rfl
theorem kT_42 : kT 42 = (7, 0) := rfl
theorem kT_43 : kT 43 = (100, 20) := rfl
theorem kT_44 : kT 44 = (7, 0) := rfl
theorem kT_45 : kT 45 = (100, 20) := rfl
theorem kT_46 : kT 46 = (7, 0) := rfl
theorem kT_47 : kT 47 = (100, 20) := rfl
theorem kT_48 : kT 48 = (12, 0) := rfl
theorem kT_49 : kT 49 = (100, 424) := rfl
theorem kT_50 : kT 50 = (100, 6784) := rfl
theorem kT_51 : kT 51 = (100, 4) := rfl
theorem kT_52 : kT 52 = (100, 4) := rfl
theorem kT_53 : kT 53 = (100, 80) := rfl
theorem kT_54 : kT 54 = (100, 64) := rfl
theorem kT_55 : kT 55 = (101, 486) := rfl
theorem kT_56 : kT 56 = (100, 486) := rfl
theorem kT_57 : kT 57 = (100, 486) := rfl
theorem kT_58 : kT 58 = (100, 1792) := rfl
theorem kT_59 : kT 59 = (100, 6) := rfl
theorem kT_60 : kT 60 = (100, 40) := rfl
theorem kT_61 : kT 61 = (100, 10) := rfl
theorem kT_62 : kT 62 = (100, 10) := rfl
theorem kT_63 : kT 63 = (100, 5) := rfl
theorem kT_64 : kT 64 = (100, 20) := rfl
/-- what both constructors have laid down for good -/
abbrev Inv (S : Wd) : Prop := 65 ≤ wn S ∧ wO S 0 0 = some 1 ∧ wO S 0 1 = some 5 ∧ wO S 0 2 = some 8 ∧ wO S 0 3 = some 10 ∧ wO S 0 4 = some 12 ∧ wO S 0 5 = some 13 ∧ wO S 0 6 = some 20 ∧ wO S 0 7 = some 24 ∧ wO S 0 8 = some 28 ∧ wO S 0 9 = some 31 ∧ wO S 0 10 = some 35 ∧ wO S 0 11 = some 39 ∧ wO S 1 0 = some 2 ∧ wO S 1 1 = some 3 ∧ wO S 1 2 = some 4 ∧ wO S 5 0 = some 1 ∧ wO S 5 1 = some 6 ∧ wO S 5 2 = some 7 ∧ wO S 8 0 = some 1 ∧ wO S 8 3 = some 9 ∧ wO S 10 0 = some 1 ∧ wO S 10 3 = some 11 ∧ wO S 12 0 = some 5 ∧ wO S 12 1 = some 8 ∧ wO S 12 2 = some 10 ∧ wO S 13 0 = some 1 ∧ wO S 13 1 = some 8 ∧ wO S 13 2 = some 10 ∧ wO S 13 3 = some 12 ∧ wO S 13 4 = some 14 ∧ wO S 13 5 = some 15 ∧ wO S 13 6 = some 16 ∧ wO S 13 7 = some 17 ∧ wO S 13 8 = some 18 ∧ wO S 13 9 = some 19 ∧ wO S 20 0 = some 22 ∧ wO S 20 1 = some 21 ∧ wO S 22 0 = some 1 ∧ wO S 22 3 = some 23 ∧ wO S 24 0 = some 1 ∧ wO S 24 1 = some 26 ∧ wO S 24 2 = some 25 ∧ wO S 26 0 = some 1 ∧ wO S 26 3 = some 27 ∧ wO S 28 0 = some 5 ∧ wO S 28 1 = some 29 ∧ wO S 29 0 = some 1 ∧ wO S 29 3 = some 30 ∧ wO S 31 0 = some 1 ∧ wO S 31 1 = some 32 ∧ wO S 31 2 = some 33 ∧ wO S 31 3 = some 34 ∧ wO S 35 0 = some 1 ∧ wO S 35 1 = some 36 ∧ wO S 35 2 = some 37 ∧ wO S 35 3 = some 38 ∧ wO S 39 0 = some 40 ∧ wO S 39 1 = some 42 ∧ wO S 39 2 = some 44 ∧ wO S 39 3 = some 46 ∧ wO S 40 0 = some 41 ∧ wO S 42 0 = some 43 ∧ wO S 44 0 = some 45 ∧ wO S 46 0 = some 47 ∧ wO S 48 0 = some 49 ∧ wO S 48 1 = some 50 ∧ wO S 48 4 = some 51 ∧ wO S 48 5 = some 52 ∧ wO S 48 6 = some 53 ∧ wO S 48 7 = some 54 ∧ wO S 48 15 = some 55 ∧ wO S 48 16 = some 56 ∧ wO S 48 17 = some 57 ∧ wO S 48 18 = some 58 ∧ wO S 48 19 = some 59 ∧ wO S 48 20 = some 60 ∧ wO S 48 22 = some 61 ∧ wO S 48 23 = some 62 ∧ wO S 48 24 = some 63 ∧ wO S 48 25 = some 64 ∧ wI S 8 1 = 7 ∧ wI S 8 2 = 6 ∧ wI S 10 1 = 11 ∧ wI S 10 2 = 8 ∧ wI S 22 1 = 3 ∧ wI S 22 2 = 40 ∧ wI S 26 1 = 3 ∧ wI S 26 2 = 20 ∧ wI S 29 1 = 3 ∧ wI S 29 2 = 30
theorem Inv.of {S S' : Wd} (h : Inv S) (h1 : wn S ≤ wn S') (h2 : ∀ i k, i ≠ 2 → i ≠ 3 → i < 65 → wO S' i k = wO S i k) (h3 : ∀ i k, i = 8 ∨ i = 10 ∨ i = 22 ∨ i = 26 ∨ i = 29 → k = 1 ∨ k = 2 → wI S' i k = wI S i k) : Inv S' := by
  obtain ⟨g0, g1, g2, g3, g4, g5, g6, g7, g8, g9, g10, g11, g12, g13, g14, g15, g16, g17, g18, g19, g20, g21, g22, g23, g24, g25, g26, g27, g28, g29, g30, g31, g32, g33, g34, g35, g36, g37, g38, g39, g40, g41, g42, g43, g44, g45, g46, g47, g48, g49, g50, g51, g52, g53, g54, g55, g56, g57, g58, g59, g60, g61, g62, g63, g64, g65, g66, g67, g68, g69, g70, g71, g72, g73, g74, g75, g76, g77, g78, g79, g80, g81, g82, g83, g84, g85, g86, g87, g88, g89, g90⟩ := h
  refine ⟨Nat.le_trans g0 h1, ?_, ?_, ?_, ?_, ?_, ?_, ?_, ?_, ?_, ?_, ?_, ?_, ?_, ?_, ?_, ?_, ?_, ?_, ?_, ?_, ?_, ?_, ?_, ?_, ?_, ?_, ?_, ?_, ?_, ?_, ?_, ?_, ?_, ?_, ?_, ?_, ?_, ?_, ?_, ?_, ?_, ?_, ?_, ?_, ?_, ?_, ?_, ?_, ?_, ?_, ?_, ?_, ?_, ?_, ?_, ?_, ?_, ?_, ?_, ?_, ?_, ?_, ?_, ?_, ?_, ?_, ?_, ?_, ?_, ?_, ?_, ?_, ?_, ?_, ?_, ?_, ?_, ?_, ?_, ?_, ?_, ?_, ?_, ?_, ?_, ?_, ?_, ?_, ?_, ?_⟩
  · rw [h2 _ _ (by decide) (by decide) (by decide)]; exact g1
  · rw [h2 _ _ (by decide) (by decide) (by decide)]; exact g2
  · rw [h2 _ _ (by decide) (by decide) (by decide)]; exact g3
  · rw [h2 _ _ (by decide) (by decide) (by decide)]; exact g4
  · rw [h2 _ _ (by decide) (by decide) (by decide)]; exact g5
  · rw [h2 _ _ (by decide) (by decide) (by decide)]; exact g6
  · rw [h2 _ _ (by decide) (by decide) (by decide)]; exact g7
  · rw [h2 _ _ (by decide) (by decide) (by decide)]; exact g8
  · rw [h2 _ _ (by decide) (by decide) (by decide)]; exact g9
  · rw [h2 _ _ (by decide) (by decide) (by decide)]; exact g10
  · rw [h2 _ _ (by decide) (by decide) (by decide)]; exact g11
  · rw [h2 _ _ (by decide) (by decide) (by decide)]; exact g12
  · rw [h2 _ _ (by decide) (by decide) (by decide)]; exact g13
  · rw [h2 _ _ (by decide) (by decide) (by decide)]; exact g14
  · rw [h2 _ _ (by decide) (by decide) (by decide)]; exact g15
  · rw [h2 _ _ (by decide) (by decide) (by decide)]; exact g16
  · rw [h2 _ _ (by decide) (by decide) (by decide)]; exact g17
  · rw [h2 _ _ (by decide) (by decide) (by decide)]; exact g18
  · rw [h2 _ _ (by decide) (by decide) (by decide)]; exact g19
  · rw [h2 _ _ (by decide) (by decide) (by decide)]; exact g20
  · rw [h2 _ _ (by decide) (by decide) (by decide)]; exact g21
  · rw [h2 _ _ (by decide) (by decide) (by decide)]; exact g22
  · rw [h2 _ _ (by decide) (by decide) (by decide)]; exact g23
  · rw [h2 _ _ (by decide) (by decide) (by decide)]; exact g24
  · rw [h2 _ _ (by decide) (by decide) (by decide)]; exact g25
  · rw [h2 _ _ (by decide) (by decide) (by decide)]; exact g26
  · rw [h2 _ _ (by decide) (by decide) (by decide)]; exact g27
  · rw [h2 _ _ (by decide) (by decide) (by decide)]; exact g28
  · rw [h2 _ _ (by decide) (by decide) (by decide)]; exact g29
  · rw [h2 _ _ (by decide) (by decide) (by decide)]; exact g30
  · rw [h2 _ _ (by decide) (by decide) (by decide)]; exact g31
  · rw [h2 _ _ (by decide) (by decide) (by decide)]; exact g32
  · rw [h2 _ _ (by decide) (by decide) (by decide)]; exact g33
  · rw [h2 _ _ (by decide) (by decide) (by decide)]; exact g34
  · rw [h2 _ _ (by decide) (by decide) (by decide)]; exact g35
  · rw [h2 _ _ (by decide) (by decide) (by decide)]; exact g36
  · rw [h2 _ _ (by decide) (by decide) (by decide)]; exact g37
  · rw [h2 _ _ (by decide) (by decide) (by decide)]; exact g38
  · rw [h2 _ _ (by decide) (by decide) (by decide)]; exact g39
  · rw [h2 _ _ (by decide) (by decide) (by decide)]; exact g40
  · rw [h2 _ _ (by decide) (by decide) (by decide)]; exact g41
  · rw [h2 _ _ (by decide) (by decide) (by decide)]; exact g42
  · rw [h2 _ _ (by decide) (by decide) (by decide)]; exact g43
  · rw [h2 _ _ (by decide) (by decide) (by decide)]; exact g44
  · rw [h2 _ _ (by decide) (by decide) (by decide)]; exact g45
  · rw [h2 _ _ (by decide) (by decide) (by decide)]; exact g46
  · rw [h2 _ _ (by decide) (by decide) (by decide)]; exact g47
  · rw [h2 _ _ (by decide) (by decide) (by decide)]; exact g48
  · rw [h2 _ _ (by decide) (by decide) (by decide)]; exact g49
  · rw [h2 _ _ (by decide) (by decide) (by decide)]; exact g50
  · rw [h2 _ _ (by decide) (by decide) (by decide)]; exact g51
  · rw [h2 _ _ (by decide) (by decide) (by decide)]; exact g52
  · rw [h2 _ _ (by decide) (by decide) (by decide)]; exact g53
  · rw [h2 _ _ (by decide) (by decide) (by decide)]; exact g54
  · rw [h2 _ _ (by decide) (by decide) (by decide)]; exact g55
  · rw [h2 _ _ (by decide) (by decide) (by decide)]; exact g56
  · rw [h2 _ _ (by decide) (by decide) (by decide)]; exact g57
  · rw [h2 _ _ (by decide) (by decide) (by decide)]; exact g58
  · rw [h2 _ _ (by decide) (by decide) (by decide)]; exact g59
  · rw [h2 _ _ (by decide) (by decide) (by decide)]; exact g60
  · rw [h2 _ _ (by decide) (by decide) (by decide)]; exact g61
  · rw [h2 _ _ (by decide) (by decide) (by decide)]; exact g62
  · rw [h2 _ _ (by decide) (by decide) (by decide)]; exact g63
  · rw [h2 _ _ (by decide) (by decide) (by decide)]; exact g64
  · rw [h2 _ _ (by decide) (by decide) (by decide)]; exact g65
  · rw [h2 _ _ (by decide) (by decide) (by decide)]; exact g66
  · rw [h2 _ _ (by decide) (by decide) (by decide)]; exact g67
  · rw [h2 _ _ (by decide) (by decide) (by decide)]; exact g68
  · rw [h2 _ _ (by decide) (by decide) (by decide)]; exact g69
  · rw [h2 _ _ (by decide) (by decide) (by decide)]; exact g70
  · rw [h2 _ _ (by decide) (by decide) (by decide)]; exact g71
  · rw [h2 _ _ (by decide) (by decide) (by decide)]; exact g72
  · rw [h2 _ _ (by decide) (by decide) (by decide)]; exact g73
  · rw [h2 _ _ (by decide) (by decide) (by decide)]; exact g74
  · rw [h2 _ _ (by decide) (by decide) (by decide)]; exact g75
  · rw [h2 _ _ (by decide) (by decide) (by decide)]; exact g76
  · rw [h2 _ _ (by decide) (by decide) (by decide)]; exact g77
  · rw [h2 _ _ (by decide) (by decide) (by decide)]; exact g78
  · rw [h2 _ _ (by decide) (by decide) (by decide)]; exact g79
  · rw [h2 _ _ (by decide) (by decide) (by decide)]; exact g80
  · rw [h3 _ _ (by decide) (by decide)]; exact g81
  · rw [h3 _ _ (by decide) (by decide)]; exact g82
  · rw [h3 _ _ (by decide) (by decide)]; exact g83
  · rw [h3 _ _ (by decide) (by decide)]; exact g84
  · rw [h3 _ _ (by decide) (by decide)]; exact g85
  · rw [h3 _ _ (by decide) (by decide)]; exact g86
  · rw [h3 _ _ (by decide) (by decide)]; exact g87
  · rw [h3 _ _ (by decide) (by decide)]; exact g88
  · rw [h3 _ _ (by decide) (by decide)]; exact g89
  · rw [h3 _ _ (by decide) (by decide)]; exact g90
