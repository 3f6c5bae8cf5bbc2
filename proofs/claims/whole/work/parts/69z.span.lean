/-! span -/
def insR (pr : Int32) : Nat → (Nat → Int32) → Nat → Int32
  | 0, A => upd A 0 pr
  | k + 1, A => if A k ≤ pr then upd A (k + 1) pr else insR pr k (upd A (k + 1) (A k))
theorem insR_congr {pr : Int32} {n : Nat} : ∀ (k : Nat) (A B : Nat → Int32), k ≤ n → (∀ i, i ≤ n → i ≠ k → A i = B i) → ∀ i, i ≤ n → insR pr k A i = insR pr k B i
  | 0, A, B, hk, h, i, hi => by
    unfold insR upd
    by_cases h0 : i = 0
    · rw [if_pos h0, if_pos h0]
    · rw [if_neg h0, if_neg h0]
      exact h i hi h0
  | k + 1, A, B, hk, h, i, hi => by
    have hk' : A k = B k := h k (by omega) (by omega)
    unfold insR
    rw [hk']
    split
    · unfold upd
      by_cases h0 : i = k + 1
      · rw [if_pos h0, if_pos h0]
      · rw [if_neg h0, if_neg h0]
        exact h i hi h0
    · refine insR_congr k _ _ (by omega) (fun i' hi' hne => ?_) i hi
      unfold upd
      by_cases h0 : i' = k + 1
      · rw [if_pos h0, if_pos h0]
      · rw [if_neg h0, if_neg h0]
        exact h i' hi' h0
theorem insR_lo {pr lo : Int32} (hp : lo ≤ pr) {n : Nat} : ∀ (k : Nat) (A : Nat → Int32), k ≤ n → (∀ i, i ≤ n → i ≠ k → lo ≤ A i) → ∀ i, i ≤ n → lo ≤ insR pr k A i
  | 0, A, hk, h, i, hi => by
    unfold insR upd
    by_cases h0 : i = 0
    · rw [if_pos h0]; exact hp
    · rw [if_neg h0]
      exact h i hi h0
  | k + 1, A, hk, h, i, hi => by
    unfold insR
    split
    · unfold upd
      by_cases h0 : i = k + 1
      · rw [if_pos h0]; exact hp
      · rw [if_neg h0]
        exact h i hi h0
    · refine insR_lo hp k _ (by omega) (fun i' hi' hne => ?_) i hi
      unfold upd
      by_cases h0 : i' = k + 1
      · rw [if_pos h0]; exact h k (by omega) (by omega)
      · rw [if_neg h0]
        exact h i' hi' h0
def gaR (X Y Z : Nat → Nat) (ln d : Nat) (A : Nat → Int32) : Nat → Nat × (Nat → Int32)
  | 0 => (0, A)
  | i + 1 => if X i = ln ∧ d < Y i + 30 ∧ Y i ≤ d then ((gaR X Y Z ln d A i).1 + 1, insR (nI (Z i)) (gaR X Y Z ln d A i).1 (gaR X Y Z ln d A i).2) else gaR X Y Z ln d A i
theorem gaR_le {X Y Z : Nat → Nat} {ln d : Nat} {A : Nat → Int32} : ∀ i, (gaR X Y Z ln d A i).1 ≤ i
  | 0 => Nat.le_refl _
  | i + 1 => by
    have := gaR_le (X := X) (Y := Y) (Z := Z) (ln := ln) (d := d) (A := A) i
    unfold gaR
    split
    · show _ + 1 ≤ _
      omega
    · omega
theorem gaR_congr {X Y Z : Nat → Nat} {ln d : Nat} {A B : Nat → Int32} : ∀ i, (gaR X Y Z ln d A i).1 = (gaR X Y Z ln d B i).1 ∧ ∀ k, k < (gaR X Y Z ln d A i).1 → (gaR X Y Z ln d A i).2 k = (gaR X Y Z ln d B i).2 k
  | 0 => ⟨rfl, fun k hk => absurd hk (Nat.not_lt_zero k)⟩
  | i + 1 => by
    obtain ⟨h1, h2⟩ := gaR_congr (X := X) (Y := Y) (Z := Z) (ln := ln) (d := d) (A := A) (B := B) i
    unfold gaR
    split
    · refine ⟨by rw [h1], fun k hk => ?_⟩
      dsimp only at hk ⊢
      rw [← h1]
      exact insR_congr (n := (gaR X Y Z ln d A i).1) _ _ _ (Nat.le_refl _) (fun i' hi' hne => h2 i' (by omega)) k (by omega)
    · exact ⟨h1, h2⟩
theorem gaR_lo {X Y Z : Nat → Nat} {ln d : Nat} {A : Nat → Int32} {m : Nat} (hZ : ∀ i, i < m → Z i ≤ 9999) : ∀ i, i ≤ m → ∀ k, k < (gaR X Y Z ln d A i).1 → (-99999 : Int32) ≤ (gaR X Y Z ln d A i).2 k
  | 0, _, k, hk => absurd hk (Nat.not_lt_zero k)
  | i + 1, hi, k, hk => by
    have ih := gaR_lo (X := X) (Y := Y) (ln := ln) (d := d) (A := A) hZ i (by omega)
    unfold gaR at hk ⊢
    split at hk
    · rename_i hc
      rw [if_pos hc]
      dsimp only at hk ⊢
      have := hZ i (by omega)
      exact insR_lo (nI_nofind (by omega)) (n := (gaR X Y Z ln d A i).1) _ _ (Nat.le_refl _) (fun i' hi' hne => ih i' (by omega)) k (by omega)
    · rename_i hc
      rw [if_neg hc]
      exact ih k hk
def prX (S : Wd) (i : Nat) : Nat := (wI S 23 (1 + i * 3)).toNatClampNeg
def prY (S : Wd) (i : Nat) : Nat := (wI S 23 (1 + i * 3 + 1)).toNatClampNeg
def prZ (S : Wd) (i : Nat) : Nat := (wI S 23 (1 + i * 3 + 2)).toNatClampNeg
theorem pri_facts {S : Wd} (h : cPrice (wI S) (wI S 49)) : ∃ n : Nat, n ≤ 40 ∧ wI S 49 66 = nI n ∧ wI S 23 0 = nI n ∧ ∀ i, i < n → prX S i ≤ 77 ∧ prY S i ≤ 365 ∧ prZ S i ≤ 9999 ∧ wI S 23 (1 + i * 3) = nI (prX S i) ∧ wI S 23 (1 + i * 3 + 1) = nI (prY S i) ∧ wI S 23 (1 + i * 3 + 2) = nI (prZ S i) ∧ wI S 49 (200 + i) = nI (10000 * (366 * prX S i + prY S i) + prZ S i) := by
  obtain ⟨n, hn, u, v, hl⟩ := h
  refine ⟨n, hn, u, v, fun i hi => ?_⟩
  obtain ⟨x, y, z, x1, y1, z1, e1, e2, e3, e4⟩ := hl i hi
  have ex : prX S i = x := by unfold prX; rw [e1, nI_clamp (by omega)]
  have ey : prY S i = y := by unfold prY; rw [e2, nI_clamp (by omega)]
  have ez : prZ S i = z := by unfold prZ; rw [e3, nI_clamp (by omega)]
  rw [ex, ey, ez]
  exact ⟨x1, y1, z1, e1, e2, e3, e4⟩
theorem e_insL {S : Wd} (hI : Inv S) (pr x2 : Int32) : ∀ (k : Nat) (A : Nat → Int32), k < 40 → ru B_X5_insert (1, [20], [pr, x2, nI k], sA S 21 A) = some (sA S 21 (insR pr k A))
  | 0, A, hk => by
    have hIA : Inv (sA S 21 A) := (Ag.sA (D := fun a _ => a = 21) (fun _ => rfl)).inv hI (by omega)
    obtain ⟨g65, hG⟩ := id hIA
    refine ru_done ?_
    show B_X5_insert_1 (sA S 21 A) 20 pr x2 (nI 0) = _
    unfold B_X5_insert_1
    rw [if_pos (by decide), if_neg (by decide)]
    simp (decide := true) only [gd_ob g65, hG, Option.bind_some]
    rw [gd_pos (ix_of g65 (by decide) (by decide) (show 0 < 40 from hk)), nI_clamp (by omega), sI_sA]
    rfl
  | k + 1, A, hk => by
    have hIA : Inv (sA S 21 A) := (Ag.sA (D := fun a _ => a = 21) (fun _ => rfl)).inv hI (by omega)
    obtain ⟨g65, hG⟩ := id hIA
    have rA : ∀ i, wI (sA S 21 A) 21 i = A i := fun i => by rw [wI_sA, if_pos rfl]
    have st : B_X5_insert (1, [20], [pr, x2, nI (k + 1)], sA S 21 A) = if A k ≤ pr then some (.inl (sA S 21 (upd A (k + 1) pr))) else some (.inr (1, [20], [pr, x2, nI k], sA S 21 (upd A (k + 1) (A k)))) := by
      show B_X5_insert_1 (sA S 21 A) 20 pr x2 (nI (k + 1)) = _
      unfold B_X5_insert_1
      rw [if_neg (nI_nle (by omega) (by omega)), if_neg (show ¬ (40 : Int32) ≤ nI (k + 1) from nI_ge (b := 40) hk (by decide)), if_neg (show ¬ (40 : Int32) ≤ nI (k + 1) from nI_ge (b := 40) hk (by decide))]
      simp (decide := true) only [gd_ob g65, hG, Option.bind_some, nI_pred, nI_m1]
      rw [gd_pos (ix_of g65 (by decide) (by decide) (show k < 40 by omega)), gd_pos (ix_of g65 (by decide) (by decide) (show k + 1 < 40 from hk)), gd_pos (ix_of g65 (by decide) (by decide) (show k < 40 by omega)), gd_pos (ix_of g65 (by decide) (by decide) (show k + 1 < 40 from hk)), nI_clamp (by omega), nI_clamp (by omega), rA, sI_sA, sI_sA]
      rfl
    unfold insR
    by_cases h : A k ≤ pr
    · rw [if_pos h] at st ⊢
      exact ru_done st
    · rw [if_neg h] at st ⊢
      exact (ru_step st).trans (e_insL hI pr x2 k _ (by omega))
theorem day_le {y d : Nat} (hy : y ≤ 365) (hd : d ≤ 365) : (nI y ≤ nI d - 30 ↔ y + 30 ≤ d) ∧ (nI d - 29 ≤ nI y ↔ d < y + 30) := by
  have e1 : (nI d - 30).toInt = (d : Int) - 30 := by
    have e30 : (30 : Int32).toInt = 30 := rfl
    rw [i32_sub (by rw [nI_toInt (by omega), e30]; omega) (by rw [nI_toInt (by omega), e30]; omega), nI_toInt (by omega), e30]
  have e2 : (nI d - 29).toInt = (d : Int) - 29 := by
    have e29 : (29 : Int32).toInt = 29 := rfl
    rw [i32_sub (by rw [nI_toInt (by omega), e29]; omega) (by rw [nI_toInt (by omega), e29]; omega), nI_toInt (by omega), e29]
  rw [Int32.le_iff_toInt_le, Int32.le_iff_toInt_le, e1, e2, nI_toInt (by omega)]
  omega
theorem e_gather {S : Wd} (hI : Inv S) {n : Nat} (hn : n ≤ 40) (v : wI S 23 0 = nI n) {X Y Z : Nat → Nat} (hf : ∀ i, i < n → X i ≤ 77 ∧ Y i ≤ 365 ∧ Z i ≤ 9999 ∧ wI S 23 (1 + i * 3) = nI (X i) ∧ wI S 23 (1 + i * 3 + 1) = nI (Y i) ∧ wI S 23 (1 + i * 3 + 2) = nI (Z i)) {ln d : Nat} (hln : ln < 2 ^ 31) (hd : d ≤ 365) : f_X5_gather S 20 (nI ln) (nI d) = some (nI (gaR X Y Z ln d (wI S 21) n).1, sA S 21 (gaR X Y Z ln d (wI S 21) n).2) := by
  unfold f_X5_gather
  refine (ru_step (show B_X5_gather (0, [20], [nI ln, nI d], S) = some (.inr (1, [20], [nI ln, nI d, nI (gaR X Y Z ln d (wI S 21) 0).1, nI 0], sA S 21 (gaR X Y Z ln d (wI S 21) 0).2)) from by
    show _ = some (Sum.inr (1, [20], [nI ln, nI d, 0, 0], sA S 21 (wI S 21)))
    rw [sA_self]
    rfl)).trans ((ru_for (fun i => (1, [20], [nI ln, nI d, nI (gaR X Y Z ln d (wI S 21) i).1, nI i], sA S 21 (gaR X Y Z ln d (wI S 21) i).2)) n (fun i hi => ?_)).trans (ru_done ?_))
  · have hle := gaR_le (X := X) (Y := Y) (Z := Z) (ln := ln) (d := d) (A := wI S 21) i
    rw [show gaR X Y Z ln d (wI S 21) (i + 1) = if X i = ln ∧ d < Y i + 30 ∧ Y i ≤ d then ((gaR X Y Z ln d (wI S 21) i).1 + 1, insR (nI (Z i)) (gaR X Y Z ln d (wI S 21) i).1 (gaR X Y Z ln d (wI S 21) i).2) else gaR X Y Z ln d (wI S 21) i from rfl]
    generalize gaR X Y Z ln d (wI S 21) i = R at *
    obtain ⟨c, A⟩ := R
    dsimp only at hle ⊢
    have hIA : Inv (sA S 21 A) := (Ag.sA (D := fun a _ => a = 21) (fun _ => rfl)).inv hI (by omega)
    obtain ⟨g65, hG⟩ := id hIA
    have r23 : wI (sA S 21 A) 23 = wI S 23 := by rw [wI_sA, if_neg (by decide)]
    obtain ⟨x1, y1, z1, x2, y2, z2⟩ := hf i hi
    have v' : wI (sA S 21 A) (22 + 1) 0 = nI n := by rw [r23]; exact v
    have b0 := e_at hIA tb22 v' hn hi (show 0 < 3 by decide)
    have b1 := e_at hIA tb22 v' hn hi (show 1 < 3 by decide)
    have b2 := e_at hIA tb22 v' hn hi (show 2 < 3 by decide)
    rw [show wI (sA S 21 A) (22 + 1) (1 + i * 3 + 0) = nI (X i) by rw [r23]; exact x2] at b0
    rw [show wI (sA S 21 A) (22 + 1) (1 + i * 3 + 1) = nI (Y i) by rw [r23]; exact y2] at b1
    rw [show wI (sA S 21 A) (22 + 1) (1 + i * 3 + 2) = nI (Z i) by rw [r23]; exact z2] at b2
    show B_X5_gather_1 (sA S 21 A) 20 (nI ln) (nI d) (nI c) (nI i) = _
    unfold B_X5_gather_1
    simp (decide := true) only [gd_ob g65, hG, Option.bind_some, e_count hIA tb22, bd2_eq]
    rw [v', if_neg (nI_ge hi (by omega)), show (1 : Int32) = nI 1 from rfl, b1, bd2_eq]
    simp (decide := true) only [gd_ob g65, hG, Option.bind_some]
    rw [show (0 : Int32) = nI 0 from rfl, b0, bd2_eq, nI_add]
    by_cases h1 : X i = ln
    · rw [if_pos (show nI (X i) = nI ln by rw [h1])]
      by_cases h2 : Y i + 30 ≤ d
      · rw [if_pos ((day_le y1 hd).1.mpr h2), if_neg (by omega)]
      · rw [if_neg (fun h => h2 ((day_le y1 hd).1.mp h))]
        by_cases h3 : d < Y i
        · rw [if_pos (nI_lt h3 (by omega)), if_neg (by omega)]
        · rw [if_neg (nI_nlt (by omega) (by omega)), if_pos (by omega)]
          simp (decide := true) only [gd_ob g65, hG, Option.bind_some]
          have hins : f_X5_insert (sA S 21 A) 20 (nI (Z i)) (nI c) = some (sA S 21 (insR (nI (Z i)) c A)) := by
            unfold f_X5_insert
            exact (ru_step (show B_X5_insert (0, [20], [nI (Z i), nI c], sA S 21 A) = some (.inr (1, [20], [nI (Z i), nI c, nI c], sA S 21 A)) from rfl)).trans (e_insL hI (nI (Z i)) (nI c) c A (by omega))
          rw [show (2 : Int32) = nI 2 from rfl, b2, bd2_eq, gd_pos (ob_of g65 (by decide) (by decide)), hins, Option.bind_some, nI_add]
    · rw [if_neg (fun h => h1 ((nI_eq (by omega) hln).mp h)), if_neg (fun h => h1 h.1)]
  · have hIA : Inv (sA S 21 (gaR X Y Z ln d (wI S 21) n).2) := (Ag.sA (D := fun a _ => a = 21) (fun _ => rfl)).inv hI (by omega)
    obtain ⟨g65, hG⟩ := id hIA
    have v' : wI (sA S 21 (gaR X Y Z ln d (wI S 21) n).2) (22 + 1) 0 = nI n := by rw [wI_sA, if_neg (by decide)]; exact v
    show B_X5_gather_1 (sA S 21 (gaR X Y Z ln d (wI S 21) n).2) 20 (nI ln) (nI d) _ (nI n) = _
    unfold B_X5_gather_1
    simp (decide := true) only [gd_ob g65, hG, Option.bind_some, e_count hIA tb22, bd2_eq]
    rw [v', if_pos (Int32.le_refl _)]
