/-! contractsOf -/
def ccN (X : Nat → Nat) (ld : Nat) : Nat → Nat
  | 0 => 0
  | k + 1 => ccN X ld k + (if X k = ld then 1 else 0)
theorem e_contrC {S : Wd} (hI : Inv S) {n : Nat} (hn : n ≤ 20) (v : wI S 27 0 = nI n) {X : Nat → Nat} (eX : ∀ i, i < n → X i < 8 ∧ wI S 27 (1 + i * 3) = nI (X i)) {ld : Nat} (hld : ld < 8) : f_X1_contractsOf S 24 (nI ld) = some (nI (ccN X ld n), S) := by
  obtain ⟨h65, hF⟩ := id hI
  unfold f_X1_contractsOf
  refine (ru_step (show B_X1_contractsOf (0, [24], [nI ld], S) = some (.inr (1, [24], [nI ld, nI (ccN X ld 0), nI 0], S)) from rfl)).trans ((ru_for (fun k => (1, [24], [nI ld, nI (ccN X ld k), nI k], S)) n (fun k hk => ?_)).trans (ru_done ?_))
  · show B_X1_contractsOf_1 S 24 (nI ld) (nI (ccN X ld k)) (nI k) = _
    unfold B_X1_contractsOf_1
    simp (decide := true) only [gd_ob h65, hF, Option.bind_some, e_count hI tb26, bd2_eq]
    rw [show wI S (26 + 1) 0 = nI n from v, if_neg (nI_ge hk (by omega)), show (0 : Int32) = nI 0 from rfl, e_at hI tb26 v hn hk (show 0 < 3 by decide), bd2_eq, show wI S (26 + 1) (1 + k * 3 + 0) = nI (X k) from (eX k hk).2, nI_1, nI_1]
    have x1 := (eX k hk).1
    show _ = some (Sum.inr (1, [24], [nI ld, nI (ccN X ld k + (if X k = ld then 1 else 0)), nI (k + 1)], S))
    by_cases h : X k = ld
    · rw [if_pos (show nI (X k) = nI ld by rw [h]), if_pos h]
    · rw [if_neg (fun h' => h ((nI_eq (by omega) (by omega)).mp h')), if_neg h]
      rfl
  · show B_X1_contractsOf_1 S 24 (nI ld) (nI (ccN X ld n)) (nI n) = _
    unfold B_X1_contractsOf_1
    simp (decide := true) only [gd_ob h65, hF, Option.bind_some, e_count hI tb26, bd2_eq]
    rw [show wI S (26 + 1) 0 = nI n from v, if_pos (Int32.le_refl _)]
theorem e_contrM {V : Wd} (hI : Inv V) {n : Nat} (hn : n ≤ 20) (u67 : wI V 49 67 = nI n) {X Y Z : Nat → Nat} (eN : ∀ i, i < n → X i < 8 ∧ Y i < 10 ∧ Z i < 10 ∧ wI V 49 (240 + i) = nI (X i + 8 * Y i + 80 * Z i)) {ld : Nat} (hld : ld < 8) : f_X12_contractsOf V 48 (nI ld) = some (nI (ccN X ld n), V) := by
  obtain ⟨h65, hF⟩ := id hI
  unfold f_X12_contractsOf
  refine (ru_step (show B_X12_contractsOf (0, [48], [nI ld], V) = some (.inr (1, [48], [nI ld, nI (ccN X ld 0), nI 0], V)) from rfl)).trans ((ru_for (fun k => (1, [48], [nI ld, nI (ccN X ld k), nI k], V)) n (fun k hk => ?_)).trans (ru_done ?_))
  · obtain ⟨x1, y1, z1, e1⟩ := eN k hk
    obtain ⟨p1, -, -⟩ := con_parts x1 y1 z1
    show B_X12_contractsOf_1 V 48 (nI ld) (nI (ccN X ld k)) (nI k) = _
    unfold B_X12_contractsOf_1
    simp (decide := true) only [gd_ob h65, hF, Option.bind_some, gd_pos (show ix V 49 100 (67 : Int32) from rdN h65 (show 67 < 424 by decide)), show (67 : Int32).toNatClampNeg = 67 from rfl, u67]
    rw [if_neg (nI_ge hk (by omega)), show (240 : Int32) + nI k = nI (240 + k) from nI_add 240 k, gd_pos (rdN h65 (by omega)), nI_clamp (by omega), e1, p1, nI_1, nI_1, show nI (ccN X ld k) + 0 = nI (ccN X ld k) from Int32.add_zero _]
    show _ = some (Sum.inr (1, [48], [nI ld, nI (ccN X ld k + (if X k = ld then 1 else 0)), nI (k + 1)], V))
    by_cases h : X k = ld
    · rw [if_pos (show nI (X k) = nI ld by rw [h]), if_pos h]
    · rw [if_neg (fun h' => h ((nI_eq (by omega) (by omega)).mp h')), if_neg h]
      rfl
  · show B_X12_contractsOf_1 V 48 (nI ld) (nI (ccN X ld n)) (nI n) = _
    unfold B_X12_contractsOf_1
    simp (decide := true) only [gd_ob h65, hF, Option.bind_some, gd_pos (show ix V 49 100 (67 : Int32) from rdN h65 (show 67 < 424 by decide)), show (67 : Int32).toNatClampNeg = 67 from rfl, u67]
    rw [if_pos (Int32.le_refl _)]
