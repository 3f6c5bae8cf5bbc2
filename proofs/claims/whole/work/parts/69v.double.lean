/-! doubles -/
def bcI (a0 : Int32) : Int32 := ((((((((a0 - ((((a0).toUInt32 >>> (((1 : Int32)).toUInt32 &&& Int32.toUInt32 31)).toInt32) &&& (1431655765 : Int32))) &&& (858993459 : Int32)) + (((((a0 - ((((a0).toUInt32 >>> (((1 : Int32)).toUInt32 &&& Int32.toUInt32 31)).toInt32) &&& (1431655765 : Int32)))).toUInt32 >>> (((2 : Int32)).toUInt32 &&& Int32.toUInt32 31)).toInt32) &&& (858993459 : Int32))) + ((((((a0 - ((((a0).toUInt32 >>> (((1 : Int32)).toUInt32 &&& Int32.toUInt32 31)).toInt32) &&& (1431655765 : Int32))) &&& (858993459 : Int32)) + (((((a0 - ((((a0).toUInt32 >>> (((1 : Int32)).toUInt32 &&& Int32.toUInt32 31)).toInt32) &&& (1431655765 : Int32)))).toUInt32 >>> (((2 : Int32)).toUInt32 &&& Int32.toUInt32 31)).toInt32) &&& (858993459 : Int32)))).toUInt32 >>> (((4 : Int32)).toUInt32 &&& Int32.toUInt32 31)).toInt32)) &&& (252645135 : Int32)) + ((((((((a0 - ((((a0).toUInt32 >>> (((1 : Int32)).toUInt32 &&& Int32.toUInt32 31)).toInt32) &&& (1431655765 : Int32))) &&& (858993459 : Int32)) + (((((a0 - ((((a0).toUInt32 >>> (((1 : Int32)).toUInt32 &&& Int32.toUInt32 31)).toInt32) &&& (1431655765 : Int32)))).toUInt32 >>> (((2 : Int32)).toUInt32 &&& Int32.toUInt32 31)).toInt32) &&& (858993459 : Int32))) + ((((((a0 - ((((a0).toUInt32 >>> (((1 : Int32)).toUInt32 &&& Int32.toUInt32 31)).toInt32) &&& (1431655765 : Int32))) &&& (858993459 : Int32)) + (((((a0 - ((((a0).toUInt32 >>> (((1 : Int32)).toUInt32 &&& Int32.toUInt32 31)).toInt32) &&& (1431655765 : Int32)))).toUInt32 >>> (((2 : Int32)).toUInt32 &&& Int32.toUInt32 31)).toInt32) &&& (858993459 : Int32)))).toUInt32 >>> (((4 : Int32)).toUInt32 &&& Int32.toUInt32 31)).toInt32)) &&& (252645135 : Int32))).toUInt32 >>> (((8 : Int32)).toUInt32 &&& Int32.toUInt32 31)).toInt32)) + (((((((((a0 - ((((a0).toUInt32 >>> (((1 : Int32)).toUInt32 &&& Int32.toUInt32 31)).toInt32) &&& (1431655765 : Int32))) &&& (858993459 : Int32)) + (((((a0 - ((((a0).toUInt32 >>> (((1 : Int32)).toUInt32 &&& Int32.toUInt32 31)).toInt32) &&& (1431655765 : Int32)))).toUInt32 >>> (((2 : Int32)).toUInt32 &&& Int32.toUInt32 31)).toInt32) &&& (858993459 : Int32))) + ((((((a0 - ((((a0).toUInt32 >>> (((1 : Int32)).toUInt32 &&& Int32.toUInt32 31)).toInt32) &&& (1431655765 : Int32))) &&& (858993459 : Int32)) + (((((a0 - ((((a0).toUInt32 >>> (((1 : Int32)).toUInt32 &&& Int32.toUInt32 31)).toInt32) &&& (1431655765 : Int32)))).toUInt32 >>> (((2 : Int32)).toUInt32 &&& Int32.toUInt32 31)).toInt32) &&& (858993459 : Int32)))).toUInt32 >>> (((4 : Int32)).toUInt32 &&& Int32.toUInt32 31)).toInt32)) &&& (252645135 : Int32)) + ((((((((a0 - ((((a0).toUInt32 >>> (((1 : Int32)).toUInt32 &&& Int32.toUInt32 31)).toInt32) &&& (1431655765 : Int32))) &&& (858993459 : Int32)) + (((((a0 - ((((a0).toUInt32 >>> (((1 : Int32)).toUInt32 &&& Int32.toUInt32 31)).toInt32) &&& (1431655765 : Int32)))).toUInt32 >>> (((2 : Int32)).toUInt32 &&& Int32.toUInt32 31)).toInt32) &&& (858993459 : Int32))) + ((((((a0 - ((((a0).toUInt32 >>> (((1 : Int32)).toUInt32 &&& Int32.toUInt32 31)).toInt32) &&& (1431655765 : Int32))) &&& (858993459 : Int32)) + (((((a0 - ((((a0).toUInt32 >>> (((1 : Int32)).toUInt32 &&& Int32.toUInt32 31)).toInt32) &&& (1431655765 : Int32)))).toUInt32 >>> (((2 : Int32)).toUInt32 &&& Int32.toUInt32 31)).toInt32) &&& (858993459 : Int32)))).toUInt32 >>> (((4 : Int32)).toUInt32 &&& Int32.toUInt32 31)).toInt32)) &&& (252645135 : Int32))).toUInt32 >>> (((8 : Int32)).toUInt32 &&& Int32.toUInt32 31)).toInt32))).toUInt32 >>> (((16 : Int32)).toUInt32 &&& Int32.toUInt32 31)).toInt32)) &&& (63 : Int32))
theorem e_bc (S : Wd) (x : Int32) : f_J6_bitCount_0f7a4 S x = some (bcI x, S) := rfl
/-- a set of low bits is a small number -/
theorem low_of {x : Int32} {b : Nat} (h : ∀ k, b ≤ k → k < 32 → bt x k = false) : ∃ w : Nat, w < 2 ^ b ∧ x = nI w := by
  refine ⟨x.toBitVec.toNat, ?_, ?_⟩
  · refine Nat.lt_pow_two_of_testBit _ fun i hi => ?_
    by_cases h32 : i < 32
    · exact h i hi h32
    · exact BitVec.getLsbD_of_ge x.toBitVec i (by omega)
  · apply Int32.toBitVec_inj.mp
    show x.toBitVec = (Int32.ofNat x.toBitVec.toNat).toBitVec
    rw [Int32.toBitVec_ofNat', BitVec.ofNat_toNat, BitVec.setWidth_eq]
theorem bc_two {w : Nat} (hw : w < 1024) : bcI (nI w) ≤ 1 ↔ nI w &&& (nI w - 1) = 0 := by
  have h : ∀ a : Fin 32, ∀ b : Fin 32, (bcI (nI (32 * a.val + b.val)) ≤ 1 ↔ nI (32 * a.val + b.val) &&& (nI (32 * a.val + b.val) - 1) = 0) := by decide +kernel
  have := h ⟨w / 32, by omega⟩ ⟨w % 32, by omega⟩
  rw [show 32 * (w / 32) + w % 32 = w by omega] at this
  exact this
def tkB (X Y Z : Nat → Nat) (ld fm : Nat) : Nat → Int32
  | 0 => 0
  | k + 1 => if X k = ld ∧ Y k = fm then tkB X Y Z ld fm k ||| ((1 : Int32) <<< (nI (Z k) &&& 31)) else tkB X Y Z ld fm k
theorem tkB_low {X Y Z : Nat → Nat} {ld fm : Nat} {n : Nat} (hZ : ∀ i, i < n → Z i < 10) : ∀ k, k ≤ n → ∀ i, 10 ≤ i → i < 32 → bt (tkB X Y Z ld fm k) i = false
  | 0, _, i, _, _ => bt_zero i
  | k + 1, hk, i, h1, h2 => by
    have ih := tkB_low (X := X) (Y := Y) (ld := ld) (fm := fm) hZ k (by omega) i h1 h2
    unfold tkB
    split
    · have hz := hZ k (by omega)
      rw [bt_or, ih, bt_one (by omega) h2, Bool.false_or]
      exact decide_eq_false (by omega)
    · exact ih
def dbN (X Y Z : Nat → Nat) (ld n : Nat) : Nat → Nat
  | 0 => 0
  | f + 1 => dbN X Y Z ld n f + (if bcI (tkB X Y Z ld f n) ≤ 1 then 0 else 1)
theorem e_dblC {S : Wd} (hI : Inv S) {n : Nat} (hn : n ≤ 20) (v : wI S 27 0 = nI n) {X Y Z : Nat → Nat} (eX : ∀ i, i < n → X i < 8 ∧ wI S 27 (1 + i * 3) = nI (X i)) (eY : ∀ i, i < n → Y i < 10 ∧ wI S 27 (1 + i * 3 + 1) = nI (Y i)) (eZ : ∀ i, i < n → Z i < 10 ∧ wI S 27 (1 + i * 3 + 2) = nI (Z i)) {ld : Nat} (hld : ld < 8) : f_X1_doubleGivers S 24 (nI ld) = some (nI (dbN X Y Z ld n 10), S) := by
  obtain ⟨h65, hF⟩ := id hI
  unfold f_X1_doubleGivers
  refine (ru_step (show B_X1_doubleGivers (0, [24], [nI ld], S) = some (.inr (1, [24], [nI ld, nI (dbN X Y Z ld n 0), nI 0], S)) from rfl)).trans (Eq.trans (?_ : _ = ru B_X1_doubleGivers (1, [24], [nI ld, nI (dbN X Y Z ld n 10), nI 10], S)) (ru_done ?_))
  · have outer : ∀ f, f < 10 → ru B_X1_doubleGivers (1, [24], [nI ld, nI (dbN X Y Z ld n f), nI f], S) = ru B_X1_doubleGivers (1, [24], [nI ld, nI (dbN X Y Z ld n (f + 1)), nI (f + 1)], S) := by
      intro f hf
      refine (ru_step (show B_X1_doubleGivers (1, [24], [nI ld, nI (dbN X Y Z ld n f), nI f], S) = some (.inr (2, [24], [nI ld, nI (dbN X Y Z ld n f), nI f, tkB X Y Z ld f 0, nI 0], S)) from ?_)).trans ((ru_for (fun k => (2, [24], [nI ld, nI (dbN X Y Z ld n f), nI f, tkB X Y Z ld f k, nI k], S)) n (fun k hk => ?_)).trans (ru_step ?_))
      · show B_X1_doubleGivers_1 S 24 (nI ld) _ (nI f) = _
        unfold B_X1_doubleGivers_1
        rw [if_neg (show ¬ (10 : Int32) ≤ nI f from nI_ge (b := 10) hf (by decide))]
        rfl
      · obtain ⟨x1, x2⟩ := eX k hk
        obtain ⟨y1, y2⟩ := eY k hk
        obtain ⟨z1, z2⟩ := eZ k hk
        have b0 := e_at hI tb26 v hn hk (show 0 < 3 by decide)
        have b1 := e_at hI tb26 v hn hk (show 1 < 3 by decide)
        have b2 := e_at hI tb26 v hn hk (show 2 < 3 by decide)
        rw [show wI S (26 + 1) (1 + k * 3 + 0) = nI (X k) from x2] at b0
        rw [show wI S (26 + 1) (1 + k * 3 + 1) = nI (Y k) from y2] at b1
        rw [show wI S (26 + 1) (1 + k * 3 + 2) = nI (Z k) from z2] at b2
        show B_X1_doubleGivers_2 S 24 (nI ld) _ (nI f) (tkB X Y Z ld f k) (nI k) = _
        unfold B_X1_doubleGivers_2
        simp (decide := true) only [gd_ob h65, hF, Option.bind_some, e_count hI tb26, bd2_eq]
        rw [show wI S (26 + 1) 0 = nI n from v, if_neg (nI_ge hk (by omega)), show (0 : Int32) = nI 0 from rfl, b0, bd2_eq, nI_1]
        show _ = some (Sum.inr (2, [24], [nI ld, nI (dbN X Y Z ld n f), nI f, (if X k = ld ∧ Y k = f then tkB X Y Z ld f k ||| ((1 : Int32) <<< (nI (Z k) &&& 31)) else tkB X Y Z ld f k), nI (k + 1)], S))
        by_cases h1 : X k = ld
        · rw [if_pos (show nI (X k) = nI ld by rw [h1])]
          simp (decide := true) only [gd_ob h65, hF, Option.bind_some]
          rw [show (1 : Int32) = nI 1 from rfl, b1, bd2_eq]
          by_cases h2 : Y k = f
          · rw [if_pos (show nI (Y k) = nI f by rw [h2]), if_pos ⟨h1, h2⟩]
            simp (decide := true) only [gd_ob h65, hF, Option.bind_some]
            rw [show (2 : Int32) = nI 2 from rfl, b2, bd2_eq]
          · rw [if_neg (fun h => h2 ((nI_eq (by omega) (by omega)).mp h)), if_neg (fun h => h2 h.2)]
        · rw [if_neg (fun h => h1 ((nI_eq (by omega) (by omega)).mp h)), if_neg (fun h => h1 h.1)]
      · show B_X1_doubleGivers_2 S 24 (nI ld) _ (nI f) (tkB X Y Z ld f n) (nI n) = _
        unfold B_X1_doubleGivers_2
        simp (decide := true) only [gd_ob h65, hF, Option.bind_some, e_count hI tb26, bd2_eq, e_bc]
        rw [show wI S (26 + 1) 0 = nI n from v, if_pos (Int32.le_refl _), nI_1, nI_1]
        show _ = some (Sum.inr (1, [24], [nI ld, nI (dbN X Y Z ld n f + (if bcI (tkB X Y Z ld f n) ≤ 1 then 0 else 1)), nI (f + 1)], S))
        split <;> rfl
    rw [outer 0 (by decide), outer 1 (by decide), outer 2 (by decide), outer 3 (by decide), outer 4 (by decide), outer 5 (by decide), outer 6 (by decide), outer 7 (by decide), outer 8 (by decide), outer 9 (by decide)]
  · show B_X1_doubleGivers_1 S 24 (nI ld) _ (nI 10) = _
    unfold B_X1_doubleGivers_1
    rw [if_pos (by decide)]
theorem e_dblM {V : Wd} (hI : Inv V) {n : Nat} (hn : n ≤ 20) (u67 : wI V 49 67 = nI n) {X Y Z : Nat → Nat} (eN : ∀ i, i < n → X i < 8 ∧ Y i < 10 ∧ Z i < 10 ∧ wI V 49 (240 + i) = nI (X i + 8 * Y i + 80 * Z i)) {ld : Nat} (hld : ld < 8) : ru B_X12_doubles (1, [48], [nI ld, nI (dbN X Y Z ld n 0), nI 0], V) = some (nI (dbN X Y Z ld n 10), V) := by
  obtain ⟨h65, hF⟩ := id hI
  have outer : ∀ f, f < 10 → ru B_X12_doubles (1, [48], [nI ld, nI (dbN X Y Z ld n f), nI f], V) = ru B_X12_doubles (1, [48], [nI ld, nI (dbN X Y Z ld n (f + 1)), nI (f + 1)], V) := by
    intro f hf
    refine (ru_step (show B_X12_doubles (1, [48], [nI ld, nI (dbN X Y Z ld n f), nI f], V) = some (.inr (2, [48], [nI ld, nI (dbN X Y Z ld n f), nI f, tkB X Y Z ld f 0, nI 0], V)) from ?_)).trans ((ru_for (fun k => (2, [48], [nI ld, nI (dbN X Y Z ld n f), nI f, tkB X Y Z ld f k, nI k], V)) n (fun k hk => ?_)).trans (ru_step ?_))
    · show B_X12_doubles_1 V 48 (nI ld) _ (nI f) = _
      unfold B_X12_doubles_1
      rw [if_neg (show ¬ (10 : Int32) ≤ nI f from nI_ge (b := 10) hf (by decide))]
      rfl
    · obtain ⟨x1, y1, z1, e1⟩ := eN k hk
      obtain ⟨p1, p2, p3⟩ := con_parts x1 y1 z1
      show B_X12_doubles_2 V 48 (nI ld) _ (nI f) (tkB X Y Z ld f k) (nI k) = _
      unfold B_X12_doubles_2
      simp (decide := true) only [gd_ob h65, hF, Option.bind_some, gd_pos (show ix V 49 100 (67 : Int32) from rdN h65 (show 67 < 424 by decide)), show (67 : Int32).toNatClampNeg = 67 from rfl, u67]
      rw [if_neg (nI_ge hk (by omega)), show (240 : Int32) + nI k = nI (240 + k) from nI_add 240 k, gd_pos (rdN h65 (by omega)), nI_clamp (by omega), e1, p1, p2, p3, nI_1, i32_or0]
      show _ = some (Sum.inr (2, [48], [nI ld, nI (dbN X Y Z ld n f), nI f, (if X k = ld ∧ Y k = f then tkB X Y Z ld f k ||| ((1 : Int32) <<< (nI (Z k) &&& 31)) else tkB X Y Z ld f k), nI (k + 1)], V))
      by_cases h1 : X k = ld
      · rw [if_pos (show nI (X k) = nI ld by rw [h1])]
        by_cases h2 : Y k = f
        · rw [if_pos (show nI (Y k) = nI f by rw [h2]), if_pos ⟨h1, h2⟩]
        · rw [if_neg (fun h => h2 ((nI_eq (by omega) (by omega)).mp h)), if_neg (fun h => h2 h.2)]
      · rw [if_neg (fun h => h1 ((nI_eq (by omega) (by omega)).mp h)), if_neg (fun h => h1 h.1)]
    · obtain ⟨w, hw, ew⟩ := low_of (tkB_low (X := X) (Y := Y) (ld := ld) (fm := f) (fun i hi => (eN i hi).2.2.1) n (Nat.le_refl _))
      have key := bc_two (w := w) hw
      rw [← ew] at key
      show B_X12_doubles_2 V 48 (nI ld) _ (nI f) (tkB X Y Z ld f n) (nI n) = _
      unfold B_X12_doubles_2
      simp (decide := true) only [gd_ob h65, hF, Option.bind_some, gd_pos (show ix V 49 100 (67 : Int32) from rdN h65 (show 67 < 424 by decide)), show (67 : Int32).toNatClampNeg = 67 from rfl, u67]
      rw [if_pos (Int32.le_refl _), nI_1, nI_1, show nI (dbN X Y Z ld n f) + 0 = nI (dbN X Y Z ld n f) from Int32.add_zero _]
      show _ = some (Sum.inr (1, [48], [nI ld, nI (dbN X Y Z ld n f + (if bcI (tkB X Y Z ld f n) ≤ 1 then 0 else 1)), nI (f + 1)], V))
      by_cases hc : bcI (tkB X Y Z ld f n) ≤ 1
      · rw [if_pos hc, if_pos (key.mp hc)]
        rfl
      · rw [if_neg hc, if_neg (fun h => hc (key.mpr h))]
  rw [outer 0 (by decide), outer 1 (by decide), outer 2 (by decide), outer 3 (by decide), outer 4 (by decide), outer 5 (by decide), outer 6 (by decide), outer 7 (by decide), outer 8 (by decide), outer 9 (by decide)]
  refine ru_done ?_
  show B_X12_doubles_1 V 48 (nI ld) _ (nI 10) = _
  unfold B_X12_doubles_1
  rw [if_pos (by decide)]
theorem sim_doubles {j : Nat} {S : Wd} (hR : Rel j S) (hj : j < 512) (a1 : Int32) : ∃ r S1 S2, f_X11_doubles S 0 a1 = some (r, S1) ∧ 48 < wn S1 ∧ f_X12_doubles S1 48 a1 = some (r, S2) ∧ Rel (j + 1) S2 := by
  have hI := hR.1
  obtain ⟨h65, hF⟩ := id hI
  obtain ⟨k1, k2, ⟨m, hm, mu, mv, ml⟩, k4, k5, k6, k7, k8, k9⟩ := rel_core hR
  obtain ⟨n, hn, u, v, hf⟩ := con_facts k5
  by_cases o1 : 0 ≤ a1 ∧ a1 < nI m
  · obtain ⟨ld, hld, rfl⟩ := nat_lt o1.1 o1.2 (by omega)
    refine ⟨nI (dbN (cnX S) (cnY S) (cnZ S) ld n 10), S, S, ?_, by omega, ?_, rel_up hR⟩
    · unfold f_X11_doubles
      simp (decide := true) only [gd_ob h65, hF, Option.bind_some]
      rw [b_has hI tb10, mv, if_pos o1, if_neg (by decide)]
      simp (decide := true) only [gd_ob h65, hF, Option.bind_some, e_dblC hI hn v (X := cnX S) (Y := cnY S) (Z := cnZ S) (fun i hi => ⟨(hf i hi).1, (hf i hi).2.2.2.1⟩) (fun i hi => ⟨(hf i hi).2.1, (hf i hi).2.2.2.2.1⟩) (fun i hi => ⟨(hf i hi).2.2.1, (hf i hi).2.2.2.2.2.1⟩) (show ld < 8 by omega), bd2_eq]
    · unfold f_X12_doubles
      refine (ru_step ?_).trans (e_dblM hI hn u (X := cnX S) (Y := cnY S) (Z := cnZ S) (fun i hi => ⟨(hf i hi).1, (hf i hi).2.1, (hf i hi).2.2.1, (hf i hi).2.2.2.2.2.2⟩) (show ld < 8 by omega))
      show B_X12_doubles_0 S 48 (nI ld) = _
      unfold B_X12_doubles_0
      rw [gd_pos (ob_of h65 (by decide) (by decide)), b_isLoad hI mu (by omega), if_pos o1, if_neg (by decide)]
      rfl
  · refine ⟨-100001, _, _, ?_, tl_w48 (v := -100001) hR, ?_, rel_fin (v := -100001) hR (by decide)⟩
    · unfold f_X11_doubles
      simp (decide := true) only [gd_ob h65, hF, Option.bind_some]
      rw [b_has hI tb10, mv, if_neg o1, if_pos rfl]
      simp (decide := true) only [gd_ob h65, e_told h65, bd2_eq]
    · obtain ⟨g65, hG⟩ := id (hI.tl (v := -100001))
      refine ru_done ?_
      show B_X12_doubles_0 _ 48 a1 = _
      unfold B_X12_doubles_0
      rw [gd_pos (ob_of g65 (by decide) (by decide)), b_isLoad hI.tl (by rw [tl_arr (by decide)]; exact mu) (by omega), if_neg o1, if_pos rfl]
      simp (decide := true) only [gd_ob g65, e_finding g65, bd2_eq]
