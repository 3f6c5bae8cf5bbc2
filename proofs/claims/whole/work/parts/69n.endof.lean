/-! endOf -/
def endS (V : Wd) (Z : Nat → Nat) (ld : Nat) (a2 u : Int32) (ca : Nat) : Option Nat → Cs
  | none => (1, [48], [nI ld, a2, u, nI ca, 0], V)
  | some k => (1, [48], [nI ld, a2, u ||| ((1 : Int32) <<< (nI k &&& 31)), nI (Z k), 1], sI V 48 21 (wI V 48 21 + 1))
theorem con_parts {x y z : Nat} (hx : x < 8) (hy : y < 10) (hz : z < 10) : irm (nI (x + 8 * y + 80 * z)) 8 = nI x ∧ irm (nI (x + 8 * y + 80 * z) / 8) 10 = nI y ∧ nI (x + 8 * y + 80 * z) / 80 = nI z := by
  have e1 : nI (x + 8 * y + 80 * z) / 8 = nI ((x + 8 * y + 80 * z) / 8) := pk_div (by omega) (by decide) (by decide)
  refine ⟨(irm_nI (d := 8) (by omega) (by decide) (by decide)).trans (congrArg nI (by omega)), ?_, (show _ = nI ((x + 8 * y + 80 * z) / 80) from pk_div (by omega) (by decide) (by decide)).trans (congrArg nI (by omega))⟩
  rw [e1]
  exact (irm_nI (d := 10) (by omega) (by decide) (by decide)).trans (congrArg nI (by omega))
theorem e_endI {V : Wd} (hI : Inv V) {n : Nat} (hn : n ≤ 20) (u67 : wI V 49 67 = nI n) {X Y Z : Nat → Nat} (eN : ∀ i, i < n → X i < 8 ∧ Y i < 10 ∧ Z i < 10 ∧ wI V 49 (240 + i) = nI (X i + 8 * Y i + 80 * Z i)) {ld ca : Nat} (hld : ld < 8) (hca : ca < 10) (a2 u : Int32) : ∀ f i : Nat, i + f = n → ru B_X12_endOf (2, [48], [nI ld, a2, u, nI ca, 1, -1, nI i], V) = ru B_X12_endOf (endS V Z ld a2 u ca (fuN X Y ld ca u f i))
  | 0, i, hi => by
    obtain ⟨h65, hF⟩ := id hI
    have hin : i = n := by omega
    subst hin
    refine ru_step ?_
    show B_X12_endOf_2 V 48 (nI ld) a2 u (nI ca) 1 (-1) (nI i) = _
    unfold B_X12_endOf_2
    simp (decide := true) only [gd_ob h65, hF, Option.bind_some, gd_pos (show ix V 49 100 (67 : Int32) from rdN h65 (show 67 < 424 by decide)), show (67 : Int32).toNatClampNeg = 67 from rfl, u67, if_true]
    rw [if_pos (Int32.le_refl _)]
    rfl
  | f + 1, i, hi => by
    obtain ⟨h65, hF⟩ := id hI
    have hin : i < n := by omega
    obtain ⟨x1, y1, z1, e1⟩ := eN i hin
    obtain ⟨p1, p2, p3⟩ := con_parts x1 y1 z1
    have step : B_X12_endOf (2, [48], [nI ld, a2, u, nI ca, 1, -1, nI i], V) = if X i = ld ∧ Y i = ca ∧ bt u i = false then some (.inr (2, [48], [nI ld, a2, u, nI ca, 1, nI i, nI (i + 1)], V)) else some (.inr (2, [48], [nI ld, a2, u, nI ca, 1, -1, nI (i + 1)], V)) := by
      show B_X12_endOf_2 V 48 (nI ld) a2 u (nI ca) 1 (-1) (nI i) = _
      unfold B_X12_endOf_2
      simp (decide := true) only [gd_ob h65, hF, Option.bind_some, gd_pos (show ix V 49 100 (67 : Int32) from rdN h65 (show 67 < 424 by decide)), show (67 : Int32).toNatClampNeg = 67 from rfl, u67, if_false]
      rw [if_neg (nI_ge hin (by omega)), show (240 : Int32) + nI i = nI (240 + i) from nI_add 240 i, gd_pos (rdN h65 (by omega)), nI_clamp (by omega), e1, p1, p2, nI_1]
      by_cases h3 : bt u i = false
      · rw [if_pos ((bit_m (by omega)).mpr h3)]
        by_cases h1 : X i = ld
        · rw [if_pos (show nI (X i) = nI ld by rw [h1])]
          by_cases h2 : Y i = ca
          · rw [if_pos (show nI (Y i) = nI ca by rw [h2]), if_pos ⟨h1, h2, h3⟩]
          · rw [if_neg (fun h => h2 ((nI_eq (by omega) (by omega)).mp h)), if_neg (fun h => h2 h.2.1)]
        · rw [if_neg (fun h => h1 ((nI_eq (by omega) (by omega)).mp h)), if_neg (fun h => h1 h.1)]
      · rw [if_neg (fun h => h3 ((bit_m (by omega)).mp h)), if_neg (fun h => h3 h.2.2)]
    unfold fuN
    by_cases hc : X i = ld ∧ Y i = ca ∧ bt u i = false
    · rw [if_pos hc] at step ⊢
      refine (ru_step step).trans (ru_step ?_)
      show B_X12_endOf_2 V 48 (nI ld) a2 u (nI ca) 1 (nI i) (nI (i + 1)) = _
      have hpos : ¬ nI i < 0 := nI_pos (by omega)
      unfold B_X12_endOf_2
      simp (decide := true) only [gd_ob h65, hF, Option.bind_some, gd_pos (show ix V 49 100 (67 : Int32) from rdN h65 (show 67 < 424 by decide)), show (67 : Int32).toNatClampNeg = 67 from rfl, u67, if_false, if_neg hpos, if_pos (i32nl.mp hpos)]
      rw [show (240 : Int32) + nI i = nI (240 + i) from nI_add 240 i, gd_pos (rdN h65 (by omega)), nI_clamp (by omega), e1, p3]
      split <;> rfl
    · rw [if_neg hc] at step ⊢
      exact (ru_step step).trans (e_endI hI hn u67 eN hld hca a2 u f (i + 1) (by omega))
