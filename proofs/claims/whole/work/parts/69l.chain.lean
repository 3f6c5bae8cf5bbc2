/-! chains of contracts -/
def fuN (X Y : Nat → Nat) (ld ca : Nat) (u : Int32) : Nat → Nat → Option Nat
  | 0, _ => none
  | f + 1, i => if X i = ld ∧ Y i = ca ∧ bt u i = false then some i else fuN X Y ld ca u f (i + 1)
def ans : Option Nat → Int32
  | none => -1
  | some k => nI k
theorem e_fuL {S : Wd} (hI : Inv S) {n : Nat} (hn : n ≤ 20) (v : wI S 27 0 = nI n) {X Y : Nat → Nat} (eX : ∀ i, i < n → X i < 8 ∧ wI S 27 (1 + i * 3) = nI (X i)) (eY : ∀ i, i < n → Y i < 10 ∧ wI S 27 (1 + i * 3 + 1) = nI (Y i)) {ld ca : Nat} (hld : ld < 8) (hca : ca < 10) (u : Int32) : ∀ f i : Nat, i + f = n → ru B_X1_firstUnused (1, [24], [nI ld, nI ca, u, nI i], S) = some (ans (fuN X Y ld ca u f i), S)
  | 0, i, hi => by
    obtain ⟨h65, hF⟩ := id hI
    have hin : i = n := by omega
    subst hin
    refine ru_done ?_
    show B_X1_firstUnused_1 S 24 (nI ld) (nI ca) u (nI i) = _
    unfold B_X1_firstUnused_1
    simp (decide := true) only [gd_ob h65, hF, Option.bind_some, e_count hI tb26, bd2_eq]
    rw [show wI S (26 + 1) 0 = nI i from v, if_pos (Int32.le_refl _)]
    rfl
  | f + 1, i, hi => by
    obtain ⟨h65, hF⟩ := id hI
    have hin : i < n := by omega
    obtain ⟨x1, x2⟩ := eX i hin
    obtain ⟨y1, y2⟩ := eY i hin
    have step : B_X1_firstUnused (1, [24], [nI ld, nI ca, u, nI i], S) = if X i = ld ∧ Y i = ca ∧ bt u i = false then some (.inl (nI i, S)) else some (.inr (1, [24], [nI ld, nI ca, u, nI (i + 1)], S)) := by
      show B_X1_firstUnused_1 S 24 (nI ld) (nI ca) u (nI i) = _
      unfold B_X1_firstUnused_1
      have a0 := e_at hI tb26 v hn hin (show 0 < 3 by decide)
      have a1 := e_at hI tb26 v hn hin (show 1 < 3 by decide)
      simp (decide := true) only [gd_ob h65, hF, Option.bind_some, e_count hI tb26, bd2_eq]
      rw [show wI S (26 + 1) 0 = nI n from v, if_neg (nI_ge hin (by omega)), show (0 : Int32) = nI 0 from rfl, a0, bd2_eq, show wI S (26 + 1) (1 + i * 3 + 0) = nI (X i) from x2, nI_1]
      by_cases h1 : X i = ld
      · rw [if_pos (show nI (X i) = nI ld by rw [h1])]
        simp (decide := true) only [gd_ob h65, hF, Option.bind_some]
        rw [show (1 : Int32) = nI 1 from rfl, a1, bd2_eq, show wI S (26 + 1) (1 + i * 3 + 1) = nI (Y i) from y2]
        by_cases h2 : Y i = ca
        · rw [if_pos (show nI (Y i) = nI ca by rw [h2])]
          by_cases h3 : bt u i = false
          · rw [if_pos (show u &&& (nI 1 <<< (nI i &&& 31)) = nI 0 from (bit_c (by omega)).mpr h3), if_pos ⟨h1, h2, h3⟩]
          · rw [if_neg (show ¬ u &&& (nI 1 <<< (nI i &&& 31)) = nI 0 from fun h => h3 ((bit_c (by omega)).mp h)), if_neg (fun h => h3 h.2.2)]
        · rw [if_neg (fun h => h2 ((nI_eq (by omega) (by omega)).mp h)), if_neg (fun h => h2 h.2.1)]
      · rw [if_neg (fun h => h1 ((nI_eq (by omega) (by omega)).mp h)), if_neg (fun h => h1 h.1)]
    unfold fuN
    by_cases hc : X i = ld ∧ Y i = ca ∧ bt u i = false
    · rw [if_pos hc] at step ⊢
      exact ru_done step
    · rw [if_neg hc] at step ⊢
      exact (ru_step step).trans (e_fuL hI hn v eX eY hld hca u f (i + 1) (by omega))
