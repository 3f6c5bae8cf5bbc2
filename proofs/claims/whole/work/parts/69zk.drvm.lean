/-! drives: the reference -/
def DM (W : Wd) : Dv → Prop
  | (t, m, s, d, e, r, q) => wI W 48 14 = nI t ∧ wI W 48 8 = nI m ∧ wI W 48 9 = nI s ∧ wI W 48 10 = nI d ∧ wI W 48 11 = nI e ∧ wI W 48 12 = nI r ∧ wI W 48 13 = nI q
abbrev D48 (a k : Nat) : Prop := a = 48 ∧ 8 ≤ k ∧ k ≤ 14
theorem e_goesL (to em : Int32) : ∀ (f left s m r : Nat) (W : Wd), f ≤ 5 → s ≤ 270 → s + left ≤ 270 * (f + 1) → 65 ≤ wn W → wI W 48 8 = nI m → wI W 48 9 = nI s → wI W 48 12 = nI r → ∃ W', ru B_X12_goes (1, [48], [to, em, nI left], W) = some (0, W') ∧ Ag (fun a k => a = 48 ∧ (k = 8 ∨ k = 9 ∨ k = 12 ∨ k = 14)) W W' ∧ wI W' 48 8 = nI (rollN f left s m r).2.1 ∧ wI W' 48 9 = nI (rollN f left s m r).1 ∧ wI W' 48 12 = nI (rollN f left s m r).2.2 ∧ wI W' 48 14 = to := by
  have stop : ∀ (left s m r : Nat) (W : Wd), s + left ≤ 270 → 65 ≤ wn W → wI W 48 8 = nI m → wI W 48 9 = nI s → wI W 48 12 = nI r → ∃ W', ru B_X12_goes (1, [48], [to, em, nI left], W) = some (0, W') ∧ Ag (fun a k => a = 48 ∧ (k = 8 ∨ k = 9 ∨ k = 12 ∨ k = 14)) W W' ∧ wI W' 48 8 = nI (m + left) ∧ wI W' 48 9 = nI (s + left) ∧ wI W' 48 12 = nI r ∧ wI W' 48 14 = to := by
    intro left s m r W hl h65 h4 h5 h8
    refine ⟨sI (sI (sI W 48 8 (nI (m + left))) 48 9 (nI (s + left))) 48 14 to, ru_done ?_, ((Ag.sI ⟨rfl, Or.inl rfl⟩).trans (Ag.sI ⟨rfl, Or.inr (Or.inl rfl)⟩)).trans (Ag.sI ⟨rfl, Or.inr (Or.inr (Or.inr rfl))⟩), ?_, ?_, ?_, wI_sI_eq⟩
    · show B_X12_goes_1 W 48 to em (nI left) = _
      unfold B_X12_goes_1 ltS
      have g1 : ∀ x, 65 ≤ wn (sI W 48 8 x) := fun _ => h65
      rw [gd_pos (ob_of h65 (by decide) (by decide)), h4, h5, nI_add, nI_add, if_pos (show nI (s + left) ≤ 270 from nI_le (b := 270) (by omega) (by decide))]
      simp (decide := true) only [gd_ob h65, gd_ob (g1 _), wI_sI_ne (show ¬ ((48 : Nat) = 48 ∧ (9 : Nat) = 8) by decide), h5, nI_add, gd_ob (show 65 ≤ wn (sI (sI W 48 8 (nI (m + left))) 48 9 (nI (s + left))) from h65)]
    · rw [wI_sI_ne (by decide), wI_sI_ne (by decide), wI_sI_eq]
    · rw [wI_sI_ne (by decide), wI_sI_eq]
    · rw [wI_sI_ne (by decide), wI_sI_ne (by decide), wI_sI_ne (by decide)]; exact h8
  intro f
  induction f with
  | zero =>
    intro left s m r W hf5 hs hl h65 h4 h5 h8
    exact stop left s m r W (by omega) h65 h4 h5 h8
  | succ f ih =>
    intro left s m r W hf5 hs hl h65 h4 h5 h8
    unfold rollN
    by_cases hc : s + left ≤ 270
    · rw [if_pos hc]
      exact stop left s m r W hc h65 h4 h5 h8
    · rw [if_neg hc]
      have g1 : ∀ x, 65 ≤ wn (sI W 48 8 x) := fun _ => h65
      have hA : Ag (fun a k => a = 48 ∧ (k = 8 ∨ k = 9 ∨ k = 12 ∨ k = 14)) W (sI (sI (sI W 48 8 (nI (m + ((270 - s) + 45)))) 48 9 (nI 0)) 48 12 (nI (r + 1))) := ((Ag.sI ⟨rfl, Or.inl rfl⟩).trans (Ag.sI ⟨rfl, Or.inr (Or.inl rfl)⟩)).trans (Ag.sI ⟨rfl, Or.inr (Or.inr (Or.inl rfl))⟩)
      obtain ⟨W', w1, w2, w3, w4, w5, w6⟩ := ih (left - (270 - s)) 0 (m + ((270 - s) + 45)) (r + 1) _ (by omega) (by omega) (by omega) (show 65 ≤ wn (sI (sI (sI W 48 8 (nI (m + ((270 - s) + 45)))) 48 9 (nI 0)) 48 12 (nI (r + 1))) from h65) (by rw [wI_sI_ne (by decide), wI_sI_ne (by decide), wI_sI_eq]) (by rw [wI_sI_ne (by decide), wI_sI_eq]) wI_sI_eq
      refine ⟨W', (ru_step ?_).trans w1, hA.trans w2, w3, w4, w5, w6⟩
      show B_X12_goes_1 W 48 to em (nI left) = _
      unfold B_X12_goes_1 ltS
      rw [gd_pos (ob_of h65 (by decide) (by decide)), h4, h5, nI_add, nI_add, if_neg (show ¬ nI (s + left) ≤ 270 from nI_ge (a := 270) (by omega) (by omega)), show (270 : Int32) - nI s = nI (270 - s) from nI_sub (a := 270) hs, show nI (270 - s) + 45 = nI ((270 - s) + 45) from nI_add _ 45, nI_sub (show 270 - s ≤ left by omega), nI_add]
      simp (decide := true) only [gd_ob h65, gd_ob (g1 _), gd_ob (show 65 ≤ wn (sI (sI W 48 8 (nI (m + ((270 - s) + 45)))) 48 9 (0 : Int32)) from h65), wI_sI_ne (show ¬ ((48 : Nat) = 48 ∧ (12 : Nat) = 8) by decide), wI_sI_ne (show ¬ ((48 : Nat) = 48 ∧ (12 : Nat) = 9) by decide), h8, nI_1]
      rfl
theorem e_goM {S W : Wd} (hI : Inv S) {w : Nat → Nat} (hw : ∀ i, i < 64 → w i ≤ 1000000 ∧ wI S 54 i = nI (w i)) {to : Nat} (ht : to < 8) (em : Bool) {k : Nat} (hk : k ≤ 20) {x : Dv} (hA : Ag D48 S W) (hx : DB k x) (hd : DM W x) : ∃ W', f_X12_goes W 48 (nI to) (if em = true then 1 else 0) = some (nI (goN w to em x).1, W') ∧ Ag D48 S W' ∧ DM W' (goN w to em x).2 := by
  have hIW := hA.inv hI (by omega)
  obtain ⟨h65, hF⟩ := id hIW
  obtain ⟨t, m, s, d, e, r, q⟩ := x
  obtain ⟨d14, d8, d9, d10, d11, d12, d13⟩ := id hd
  obtain ⟨b1, b2, b3, b4, b5, b6, b7⟩ := hx
  obtain ⟨w1, w2⟩ := hw (8 * t + to) (by omega)
  have r54 : wI W 54 (8 * t + to) = nI (w (8 * t + to)) := (hA.2.2.2 54 _ (by omega)).trans w2
  have eix : (8 : Int32) * nI t + nI to = nI (8 * t + to) := by show nI 8 * nI t + nI to = _; rw [nI_mul, nI_add]
  have iix : ix W 54 100 (nI (8 * t + to)) := ix_of h65 (by decide) (by decide) (show 8 * t + to < 64 by omega)
  have hap : f_X12_isApart W 48 (nI t) (nI to) = if nI (w (8 * t + to)) < 1000000 then some (0, W) else some (1, W) := by
    unfold f_X12_isApart
    simp (decide := true) only [gd_ob h65, hF, Option.bind_some, eix, gd_pos iix, nI_clamp (show 8 * t + to < 2 ^ 31 by omega), r54]
  unfold goN
  dsimp only
  unfold f_X12_goes
  generalize w (8 * t + to) = y at *
  by_cases h1 : y = 1000000
  · rw [if_pos h1]
    rw [if_neg (show ¬ nI y < 1000000 from nI_nlt (b := 1000000) (by omega) (by omega))] at hap
    refine ⟨W, ru_done ?_, hA, hd⟩
    show B_X12_goes_0 W 48 (nI to) _ = _
    unfold B_X12_goes_0
    simp (decide := true) only [gd_ob h65, d14, hap, bd2_eq, if_false]
    rfl
  · rw [if_neg h1]
    rw [if_pos (show nI y < 1000000 from nI_lt (b := 1000000) (by omega) (by decide))] at hap
    by_cases h2 : 540 < d + y
    · rw [if_pos h2]
      refine ⟨W, ru_done ?_, hA, hd⟩
      show B_X12_goes_0 W 48 (nI to) _ = _
      unfold B_X12_goes_0
      simp (decide := true) only [gd_ob h65, d14, hap, bd2_eq, if_true, hF, Option.bind_some, eix, gd_pos iix, nI_clamp (show 8 * t + to < 2 ^ 31 by omega), r54, d10, nI_add]
      rw [if_neg (show ¬ nI (d + y) ≤ 540 from nI_ge (a := 540) h2 (by omega))]
      rfl
    · rw [if_neg h2]
      have fin : ∀ (e' : Nat) (emI : Int32), wI (sI (sI W 48 10 (nI (d + y))) 48 11 (nI e')) 48 11 = nI e' → B_X12_goes (0, [48], [nI to, emI], W) = some (.inr (1, [48], [nI to, emI, nI y], sI (sI W 48 10 (nI (d + y))) 48 11 (nI e'))) → ∃ W', ru B_X12_goes (0, [48], [nI to, emI], W) = some (nI 0, W') ∧ Ag D48 S W' ∧ DM W' (to, (rollN 2 y s m r).2.1, (rollN 2 y s m r).1, d + y, e', (rollN 2 y s m r).2.2, q) := by
        intro e' emI _ hst
        have hA1 : Ag D48 S (sI (sI W 48 10 (nI (d + y))) 48 11 (nI e')) := hA.trans ((Ag.sI ⟨rfl, by omega, by omega⟩).trans (Ag.sI ⟨rfl, by omega, by omega⟩))
        obtain ⟨R, r1, r2, r3, r4, r5, r6⟩ := e_goesL (nI to) emI 2 y s m r _ (by decide) b3 (by omega) (show 65 ≤ wn (sI (sI W 48 10 (nI (d + y))) 48 11 (nI e')) from h65) ((wI_sI_ne (by decide)).trans ((wI_sI_ne (by decide)).trans d8)) ((wI_sI_ne (by decide)).trans ((wI_sI_ne (by decide)).trans d9)) ((wI_sI_ne (by decide)).trans ((wI_sI_ne (by decide)).trans d12))
        refine ⟨R, (ru_step hst).trans r1, hA1.trans (r2.mono (by omega)), r6, r3, r4, ?_, ?_, r5, ?_⟩
        · exact (r2.2.2.2 48 10 (by omega)).trans ((wI_sI_ne (by decide)).trans wI_sI_eq)
        · exact (r2.2.2.2 48 11 (by omega)).trans wI_sI_eq
        · exact (r2.2.2.2 48 13 (by omega)).trans ((wI_sI_ne (by decide)).trans ((wI_sI_ne (by decide)).trans d13))
      cases em with
      | false =>
        refine fin e 0 wI_sI_eq ?_
        show B_X12_goes_0 W 48 (nI to) 0 = _
        unfold B_X12_goes_0 ltS
        simp (decide := true) only [gd_ob h65, d14, hap, bd2_eq, if_true, hF, Option.bind_some, eix, gd_pos iix, nI_clamp (show 8 * t + to < 2 ^ 31 by omega), r54, d10, nI_add]
        rw [if_pos (show nI (d + y) ≤ 540 from nI_le (b := 540) (by omega) (by decide))]
        simp (decide := true) only [gd_ob (show 65 ≤ wn (sI W 48 10 (nI (d + y))) from h65), wI_sI_ne (show ¬ ((48 : Nat) = 48 ∧ (11 : Nat) = 10) by decide), d11, if_true, show nI e + 0 = nI e from Int32.add_zero _]
      | true =>
        refine fin (e + y) 1 wI_sI_eq ?_
        show B_X12_goes_0 W 48 (nI to) 1 = _
        unfold B_X12_goes_0 ltS
        simp (decide := true) only [gd_ob h65, d14, hap, bd2_eq, if_true, hF, Option.bind_some, eix, gd_pos iix, nI_clamp (show 8 * t + to < 2 ^ 31 by omega), r54, d10, nI_add]
        rw [if_pos (show nI (d + y) ≤ 540 from nI_le (b := 540) (by omega) (by decide))]
        simp (decide := true) only [gd_ob (show 65 ≤ wn (sI W 48 10 (nI (d + y))) from h65), wI_sI_ne (show ¬ ((48 : Nat) = 48 ∧ (11 : Nat) = 10) by decide), d11, if_false, nI_add]
theorem e_dockM {S W : Wd} (hI : Inv S) {fr to : Nat} (hf : fr ≤ 4000) (ht : to ≤ 4000) {k : Nat} (hk : k ≤ 20) {x : Dv} (hA : Ag D48 S W) (hx : DB k x) (hd : DM W x) : ∃ W', f_X12_docks W 48 (nI fr) (nI to) = some (nI (dkN fr to x).1, W') ∧ Ag D48 S W' ∧ DM W' (dkN fr to x).2 := by
  have hIW := hA.inv hI (by omega)
  obtain ⟨h65, hF⟩ := id hIW
  obtain ⟨t, m, s, d, e, r, q⟩ := x
  obtain ⟨d14, d8, d9, d10, d11, d12, d13⟩ := id hd
  obtain ⟨b1, b2, b3, b4, b5, b6, b7⟩ := hx
  unfold dkN f_X12_docks
  dsimp only
  simp (decide := true) only [gd_ob h65, d8]
  by_cases h1 : to < m
  · rw [if_neg (show ¬ nI m ≤ nI to from nI_ge h1 (by omega)), if_pos h1]
    exact ⟨W, rfl, hA, hd⟩
  · rw [if_pos (show nI m ≤ nI to from nI_le (by omega) (by omega)), if_neg h1]
    by_cases h2 : fr ≤ m
    · rw [if_pos (nI_le h2 (by omega)), show fr - m = 0 by omega, if_neg (by decide)]
      refine ⟨sI W 48 8 (nI (m + 30)), by show some (0, sI W 48 8 (nI m + 30)) = _; rw [show nI m + 30 = nI (m + 30) from nI_add _ 30]; rfl, hA.trans (Ag.sI ⟨rfl, by omega, by omega⟩), ?_⟩
      exact ⟨(wI_sI_ne (by decide)).trans d14, wI_sI_eq.trans (by rw [Nat.zero_add]), (wI_sI_ne (by decide)).trans d9, (wI_sI_ne (by decide)).trans d10, (wI_sI_ne (by decide)).trans d11, (wI_sI_ne (by decide)).trans d12, (wI_sI_ne (by decide)).trans (by rw [Nat.add_zero]; exact d13)⟩
    · rw [if_neg (nI_ge (by omega) (by omega)), nI_sub (show m ≤ fr by omega), d13, nI_add]
      dsimp only [ltS]
      by_cases h3 : 45 ≤ fr - m
      · rw [if_neg (show ¬ nI (fr - m) < 45 from nI_nlt (b := 45) h3 (by omega)), if_pos h3]
        refine ⟨sI (sI (sI (sI W 48 13 (nI (q + (fr - m)))) 48 9 0) 48 8 (nI fr)) 48 8 (nI (fr + 30)), ?_, hA.trans ((((Ag.sI ⟨rfl, by omega, by omega⟩).trans (Ag.sI ⟨rfl, by omega, by omega⟩)).trans (Ag.sI ⟨rfl, by omega, by omega⟩)).trans (Ag.sI ⟨rfl, by omega, by omega⟩)), ?_⟩
        · simp (decide := true) only [gd_ob (show 65 ≤ wn (sI W 48 13 (nI (q + (fr - m)))) from h65), gd_ob (show 65 ≤ wn (sI (sI W 48 13 (nI (q + (fr - m)))) 48 9 (0 : Int32)) from h65), gd_ob (show 65 ≤ wn (sI (sI (sI W 48 13 (nI (q + (fr - m)))) 48 9 (0 : Int32)) 48 8 (nI fr)) from h65), wI_sI_eq, show nI fr + 30 = nI (fr + 30) from nI_add _ 30]
          rfl
        · refine ⟨?_, ?_, ?_, ?_, ?_, ?_, ?_⟩ <;> simp (decide := true) only [wI_sI, if_true, if_false, d14, d10, d11, d12]
          exact congrArg nI (by omega)
      · rw [if_pos (show nI (fr - m) < 45 from nI_lt (b := 45) (by omega) (by decide)), if_neg h3]
        refine ⟨sI (sI (sI (sI W 48 13 (nI (q + (fr - m)))) 48 9 (nI s)) 48 8 (nI fr)) 48 8 (nI (fr + 30)), ?_, hA.trans ((((Ag.sI ⟨rfl, by omega, by omega⟩).trans (Ag.sI ⟨rfl, by omega, by omega⟩)).trans (Ag.sI ⟨rfl, by omega, by omega⟩)).trans (Ag.sI ⟨rfl, by omega, by omega⟩)), ?_⟩
        · simp (decide := true) only [gd_ob (show 65 ≤ wn (sI W 48 13 (nI (q + (fr - m)))) from h65), wI_sI_ne (show ¬ ((48 : Nat) = 48 ∧ (9 : Nat) = 13) by decide), d9, gd_ob (show 65 ≤ wn (sI (sI W 48 13 (nI (q + (fr - m)))) 48 9 (nI s)) from h65), gd_ob (show 65 ≤ wn (sI (sI (sI W 48 13 (nI (q + (fr - m)))) 48 9 (nI s)) 48 8 (nI fr)) from h65), wI_sI_eq, show nI fr + 30 = nI (fr + 30) from nI_add _ 30]
          rfl
        · refine ⟨?_, ?_, ?_, ?_, ?_, ?_, ?_⟩ <;> simp (decide := true) only [wI_sI, if_true, if_false, d14, d10, d11, d12]
          exact congrArg nI (by omega)
