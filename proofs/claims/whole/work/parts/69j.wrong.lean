/-! wrong -/
def wrF (Z : Nat → Int32) (n : Nat) : Nat → Nat → Nat → Int32
  | 0, d, _ => if n = 0 then -1 else if d = 1 then -1 else nI n
  | f + 1, d, i => if Z i < 50 then (if d < 5 then wrF Z n f (d + 1) (i + 1) else nI i) else if 2 ≤ d then wrF Z n f (d - 1) (i + 1) else nI i
theorem nI_m1 (k : Nat) : nI (k + 1) + (-1 : Int32) = nI k := by
  rw [← Int32.sub_eq_add_neg]
  exact nI_pred k
theorem e_faultL {S : Wd} (hI : Inv S) {n : Nat} (hn : n ≤ 14) {Z : Nat → Int32} (eZ : ∀ i, i < n → wI S 36 (1 + i) = Z i) : ∀ f d i : Nat, i + f = n → d ≤ 5 → ru B_X9_firstFault (1, [35], [nI n, nI d, nI i], S) = some (wrF Z n f d i, S)
  | 0, d, i, hi, hd => by
    have hin : i = n := by omega
    subst hin
    refine ru_done ?_
    show B_X9_firstFault_1 S 35 (nI i) (nI d) (nI i) = _
    unfold B_X9_firstFault_1 wrF
    rw [if_pos (Int32.le_refl _)]
    by_cases h0 : i = 0
    · rw [if_pos h0, if_pos (show nI i = 0 by rw [h0]; rfl)]
    · rw [if_neg h0, if_neg (nI_ne0 (by omega) (by omega))]
      by_cases h1 : d = 1
      · rw [if_pos h1, if_pos (show nI d = 1 by rw [h1]; rfl)]
      · rw [if_neg h1, if_neg (show ¬ nI d = 1 from fun h => h1 ((nI_eq (a := d) (b := 1) (by omega) (by decide)).mp h))]
  | f + 1, d, i, hi, hd => by
    obtain ⟨h65, hF⟩ := id hI
    have step : B_X9_firstFault (1, [35], [nI n, nI d, nI i], S) = if Z i < 50 then (if d < 5 then some (.inr (1, [35], [nI n, nI (d + 1), nI (i + 1)], S)) else some (.inl (nI i, S))) else (if 2 ≤ d then some (.inr (1, [35], [nI n, nI (d - 1), nI (i + 1)], S)) else some (.inl (nI i, S))) := by
      show B_X9_firstFault_1 S 35 (nI n) (nI d) (nI i) = _
      unfold B_X9_firstFault_1
      rw [if_neg (nI_ge (show i < n by omega) (by omega))]
      simp (decide := true) only [gd_ob h65, hF, Option.bind_some, if_true, if_false]
      rw [nI_1, gd_pos (ix_of h65 (by decide) (by decide) (show i + 1 < 15 by omega)), nI_clamp (by omega), show i + 1 = 1 + i by omega, eZ i (by omega), nI_1]
      by_cases hz : Z i < 50
      · rw [if_pos hz, if_pos hz]
        by_cases h5 : d < 5
        · rw [if_pos h5, if_pos (show nI d < 5 from nI_lt (b := 5) h5 (by decide))]
        · rw [if_neg h5, if_neg (show ¬ nI d < 5 from nI_nlt (b := 5) (by omega) (by omega))]
      · rw [if_neg hz, if_neg hz]
        by_cases h2 : 2 ≤ d
        · obtain ⟨e, rfl⟩ : ∃ e, d = e + 1 := ⟨d - 1, by omega⟩
          rw [if_pos h2, if_pos (show (2 : Int32) ≤ nI (e + 1) from i32nl.mp (nI_nlt (b := 2) (by omega) (by omega))), nI_m1, Nat.add_sub_cancel]
        · rw [if_neg h2, if_neg (show ¬ (2 : Int32) ≤ nI d from nI_ge (b := 2) (by omega) (by decide))]
    unfold wrF
    by_cases hz : Z i < 50
    · rw [if_pos hz] at step ⊢
      by_cases h5 : d < 5
      · rw [if_pos h5] at step ⊢
        exact (ru_step step).trans (e_faultL hI hn eZ f (d + 1) (i + 1) (by omega) (by omega))
      · rw [if_neg h5] at step ⊢
        exact ru_done step
    · rw [if_neg hz] at step ⊢
      by_cases h2 : 2 ≤ d
      · rw [if_pos h2] at step ⊢
        exact (ru_step step).trans (e_faultL hI hn eZ f (d - 1) (i + 1) (by omega) (by omega))
      · rw [if_neg h2] at step ⊢
        exact ru_done step
theorem e_wrongL {S : Wd} (hI : Inv S) {n : Nat} (hn : n ≤ 14) {Z : Nat → Int32} (u : wI S 49 69 = nI n) (eZ : ∀ i, i < n → wI S 49 (410 + i) = Z i) : ∀ f d i : Nat, i + f = n → d ≤ 5 → ru B_X12_wrongAt (1, [48], [nI d, nI i], S) = some (wrF Z n f d i, S)
  | 0, d, i, hi, hd => by
    obtain ⟨h65, hF⟩ := id hI
    have hin : i = n := by omega
    subst hin
    refine ru_done ?_
    show B_X12_wrongAt_1 S 48 (nI d) (nI i) = _
    unfold B_X12_wrongAt_1 wrF
    simp (decide := true) only [gd_ob h65, hF, Option.bind_some, gd_pos (show ix S 49 100 (69 : Int32) from rdN h65 (show 69 < 424 by decide)), show (69 : Int32).toNatClampNeg = 69 from rfl, u]
    rw [if_pos (Int32.le_refl _)]
    by_cases h1 : d = 1
    · rw [if_pos h1, if_pos (show nI d = 1 by rw [h1]; rfl)]
      by_cases h0 : i = 0
      · rw [if_pos h0]
      · rw [if_neg h0]
    · rw [if_neg h1, if_neg (show ¬ nI d = 1 from fun h => h1 ((nI_eq (a := d) (b := 1) (by omega) (by decide)).mp h))]
      by_cases h0 : i = 0
      · rw [if_pos h0, if_pos (show nI i = 0 by rw [h0]; rfl)]
      · rw [if_neg h0, if_neg (nI_ne0 (by omega) (by omega))]
  | f + 1, d, i, hi, hd => by
    obtain ⟨h65, hF⟩ := id hI
    have step : B_X12_wrongAt (1, [48], [nI d, nI i], S) = if Z i < 50 then (if d < 5 then some (.inr (1, [48], [nI (d + 1), nI (i + 1)], S)) else some (.inl (nI i, S))) else (if 2 ≤ d then some (.inr (1, [48], [nI (d - 1), nI (i + 1)], S)) else some (.inl (nI i, S))) := by
      show B_X12_wrongAt_1 S 48 (nI d) (nI i) = _
      unfold B_X12_wrongAt_1
      simp (decide := true) only [gd_ob h65, hF, Option.bind_some, gd_pos (show ix S 49 100 (69 : Int32) from rdN h65 (show 69 < 424 by decide)), show (69 : Int32).toNatClampNeg = 69 from rfl, u, if_true, if_false]
      rw [if_neg (nI_ge (show i < n by omega) (by omega)), show (410 : Int32) + nI i = nI (410 + i) from nI_add 410 i, gd_pos (rdN h65 (by omega)), nI_clamp (by omega), eZ i (by omega), nI_1]
      by_cases hz : Z i < 50
      · rw [if_pos hz, if_neg (i32nle.mpr hz)]
        by_cases h5 : d < 5
        · rw [if_pos h5, if_neg (show ¬ nI d = 5 from fun h => by have := (nI_eq (a := d) (b := 5) (by omega) (by decide)).mp h; omega), nI_1]
        · rw [if_neg h5, if_pos (show nI d = 5 by rw [show d = 5 by omega]; rfl)]
      · rw [if_neg hz, if_pos (i32nl.mp hz)]
        by_cases h2 : 2 ≤ d
        · obtain ⟨e, rfl⟩ : ∃ e, d = e + 1 := ⟨d - 1, by omega⟩
          rw [if_pos h2, if_pos (show (2 : Int32) ≤ nI (e + 1) from i32nl.mp (nI_nlt (b := 2) (by omega) (by omega))), nI_m1, Nat.add_sub_cancel]
        · rw [if_neg h2, if_neg (show ¬ (2 : Int32) ≤ nI d from nI_ge (b := 2) (by omega) (by decide))]
    unfold wrF
    by_cases hz : Z i < 50
    · rw [if_pos hz] at step ⊢
      by_cases h5 : d < 5
      · rw [if_pos h5] at step ⊢
        exact (ru_step step).trans (e_wrongL hI hn u eZ f (d + 1) (i + 1) (by omega) (by omega))
      · rw [if_neg h5] at step ⊢
        exact ru_done step
    · rw [if_neg hz] at step ⊢
      by_cases h2 : 2 ≤ d
      · rw [if_pos h2] at step ⊢
        exact (ru_step step).trans (e_wrongL hI hn u eZ f (d - 1) (i + 1) (by omega) (by omega))
      · rw [if_neg h2] at step ⊢
        exact ru_done step
theorem e_txCount {S : Wd} (hI : Inv S) {n : Nat} (hn : n ≤ 14) (v : wI S 36 0 = nI n) : f_X9_count S 35 = some (nI n, S) := by
  obtain ⟨h65, hF⟩ := id hI
  unfold f_X9_count
  simp (decide := true) only [gd_ob h65, hF, Option.bind_some]
  rw [gd_pos (show ix S 36 100 (0 : Int32) from ix_of (i := 0) h65 (by decide) (by decide) (by decide)), show wI S 36 (0 : Int32).toNatClampNeg = nI n from v, show (0 : Int32) = nI 0 from rfl, show (14 : Int32) = nI 14 from rfl, mMax_nI (by omega) (by decide), mMin_nI (by omega) (by decide), show min (max n 0) 14 = n by omega]
theorem e_firstFault {S : Wd} (hI : Inv S) {n : Nat} (hn : n ≤ 14) (v : wI S 36 0 = nI n) {Z : Nat → Int32} (eZ : ∀ i, i < n → wI S 36 (1 + i) = Z i) : f_X9_firstFault S 35 = some (wrF Z n n 0 0, S) := by
  obtain ⟨h65, hF⟩ := id hI
  unfold f_X9_firstFault
  refine (ru_step (show B_X9_firstFault (0, [35], [], S) = some (.inr (1, [35], [nI n, nI 0, nI 0], S)) from ?_)).trans (e_faultL hI hn eZ n 0 0 (by omega) (by omega))
  show B_X9_firstFault_0 S 35 = _
  unfold B_X9_firstFault_0
  simp (decide := true) only [gd_ob h65, e_txCount hI hn v, bd2_eq]
  rfl
theorem e_wrongAt {S : Wd} (hI : Inv S) {n : Nat} (hn : n ≤ 14) {Z : Nat → Int32} (u : wI S 49 69 = nI n) (eZ : ∀ i, i < n → wI S 49 (410 + i) = Z i) : f_X12_wrongAt S 48 = some (wrF Z n n 0 0, S) := by
  unfold f_X12_wrongAt
  exact (ru_step (show B_X12_wrongAt (0, [48], [], S) = some (.inr (1, [48], [nI 0, nI 0], S)) from rfl)).trans (e_wrongL hI hn u eZ n 0 0 (by omega) (by omega))
theorem sim_wrong {j : Nat} {S : Wd} (hR : Rel j S) (hj : j < 512) : ∃ r S1 S2, f_X11_wrong S 0 = some (r, S1) ∧ 48 < wn S1 ∧ f_X12_wrong S1 48 = some (r, S2) ∧ Rel (j + 1) S2 := by
  have hI := hR.1
  obtain ⟨h65, hF⟩ := id hI
  obtain ⟨k1, k2, k3, k4, k5, k6, k7, k8, ⟨n, hn, u, v, hl⟩⟩ := rel_core hR
  refine ⟨wrF (fun i => wI S 49 (410 + i)) n n 0 0, S, S, ?_, by omega, ?_, rel_up hR⟩
  · unfold f_X11_wrong
    simp (decide := true) only [gd_ob h65, hF, Option.bind_some, e_firstFault hI hn v (Z := fun i => wI S 49 (410 + i)) (fun i hi => by obtain ⟨z, -, z1, z2⟩ := hl i hi; rw [z1, z2]), bd2_eq]
  · unfold f_X12_wrong
    simp (decide := true) only [gd_ob h65, e_wrongAt hI hn u (Z := fun i => wI S 49 (410 + i)) (fun i _ => rfl), bd2_eq]
