/-! worlds that agree but in some ints -/
def Ag (D : Nat → Nat → Prop) (S V : Wd) : Prop := wn V = wn S ∧ wl V = wl S ∧ wO V = wO S ∧ ∀ a k : Nat, ¬ D a k → wI V a k = wI S a k
theorem Ag.rf {D : Nat → Nat → Prop} {S : Wd} : Ag D S S := ⟨rfl, rfl, rfl, fun _ _ _ => rfl⟩
theorem Ag.trans {D : Nat → Nat → Prop} {S V W : Wd} (h : Ag D S V) (h' : Ag D V W) : Ag D S W := ⟨h'.1.trans h.1, h'.2.1.trans h.2.1, h'.2.2.1.trans h.2.2.1, fun a k hk => (h'.2.2.2 a k hk).trans (h.2.2.2 a k hk)⟩
theorem Ag.mono {D E : Nat → Nat → Prop} {S V : Wd} (h : Ag D S V) (hd : ∀ a k, D a k → E a k) : Ag E S V := ⟨h.1, h.2.1, h.2.2.1, fun a k hk => h.2.2.2 a k fun q => hk (hd a k q)⟩
theorem Ag.sI {D : Nat → Nat → Prop} {S : Wd} {i k : Nat} {v : Int32} (h : D i k) : Ag D S (sI S i k v) := by
  refine ⟨rfl, rfl, rfl, fun a c hc => wI_sI_ne ?_⟩
  rintro ⟨rfl, rfl⟩
  exact hc h
theorem Ag.sA {D : Nat → Nat → Prop} {S : Wd} {i : Nat} {f : Nat → Int32} (h : ∀ k, D i k) : Ag D S (sA S i f) := by
  refine ⟨rfl, rfl, rfl, fun a c hc => ?_⟩
  rw [wI_sA, if_neg (by rintro rfl; exact hc (h c))]
theorem Ag.arr {D : Nat → Nat → Prop} {S V : Wd} (h : Ag D S V) {a : Nat} (ha : ∀ k, ¬ D a k) : wI V a = wI S a := funext fun k => h.2.2.2 a k (ha k)
theorem Ag.inv {D : Nat → Nat → Prop} {S V : Wd} (h : Ag D S V) (hI : Inv S) (hd : ∀ a k, D a k → a ≠ 8 ∧ a ≠ 10 ∧ a ≠ 22 ∧ a ≠ 26 ∧ a ≠ 29) : Inv V :=
  hI.of (Nat.le_of_eq h.1.symm) (fun i k _ _ _ => by rw [h.2.2.1]) (fun i k hi hk => h.2.2.2 i k (fun q => by have := hd i k q; omega))
theorem Ag.qy {D : Nat → Nat → Prop} {S V : Wd} (h : Ag D S V) (hd : ∀ a k, D a k → keepc a k = false) : Qy S V :=
  ⟨h.1, h.2.1, h.2.2.1, fun a k hk => h.2.2.2 a k (fun q => by rw [hd a k q] at hk; cases hk)⟩
/-- a loop that counts, its states told by a property -/
theorem ru_forE {σ ρ : Type} {f : σ → Option (ρ ⊕ σ)} (P : Nat → σ → Prop) : ∀ n : Nat, (∀ k, k < n → ∀ s, P k s → ∃ s', f s = some (.inr s') ∧ P (k + 1) s') → ∀ s, P 0 s → ∃ s', P n s' ∧ ru f s = ru f s'
  | 0, _, s, h0 => ⟨s, h0, rfl⟩
  | n + 1, h, s, h0 => by
    obtain ⟨s1, p1, e1⟩ := ru_forE P n (fun k hk => h k (by omega)) s h0
    obtain ⟨s2, e2, p2⟩ := h n (by omega) s1 p1
    exact ⟨s2, p2, e1.trans (ru_step e2)⟩
/-! claim -/
/-- what a sign reads -/
def fcI (pay late tons sort cc tr z : Int32) : Int32 := if z = 1 then pay else if z = 2 then late else if z = 3 then tons else if z = 4 then sort else if z = 5 then cc else if z = 6 then tr else z - 10
theorem e_know {S : Wd} (hI : Inv S) {k : Nat} (h1 : 1 ≤ k) (h6 : k ≤ 6) (v : Int32) : f_X9_know S 35 (nI k) v = some (sI S 37 k v) := by
  obtain ⟨h65, hF⟩ := id hI
  unfold f_X9_know
  rw [b_within_X11, if_pos ⟨nI_le (a := 1) h1 (by omega), nI_le (b := 6) h6 (by decide)⟩, if_neg (by decide)]
  simp (decide := true) only [gd_ob h65, hF, Option.bind_some]
  rw [gd_pos (ix_of h65 (by decide) (by decide) (show k < 7 by omega)), nI_clamp (by omega)]
  rfl
theorem e_single {S : Wd} (hI : Inv S) {p l t s c r : Int32} (f1 : wI S 37 1 = p) (f2 : wI S 37 2 = l) (f3 : wI S 37 3 = t) (f4 : wI S 37 4 = s) (f5 : wI S 37 5 = c) (f6 : wI S 37 6 = r) {z : Nat} (hz : (1 ≤ z ∧ z ≤ 6) ∨ (10 ≤ z ∧ z ≤ 56)) : f_X9_single S 35 (nI z) = some (fcI p l t s c r (nI z), S) := by
  obtain ⟨h65, hF⟩ := id hI
  unfold f_X9_single
  rw [b_within_X11]
  by_cases h6 : z ≤ 6
  · have h1 : 1 ≤ z := by omega
    rw [if_pos ⟨nI_le (a := 1) h1 (by omega), nI_le (b := 6) h6 (by decide)⟩, if_neg (by decide)]
    simp (decide := true) only [gd_ob h65, hF, Option.bind_some]
    rw [gd_pos (ix_of h65 (by decide) (by decide) (show z < 7 by omega)), nI_clamp (by omega)]
    rcases (show z = 1 ∨ z = 2 ∨ z = 3 ∨ z = 4 ∨ z = 5 ∨ z = 6 by omega) with rfl | rfl | rfl | rfl | rfl | rfl
    · rw [f1]; rfl
    · rw [f2]; rfl
    · rw [f3]; rfl
    · rw [f4]; rfl
    · rw [f5]; rfl
    · rw [f6]; rfl
  · rw [if_neg (fun h => nI_ge (a := 6) (b := z) (by omega) (by omega) h.2), if_pos rfl]
    have hne : ∀ k : Nat, k ≤ 6 → ¬ nI z = nI k := fun k hk h => by have := (nI_eq (by omega) (by omega)).mp h; omega
    unfold fcI
    rw [if_neg (show ¬ nI z = 1 from hne 1 (by decide)), if_neg (show ¬ nI z = 2 from hne 2 (by decide)), if_neg (show ¬ nI z = 3 from hne 3 (by decide)), if_neg (show ¬ nI z = 4 from hne 4 (by decide)), if_neg (show ¬ nI z = 5 from hne 5 (by decide)), if_neg (show ¬ nI z = 6 from hne 6 (by decide))]
theorem e_workL {S : Wd} (hI : Inv S) {n : Nat} (hn : n ≤ 14) {Z : Nat → Nat} (hZ : ∀ i, i < n → ((1 ≤ Z i ∧ Z i ≤ 6) ∨ (10 ≤ Z i ∧ Z i ≤ 56)) ∧ wI S 36 (1 + i) = nI (Z i)) {p l t s c r : Int32} (f1 : wI S 37 1 = p) (f2 : wI S 37 2 = l) (f3 : wI S 37 3 = t) (f4 : wI S 37 4 = s) (f5 : wI S 37 5 = c) (f6 : wI S 37 6 = r) : ∀ (f d i : Nat) (A : Nat → Int32), i + f = n → d ≤ 5 → wrF (fun i => nI (Z i)) n f d i = -1 → ru B_X9_workOut (1, [35], [nI n, nI d, nI i], sA S 38 A) = some (if n = 0 then 0 else stk (fcI p l t s c r) (fun i => nI (Z i)) f d i A 0, sA S 38 (stk (fcI p l t s c r) (fun i => nI (Z i)) f d i A))
  | 0, d, i, A, hi, hd, hw => by
    have hin : i = n := by omega
    subst hin
    refine ru_done ?_
    have g65 : 65 ≤ wn (sA S 38 A) := hI.1
    have h3 : wO (sA S 38 A) 35 3 = some 38 := by obtain ⟨h65, hF⟩ := id hI; rw [wO_sA]; simp only [hF]
    show B_X9_workOut_1 (sA S 38 A) 35 (nI i) (nI d) (nI i) = _
    unfold B_X9_workOut_1 stk
    rw [if_pos (Int32.le_refl _)]
    by_cases h0 : i = 0
    · rw [if_pos h0, if_pos (show nI i = 0 by rw [h0]; rfl)]
    · rw [if_neg h0, if_neg (nI_ne0 (by omega) (by omega))]
      simp (decide := true) only [gd_ob g65, h3, Option.bind_some]
      rw [gd_pos (show ix (sA S 38 A) 38 100 (0 : Int32) from ix_of (i := 0) g65 (by decide) (by decide) (by decide)), wI_sA, if_pos rfl]
      rfl
  | f + 1, d, i, A, hi, hd, hw => by
    have g65 : 65 ≤ wn (sA S 38 A) := hI.1
    obtain ⟨h65, hF⟩ := id hI
    have h3 : wO (sA S 38 A) 35 3 = some 38 := by rw [wO_sA]; simp only [hF]
    have h1 : wO (sA S 38 A) 35 1 = some 36 := by rw [wO_sA]; simp only [hF]
    have hIA : Inv (sA S 38 A) := (Ag.sA (D := fun a _ => a = 38) (fun _ => rfl)).inv hI (by omega)
    obtain ⟨z1, z2⟩ := hZ i (by omega)
    have r36 : wI (sA S 38 A) 36 (i + 1) = nI (Z i) := by rw [wI_sA, if_neg (by decide), Nat.add_comm]; exact z2
    have r38 : ∀ k, wI (sA S 38 A) 38 k = A k := fun k => by rw [wI_sA, if_pos rfl]
    have r37 : wI (sA S 38 A) 37 = wI S 37 := by rw [wI_sA, if_neg (by decide)]
    have ix38 : ∀ {k}, k < 5 → ix (sA S 38 A) 38 100 (nI k) := fun hk => ix_of g65 (by decide) (by decide) hk
    unfold wrF at hw
    unfold stk
    by_cases hz : nI (Z i) < 50
    · simp only [if_pos hz] at hw ⊢
      by_cases h5 : d < 5
      · rw [if_pos h5] at hw
        refine (ru_step ?_).trans (e_workL hI hn hZ f1 f2 f3 f4 f5 f6 f (d + 1) (i + 1) (upd A d (fcI p l t s c r (nI (Z i)))) (by omega) (by omega) hw)
        show B_X9_workOut_1 (sA S 38 A) 35 (nI n) (nI d) (nI i) = _
        unfold B_X9_workOut_1
        rw [if_neg (nI_ge (show i < n by omega) (by omega))]
        simp (decide := true) only [gd_ob g65, h1, h3, Option.bind_some]
        rw [nI_1, gd_pos (ix_of g65 (by decide) (by decide) (show i + 1 < 15 by omega)), nI_clamp (by omega), r36, if_neg (i32nle.mpr hz), if_neg (show ¬ (5 : Int32) ≤ nI d from nI_ge (b := 5) h5 (by decide)), e_single hIA (p := p) (l := l) (t := t) (s := s) (c := c) (r := r) (by rw [r37]; exact f1) (by rw [r37]; exact f2) (by rw [r37]; exact f3) (by rw [r37]; exact f4) (by rw [r37]; exact f5) (by rw [r37]; exact f6) z1, bd2_eq, gd_pos (ix38 h5), nI_clamp (by omega), sI_sA, nI_1]
        rfl
      · rw [if_neg h5] at hw
        exact absurd hw (nI_nm1 (by omega))
    · simp only [if_neg hz] at hw ⊢
      by_cases h2 : 2 ≤ d
      · rw [if_pos h2] at hw
        refine (ru_step ?_).trans (e_workL hI hn hZ f1 f2 f3 f4 f5 f6 f (d - 1) (i + 1) (upd A (d - 2) (jnI (nI (Z i)) (A (d - 2)) (A (d - 1)))) (by omega) (by omega) hw)
        obtain ⟨e, rfl⟩ : ∃ e, d = e + 2 := ⟨d - 2, by omega⟩
        show B_X9_workOut_1 (sA S 38 A) 35 (nI n) (nI (e + 2)) (nI i) = _
        unfold B_X9_workOut_1
        rw [if_neg (nI_ge (show i < n by omega) (by omega))]
        simp (decide := true) only [gd_ob g65, h1, h3, Option.bind_some]
        rw [nI_1, gd_pos (ix_of g65 (by decide) (by decide) (show i + 1 < 15 by omega)), nI_clamp (by omega), r36, if_pos (i32nl.mp hz), if_neg hz, if_neg (show ¬ nI (e + 2) < 2 from nI_nlt (b := 2) (by omega) (by omega)), nI_m1 (e + 1), nI_pred, gd_pos (ix38 (by omega)), gd_pos (ix38 (by omega)), e_jC, bd2_eq, gd_pos (ix38 (by omega)), nI_clamp (by omega), nI_clamp (by omega), r38, r38, sI_sA]
        rfl
      · rw [if_neg h2] at hw
        exact absurd hw (nI_nm1 (by omega))
