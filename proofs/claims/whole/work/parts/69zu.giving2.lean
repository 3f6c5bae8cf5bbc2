/-! the reference's choices -/
theorem fs_props {q : Nat → Bool} : ∀ (f r : Nat), (∃ c, r ≤ c ∧ c < r + f ∧ q c = true) → r ≤ fsN q f r ∧ fsN q f r < r + f ∧ q (fsN q f r) = true ∧ ∀ i, r ≤ i → i < fsN q f r → q i = false
  | 0, r, ⟨c, h1, h2, _⟩ => by omega
  | f + 1, r, ⟨c, h1, h2, h3⟩ => by
    unfold fsN
    by_cases hq : q r = true
    · rw [if_pos hq]
      exact ⟨Nat.le_refl _, by omega, hq, fun i a b => by omega⟩
    · rw [if_neg hq]
      have hne : c ≠ r := fun e => hq (by rw [← e]; exact h3)
      obtain ⟨i1, i2, i3, i4⟩ := fs_props f (r + 1) ⟨c, by omega, by omega, h3⟩
      refine ⟨by omega, by omega, i3, fun i a b => ?_⟩
      by_cases he : i = r
      · rw [he]
        exact Bool.not_eq_true _ ▸ hq
      · exact i4 i (by omega) b
theorem ch_props {N : Nat → Int32} {n m l g : Nat} (hl : l < n) : chR N n m l g ≤ 80 ∧ opB N m l (chR N n m l g) g = true ∧ vlZ N m l (chR N n m l g) + bsZ N n m (n - (l + 1)) (g ||| stN (chR N n m l g)) = bsZ N n m (n - l) g ∧ ∀ i, i < chR N n m l g → ¬ (opB N m l i g = true ∧ vlZ N m l i + bsZ N n m (n - (l + 1)) (g ||| stN i) = bsZ N n m (n - l) g) := by
  have hbs : bsZ N n m (n - l) g = mxF (fun r => vlZ N m l r + bsZ N n m (n - (l + 1)) (g ||| stN r)) (fun r => opB N m l r g) 80 := by
    rw [show n - l = (n - (l + 1)) + 1 by omega]
    show mxF (fun r => vlZ N m (n - ((n - (l + 1)) + 1)) r + bsZ N n m (n - (l + 1)) (g ||| stN r)) (fun r => opB N m (n - ((n - (l + 1)) + 1)) r g) 80 = _
    rw [show n - ((n - (l + 1)) + 1) = l by omega]
  have o0 : opB N m l 0 g = true := by
    unfold opB
    rw [Bool.and_eq_true]
    refine ⟨by simp, decide_eq_true ?_⟩
    show (0 : Nat) &&& g = 0
    exact Nat.zero_and g
  obtain ⟨c1, c2, c3, c4, c5⟩ := cf_eq (f := fun r => vlZ N m l r + bsZ N n m (n - (l + 1)) (g ||| stN r)) (o := fun r => opB N m l r g) (p := fun r => opB N m l r g) o0 (fun r _ h => h) (fun r _ h h' => absurd h h') 80
  rw [← hbs] at c4
  obtain ⟨p1, p2, p3, p4⟩ := fs_props (q := fun r => opB N m l r g && decide (vlZ N m l r + bsZ N n m (n - (l + 1)) (g ||| stN r) = bsZ N n m (n - l) g)) 81 0 ⟨_, Nat.zero_le _, Nat.lt_of_le_of_lt c2 (by decide), by rw [Bool.and_eq_true]; exact ⟨c3, decide_eq_true c4⟩⟩
  rw [Bool.and_eq_true] at p3
  refine ⟨by unfold chR; omega, p3.1, of_decide_eq_true p3.2, fun i hi h => ?_⟩
  have := p4 i (Nat.zero_le _) hi
  rw [h.1, decide_eq_true h.2] at this
  cases this
def gnG (N : Nat → Int32) (n m g : Nat) : Nat → Nat
  | 0 => g
  | l + 1 => gnG N n m g l ||| stN (chR N n m l (gnG N n m g l))
theorem gnS_eq (N : Nat → Int32) (n m : Nat) : ∀ l, gnS N n m l = gnG N n m (gvN N m) l
  | 0 => rfl
  | l + 1 => by
    unfold gnS gnG
    rw [gnS_eq N n m l]
theorem gnG_lt {N : Nat → Int32} {n m g : Nat} (hg : g < 256) : ∀ {l : Nat}, l ≤ n → gnG N n m g l < 256
  | 0, _ => hg
  | l + 1, hl => by
    have := (ch_props (N := N) (n := n) (m := m) (l := l) (g := gnG N n m g l) (by omega)).1
    exact or_lt (gnG_lt hg (by omega)) (stN_lt (by omega))
section FH
variable {N : Nat → Int32} {n m : Nat}
theorem e_pick {S W : Wd} (hI : Inv S) (hf : Fac N n m) (hFR : FR N n m S (81 * n)) (hA : Ag D58 S W) (hB : BT N n m W 0) (g0 : Int32) {l g : Nat} (hl : l < n) (hg : g < 256) : ru B_X12_findGiving (6, [48], [g0, nI n, nI g, nI l, 0], W) = ru B_X12_findGiving (5, [48], [g0, nI n, nI (g ||| stN (chR N n m l g)), nI (l + 1)], sI W 59 l (nI (chR N n m l g))) := by
  have hIW := hA.inv hI (by omega)
  obtain ⟨h65, hF⟩ := id hIW
  have n6 := hf.1
  have hFW := FR_ag hA hFR
  have hB1 : BT N n m W (l + 1) := fun l' h1 h2 s hs => hB l' (by omega) h2 s hs
  obtain ⟨c1, c2, c3, c4⟩ := ch_props (N := N) (n := n) (m := m) (l := l) (g := g) hl
  have rd : wI W 58 (256 * l + g) = zI (bsZ N n m (n - l) g) := hB l (Nat.zero_le _) (by omega) g hg
  have st : ∀ r, r < 81 → B_X12_findGiving (6, [48], [g0, nI n, nI g, nI l, nI r], W) = if opB N m l r g = true ∧ vlZ N m l r + bsZ N n m (n - (l + 1)) (g ||| stN r) = bsZ N n m (n - l) g then some (.inr (5, [48], [g0, nI n, nI (g ||| stN r), nI (l + 1)], sI W 59 l (nI r))) else some (.inr (6, [48], [g0, nI n, nI g, nI l, nI (r + 1)], W)) := by
    intro r hr
    show B_X12_findGiving_6 W 48 g0 (nI n) (nI g) (nI l) (nI r) = _
    unfold B_X12_findGiving_6
    rw [gd_pos (ob_of h65 (by decide) (by decide)), e_isOpen hIW hf hFW hl hr hg, bd2_eq, nI_1]
    by_cases ho : opB N m l r g = true
    · rw [if_pos ho, if_neg (by decide), gd_pos (ob_of h65 (by decide) (by decide)), e_with hIW hf hFW hl hB1 hr hg, bd2_eq]
      simp (decide := true) only [gd_ob h65, hF, Option.bind_some]
      rw [show (256 : Int32) * nI l + nI g = nI (256 * l + g) by show nI 256 * nI l + nI g = _; rw [nI_mul, nI_add], gd_pos (ix_of h65 (by decide) (by decide) (show 256 * l + g < 1792 by omega)), nI_clamp (by omega), rd]
      by_cases he : vlZ N m l r + bsZ N n m (n - (l + 1)) (g ||| stN r) = bsZ N n m (n - l) g
      · rw [if_pos (show zI _ = zI _ by rw [he]), if_pos ⟨ho, he⟩, gd_pos (ix_of h65 (by decide) (by decide) (show l < 6 by omega)), nI_clamp (by omega)]
        dsimp only [ltS]
        rw [e_setOf _ hr, bd2_eq, nI_or, nI_1]
      · rw [if_neg (fun q => he ((zI_eq (wz_b hf hl) (bz_b hf (by omega))).mp q)), if_neg (fun q => he q.2)]
    · rw [if_neg ho, if_pos rfl, if_neg (fun q => ho q.1)]
  have walk : ∀ r, r ≤ chR N n m l g → ru B_X12_findGiving (6, [48], [g0, nI n, nI g, nI l, 0], W) = ru B_X12_findGiving (6, [48], [g0, nI n, nI g, nI l, nI r], W) := by
    intro r
    induction r with
    | zero => exact fun _ => rfl
    | succ r ih =>
      intro hr
      refine (ih (by omega)).trans (ru_step ?_)
      rw [st r (by omega), if_neg (c4 r (by omega))]
  refine (walk _ (Nat.le_refl _)).trans (ru_step ?_)
  rw [st _ (by omega), if_pos ⟨c2, c3⟩]
theorem e_findGiving {S : Wd} (hI : Inv S) (hN : wI S 49 = N) (hf : Fac N n m) (hFR : FR N n m S (81 * n)) {g : Nat} (hg : g < 256) : ∃ W, f_X12_findGiving S 48 (nI g) = some (zI (bsZ N n m n g), W) ∧ Ag D58 S W ∧ ∀ l, l < n → wI W 59 l = nI (chR N n m l (gnG N n m g l)) := by
  have n6 := hf.1
  obtain ⟨T, t1, t2, t3⟩ := e_table hI hN hf hFR (nI g)
  have loop : ∀ l, l ≤ n → ∃ W, ru B_X12_findGiving (5, [48], [nI g, nI n, nI g, 0], T) = ru B_X12_findGiving (5, [48], [nI g, nI n, nI (gnG N n m g l), nI l], W) ∧ Ag D58 S W ∧ BT N n m W 0 ∧ ∀ l', l' < l → wI W 59 l' = nI (chR N n m l' (gnG N n m g l')) := by
    intro l
    induction l with
    | zero => exact fun _ => ⟨T, rfl, t2, t3, fun l' h => by omega⟩
    | succ l ih =>
      intro hl
      obtain ⟨W, w1, w2, w3, w4⟩ := ih (by omega)
      refine ⟨sI W 59 l (nI (chR N n m l (gnG N n m g l))), w1.trans ((ru_step (show B_X12_findGiving (5, [48], [nI g, nI n, nI (gnG N n m g l), nI l], W) = some (.inr (6, [48], [nI g, nI n, nI (gnG N n m g l), nI l, 0], W)) from ?_)).trans (e_pick hI hf hFR w2 w3 (nI g) (show l < n by omega) (gnG_lt hg (by omega)))), w2.trans (Ag.sI (Or.inr rfl)), ?_, fun l' hl' => ?_⟩
      · show B_X12_findGiving_5 W 48 (nI g) (nI n) (nI (gnG N n m g l)) (nI l) = _
        unfold B_X12_findGiving_5
        rw [if_neg (nI_ge (by omega) (by omega))]
      · intro l' h1 h2 s hs
        rw [wI_sI_ne (by omega)]
        exact w3 l' h1 h2 s hs
      · by_cases he : l' = l
        · rw [he, wI_sI_eq]
        · rw [wI_sI_ne (by omega)]
          exact w4 l' (by omega)
  obtain ⟨W, w1, w2, w3, w4⟩ := loop n (Nat.le_refl _)
  refine ⟨W, ?_, w2, w4⟩
  unfold f_X12_findGiving
  refine t1.trans (w1.trans (ru_done ?_))
  obtain ⟨h65, hF⟩ := id (w2.inv hI (by omega))
  have rd := w3 0 (Nat.le_refl _) (Nat.zero_le _) g hg
  rw [show 256 * 0 + g = g by omega, show n - 0 = n by omega] at rd
  show B_X12_findGiving_5 W 48 (nI g) (nI n) (nI (gnG N n m g n)) (nI n) = _
  unfold B_X12_findGiving_5
  rw [if_pos (Int32.le_refl _)]
  simp (decide := true) only [gd_ob h65, hF, Option.bind_some]
  rw [gd_pos (ix_of h65 (by decide) (by decide) (show g < 1792 by omega)), nI_clamp (by omega), rd]
end FH
