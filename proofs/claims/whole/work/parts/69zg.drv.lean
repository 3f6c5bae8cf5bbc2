/-! drives, as numbers -/
theorem rollN_ok : ∀ f left s m r : Nat, s ≤ 270 → s + left ≤ 270 * (f + 1) → (rollN f left s m r).1 ≤ 270 ∧ (rollN f left s m r).2.1 ≤ m + left + 45 * f ∧ (rollN f left s m r).2.2 ≤ r + f
  | 0, left, s, m, r, _, h => ⟨by show s + left ≤ 270; omega, by show m + left ≤ _; omega, by show r ≤ _; omega⟩
  | f + 1, left, s, m, r, hs, h => by
    unfold rollN
    split
    · rename_i hc
      exact ⟨hc, by show m + left ≤ _; omega, by show r ≤ _; omega⟩
    · obtain ⟨h1, h2, h3⟩ := rollN_ok f (left - (270 - s)) 0 (m + ((270 - s) + 45)) (r + 1) (by omega) (by omega)
      exact ⟨h1, by omega, by omega⟩
def DB (k : Nat) : Dv → Prop
  | (t, m, s, d, e, r, q) => t < 8 ∧ m ≤ 4000 + 700 * k ∧ s ≤ 270 ∧ d ≤ 540 ∧ e ≤ d ∧ r ≤ 3 * k ∧ q ≤ 4000 * k
theorem DB.up {k : Nat} {d : Dv} (h : DB k d) : DB (k + 1) d := by
  obtain ⟨t, m, s, d, e, r, q⟩ := d
  obtain ⟨h1, h2, h3, h4, h5, h6, h7⟩ := h
  exact ⟨h1, by omega, h3, h4, h5, by omega, by omega⟩
theorem goN_ok {w : Nat → Nat} {to : Nat} {em : Bool} {k : Nat} {d : Dv} (ht : to < 8) (h : DB k d) : DB (k + 1) (goN w to em d).2 := by
  have hu := h.up
  obtain ⟨t, m, s, d, e, r, q⟩ := d
  obtain ⟨h1, h2, h3, h4, h5, h6, h7⟩ := h
  unfold goN
  dsimp only
  split
  · exact hu
  · split
    · exact hu
    · rename_i hc
      obtain ⟨r1, r2, r3⟩ := rollN_ok 2 (w (8 * t + to)) s m r h3 (by omega)
      refine ⟨ht, by omega, r1, by omega, ?_, by omega, by omega⟩
      split <;> omega
theorem dkN_ok {fr to : Nat} {k : Nat} {d : Dv} (hf : fr ≤ 4000) (h : DB k d) : DB (k + 1) (dkN fr to d).2 := by
  have hu := h.up
  obtain ⟨t, m, s, d, e, r, q⟩ := d
  obtain ⟨h1, h2, h3, h4, h5, h6, h7⟩ := h
  unfold dkN
  dsimp only
  split
  · exact hu
  · refine ⟨h1, by omega, ?_, h4, h5, by omega, by omega⟩
    split <;> omega
theorem thn_ok {k : Nat} {x : Nat × Dv} {f : Dv → Nat × Dv} (h : DB k x.2) (hf : ∀ d, DB k d → DB (k + 1) (f d).2) : DB (k + 1) (thn x f).2 := by
  unfold thn
  split
  · exact hf _ h
  · exact h.up
/-- a load's row as numbers -/
def LdOk (L : Nat → Nat) : Prop := L 0 < 8 ∧ L 1 < 8 ∧ L 5 ≤ 9999 ∧ L 6 ≤ 4000 ∧ L 7 ≤ 4000 ∧ L 8 ≤ 4000 ∧ L 9 ≤ 4000
theorem carN_ok {w L : Nat → Nat} {k : Nat} {d : Dv} (hL : LdOk L) (h : DB k d) : DB (k + 4) (carN w L d).2 := by
  obtain ⟨l0, l1, l5, l6, l7, l8, l9⟩ := hL
  unfold carN
  exact thn_ok (thn_ok (thn_ok (goN_ok l0 h) fun d hd => dkN_ok l6 hd) fun d hd => goN_ok l1 hd) fun d hd => dkN_ok l8 hd
theorem dv_eta (d : Dv) : ∃ t m s dr e r q, d = (t, m, s, dr, e, r, q) := ⟨_, _, _, _, _, _, _, rfl⟩
/-! drives: the class -/
def DC (W : Wd) : Dv → Prop
  | (t, m, s, d, e, r, q) => wI W 12 3 = nI t ∧ wI W 12 4 = nI m ∧ wI W 12 5 = nI s ∧ wI W 12 6 = nI d ∧ wI W 12 7 = nI e ∧ wI W 12 8 = nI r ∧ wI W 12 9 = nI q
abbrev D12 (a k : Nat) : Prop := a = 12 ∧ 3 ≤ k
theorem e_rollC (x1 : Int32) : ∀ (f i left s m r : Nat) (W : Wd), i + f = 2 → s ≤ 270 → s + left ≤ 270 * (f + 1) → 65 ≤ wn W → wI W 12 4 = nI m → wI W 12 5 = nI s → wI W 12 8 = nI r → ∃ W', ru B_X0_roll (1, [12], [x1, nI left, nI i], W) = some W' ∧ Ag (fun a k => a = 12 ∧ (k = 4 ∨ k = 5 ∨ k = 8)) W W' ∧ wI W' 12 4 = nI (rollN f left s m r).2.1 ∧ wI W' 12 5 = nI (rollN f left s m r).1 ∧ wI W' 12 8 = nI (rollN f left s m r).2.2 := by
  intro f
  induction f with
  | zero =>
    intro i left s m r W hi hs hl h65 h4 h5 h8
    refine ⟨sI (sI W 12 4 (nI (m + left))) 12 5 (nI (s + left)), ru_done ?_, (Ag.sI ⟨rfl, Or.inl rfl⟩).trans (Ag.sI ⟨rfl, Or.inr (Or.inl rfl)⟩), ?_, ?_, ?_⟩
    · show B_X0_roll_1 W 12 x1 (nI left) (nI i) = _
      unfold B_X0_roll_1 ltS
      have g1 : ∀ x, 65 ≤ wn (sI W 12 4 x) := fun _ => h65
      rw [if_neg (show ¬ (2 : Int32) < nI i from nI_nlt (a := 2) (by omega) (by omega)), h4, h5, nI_add, nI_add, if_pos (show nI (s + left) ≤ 270 from nI_le (b := 270) (by omega) (by decide))]
      simp (decide := true) only [gd_ob h65, gd_ob (g1 _), wI_sI_ne (show ¬ ((12 : Nat) = 12 ∧ (5 : Nat) = 4) by decide), h5, nI_add]
    · rw [wI_sI_ne (by decide), wI_sI_eq]; rfl
    · rw [wI_sI_eq]; rfl
    · rw [wI_sI_ne (by decide), wI_sI_ne (by decide)]; exact h8
  | succ f ih =>
    intro i left s m r W hi hs hl h65 h4 h5 h8
    have g1 : ∀ x, 65 ≤ wn (sI W 12 4 x) := fun _ => h65
    unfold rollN
    by_cases hc : s + left ≤ 270
    · rw [if_pos hc]
      refine ⟨sI (sI W 12 4 (nI (m + left))) 12 5 (nI (s + left)), ru_done ?_, (Ag.sI ⟨rfl, Or.inl rfl⟩).trans (Ag.sI ⟨rfl, Or.inr (Or.inl rfl)⟩), ?_, ?_, ?_⟩
      · show B_X0_roll_1 W 12 x1 (nI left) (nI i) = _
        unfold B_X0_roll_1 ltS
        rw [if_neg (show ¬ (2 : Int32) < nI i from nI_nlt (a := 2) (by omega) (by omega)), h4, h5, nI_add, nI_add, if_pos (show nI (s + left) ≤ 270 from nI_le (b := 270) (by omega) (by decide))]
        simp (decide := true) only [gd_ob h65, gd_ob (g1 _), wI_sI_ne (show ¬ ((12 : Nat) = 12 ∧ (5 : Nat) = 4) by decide), h5, nI_add]
      · rw [wI_sI_ne (by decide), wI_sI_eq]
      · rw [wI_sI_eq]
      · rw [wI_sI_ne (by decide), wI_sI_ne (by decide)]; exact h8
    · rw [if_neg hc]
      have hA : Ag (fun a k => a = 12 ∧ (k = 4 ∨ k = 5 ∨ k = 8)) W (sI (sI (sI W 12 4 (nI (m + ((270 - s) + 45)))) 12 5 (nI 0)) 12 8 (nI (r + 1))) := ((Ag.sI ⟨rfl, Or.inl rfl⟩).trans (Ag.sI ⟨rfl, Or.inr (Or.inl rfl)⟩)).trans (Ag.sI ⟨rfl, Or.inr (Or.inr rfl)⟩)
      obtain ⟨W', w1, w2, w3, w4, w5⟩ := ih (i + 1) (left - (270 - s)) 0 (m + ((270 - s) + 45)) (r + 1) _ (by omega) (by omega) (by omega) (show 65 ≤ wn (sI (sI (sI W 12 4 (nI (m + ((270 - s) + 45)))) 12 5 (nI 0)) 12 8 (nI (r + 1))) from h65) (by rw [wI_sI_ne (by decide), wI_sI_ne (by decide), wI_sI_eq]) (by rw [wI_sI_ne (by decide), wI_sI_eq]) wI_sI_eq
      refine ⟨W', (ru_step ?_).trans w1, hA.trans w2, w3, w4, w5⟩
      show B_X0_roll_1 W 12 x1 (nI left) (nI i) = _
      unfold B_X0_roll_1 ltS
      rw [if_neg (show ¬ (2 : Int32) < nI i from nI_nlt (a := 2) (by omega) (by omega)), h4, h5, nI_add, nI_add, if_neg (show ¬ nI (s + left) ≤ 270 from nI_ge (a := 270) (by omega) (by omega)), show (270 : Int32) - nI s = nI (270 - s) from nI_sub (a := 270) hs, show nI (270 - s) + 45 = nI ((270 - s) + 45) from nI_add _ 45, nI_sub (show 270 - s ≤ left by omega), nI_add, nI_1]
      simp (decide := true) only [gd_ob h65, gd_ob (g1 _), gd_ob (show 65 ≤ wn (sI (sI W 12 4 (nI (m + ((270 - s) + 45)))) 12 5 (0 : Int32)) from h65), wI_sI_ne (show ¬ ((12 : Nat) = 12 ∧ (8 : Nat) = 4) by decide), wI_sI_ne (show ¬ ((12 : Nat) = 12 ∧ (8 : Nat) = 5) by decide), h8, nI_1]
      rfl
