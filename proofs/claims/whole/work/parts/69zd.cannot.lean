/-! cannot -/
def rpX (S : Wd) (i : Nat) : Nat := (wI S 30 (1 + i * 3)).toNatClampNeg
def rpY (S : Wd) (i : Nat) : Nat := (wI S 30 (1 + i * 3 + 1)).toNatClampNeg
def rpZ (S : Wd) (i : Nat) : Nat := (wI S 30 (1 + i * 3 + 2)).toNatClampNeg
theorem rep_facts {S : Wd} (h : cRep (wI S) (wI S 49)) : ∃ n : Nat, n ≤ 30 ∧ wI S 49 68 = nI n ∧ wI S 30 0 = nI n ∧ ∀ i, i < n → rpX S i < 6 ∧ rpY S i < 8 ∧ rpZ S i ≤ 4000 ∧ wI S 30 (1 + i * 3) = nI (rpX S i) ∧ wI S 30 (1 + i * 3 + 1) = nI (rpY S i) ∧ wI S 30 (1 + i * 3 + 2) = nI (rpZ S i) ∧ wI S 49 (260 + i) = nI (rpX S i + 6 * rpY S i + 48 * rpZ S i) := by
  obtain ⟨n, hn, u, v, hl⟩ := h
  refine ⟨n, hn, u, v, fun i hi => ?_⟩
  obtain ⟨x, y, z, x1, y1, z1, e1, e2, e3, e4⟩ := hl i hi
  have ex : rpX S i = x := by unfold rpX; rw [e1, nI_clamp (by omega)]
  have ey : rpY S i = y := by unfold rpY; rw [e2, nI_clamp (by omega)]
  have ez : rpZ S i = z := by unfold rpZ; rw [e3, nI_clamp (by omega)]
  rw [ex, ey, ez]
  exact ⟨x1, y1, z1, e1, e2, e3, e4⟩
theorem rep_parts {x y z : Nat} (hx : x < 6) (hy : y < 8) (hz : z ≤ 4000) : irm (nI (x + 6 * y + 48 * z)) 6 = nI x ∧ irm (nI (x + 6 * y + 48 * z) / 6) 8 = nI y ∧ nI (x + 6 * y + 48 * z) / 48 = nI z := by
  have e1 : nI (x + 6 * y + 48 * z) / 6 = nI ((x + 6 * y + 48 * z) / 6) := pk_div (d := 6) (by omega) (by decide) (by decide)
  refine ⟨(irm_nI (d := 6) (by omega) (by decide) (by decide)).trans (congrArg nI (by omega)), ?_, (show _ = nI ((x + 6 * y + 48 * z) / 48) from pk_div (d := 48) (by omega) (by decide) (by decide)).trans (congrArg nI (by omega))⟩
  rw [e1]
  exact (irm_nI (d := 8) (by omega) (by decide) (by decide)).trans (congrArg nI (by omega))
/-- two reports that can't be -/
def cbP (X Y Z : Nat → Nat) (w : Nat → Int32) (l : Nat) (i j : Nat) : Prop := X i = l ∧ X j = l ∧ ¬ w (8 * Y i + Y j) ≤ mAbs (nI (Z i) - nI (Z j))
noncomputable def cbS (P : Nat → Nat → Prop) (i j : Nat) (s : Nat × Int32) : Nat × Int32 := @ite _ (P i j) (Classical.propDecidable _) (s.1 + 1, if s.1 = 0 then 100 * nI i + nI j else s.2) s
noncomputable def cbI (P : Nat → Nat → Prop) (i : Nat) : Nat → Nat → Nat × Int32 → Nat × Int32
  | 0, _, s => s
  | f + 1, j, s => cbI P i f (j + 1) (cbS P i j s)
noncomputable def cbO (P : Nat → Nat → Prop) (n : Nat) : Nat → Nat → Nat × Int32 → Nat × Int32
  | 0, _, s => s
  | f + 1, i, s => cbO P n f (i + 1) (cbI P i (n - (i + 1)) (i + 1) s)
theorem cbS_pos {P : Nat → Nat → Prop} {i j : Nat} {s : Nat × Int32} (h : P i j) : cbS P i j s = (s.1 + 1, if s.1 = 0 then 100 * nI i + nI j else s.2) := if_pos h
theorem cbS_neg {P : Nat → Nat → Prop} {i j : Nat} {s : Nat × Int32} (h : ¬ P i j) : cbS P i j s = s := if_neg h
theorem cbI_pos {P : Nat → Nat → Prop} {i : Nat} : ∀ (f j : Nat) (s : Nat × Int32), 0 < s.1 → 0 < (cbI P i f j s).1 ∧ (cbI P i f j s).2 = s.2
  | 0, _, s, h => ⟨h, rfl⟩
  | f + 1, j, s, h => by
    unfold cbI
    rcases Classical.em (P i j) with hp | hp
    · rw [cbS_pos hp, if_neg (by omega)]
      exact cbI_pos f (j + 1) (s.1 + 1, s.2) (Nat.succ_pos _)
    · rw [cbS_neg hp]
      exact cbI_pos f (j + 1) s h
theorem cbO_pos {P : Nat → Nat → Prop} {n : Nat} : ∀ (f i : Nat) (s : Nat × Int32), 0 < s.1 → 0 < (cbO P n f i s).1 ∧ (cbO P n f i s).2 = s.2
  | 0, _, s, h => ⟨h, rfl⟩
  | f + 1, i, s, h => by
    unfold cbO
    obtain ⟨h1, h2⟩ := cbI_pos (P := P) (i := i) (n - (i + 1)) (i + 1) s h
    obtain ⟨h3, h4⟩ := cbO_pos f (i + 1) _ h1
    exact ⟨h3, h4.trans h2⟩
theorem cbI_le {P : Nat → Nat → Prop} {i : Nat} : ∀ (f j : Nat) (s : Nat × Int32), (cbI P i f j s).1 ≤ s.1 + f
  | 0, _, s => Nat.le_refl _
  | f + 1, j, s => by
    unfold cbI
    have := cbI_le (P := P) (i := i) f (j + 1) (cbS P i j s)
    rcases Classical.em (P i j) with hp | hp
    · rw [cbS_pos hp] at this ⊢
      have h2 : (s.1 + 1, if s.1 = 0 then 100 * nI i + nI j else s.2).1 = s.1 + 1 := rfl
      omega
    · rw [cbS_neg hp] at this ⊢
      omega
theorem cbO_le {P : Nat → Nat → Prop} {n : Nat} : ∀ (f i : Nat) (s : Nat × Int32), (cbO P n f i s).1 ≤ s.1 + f * n
  | 0, _, s => by rw [Nat.zero_mul]; exact Nat.le_refl _
  | f + 1, i, s => by
    unfold cbO
    have h1 := cbI_le (P := P) (i := i) (n - (i + 1)) (i + 1) s
    have h2 := cbO_le (P := P) (n := n) f (i + 1) (cbI P i (n - (i + 1)) (i + 1) s)
    rw [Nat.add_mul]
    omega
/-- the class -/
theorem e_cannotBe {W : Wd} (hI : Inv W) {n : Nat} (hn : n ≤ 30) (v : wI W 30 0 = nI n) {X Y Z : Nat → Nat} (hf : ∀ i, i < n → X i < 6 ∧ Y i < 8 ∧ Z i ≤ 4000 ∧ wI W 30 (1 + i * 3) = nI (X i) ∧ wI W 30 (1 + i * 3 + 1) = nI (Y i) ∧ wI W 30 (1 + i * 3 + 2) = nI (Z i)) {i j : Nat} (hi : i < n) (hj : j < n) : f_X6_cannotBe W 28 (nI i) (nI j) = if wI W 7 (8 * Y i + Y j) ≤ mAbs (nI (Z i) - nI (Z j)) then some (0, W) else some (1, W) := by
  obtain ⟨h65, hF⟩ := id hI
  obtain ⟨-, y1, z1, -, y2, z2⟩ := hf i hi
  obtain ⟨-, y3, z3, -, y4, z4⟩ := hf j hj
  have a1 := e_at hI tb29 v hn hi (show 1 < 3 by decide)
  have a2 := e_at hI tb29 v hn hi (show 2 < 3 by decide)
  have b1 := e_at hI tb29 v hn hj (show 1 < 3 by decide)
  have b2 := e_at hI tb29 v hn hj (show 2 < 3 by decide)
  rw [show wI W (29 + 1) (1 + i * 3 + 1) = nI (Y i) from y2] at a1
  rw [show wI W (29 + 1) (1 + i * 3 + 2) = nI (Z i) from z2] at a2
  rw [show wI W (29 + 1) (1 + j * 3 + 1) = nI (Y j) from y4] at b1
  rw [show wI W (29 + 1) (1 + j * 3 + 2) = nI (Z j) from z4] at b2
  unfold f_X6_cannotBe
  simp (decide := true) only [gd_ob h65, hF, Option.bind_some, show (1 : Int32) = nI 1 from rfl, show (2 : Int32) = nI 2 from rfl, a1, a2, b1, b2, bd2_eq, e_between hI y1 y3]
