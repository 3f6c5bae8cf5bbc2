/-! the reference's rows -/
/-- what is known of the reference's row -/
def Fac (N : Nat → Int32) (n m : Nat) : Prop := n ≤ 6 ∧ m ≤ 8 ∧ N 64 = nI n ∧ N 65 = nI m ∧ (∀ i, i < 64 → wyN N i ≤ 1000000 ∧ fw N i = nI (wyN N i)) ∧ (∀ l, l < n → ∀ c, c < 7 → loN N l c ≤ lorryMax c ∧ N (70 + 7 * l + c) = nI (loN N l c)) ∧ (∀ d, d < m → ∀ c, c < 10 → ldN N d c ≤ loadMax c ∧ N (112 + 11 * d + c) = nI (ldN N d c)) ∧ ∀ d, d < m → N (112 + 11 * d + 10) = -1 ∨ ∃ g : Nat, g < 6 ∧ N (112 + 11 * d + 10) = nI g
theorem fac_of {C : Pv} {N : Nat → Int32} (h : core C N) : ∃ n m, Fac N n m := by
  obtain ⟨h1, h2, h3, -⟩ := h
  obtain ⟨n, n6, nu, -, nl⟩ := lo_facts h2
  obtain ⟨m, m8, mu, -, ml⟩ := ld_facts h3
  exact ⟨n, m, n6, m8, nu, mu, fun i hi => wy_facts h1 hi, fun l hl c hc => ⟨(nl l hl c hc).1, (nl l hl c hc).2.1⟩, fun d hd c hc => ⟨((ml d hd).1 c hc).1, ((ml d hd).1 c hc).2.1⟩, fun d hd => (ml d hd).2.2⟩
theorem fac_ld {N : Nat → Int32} {n m : Nat} (h : Fac N n m) : ∀ d, d < m → LdOk (ldN N d) := fun d hd => ld_ok fun c hc => (h.2.2.2.2.2.2.1 d hd c hc).1
theorem fac_lo {N : Nat → Int32} {n m l : Nat} (h : Fac N n m) (hl : l < n) : loN N l 1 ≤ 7 ∧ loN N l 2 ≤ 2000 ∧ loN N l 3 ≤ 7 ∧ loN N l 4 ≤ 4000 := by
  have := h.2.2.2.2.2.1 l hl
  exact ⟨(this 1 (by decide)).1, (this 2 (by decide)).1, (this 3 (by decide)).1, (this 4 (by decide)).1⟩
theorem runN_ok {w Lo : Nat → Nat} {Ld : Nat → Nat → Nat} {m : Nat} (lo1 : Lo 1 ≤ 7) (lo2 : Lo 2 ≤ 2000) (lo3 : Lo 3 ≤ 7) (hL : ∀ d, d < m → LdOk (Ld d)) {one two : Option Nat} (h1 : opLt m one) (h2 : opLt m two) : DB 10 (runN w Lo Ld one two).2 ∧ (runN w Lo Ld one two).1 ≤ 4 := by
  have hB0 : DB 0 (Lo 1, Lo 2, 0, 0, 0, 0, 0) := ⟨by omega, by omega, by omega, by omega, by omega, by omega, by omega⟩
  have B1 : DB (0 + 4) (crN w Ld one (0, Lo 1, Lo 2, 0, 0, 0, 0, 0)).2 := crN_ok hL h1 hB0
  have x4 : (crN w Ld one (0, Lo 1, Lo 2, 0, 0, 0, 0, 0)).1 ≤ 4 := crN_4 (by show 0 ≤ 4; decide)
  have B2 := crN_ok (w := w) hL h2 B1
  have y4 := crN_4 (w := w) (Ld := Ld) (o := two) x4
  unfold runN
  generalize crN w Ld two (crN w Ld one (0, Lo 1, Lo 2, 0, 0, 0, 0, 0)) = y at *
  have B3 : DB (0 + 4 + 4 + 1) (thn y (goN w (Lo 3) true)).2 := thn_ok B2 fun d hd => goN_ok (by omega) hd
  have z4 : (thn y (goN w (Lo 3) true)).1 ≤ 4 := thn_4 y4 fun _ => goN_4
  generalize thn y (goN w (Lo 3) true) = z at *
  unfold enN
  split
  · split
    · exact ⟨B3.up, z4⟩
    · exact ⟨B3.up, Nat.le_refl _⟩
  · exact ⟨B3.up, z4⟩
def isB (N : Nat → Int32) (m l r : Nat) : Bool := (decide (r / 9 ≠ 0) || decide (r % 9 = 0)) && decide (r / 9 ≤ m) && decide (r % 9 ≤ m) && decide (rfN N l (rO r) (rT r) = 0)
theorem rg_is (N : Nat → Int32) (m l r : Nat) : rgB N m l r = (isB N m l r && decide ((dvN N l r).1 = 0)) := rfl
theorem is_facts {N : Nat → Int32} {m l r : Nat} (h : isB N m l r = true) : (r / 9 ≠ 0 ∨ r % 9 = 0) ∧ r / 9 ≤ m ∧ r % 9 ≤ m ∧ rfN N l (rO r) (rT r) = 0 := by
  unfold isB at h
  rw [Bool.and_eq_true, Bool.and_eq_true, Bool.and_eq_true, Bool.or_eq_true] at h
  obtain ⟨⟨⟨h1, h2⟩, h3⟩, h4⟩ := h
  exact ⟨h1.elim (fun q => Or.inl (of_decide_eq_true q)) (fun q => Or.inr (of_decide_eq_true q)), of_decide_eq_true h2, of_decide_eq_true h3, of_decide_eq_true h4⟩
theorem op_rO {m r : Nat} (h : r / 9 ≤ m) : opLt m (rO r) := by
  unfold rO
  split
  · trivial
  · show r / 9 - 1 < m
    omega
theorem op_rT {m r : Nat} (h : r % 9 ≤ m) : opLt m (rT r) := by
  unfold rT
  split
  · trivial
  · show r % 9 - 1 < m
    omega
theorem is_12 {N : Nat → Int32} {m l r : Nat} (h : isB N m l r = true) : rO r = none → rT r = none := rfN_12 (is_facts h).2.2.2
theorem an_rO {r : Nat} (hr : r < 81) : nI r / 9 - 1 = ans (rO r) := by
  rw [show nI r / 9 = nI (r / 9) from pk_div (d := 9) (by omega) (by decide) (by decide)]
  unfold rO
  by_cases h : r / 9 = 0
  · rw [if_pos h, h]
    rfl
  · rw [if_neg h]
    exact nI_sub (b := 1) (by omega)
theorem an_rT {r : Nat} (hr : r < 81) : irm (nI r) 9 - 1 = ans (rT r) := by
  rw [show irm (nI r) 9 = nI (r % 9) from irm_nI (d := 9) (by omega) (by decide) (by decide)]
  unfold rT
  by_cases h : r % 9 = 0
  · rw [if_pos h, h]
    rfl
  · rw [if_neg h]
    exact nI_sub (b := 1) (by omega)
theorem vl_b {N : Nat → Int32} {n m : Nat} (h : Fac N n m) {l r : Nat} (hl : l < n) : -540 ≤ vlZ N m l r ∧ vlZ N m l r ≤ 19998 ∧ emN N m l r ≤ 540 := by
  unfold vlZ emN
  by_cases hg : rgB N m l r = true
  · rw [if_pos hg, if_pos hg]
    rw [rg_is, Bool.and_eq_true] at hg
    obtain ⟨-, h2, h3, -⟩ := is_facts hg.1
    obtain ⟨l1, l2, l3, l4⟩ := fac_lo h hl
    have hB := (runN_ok (w := wyN N) l1 l2 l3 (fac_ld h) (op_rO h2) (op_rT h3)).1
    have p1 := pyO_le (fac_ld h) (op_rO h2)
    have p2 := pyO_le (fac_ld h) (op_rT h3)
    unfold dvN
    generalize runN (wyN N) (loN N l) (ldN N) (rO r) (rT r) = z at hB ⊢
    obtain ⟨c, t, mi, s, d, e, q, u⟩ := z
    obtain ⟨b1, b2, b3, b4, b5, b6, b7⟩ := hB
    dsimp only
    omega
  · rw [if_neg hg, if_neg hg]
    omega
theorem vl_b' {N : Nat → Int32} {n m : Nat} (h : Fac N n m) : ∀ l, l < n → ∀ r, r < 81 → -540 ≤ vlZ N m l r ∧ vlZ N m l r ≤ 19998 := fun _ hl _ _ => ⟨(vl_b h hl).1, (vl_b h hl).2.1⟩
abbrev DG (a k : Nat) : Prop := (a = 48 ∧ 8 ≤ k ∧ k ≤ 14) ∨ a = 55 ∨ a = 56 ∨ a = 57
/-- the tables of rows, up to place t -/
def FR (N : Nat → Int32) (n m : Nat) (W : Wd) (t : Nat) : Prop := ∀ l r, l < n → r < 81 → 81 * l + r < t → wI W 55 (81 * l + r) = (if (rgB N m l r || decide (r = 0)) = true then 1 else 0) ∧ wI W 56 (81 * l + r) = zI (vlZ N m l r) ∧ wI W 57 (81 * l + r) = nI (emN N m l r)
theorem e_rowIs {W : Wd} (hI : Inv W) {N : Nat → Int32} {n m : Nat} (hN : wI W 49 = N) (hf : Fac N n m) {l r : Nat} (hl : l < n) (hr : r < 81) : B_X12_findRows (2, [48], [nI l, nI r], W) = some (.inr (3, [48], [nI l, nI r, ans (rO r), ans (rT r), nI (81 * l + r), (if isB N m l r = true then 1 else 0)], W)) := by
  obtain ⟨h65, hF⟩ := id hI
  obtain ⟨n6, m8, nu, mu, -⟩ := id hf
  have e1 : (81 : Int32) * nI l + nI r = nI (81 * l + r) := by show nI 81 * nI l + nI r = _; rw [nI_mul, nI_add]
  have i65 : ix W 49 100 (65 : Int32) := rdN h65 (show 65 < 424 by decide)
  have u65 : wI W 49 (65 : Int32).toNatClampNeg = nI m := by rw [hN]; exact mu
  show B_X12_findRows_2 W 48 (nI l) (nI r) = _
  unfold B_X12_findRows_2
  rw [if_neg (show ¬ (81 : Int32) ≤ nI r from nI_ge (b := 81) hr (by decide)), an_rO hr, an_rT hr, e1]
  simp (decide := true) only [gd_ob h65, hF, Option.bind_some, gd_pos i65, u65]
  have rfs : r / 9 ≤ m → r % 9 ≤ m → f_X12_refused W 48 (nI l) (ans (rO r)) (ans (rT r)) = some (rfN N l (rO r) (rT r), W) := fun a b => by
    have := e_refM hI (by rw [hN]; exact nu) n6 (by rw [hN]; exact mu) m8 hl (op_rO a) (op_rT b)
    rw [hN] at this
    exact this
  have nlt : ∀ {k : Nat}, k ≤ 8 → ((nI m ≤ (if k = 0 then ans none else ans (some (k - 1)))) ↔ ¬ k ≤ m) := by
    intro k hk
    by_cases h0 : k = 0
    · rw [if_pos h0]
      constructor
      · intro h
        exact absurd (Int32.le_trans (nI_pos' (n := m) (by omega)) h) (by decide)
      · intro h
        omega
    · rw [if_neg h0]
      show nI m ≤ nI (k - 1) ↔ _
      rw [nI_leI (by omega) (by omega)]
      omega
  have nO := nlt (show r / 9 ≤ 8 by omega)
  have nT := nlt (show r % 9 ≤ 8 by omega)
  rw [show (if r / 9 = 0 then ans none else ans (some (r / 9 - 1))) = ans (rO r) by unfold rO; split <;> rfl] at nO
  rw [show (if r % 9 = 0 then ans none else ans (some (r % 9 - 1))) = ans (rT r) by unfold rT; split <;> rfl] at nT
  have pO : 0 ≤ ans (rO r) ↔ r / 9 ≠ 0 := by
    unfold rO
    by_cases h : r / 9 = 0
    · rw [if_pos h]
      exact ⟨fun q => absurd q (by decide), fun q => absurd h q⟩
    · rw [if_neg h]
      exact ⟨fun _ => h, fun _ => nI_pos' (by omega)⟩
  have pT : 0 ≤ ans (rT r) ↔ r % 9 ≠ 0 := by
    unfold rT
    by_cases h : r % 9 = 0
    · rw [if_pos h]
      exact ⟨fun q => absurd q (by decide), fun q => absurd h q⟩
    · rw [if_neg h]
      exact ⟨fun _ => h, fun _ => nI_pos' (by omega)⟩
  have tail : (r / 9 ≠ 0 ∨ r % 9 = 0) → (if nI m ≤ ans (rO r) then some (Sum.inr (3, [48], [nI l, nI r, ans (rO r), ans (rT r), nI (81 * l + r), 0], W)) else if nI m ≤ ans (rT r) then some (Sum.inr (3, [48], [nI l, nI r, ans (rO r), ans (rT r), nI (81 * l + r), 0], W)) else bd2 (f_X12_refused W 48 (nI l) (ans (rO r)) (ans (rT r))) (fun r24 S22 => if r24 = 0 then some (Sum.inr (3, [48], [nI l, nI r, ans (rO r), ans (rT r), nI (81 * l + r), 1], S22)) else some (Sum.inr (3, [48], [nI l, nI r, ans (rO r), ans (rT r), nI (81 * l + r), 0], S22)))) = (some (Sum.inr (3, [48], [nI l, nI r, ans (rO r), ans (rT r), nI (81 * l + r), (if isB N m l r = true then 1 else 0)], W)) : Option (Wd ⊕ Cs)) := by
    intro h1
    have notB : ∀ (h : ¬ (r / 9 ≤ m ∧ r % 9 ≤ m ∧ rfN N l (rO r) (rT r) = 0)), ¬ isB N m l r = true := fun h q => h ⟨(is_facts q).2.1, (is_facts q).2.2.1, (is_facts q).2.2.2⟩
    by_cases h2 : r / 9 ≤ m
    · rw [if_neg (fun q => nO.mp q h2)]
      by_cases h3 : r % 9 ≤ m
      · rw [if_neg (fun q => nT.mp q h3), rfs h2 h3, bd2_eq]
        by_cases h4 : rfN N l (rO r) (rT r) = 0
        · have hb : isB N m l r = true := by
            unfold isB
            rw [Bool.and_eq_true, Bool.and_eq_true, Bool.and_eq_true, Bool.or_eq_true]
            exact ⟨⟨⟨h1.elim (fun q => Or.inl (decide_eq_true q)) (fun q => Or.inr (decide_eq_true q)), decide_eq_true h2⟩, decide_eq_true h3⟩, decide_eq_true h4⟩
          rw [if_pos h4, if_pos hb]
        · rw [if_neg h4, if_neg (notB fun q => h4 q.2.2)]
      · rw [if_pos (nT.mpr h3), if_neg (notB fun q => h3 q.2.1)]
    · rw [if_pos (nO.mpr h2), if_neg (notB fun q => h2 q.1)]
  by_cases h1 : r / 9 ≠ 0
  · rw [if_pos (pO.mpr h1)]
    exact tail (Or.inl h1)
  · rw [if_neg (fun q => h1 (pO.mp q))]
    by_cases h2 : r % 9 ≠ 0
    · rw [if_pos (pT.mpr h2), if_neg (fun q => (is_facts q).1.elim h1 h2)]
    · rw [if_neg (fun q => h2 (pT.mp q))]
      exact tail (Or.inr (by omega))
