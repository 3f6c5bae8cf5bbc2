/-! an act of both sides -/
theorem shR_congr {C C' : Pv} (h : ∀ a, (40 ≤ a ∧ a ≤ 47) ∨ a = 51 ∨ a = 52 ∨ a = 53 → C' a = C a) (hs : shR C) : shR C' := by
  intro s hs4
  obtain ⟨⟨x1, x2⟩, ⟨n, x3, x4, x5⟩, x6⟩ := hs s hs4
  rw [h 51 (by omega), h (40 + 2 * s) (by omega), h 52 (by omega), h 53 (by omega), h (41 + 2 * s) (by omega)]
  exact ⟨⟨x1, x2⟩, ⟨n, x3, x4, x5⟩, x6⟩
/-- what Journal.keep and a write in its row have done: S to S1 -/
def CK (S S1 : Wd) (ro fr m o p q : Nat) (stale : Nat → Nat → Prop) : Prop :=
  wn S ≤ o ∧ o < wn S1 ∧ (∀ a k, a ≠ 2 → a ≠ 3 → a < wn S → wO S1 a k = wO S a k) ∧ (∀ k, wO S1 2 k = if k = p then some ro else wO S 2 k) ∧ (∀ k, wO S1 3 k = if k = p then some o else wO S 3 k) ∧ (∀ a, a < wn S → wl S1 a = wl S a) ∧ wl S1 o = m ∧
  wI S1 1 3 = nI (min (q + 1) 16) ∧ wI S1 1 4 = nI ((p + 1) % 16) ∧ wI S1 1 5 = wI S 1 5 + 1 ∧ (∀ k, wI S1 4 k = if k = p then nI fr else wI S 4 k) ∧ (∀ i, i < m → wI S1 o i = wI S ro (fr + i)) ∧ (∀ a k, a < wn S → a ≠ 1 → a ≠ 4 → a ∉ rowset → wI S1 a k = wI S a k) ∧
  (∀ a, a ∈ rowset → ∀ i, ¬ (a = ro ∧ fr ≤ i ∧ i < fr + m) → ¬ stale a i → wI S1 a i = wI S a i)
/-- what the reference's keep and its writes have done: S1 to S2 -/
def MK (S1 S2 : Wd) (q : Nat) : Prop :=
  wn S2 = wn S1 ∧ wl S2 = wl S1 ∧ wO S2 = wO S1 ∧ (∀ a k, a ≠ 49 → a ≠ 50 → ¬ (a = 48 ∧ k = 2) → wI S2 a k = wI S1 a k) ∧ wI S2 48 2 = nI (min (q + 1) 16) ∧ (∀ i, i < 424 → wI S2 50 (424 * (min (q + 1) 16 - 1) + i) = wI S1 49 i) ∧ ∀ t i, t + 1 < min (q + 1) 16 → i < 424 → wI S2 50 (424 * t + i) = wI S1 50 (424 * (t + (q + 1 - min (q + 1) 16)) + i)
theorem nr49 : (49 : Nat) ∉ rowset := by decide
theorem rel_jn {j : Nat} {S : Wd} (h : Rel j S) : ∃ kp nx : Nat, kp ≤ 16 ∧ nx < 16 ∧ wI S 1 3 = nI kp ∧ wI S 1 4 = nI nx ∧ wI S 48 2 = nI kp ∧ hist (pv S) (wO S) (wl S) (wn S) kp nx := by
  obtain ⟨-, ⟨-, kp, nx, h1, h2, h3, h4, h5, h6⟩, -⟩ := h
  exact ⟨kp, nx, h1, h2, h3, h4, h5, h6⟩
theorem rel_act {j : Nat} {S S1 S2 : Wd} {ro fr m o p q : Nat} (stale : Nat → Nat → Prop) (hR : Rel j S) (hq : q ≤ 16) (hp : p < 16) (hh : hist (pv S) (wO S) (wl S) (wn S) q p) (hro : ro ∈ rowset) (hfm : fr + m ≤ (kT ro).2) (hc : CK S S1 ro fr m o p q stale) (hm : MK S1 S2 q) (hcore : core (wI S2) (wI S2 49)) (hst : ∀ (D D' : Pv) (N : Nat → Int32), (∀ a, a ∈ rowset → ∀ i, ¬ stale a i → D' a i = D a i) → (∀ c, 64 ≤ c → c ≤ 68 → N c ≤ pv S 49 c) → core D N → core D' N) (hmono : ∀ c, 64 ≤ c → c ≤ 68 → wI S 49 c ≤ wI S2 49 c) (hj : j < 512) : Rel (j + 1) S2 := by
  obtain ⟨c1, c2, c3, c4, c5, c6, c7, c8, c9, c10, c11, c12, c13, c14⟩ := hc
  obtain ⟨m1, m2, m3, m4, m5, m6, m7⟩ := hm
  obtain ⟨hI, ⟨hsh, -⟩, hfi, ⟨cc, hcc, hc5, hme, hwo⟩, -, -⟩ := id hR
  have h65 := hI.1
  have hI2 : ∀ a k, a < wn S → a ≠ 1 → a ≠ 4 → a ∉ rowset → a ≠ 49 → a ≠ 50 → ¬ (a = 48 ∧ k = 2) → wI S2 a k = wI S a k := fun a k x1 x2 x3 x4 x5 x6 x7 => (m4 a k x5 x6 x7).trans (c13 a k x1 x2 x3 x4)
  have big : ∀ a, a < 65 → a < wn S := fun a ha => Nat.lt_of_lt_of_le ha h65
  have rowne : ∀ a, a ∈ rowset → a ≠ 49 ∧ a ≠ 50 ∧ a ≠ 48 := by
    intro a ha
    simp only [rowset, List.mem_cons, List.not_mem_nil, or_false] at ha
    omega
  have dynne : ∀ a, 65 ≤ a → a ≠ 1 ∧ a ≠ 4 ∧ a ∉ rowset ∧ a ≠ 49 ∧ a ≠ 50 ∧ a ≠ 48 := by
    intro a ha
    refine ⟨by omega, by omega, ?_, by omega, by omega, by omega⟩
    simp only [rowset, List.mem_cons, List.not_mem_nil, or_false]
    omega
  have e49 : pv S2 49 = wI S2 49 := pv_arr fun k => rfl
  have e49' : pv S 49 = wI S 49 := pv_arr fun k => rfl
  have s49 : wI S1 49 = wI S 49 := funext fun k => c13 49 k (big _ (by decide)) (by decide) (by decide) nr49
  have s50 : wI S1 50 = wI S 50 := funext fun k => c13 50 k (big _ (by decide)) (by decide) (by decide) (by decide)
  refine ⟨hI.of ?_ ?_ ?_, ⟨?_, min (q + 1) 16, (p + 1) % 16, by omega, by omega, ?_, ?_, ?_, ?_⟩, ?_, ⟨cc + 1, by omega, ?_, ?_, ?_⟩, ?_, ?_⟩
  · rw [m1]; omega
  · intro i k x1 x2 x3
    rw [m3]
    exact c3 i k x1 x2 (big i x3)
  · intro i k hi hk
    refine hI2 i k (big i (by omega)) (by omega) (by omega) ?_ (by omega) (by omega) (by omega)
    simp only [rowset, List.mem_cons, List.not_mem_nil, or_false]
    omega
  · refine shR_congr (fun a ha => ?_) hsh
    funext k
    have hp' : pers a k = true := by
      rcases (show a = 40 ∨ a = 41 ∨ a = 42 ∨ a = 43 ∨ a = 44 ∨ a = 45 ∨ a = 46 ∨ a = 47 ∨ a = 51 ∨ a = 52 ∨ a = 53 by omega) with rfl | rfl | rfl | rfl | rfl | rfl | rfl | rfl | rfl | rfl | rfl <;> rfl
    rw [pv_of hp', pv_of hp']
    refine hI2 a k (big a (by omega)) (by omega) (by omega) ?_ (by omega) (by omega) (by omega)
    simp only [rowset, List.mem_cons, List.not_mem_nil, or_false]
    omega
  · rw [pv_of rfl, m4 1 3 (by decide) (by decide) (by decide)]; exact c8
  · rw [pv_of rfl, m4 1 4 (by decide) (by decide) (by decide)]; exact c9
  · rw [pv_of rfl]; exact m5
  · refine hist_push (C := pv S) (O := wO S) (len := wl S) (n := wn S) (o := o) (ro := ro) (fr := fr) (m := m) stale hh hq hp hro hfm h65 c1 (by rw [m1]; exact c2) (by rw [m1]; omega) ?_ ?_ ?_ ?_ ?_ ?_ ?_ ?_ ?_ hst ?_ ?_ ?_
    · intro k; rw [m3]; exact c4 k
    · intro k; rw [m3]; exact c5 k
    · intro k
      rw [pv_of rfl, pv_of rfl, m4 4 k (by decide) (by decide) (by rintro ⟨h, -⟩; cases h)]
      exact c11 k
    · rw [m2]; exact c7
    · intro a _ ha; rw [m2]; exact c6 a ha
    · intro i hi
      rw [pv_of (pers_dyn (by omega)), pv_of (pers_row (Or.inl hro))]
      obtain ⟨-, -, -, d1, d2, d3⟩ := dynne o (by omega)
      rw [m4 o i d1 d2 (fun h => d3 h.1)]
      exact c12 i hi
    · intro a ha1 ha2
      funext i
      obtain ⟨d0, d1, d2, d3, d4, d5⟩ := dynne a ha1
      rw [pv_of (pers_dyn ha1), pv_of (pers_dyn ha1)]
      exact hI2 a i ha2 d0 d1 d2 d3 d4 (fun h => d5 h.1)
    · intro a ha i x1 x2
      obtain ⟨d1, d2, d3⟩ := rowne a ha
      rw [pv_of (pers_row (Or.inl ha)), pv_of (pers_row (Or.inl ha)), m4 a i d1 d2 (fun h => d3 h.1)]
      exact c14 a ha i x1 x2
    · rw [e49]
      exact core_congr (fun a ha => pv_arr fun k => pers_row (Or.inl ha)) hcore
    · intro i hi
      rw [pv_of rfl, e49', m6 i hi, s49]
    · intro t i ht hi
      rw [pv_of rfl, pv_of rfl, m7 t i ht hi, s50]
    · intro c x1 x2
      rw [e49, e49']
      exact hmono c x1 x2
  · rw [hI2 0 12 (big _ (by decide)) (by decide) (by decide) (by decide) (by decide) (by decide) (by decide), hI2 48 3 (big _ (by decide)) (by decide) (by decide) (by decide) (by decide) (by decide) (by decide)]
    exact hfi
  · rw [m4 1 5 (by decide) (by decide) (by decide), c10, hc5, nI_1]
  · rw [hI2 5 3 (big _ (by decide)) (by decide) (by decide) (by decide) (by decide) (by decide) (by decide)]
    rcases hme with h | ⟨x, x1, x2⟩
    · exact Or.inl h
    · exact Or.inr ⟨x, by omega, x2⟩
  · rw [hI2 13 12 (big _ (by decide)) (by decide) (by decide) (by decide) (by decide) (by decide) (by decide)]
    rcases hwo with h | ⟨x, x1, x2⟩
    · exact Or.inl h
    · exact Or.inr ⟨x, by omega, x2⟩
  · rw [hI2 5 3 (big _ (by decide)) (by decide) (by decide) (by decide) (by decide) (by decide) (by decide), m4 1 5 (by decide) (by decide) (by decide), c10, hc5, nI_1]
    intro he
    exfalso
    rcases hme with h | ⟨x, x1, x2⟩
    · rw [h] at he
      have := nI_pos (n := cc + 1) (by omega)
      rw [← he] at this
      exact this (by decide)
    · rw [x2] at he
      have := (nI_eq (by omega) (by omega)).mp he
      omega
  · rw [hI2 13 12 (big _ (by decide)) (by decide) (by decide) (by decide) (by decide) (by decide) (by decide), m4 1 5 (by decide) (by decide) (by decide), c10, hc5, nI_1]
    intro he
    exfalso
    rcases hwo with h | ⟨x, x1, x2⟩
    · rw [h] at he
      have := nI_pos (n := cc + 1) (by omega)
      rw [← he] at this
      exact this (by decide)
    · rw [x2] at he
      have := (nI_eq (by omega) (by omega)).mp he
      omega
