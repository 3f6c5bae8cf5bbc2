/-! drives: run -/
abbrev DR (a k : Nat) : Prop := (a = 12 ∧ 3 ≤ k) ∨ a = 7 ∨ (a = 5 ∧ k = 3)
def opLt (m : Nat) : Option Nat → Prop
  | none => True
  | some a => a < m
theorem e_crC {S W : Wd} (hI : Inv S) {w : Nat → Nat} (hw : ∀ i, i < 64 → w i ≤ 1000000 ∧ wI S 7 i = nI (w i)) {m : Nat} (hm : m ≤ 8) (v : wI S 11 0 = nI m) {Ld : Nat → Nat → Nat} (hL : ∀ d, d < m → LdOk (Ld d)) (eL : ∀ d, d < m → ∀ c, c < 10 → wI S 11 (1 + d * 11 + c) = nI (Ld d c)) {k : Nat} (hk : k ≤ 10) {x : Nat × Dv} (hA : Ag D12 S W) (hx : DB k x.2) (hd : DC W x.2) (h11 : wI W 12 11 = nI x.1) (hx1 : x.1 ≤ 4) {o : Option Nat} (ho : opLt m o) : ∃ W', f_X0_carry W 12 (ans o) = some W' ∧ Ag D12 S W' ∧ DC W' (crN w Ld o x).2 ∧ wI W' 12 11 = nI (crN w Ld o x).1 ∧ wI W' 12 10 = wI W 12 10 + nI (pyO Ld o) ∧ (crN w Ld o x).1 ≤ 4 ∧ DB (k + 4) (crN w Ld o x).2 := by
  cases o with
  | none => exact ⟨W, rfl, hA, hd, h11, (Int32.add_zero _).symm, hx1, hx.up.up.up.up⟩
  | some a => exact e_carryC hI hw hm v ho (hL a ho) (eL a ho) hk hA hx hd h11 hx1
theorem e_runC {S : Wd} (hM : MOk S) (hlo : cLorry (wI S) (wI S 49)) (hld : cLoad (wI S) (wI S 49)) {n m l : Nat} (hn : wI S 49 64 = nI n) (hn6 : n ≤ 6) (hm : wI S 49 65 = nI m) (hm8 : m ≤ 8) (hl : l < n) {one two : Option Nat} (h1 : opLt m one) (h2 : opLt m two) : ∃ W, f_X0_run S 12 (nI l) (ans one) (ans two) = some (nI (runN (wyN (wI S 49)) (loN (wI S 49) l) (ldN (wI S 49)) one two).1, W) ∧ Ag DR S W ∧ wI W 5 3 = wI S 1 5 ∧ (∀ i, i < 64 → wI W 7 i = fw (wI S 49) i) ∧ DC W (runN (wyN (wI S 49)) (loN (wI S 49) l) (ldN (wI S 49)) one two).2 ∧ wI W 12 10 = nI (pyO (ldN (wI S 49)) one + pyO (ldN (wI S 49)) two) ∧ DB 10 (runN (wyN (wI S 49)) (loN (wI S 49) l) (ldN (wI S 49)) one two).2 ∧ (runN (wyN (wI S 49)) (loN (wI S 49) l) (ldN (wI S 49)) one two).1 ≤ 4 := by
  obtain ⟨hI, hro, -⟩ := id hM
  obtain ⟨h65, hF⟩ := id hI
  obtain ⟨n', n6, nu, nv, nl⟩ := lo_facts hlo
  obtain ⟨m', m8, mu, mv, ml⟩ := ld_facts hld
  have en : n' = n := (nI_eq (by omega) (by omega)).mp (nu.symm.trans hn)
  have em : m' = m := (nI_eq (by omega) (by omega)).mp (mu.symm.trans hm)
  subst en em
  obtain ⟨W, w1, w2, w3, w4⟩ := e_measure hM
  have hIW := w2.inv hI (by omega)
  obtain ⟨W65, hWF⟩ := id hIW
  have r9 : wI W 9 = wI S 9 := w2.arr (by omega)
  have r11 : wI W 11 = wI S 11 := w2.arr (by omega)
  have hw : ∀ i, i < 64 → wyN (wI S 49) i ≤ 1000000 ∧ wI W 7 i = nI (wyN (wI S 49) i) := fun i hi => by
    obtain ⟨f1, f2⟩ := wy_facts hro hi
    exact ⟨f1, by rw [w4 i hi, f2]⟩
  have hat : ∀ {T : Wd}, Ag D12 W T → ∀ {c}, c < 7 → f_X8_at T 8 (nI l) (nI c) = some (nI (loN (wI S 49) l c), T) := fun {T} h c hc => by
    have q9 : wI T 9 = wI S 9 := (h.arr (by omega)).trans r9
    rw [e_at (h.inv hIW (by omega)) tb8 (show wI T (8 + 1) 0 = nI n' by rw [q9]; exact nv) n6 hl (show c < 7 from hc), show wI T (8 + 1) (1 + l * 7 + c) = nI (loN (wI S 49) l c) by rw [q9]; exact (nl l hl c hc).2.2]
  have lo1 : loN (wI S 49) l 1 ≤ 7 := (nl l hl 1 (by decide)).1
  have lo2 : loN (wI S 49) l 2 ≤ 2000 := (nl l hl 2 (by decide)).1
  have lo3 : loN (wI S 49) l 3 ≤ 7 := (nl l hl 3 (by decide)).1
  have lo4 : loN (wI S 49) l 4 ≤ 4000 := (nl l hl 4 (by decide)).1
  generalize loN (wI S 49) l = Lo at *
  have hL : ∀ d, d < m' → LdOk (ldN (wI S 49) d) := fun d hd => ld_ok fun c hc => ((ml d hd).1 c hc).1
  have eL : ∀ d, d < m' → ∀ c, c < 10 → wI W 11 (1 + d * 11 + c) = nI (ldN (wI S 49) d c) := fun d hd c hc => by rw [r11]; exact ((ml d hd).1 c hc).2.2
  generalize ldN (wI S 49) = Ld at *
  generalize wyN (wI S 49) = wy at *
  have hA3 : Ag D12 W (sI W 12 3 (nI (Lo 1))) := Ag.sI ⟨rfl, by omega⟩
  have hS : ∃ T, T = sI (sI (sI (sI (sI (sI (sI (sI (sI W 12 3 (nI (Lo 1))) 12 4 (nI (Lo 2))) 12 5 0) 12 6 0) 12 7 0) 12 8 0) 12 9 0) 12 10 0) 12 11 0 := ⟨_, rfl⟩
  obtain ⟨T, eT⟩ := hS
  have hAT : Ag D12 W T := by
    rw [eT]
    exact ((((((((Ag.sI ⟨rfl, by omega⟩).trans (Ag.sI ⟨rfl, by omega⟩)).trans (Ag.sI ⟨rfl, by omega⟩)).trans (Ag.sI ⟨rfl, by omega⟩)).trans (Ag.sI ⟨rfl, by omega⟩)).trans (Ag.sI ⟨rfl, by omega⟩)).trans (Ag.sI ⟨rfl, by omega⟩)).trans (Ag.sI ⟨rfl, by omega⟩)).trans (Ag.sI ⟨rfl, by omega⟩)
  have hDT : DC T (Lo 1, Lo 2, 0, 0, 0, 0, 0) := by
    rw [eT]
    refine ⟨?_, ?_, ?_, ?_, ?_, ?_, ?_⟩ <;> simp (decide := true) only [wI_sI, if_true, if_false] <;> rfl
  have hT11 : wI T 12 11 = nI 0 := by rw [eT, wI_sI_eq]; rfl
  have hT10 : wI T 12 10 = nI 0 := by rw [eT, wI_sI_ne (by decide), wI_sI_eq]; rfl
  have hB0 : DB 0 (Lo 1, Lo 2, 0, 0, 0, 0, 0) := ⟨by omega, by omega, by omega, by omega, by omega, by omega, by omega⟩
  obtain ⟨W1, a1, a2, a3, a4, a5, a6, a7⟩ := e_crC hIW hw m8 (by rw [r11]; exact mv) hL eL (show 0 ≤ 10 by decide) (x := (0, Lo 1, Lo 2, 0, 0, 0, 0, 0)) hAT hB0 hDT hT11 (by show 0 ≤ 4; decide) h1
  obtain ⟨W2, b1, b2, b3, b4, b5, b6, b7⟩ := e_crC hIW hw m8 (by rw [r11]; exact mv) hL eL (show 0 + 4 ≤ 10 by decide) a2 a7 a3 a4 a6 h2
  obtain ⟨W3, c1, c2, c3, c4, c5, c6⟩ := e_goC hIW hw (show Lo 3 < 8 by omega) true (show 0 + 4 + 4 ≤ 20 by decide) b2 b7 b3 b4 b6
  have B3 : DB (0 + 4 + 4 + 1) (thn (crN wy Ld two (crN wy Ld one (0, Lo 1, Lo 2, 0, 0, 0, 0, 0))) (goN wy (Lo 3) true)).2 := thn_ok b7 fun d hd => goN_ok (by omega) hd
  rw [if_pos rfl] at c1
  have hearn : wI W3 12 10 = nI (pyO Ld one + pyO Ld two) := by rw [c5, b5, a5, hT10, nI_add, nI_add, Nat.zero_add]
  unfold runN
  generalize thn (crN wy Ld two (crN wy Ld one (0, Lo 1, Lo 2, 0, 0, 0, 0, 0))) (goN wy (Lo 3) true) = z at *
  have hrun : f_X0_run S 12 (nI l) (ans one) (ans two) = if nI z.1 = 0 then (if nI z.2.2.1 ≤ nI (Lo 4) then some (nI z.1, W3) else some (4, sI W3 12 11 4)) else some (nI z.1, W3) := by
    obtain ⟨p1, F1⟩ := id (a2.inv hIW (by omega))
    obtain ⟨p2, F2⟩ := id (b2.inv hIW (by omega))
    obtain ⟨p3, F3⟩ := id (c2.inv hIW (by omega))
    obtain ⟨pT, FT⟩ := id (hAT.inv hIW (by omega))
    have y1 := hat (Ag.rf (S := W)) (show 1 < 7 by decide)
    have y2 := hat hA3 (show 2 < 7 by decide)
    have y3 := hat b2 (show 3 < 7 by decide)
    have y4 := hat c2 (show 4 < 7 by decide)
    have z4 : wI W3 12 4 = nI z.2.2.1 := by
      obtain ⟨c, t, m, s, d, e, r, q⟩ := z
      exact c3.2.1
    unfold f_X0_run
    simp (decide := true) only [gd_ob h65, hF, Option.bind_some, w1, gd_ob W65, hWF]
    rw [show f_X8_at W 8 (nI l) 1 = _ from y1, bd2_eq, gd_pos (ob_of W65 (by decide) (by decide))]
    unfold ltS
    simp (decide := true) only [gd_ob (show 65 ≤ wn (sI W 12 3 (nI (Lo 1))) from W65), wO_sI, hWF, Option.bind_some]
    rw [show f_X8_at (sI W 12 3 (nI (Lo 1))) 8 (nI l) 2 = _ from y2, bd2_eq]
    simp (decide := true) only [gd_ob (show 65 ≤ wn (sI W 12 3 (nI (Lo 1))) from W65), gd_ob (show 65 ≤ wn (sI (sI W 12 3 (nI (Lo 1))) 12 4 (nI (Lo 2))) from W65), gd_ob (show 65 ≤ wn (sI (sI (sI W 12 3 (nI (Lo 1))) 12 4 (nI (Lo 2))) 12 5 0) from W65), gd_ob (show 65 ≤ wn (sI (sI (sI (sI W 12 3 (nI (Lo 1))) 12 4 (nI (Lo 2))) 12 5 0) 12 6 0) from W65), gd_ob (show 65 ≤ wn (sI (sI (sI (sI (sI W 12 3 (nI (Lo 1))) 12 4 (nI (Lo 2))) 12 5 0) 12 6 0) 12 7 0) from W65), gd_ob (show 65 ≤ wn (sI (sI (sI (sI (sI (sI W 12 3 (nI (Lo 1))) 12 4 (nI (Lo 2))) 12 5 0) 12 6 0) 12 7 0) 12 8 0) from W65), gd_ob (show 65 ≤ wn (sI (sI (sI (sI (sI (sI (sI W 12 3 (nI (Lo 1))) 12 4 (nI (Lo 2))) 12 5 0) 12 6 0) 12 7 0) 12 8 0) 12 9 0) from W65), gd_ob (show 65 ≤ wn (sI (sI (sI (sI (sI (sI (sI (sI W 12 3 (nI (Lo 1))) 12 4 (nI (Lo 2))) 12 5 0) 12 6 0) 12 7 0) 12 8 0) 12 9 0) 12 10 0) from W65), ← eT]
    simp (decide := true) only [gd_ob pT, a1, Option.bind_some, gd_ob p1, b1, gd_ob p2, F2]
    rw [show f_X8_at W2 8 (nI l) 3 = _ from y3, bd2_eq, gd_pos (ob_of p2 (by decide) (by decide)), c1, Option.bind_some, gd_pos (ob_of p3 (by decide) (by decide)), c4]
    simp (decide := true) only [gd_ob p3, F3, Option.bind_some, show f_X8_at W3 8 (nI l) 4 = _ from y4, bd2_eq, z4, c4, gd_ob (show 65 ≤ wn (sI W3 12 11 4) from p3), wI_sI_eq]
  have hAll : Ag DR S W3 := (w2.mono (fun a k h => Or.inr h)).trans (c2.mono (fun a k h => Or.inl h))
  have k5 : wI W3 5 3 = wI S 1 5 := (c2.2.2.2 5 3 (by omega)).trans w3
  have k7 : ∀ i, i < 64 → wI W3 7 i = fw (wI S 49) i := fun i hi => (c2.2.2.2 7 i (by omega)).trans (w4 i hi)
  have B3' : DB 10 z.2 := B3.up
  rw [hrun]
  unfold enN
  by_cases hz : z.1 = 0
  · rw [if_pos (show nI z.1 = 0 by rw [hz]; rfl), if_pos hz]
    have hzb : z.2.2.1 ≤ 4000 + 700 * 9 := by
      obtain ⟨c, t, m, s, d, e, r, q⟩ := z
      exact B3.2.1
    by_cases hb : z.2.2.1 ≤ Lo 4
    · rw [if_pos (nI_le hb (by omega)), if_pos hb]
      exact ⟨W3, rfl, hAll, k5, k7, c3, hearn, B3', c6⟩
    · rw [if_neg (nI_ge (by omega) (by omega)), if_neg hb]
      refine ⟨sI W3 12 11 4, rfl, hAll.trans (Ag.sI (Or.inl ⟨rfl, by omega⟩)), (wI_sI_ne (by decide)).trans k5, fun i hi => (wI_sI_ne (by omega)).trans (k7 i hi), ?_, (wI_sI_ne (by decide)).trans hearn, B3', by show 4 ≤ 4; decide⟩
      obtain ⟨c, t, m, s, d, e, r, q⟩ := z
      obtain ⟨d3, d4, d5, d6, d7, d8, d9⟩ := c3
      exact ⟨(wI_sI_ne (by decide)).trans d3, (wI_sI_ne (by decide)).trans d4, (wI_sI_ne (by decide)).trans d5, (wI_sI_ne (by decide)).trans d6, (wI_sI_ne (by decide)).trans d7, (wI_sI_ne (by decide)).trans d8, (wI_sI_ne (by decide)).trans d9⟩
  · rw [if_neg (nI_ne0 (by omega) (by omega)), if_neg hz]
    exact ⟨W3, rfl, hAll, k5, k7, c3, hearn, B3', c6⟩
