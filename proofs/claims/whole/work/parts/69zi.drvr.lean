/-! drives: the class's run -/
theorem thn_assoc (x : Nat × Dv) (f g : Dv → Nat × Dv) : thn (thn x f) g = thn x (fun d => thn (f d) g) := by
  unfold thn
  by_cases h : x.1 = 0
  · rw [if_pos h, if_pos h]
  · rw [if_neg h, if_neg h, if_neg h]
theorem thn_car (w L : Nat → Nat) (x : Nat × Dv) : thn x (carN w L) = thn (thn (thn (thn x (goN w (L 0) true)) (dkN (L 6) (L 7))) (goN w (L 1) false)) (dkN (L 8) (L 9)) := by
  unfold carN
  rw [thn_assoc, thn_assoc, thn_assoc]
  unfold thn
  by_cases h : x.1 = 0
  · simp only [if_pos h]
    split
    · split
      · rfl
      · rfl
    · rfl
  · simp only [if_neg h]
theorem wy_facts {C : Pv} {N : Nat → Int32} (h : cRoad C N) {i : Nat} (hi : i < 64) : wyN N i ≤ 1000000 ∧ fw N i = nI (wyN N i) := by
  obtain ⟨w, w1, w2⟩ := fw_small h hi
  have : wyN N i = w := by unfold wyN; rw [w2, nI_clamp (by omega)]
  rw [this]
  exact ⟨w1, w2⟩
theorem lo_facts {C : Pv} {N : Nat → Int32} (h : cLorry C N) : ∃ n : Nat, n ≤ 6 ∧ N 64 = nI n ∧ C 9 0 = nI n ∧ ∀ l, l < n → ∀ c, c < 7 → loN N l c ≤ lorryMax c ∧ N (70 + 7 * l + c) = nI (loN N l c) ∧ C 9 (1 + l * 7 + c) = nI (loN N l c) := by
  obtain ⟨n, h1, h2, h3, h4⟩ := h
  refine ⟨n, h1, h2, h3, fun l hl c hc => ?_⟩
  obtain ⟨v, v1, v2, v3⟩ := h4 l hl c hc
  have hb : lorryMax c < 2 ^ 31 := by
    rcases (show c = 0 ∨ c = 1 ∨ c = 2 ∨ c = 3 ∨ c = 4 ∨ c = 5 ∨ c = 6 by omega) with rfl | rfl | rfl | rfl | rfl | rfl | rfl <;> decide
  have : loN N l c = v := by unfold loN; rw [v2, nI_clamp (by omega)]
  rw [this]
  exact ⟨v1, v2, v3⟩
theorem ld_facts {C : Pv} {N : Nat → Int32} (h : cLoad C N) : ∃ n : Nat, n ≤ 8 ∧ N 65 = nI n ∧ C 11 0 = nI n ∧ ∀ d, d < n → (∀ c, c < 10 → ldN N d c ≤ loadMax c ∧ N (112 + 11 * d + c) = nI (ldN N d c) ∧ C 11 (1 + d * 11 + c) = nI (ldN N d c)) ∧ C 11 (1 + d * 11 + 10) = N (112 + 11 * d + 10) ∧ (N (112 + 11 * d + 10) = -1 ∨ ∃ g : Nat, g < 6 ∧ N (112 + 11 * d + 10) = nI g) := by
  obtain ⟨n, h1, h2, h3, h4⟩ := h
  refine ⟨n, h1, h2, h3, fun d hd => ⟨fun c hc => ?_, (h4 d hd).2⟩⟩
  obtain ⟨v, v1, v2, v3⟩ := (h4 d hd).1 c hc
  have hb : loadMax c < 2 ^ 31 := by
    rcases (show c = 0 ∨ c = 1 ∨ c = 2 ∨ c = 3 ∨ c = 4 ∨ c = 5 ∨ c = 6 ∨ c = 7 ∨ c = 8 ∨ c = 9 by omega) with rfl | rfl | rfl | rfl | rfl | rfl | rfl | rfl | rfl | rfl <;> decide
  have : ldN N d c = v := by unfold ldN; rw [v2, nI_clamp (by omega)]
  rw [this]
  exact ⟨v1, v2, v3⟩
theorem ld_ok {N : Nat → Int32} {d : Nat} (h : ∀ c, c < 10 → ldN N d c ≤ loadMax c) : LdOk (ldN N d) := by
  have e0 : ldN N d 0 ≤ 7 := h 0 (by decide)
  have e1 : ldN N d 1 ≤ 7 := h 1 (by decide)
  exact ⟨by omega, by omega, h 5 (by decide), h 6 (by decide), h 7 (by decide), h 8 (by decide), h 9 (by decide)⟩
theorem e_carryC {S W : Wd} (hI : Inv S) {w : Nat → Nat} (hw : ∀ i, i < 64 → w i ≤ 1000000 ∧ wI S 7 i = nI (w i)) {m : Nat} (hm : m ≤ 8) (v : wI S 11 0 = nI m) {ld : Nat} (hld : ld < m) {L : Nat → Nat} (hL : LdOk L) (eL : ∀ c, c < 10 → wI S 11 (1 + ld * 11 + c) = nI (L c)) {k : Nat} (hk : k ≤ 10) {x : Nat × Dv} (hA : Ag D12 S W) (hx : DB k x.2) (hd : DC W x.2) (h11 : wI W 12 11 = nI x.1) (hx1 : x.1 ≤ 4) : ∃ W', f_X0_carry W 12 (nI ld) = some W' ∧ Ag D12 S W' ∧ DC W' (thn x (carN w L)).2 ∧ wI W' 12 11 = nI (thn x (carN w L)).1 ∧ wI W' 12 10 = wI W 12 10 + nI (L 5) ∧ (thn x (carN w L)).1 ≤ 4 ∧ DB (k + 4) (thn x (carN w L)).2 := by
  obtain ⟨l0, l1, l5, l6, l7, l8, l9⟩ := id hL
  have hat : ∀ {T : Wd}, Ag D12 S T → ∀ {c}, c < 10 → f_X8_at T 10 (nI ld) (nI c) = some (nI (L c), T) := fun {T} h c hc => by
    have r11 : wI T 11 = wI S 11 := h.arr (by omega)
    rw [e_at (h.inv hI (by omega)) tb10 (show wI T (10 + 1) 0 = nI m by rw [r11]; exact v) hm hld (show c < 11 by omega), show wI T (10 + 1) (1 + ld * 11 + c) = nI (L c) by rw [r11]; exact eL c hc]
  have hA0 : Ag D12 S (sI W 12 10 (wI W 12 10 + nI (L 5))) := hA.trans (Ag.sI ⟨rfl, by omega⟩)
  have hd0 : DC (sI W 12 10 (wI W 12 10 + nI (L 5))) x.2 := by
    obtain ⟨c, t, m, s, d, e, r, q⟩ := x
    obtain ⟨d3, d4, d5, d6, d7, d8, d9⟩ := hd
    exact ⟨(wI_sI_ne (by decide)).trans d3, (wI_sI_ne (by decide)).trans d4, (wI_sI_ne (by decide)).trans d5, (wI_sI_ne (by decide)).trans d6, (wI_sI_ne (by decide)).trans d7, (wI_sI_ne (by decide)).trans d8, (wI_sI_ne (by decide)).trans d9⟩
  obtain ⟨W1, a1, a2, a3, a4, a5, a6⟩ := e_goC hI hw l0 true (show k ≤ 20 by omega) hA0 hx hd0 ((wI_sI_ne (by decide)).trans h11) hx1
  have B1 : DB (k + 1) (thn x (goN w (L 0) true)).2 := thn_ok hx fun d hd => goN_ok l0 hd
  obtain ⟨W2, b1, b2, b3, b4, b5, b6⟩ := e_dockC hI l6 l7 (show k + 1 ≤ 20 by omega) a2 B1 a3 a4 a6
  have B2 : DB (k + 1 + 1) (thn (thn x (goN w (L 0) true)) (dkN (L 6) (L 7))).2 := thn_ok B1 fun d hd => dkN_ok l6 hd
  obtain ⟨W3, c1, c2, c3, c4, c5, c6⟩ := e_goC hI hw l1 false (show k + 1 + 1 ≤ 20 by omega) b2 B2 b3 b4 b6
  have B3 : DB (k + 1 + 1 + 1) (thn (thn (thn x (goN w (L 0) true)) (dkN (L 6) (L 7))) (goN w (L 1) false)).2 := thn_ok B2 fun d hd => goN_ok l1 hd
  obtain ⟨W4, e1, e2, e3, e4, e5, e6⟩ := e_dockC hI l8 l9 (show k + 1 + 1 + 1 ≤ 20 by omega) c2 B3 c3 c4 c6
  have B4 : DB (k + 1 + 1 + 1 + 1) (thn (thn (thn (thn x (goN w (L 0) true)) (dkN (L 6) (L 7))) (goN w (L 1) false)) (dkN (L 8) (L 9))).2 := thn_ok B3 fun d hd => dkN_ok l8 hd
  rw [thn_car]
  refine ⟨W4, ?_, e2, e3, e4, ?_, e6, B4⟩
  · obtain ⟨g65, hG⟩ := id (hA.inv hI (by omega))
    obtain ⟨p0, F0⟩ := id (hA0.inv hI (by omega))
    obtain ⟨p1, F1⟩ := id (a2.inv hI (by omega))
    obtain ⟨p2, F2⟩ := id (b2.inv hI (by omega))
    obtain ⟨p3, F3⟩ := id (c2.inv hI (by omega))
    have y1 := hat hA (show 5 < 10 by decide)
    have y2 := hat hA0 (show 0 < 10 by decide)
    have y3 := hat a2 (show 6 < 10 by decide)
    have y4 := hat a2 (show 7 < 10 by decide)
    have y5 := hat b2 (show 1 < 10 by decide)
    have y6 := hat c2 (show 8 < 10 by decide)
    have y7 := hat c2 (show 9 < 10 by decide)
    rw [if_pos rfl] at a1
    rw [if_neg (by decide)] at c1
    unfold f_X0_carry
    rw [if_neg (fun h => nI_nm1 (k := ld) (by omega) h)]
    simp (decide := true) only [gd_ob g65, hG, Option.bind_some]
    rw [show (5 : Int32) = nI 5 from rfl, y1, bd2_eq, gd_pos (ob_of g65 (by decide) (by decide))]
    unfold ltS
    simp (decide := true) only [gd_ob p0, F0, Option.bind_some]
    rw [show f_X8_at (sI W 12 10 (wI W 12 10 + nI (L 5))) 10 (nI ld) 0 = _ from y2, bd2_eq, gd_pos (ob_of p0 (by decide) (by decide)), a1, Option.bind_some]
    simp (decide := true) only [gd_ob p1, F1, Option.bind_some]
    rw [show f_X8_at W1 10 (nI ld) 6 = _ from y3, bd2_eq]
    simp (decide := true) only [gd_ob p1, F1, Option.bind_some]
    rw [show f_X8_at W1 10 (nI ld) 7 = _ from y4, bd2_eq, gd_pos (ob_of p1 (by decide) (by decide)), b1, Option.bind_some]
    simp (decide := true) only [gd_ob p2, F2, Option.bind_some]
    rw [show f_X8_at W2 10 (nI ld) 1 = _ from y5, bd2_eq, gd_pos (ob_of p2 (by decide) (by decide)), c1, Option.bind_some]
    simp (decide := true) only [gd_ob p3, F3, Option.bind_some]
    rw [show f_X8_at W3 10 (nI ld) 8 = _ from y6, bd2_eq]
    simp (decide := true) only [gd_ob p3, F3, Option.bind_some]
    rw [show f_X8_at W3 10 (nI ld) 9 = _ from y7, bd2_eq, gd_pos (ob_of p3 (by decide) (by decide)), e1, Option.bind_some]
  · rw [e5, c5, b5, a5, wI_sI_eq]
