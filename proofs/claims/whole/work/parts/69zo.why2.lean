/-! sim_why, sim_drive -/
theorem rfN_or (N : Nat → Int32) (l : Nat) (one two : Option Nat) : rfN N l one two = 0 ∨ rfN N l one two < -99999 := by
  cases one with
  | none =>
    cases two with
    | none => exact Or.inl rfl
    | some b => exact Or.inr (by show (-100001 : Int32) < -99999; decide)
  | some a =>
    cases two with
    | none =>
      show (if fitI N l a = 0 then (-100004 : Int32) else 0) = 0 ∨ (if fitI N l a = 0 then (-100004 : Int32) else 0) < -99999
      split
      · exact Or.inr (by decide)
      · exact Or.inl rfl
    | some b =>
      show (if a = b then (-100001 : Int32) else if fitI N l a = 0 then -100004 else if fitI N l b = 0 then -100004 else 0) = 0 ∨ (if a = b then (-100001 : Int32) else if fitI N l a = 0 then -100004 else if fitI N l b = 0 then -100004 else 0) < -99999
      split
      · exact Or.inr (by decide)
      · split
        · exact Or.inr (by decide)
        · split
          · exact Or.inr (by decide)
          · exact Or.inl rfl
theorem rfN_12 {N : Nat → Int32} {l : Nat} {one two : Option Nat} (h : rfN N l one two = 0) : one = none → two = none := by
  rintro rfl
  cases two with
  | none => rfl
  | some b =>
    have h' : (-100001 : Int32) = 0 := h
    exact absurd h' (by decide)
theorem rel_run {j : Nat} {S W : Wd} (hR : Rel j S) (hA : Ag DR S W) (h5 : wI W 5 3 = wI S 1 5) (h7 : ∀ i, i < 64 → wI W 7 i = fw (wI S 49) i) : Rel j W := by
  have hT : Ag (fun a k => a = 7 ∨ (a = 5 ∧ k = 3)) S (sI (sA S 7 (wI W 7)) 5 3 (wI W 5 3)) := (Ag.sA (fun _ => Or.inl rfl)).trans (Ag.sI (Or.inr ⟨rfl, rfl⟩))
  have hRT : Rel j (sI (sA S 7 (wI W 7)) 5 3 (wI W 5 3)) := rel_ways hR hT (wI_sI_eq.trans h5) (fun i hi => by rw [wI_sI_ne (by omega), wI_sA, if_pos rfl]; exact h7 i hi)
  refine rel_qy hRT (Ag.qy (D := fun a k => a = 12 ∧ 3 ≤ k) ⟨hA.1, hA.2.1, hA.2.2.1, fun a k hk => ?_⟩ ?_)
  · rw [wI_sI]
    by_cases h5' : a = 5 ∧ k = 3
    · rw [if_pos h5'.1, if_pos h5'.2, h5'.1, h5'.2]
    · have e1 : (if a = 5 then (if k = 3 then wI W 5 3 else wI (sA S 7 (wI W 7)) a k) else wI (sA S 7 (wI W 7)) a k) = wI (sA S 7 (wI W 7)) a k := by
        by_cases q : a = 5
        · rw [if_pos q, if_neg (fun q2 => h5' ⟨q, q2⟩)]
        · rw [if_neg q]
      rw [e1, wI_sA]
      by_cases h7' : a = 7
      · rw [if_pos h7', h7']
      · rw [if_neg h7']
        exact hA.2.2.2 a k (by omega)
  · rintro a k ⟨rfl, h⟩
    have : ∀ k : Nat, keepc 12 k = false := fun k => rfl
    exact this k
/-- both sides drive: the class from S, the reference from any world with the same row -/
theorem rel_drive {j : Nat} {S : Wd} (hR : Rel j S) {n m l : Nat} (hn : wI S 49 64 = nI n) (hn6 : n ≤ 6) (hm : wI S 49 65 = nI m) (hm8 : m ≤ 8) (hl : l < n) {one two : Option Nat} (h1 : opLt m one) (h2 : opLt m two) (h12 : one = none → two = none) : ∃ (c : Nat) (d : Dv) (W : Wd), c ≤ 4 ∧ DB 10 d ∧ f_X0_run S 12 (nI l) (ans one) (ans two) = some (nI c, W) ∧ Rel j W ∧ wI W 49 = wI S 49 ∧ DC W d ∧ wI W 12 10 = nI (pyO (ldN (wI S 49)) one + pyO (ldN (wI S 49)) two) ∧ ∀ {V : Wd}, Inv V → wI V 49 = wI S 49 → ∃ V1 V2, f_X12_findFar V 48 = some V1 ∧ Inv V1 ∧ f_X12_drives V1 48 (nI l) (ans one) (ans two) = some (nI c, V2) ∧ Ag (fun a k => a = 54 ∨ D48 a k) V V2 ∧ DM V2 d := by
  have hI := hR.1
  obtain ⟨hro, hlo, hld, -⟩ := rel_core hR
  obtain ⟨W, w1, w2, w3, w4, w5, w6, w7, w8⟩ := e_runC (rel_mok hR) hlo hld hn hn6 hm hm8 hl h1 h2
  obtain ⟨n', n6, nu, nv, nl⟩ := lo_facts hlo
  obtain ⟨m', m8, mu, mv, ml⟩ := ld_facts hld
  have en : n' = n := (nI_eq (by omega) (by omega)).mp (nu.symm.trans hn)
  have em : m' = m := (nI_eq (by omega) (by omega)).mp (mu.symm.trans hm)
  subst en em
  refine ⟨_, _, W, w8, w7, w1, rel_run hR w2 w3 w4, w2.arr (by omega), w5, w6, ?_⟩
  intro V hV e
  obtain ⟨V1, v1, v2, v3⟩ := e_findFar hV
  have hV1 := v2.inv hV (by omega)
  have e1 : wI V1 49 = wI S 49 := (v2.arr (by omega)).trans e
  rw [e] at v3
  obtain ⟨V2, x1, x2, x3⟩ := e_drivesM hV1 (w := wyN (wI S 49)) (fun i hi => ⟨(wy_facts hro hi).1, (v3 i hi).trans (wy_facts hro hi).2⟩) (show l < 6 by omega) (Lo := loN (wI S 49) l) (nl l hl 1 (by decide)).1 (nl l hl 2 (by decide)).1 (nl l hl 3 (by decide)).1 (nl l hl 4 (by decide)).1 (fun c hc => by rw [e1]; exact (nl l hl c hc).2.1) m8 (Ld := ldN (wI S 49)) (fun d hd => ld_ok fun c hc => ((ml d hd).1 c hc).1) (fun d hd c hc => by rw [e1]; exact ((ml d hd).1 c hc).2.1) h1 h2 h12
  exact ⟨V1, V2, v1, hV1, x1, (v2.mono (fun a k h => Or.inl h)).trans (x2.mono (fun a k h => Or.inr h)), x3⟩
theorem q5448 : ∀ a k, (fun (a k : Nat) => a = 54 ∨ D48 a k) a k → keepc a k = false := by
  rintro a k (rfl | ⟨rfl, h1, h2⟩)
  · rfl
  · rcases (show k = 8 ∨ k = 9 ∨ k = 10 ∨ k = 11 ∨ k = 12 ∨ k = 13 ∨ k = 14 by omega) with rfl | rfl | rfl | rfl | rfl | rfl | rfl <;> rfl
theorem sim_why {j : Nat} {S : Wd} (hR : Rel j S) (hj : j < 512) (a1 a2 a3 : Int32) : ∃ r S1 S2, f_X11_why S 0 a1 a2 a3 = some (r, S1) ∧ 48 < wn S1 ∧ f_X12_why S1 48 a1 a2 a3 = some (r, S2) ∧ Rel (j + 1) S2 := by
  have hI := hR.1
  obtain ⟨h65, hF⟩ := id hI
  obtain ⟨hro, hlo, hld, -⟩ := rel_core hR
  obtain ⟨n, hn6, nu, nv, -⟩ := id hlo
  obtain ⟨m, hm8, mu, mv, -⟩ := id hld
  have bad : ∀ (x : Int32), x < -99999 → f_X11_findingOfRow S 0 a1 a2 a3 = some (x, S) → (∀ {V : Wd}, Inv V → wI V 49 = wI S 49 → f_X12_refused V 48 a1 a2 a3 = some (x, V)) → ∃ r S1 S2, f_X11_why S 0 a1 a2 a3 = some (r, S1) ∧ 48 < wn S1 ∧ f_X12_why S1 48 a1 a2 a3 = some (r, S2) ∧ Rel (j + 1) S2 := by
    intro x hx q1 q2
    have hx0 : ¬ x = 0 := fun h => by rw [h] at hx; exact absurd hx (by decide)
    obtain ⟨g65, hG⟩ := id (hI.tl (v := x))
    refine ⟨x, _, _, ?_, tl_w48 (v := x) hR, ?_, rel_fin (v := x) hR hx⟩
    · unfold f_X11_why
      rw [gd_pos (ob_of h65 (by decide) (by decide)), q1, bd2_eq, if_neg hx0, gd_pos (ob_of h65 (by decide) (by decide)), e_told h65, bd2_eq]
    · unfold f_X12_why
      rw [gd_pos (ob_of g65 (by decide) (by decide)), q2 hI.tl (tl_arr (by decide)), bd2_eq, if_neg hx0, gd_pos (ob_of g65 (by decide) (by decide)), e_finding g65, bd2_eq]
  have badX : (¬ (0 ≤ a1 ∧ a1 < nI n) ∨ (¬ a2 = -1 ∧ ¬ (0 ≤ a2 ∧ a2 < nI m)) ∨ (¬ a3 = -1 ∧ ¬ (0 ≤ a3 ∧ a3 < nI m))) → ∃ r S1 S2, f_X11_why S 0 a1 a2 a3 = some (r, S1) ∧ 48 < wn S1 ∧ f_X12_why S1 48 a1 a2 a3 = some (r, S2) ∧ Rel (j + 1) S2 := fun h => bad (-100001) (by decide) (e_refX hI nv mv h) (fun hV e => e_refY hV (by rw [e]; exact nu) hn6 (by rw [e]; exact mu) hm8 h)
  rcases op_cases (m := m) (by omega) a2 with ⟨one, h1, rfl⟩ | h2x
  · rcases op_cases (m := m) (by omega) a3 with ⟨two, h2, rfl⟩ | h3x
    · by_cases o1 : 0 ≤ a1 ∧ a1 < nI n
      · obtain ⟨l, hl, rfl⟩ := nat_lt o1.1 o1.2 (by omega)
        have qC := e_refC hI hlo hld nu hn6 mu hm8 hl h1 h2
        have qM : ∀ {V : Wd}, Inv V → wI V 49 = wI S 49 → f_X12_refused V 48 (nI l) (ans one) (ans two) = some (rfN (wI S 49) l one two, V) := fun hV e => by
          rw [e_refM hV (by rw [e]; exact nu) hn6 (by rw [e]; exact mu) hm8 hl h1 h2, e]
        rcases rfN_or (wI S 49) l one two with h0 | hlt
        · rw [h0] at qC
          obtain ⟨c, d, W, c4, dB, w1, w2, w3, w4, w5, w6⟩ := rel_drive hR nu hn6 mu hm8 hl h1 h2 (rfN_12 h0)
          obtain ⟨W65, hWF⟩ := id w2.1
          obtain ⟨V1, V2, v1, v2, v3, v4, v5⟩ := w6 w2.1 w3
          refine ⟨nI c, W, V2, ?_, by omega, ?_, rel_up (rel_qy w2 (v4.qy q5448))⟩
          · unfold f_X11_why
            rw [gd_pos (ob_of h65 (by decide) (by decide)), qC, bd2_eq, if_pos rfl]
            simp (decide := true) only [gd_ob h65, hF, Option.bind_some, w1, bd2_eq, gd_ob W65, e_told W65]
            rw [tl_ge (nI_nofind (by omega))]
          · unfold f_X12_why
            rw [gd_pos (ob_of W65 (by decide) (by decide)), qM w2.1 w3, bd2_eq, h0, if_pos rfl, gd_pos (ob_of W65 (by decide) (by decide)), v1, Option.bind_some, gd_pos (ob_of v2.1 (by decide) (by decide)), v3, bd2_eq]
        · exact bad _ hlt qC qM
      · exact badX (Or.inl o1)
    · exact badX (Or.inr (Or.inr h3x))
  · exact badX (Or.inr (Or.inl h2x))
theorem e_payOf {V : Wd} (hI : Inv V) {m : Nat} (hm : m ≤ 8) {Ld : Nat → Nat → Nat} (eL : ∀ d, d < m → wI V 49 (112 + 11 * d + 5) = nI (Ld d 5)) {o : Option Nat} (ho : opLt m o) : f_X12_payOf V 48 (ans o) = some (nI (pyO Ld o), V) := by
  obtain ⟨h65, hF⟩ := id hI
  unfold f_X12_payOf
  cases o with
  | none => rfl
  | some a =>
    have ha : a < m := ho
    rw [if_pos (show 0 ≤ ans (some a) from nI_pos' (by omega))]
    simp (decide := true) only [gd_ob h65, hF, Option.bind_some, show f_X12_ofLoad V (ans (some a)) 5 = _ from e_ofLoad (a := a) (c := 5), bd2_eq]
    rw [gd_pos (rdN h65 (by omega)), nI_clamp (by omega), eL a ha]
    rfl
theorem e_valueOf {V : Wd} (hI : Inv V) {m : Nat} (hm : m ≤ 8) {Ld : Nat → Nat → Nat} (eL : ∀ d, d < m → wI V 49 (112 + 11 * d + 5) = nI (Ld d 5)) {one two : Option Nat} (h1 : opLt m one) (h2 : opLt m two) (h12 : one = none → two = none) : f_X12_valueOf V 48 (ans one) (ans two) = some (nI (pyO Ld one + pyO Ld two) - wI V 48 11, V) := by
  obtain ⟨h65, hF⟩ := id hI
  unfold f_X12_valueOf
  rw [gd_pos (ob_of h65 (by decide) (by decide)), e_payOf hI hm eL h1, bd2_eq]
  cases one with
  | none =>
    rw [if_neg (show ¬ 0 ≤ ans none by decide), gd_pos (ob_of h65 (by decide) (by decide)), h12 rfl]
    rfl
  | some a =>
    have ha : a < m := h1
    rw [if_pos (show 0 ≤ ans (some a) from nI_pos' (by omega)), gd_pos (ob_of h65 (by decide) (by decide)), e_payOf hI hm eL h2, bd2_eq, gd_pos (ob_of h65 (by decide) (by decide)), nI_add]
theorem val_lo {p e : Nat} (hp : p ≤ 100000) (he : e ≤ 540) : (-99999 : Int32) ≤ nI p - nI e := by
  rw [Int32.le_iff_toInt_le, i32_sub (by rw [nI_toInt (by omega), nI_toInt (by omega)]; omega) (by rw [nI_toInt (by omega), nI_toInt (by omega)]; omega), nI_toInt (by omega), nI_toInt (by omega)]
  have : (-99999 : Int32).toInt = -99999 := by decide
  rw [this]
  omega
theorem pyO_le {Ld : Nat → Nat → Nat} {m : Nat} (hL : ∀ d, d < m → LdOk (Ld d)) {o : Option Nat} (ho : opLt m o) : pyO Ld o ≤ 9999 := by
  cases o with
  | none => show 0 ≤ 9999; decide
  | some a => exact (hL a ho).2.2.1
theorem sim_drive {j : Nat} {S : Wd} (hR : Rel j S) (hj : j < 512) (a1 a2 a3 a4 : Int32) : ∃ r S1 S2, f_X11_drive S 0 a1 a2 a3 a4 = some (r, S1) ∧ 48 < wn S1 ∧ f_X12_drive S1 48 a1 a2 a3 a4 = some (r, S2) ∧ Rel (j + 1) S2 := by
  have hI := hR.1
  obtain ⟨h65, hF⟩ := id hI
  obtain ⟨hro, hlo, hld, -⟩ := rel_core hR
  obtain ⟨n, hn6, nu, nv, -⟩ := id hlo
  obtain ⟨m, hm8, mu, mv, ml⟩ := ld_facts hld
  have bad : ∀ (x : Int32), x < -99999 → f_X11_findingOfRow S 0 a1 a2 a3 = some (x, S) → (∀ {V : Wd}, Inv V → wI V 49 = wI S 49 → f_X12_refused V 48 a1 a2 a3 = some (x, V)) → ∃ r S1 S2, f_X11_drive S 0 a1 a2 a3 a4 = some (r, S1) ∧ 48 < wn S1 ∧ f_X12_drive S1 48 a1 a2 a3 a4 = some (r, S2) ∧ Rel (j + 1) S2 := by
    intro x hx q1 q2
    have hx0 : ¬ x = 0 := fun h => by rw [h] at hx; exact absurd hx (by decide)
    obtain ⟨g65, hG⟩ := id (hI.tl (v := x))
    refine ⟨x, _, _, ?_, tl_w48 (v := x) hR, ?_, rel_fin (v := x) hR hx⟩
    · unfold f_X11_drive
      rw [gd_pos (ob_of h65 (by decide) (by decide)), q1, bd2_eq, if_neg hx0, gd_pos (ob_of h65 (by decide) (by decide)), e_told h65, bd2_eq]
    · unfold f_X12_drive
      rw [gd_pos (ob_of g65 (by decide) (by decide)), q2 hI.tl (tl_arr (by decide)), bd2_eq, if_neg hx0, gd_pos (ob_of g65 (by decide) (by decide)), e_finding g65, bd2_eq]
  have badX : (¬ (0 ≤ a1 ∧ a1 < nI n) ∨ (¬ a2 = -1 ∧ ¬ (0 ≤ a2 ∧ a2 < nI m)) ∨ (¬ a3 = -1 ∧ ¬ (0 ≤ a3 ∧ a3 < nI m))) → ∃ r S1 S2, f_X11_drive S 0 a1 a2 a3 a4 = some (r, S1) ∧ 48 < wn S1 ∧ f_X12_drive S1 48 a1 a2 a3 a4 = some (r, S2) ∧ Rel (j + 1) S2 := fun h => bad (-100001) (by decide) (e_refX hI nv mv h) (fun hV e => e_refY hV (by rw [e]; exact nu) hn6 (by rw [e]; exact mu) hm8 h)
  rcases op_cases (m := m) (by omega) a2 with ⟨one, h1, rfl⟩ | h2x
  · rcases op_cases (m := m) (by omega) a3 with ⟨two, h2, rfl⟩ | h3x
    · by_cases o1 : 0 ≤ a1 ∧ a1 < nI n
      · obtain ⟨l, hl, rfl⟩ := nat_lt o1.1 o1.2 (by omega)
        have qC := e_refC hI hlo hld nu hn6 mu hm8 hl h1 h2
        have qM : ∀ {V : Wd}, Inv V → wI V 49 = wI S 49 → f_X12_refused V 48 (nI l) (ans one) (ans two) = some (rfN (wI S 49) l one two, V) := fun hV e => by
          rw [e_refM hV (by rw [e]; exact nu) hn6 (by rw [e]; exact mu) hm8 hl h1 h2, e]
        rcases rfN_or (wI S 49) l one two with h0 | hlt
        · rw [h0] at qC
          by_cases o4 : 0 ≤ a4 ∧ a4 ≤ 5
          · obtain ⟨c, d, W, c4, dB, w1, w2, w3, w4, w5, w6⟩ := rel_drive hR nu hn6 mu hm8 hl h1 h2 (rfN_12 h0)
            have hIW := w2.1
            obtain ⟨W65, hWF⟩ := id hIW
            by_cases hc : c = 0
            · obtain ⟨V1, V2, v1, v2, v3, v4, v5⟩ := w6 hIW w3
              have hV2 : Inv V2 := v4.inv hIW (by omega)
              obtain ⟨V65, hVF⟩ := id hV2
              have e49 : wI V2 49 = wI S 49 := (v4.arr (by omega)).trans w3
              obtain ⟨t, mi, s, dr, e, r, q⟩ := d
              obtain ⟨d3, d4, d5, d6, d7, d8, d9⟩ := w4
              obtain ⟨m14, m8', m9, m10, m11, m12, m13⟩ := v5
              obtain ⟨b1, b2, b3, b4, b5, b6, b7⟩ := dB
              have hL : ∀ d, d < m → LdOk (ldN (wI S 49) d) := fun d hd => ld_ok fun c hc => ((ml d hd).1 c hc).1
              have hval := e_valueOf hV2 hm8 (Ld := ldN (wI S 49)) (fun d hd => by rw [e49]; exact ((ml d hd).1 5 (by decide)).2.1) h1 h2 (rfN_12 h0)
              rw [m11] at hval
              have hp1 := pyO_le hL h1
              have hp2 := pyO_le hL h2
              have hp3 : pyO (ldN (wI S 49)) one + pyO (ldN (wI S 49)) two ≤ 19998 := by omega
              generalize pyO (ldN (wI S 49)) one + pyO (ldN (wI S 49)) two = P at *
              have fin : ∀ (x : Int32), (-99999 : Int32) ≤ x → f_X0_tells W 12 a4 = some (x, W) → (if a4 = 0 then (gd (ob V2 48 12) (some ((wI V2 48 8), V2))) else (if a4 = (1 : Int32) then (gd (ob V2 48 12) (some ((wI V2 48 10), V2))) else (if a4 = (2 : Int32) then (gd (ob V2 48 12) (some ((wI V2 48 11), V2))) else (if a4 = (3 : Int32) then (gd (ob V2 48 12) (some ((wI V2 48 12), V2))) else (if a4 = (4 : Int32) then (gd (ob V2 48 12) (bd2 (f_X12_valueOf V2 48 (ans one) (ans two)) (fun r27 S25 => some (r27, S25)))) else (gd (ob V2 48 12) (some ((wI V2 48 13), V2)))))))) = some (x, V2) → ∃ r S1 S2, f_X11_drive S 0 (nI l) (ans one) (ans two) a4 = some (r, S1) ∧ 48 < wn S1 ∧ f_X12_drive S1 48 (nI l) (ans one) (ans two) a4 = some (r, S2) ∧ Rel (j + 1) S2 := by
                intro x hx t1 t2
                refine ⟨x, W, V2, ?_, by omega, ?_, rel_up (rel_qy w2 (v4.qy q5448))⟩
                · unfold f_X11_drive
                  rw [gd_pos (ob_of h65 (by decide) (by decide)), qC, bd2_eq, if_pos rfl, b_within_X11, if_pos o4, if_neg (by decide)]
                  simp (decide := true) only [gd_ob h65, hF, Option.bind_some, w1, bd2_eq, gd_ob W65, hWF, t1, e_told W65]
                  rw [if_pos (show nI c = 0 by rw [hc]; rfl), tl_ge hx]
                  rfl
                · unfold f_X12_drive
                  rw [gd_pos (ob_of W65 (by decide) (by decide)), qM hIW w3, bd2_eq, h0, if_pos rfl, b_within_X12, if_pos o4, if_neg (by decide), gd_pos (ob_of W65 (by decide) (by decide)), v1, Option.bind_some, gd_pos (ob_of v2.1 (by decide) (by decide)), v3, bd2_eq, if_pos (show nI c = 0 by rw [hc]; rfl)]
                  exact t2
              have gW : ∀ {α : Type} {x : Option α}, gd (ob W 12 0) x = x := gd_ob W65 (by decide) (by decide)
              have gV : ∀ {α : Type} {x : Option α}, gd (ob V2 48 12) x = x := gd_ob V65 (by decide) (by decide)
              unfold f_X0_tells f_X0_value at fin
              simp only [gW, gV, d4, d6, d7, d8, d9, w5, m8', m10, m11, m12, m13, hval, bd2_eq] at fin
              by_cases q0 : a4 = 0
              · exact fin (nI mi) (nI_nofind (by omega)) (by rw [if_pos q0]) (by rw [if_pos q0])
              rw [if_neg q0] at fin
              by_cases q1 : a4 = 1
              · exact fin (nI dr) (nI_nofind (by omega)) (by rw [if_pos q1]) (by rw [if_neg q0, if_pos q1])
              by_cases q2 : a4 = 2
              · exact fin (nI e) (nI_nofind (by omega)) (by rw [if_neg q1, if_pos q2]) (by rw [if_neg q0, if_neg q1, if_pos q2])
              by_cases q3 : a4 = 3
              · exact fin (nI r) (nI_nofind (by omega)) (by rw [if_neg q1, if_neg q2, if_pos q3]) (by rw [if_neg q0, if_neg q1, if_neg q2, if_pos q3])
              by_cases q4 : a4 = 4
              · exact fin (nI P - nI e) (val_lo (by omega) (by omega)) (by rw [if_neg q1, if_neg q2, if_neg q3, if_pos q4]) (by rw [if_neg q0, if_neg q1, if_neg q2, if_neg q3, if_pos q4])
              · exact fin (nI q) (nI_nofind (by omega)) (by rw [if_neg q1, if_neg q2, if_neg q3, if_neg q4]) (by rw [if_neg q0, if_neg q1, if_neg q2, if_neg q3, if_neg q4])
            · have hIt := hIW.tl (v := -100006)
              obtain ⟨V1, V2, v1, v2, v3, v4, v5⟩ := w6 hIt ((tl_arr (by decide)).trans w3)
              have hV2 : Inv V2 := v4.inv hIt (by omega)
              refine ⟨-100006, tl W (-100006), fl V2, ?_, by rw [tl_wn]; omega, ?_, rel_qy (rel_fin w2 (by decide)) ((ag_fl v4 (by omega)).qy q5448)⟩
              · unfold f_X11_drive
                rw [gd_pos (ob_of h65 (by decide) (by decide)), qC, bd2_eq, if_pos rfl, b_within_X11, if_pos o4, if_neg (by decide)]
                simp (decide := true) only [gd_ob h65, hF, Option.bind_some, w1, bd2_eq, gd_ob W65, hWF, e_told W65]
                rw [if_neg (nI_ne0 (by omega) (by omega))]
                rfl
              · unfold f_X12_drive
                rw [gd_pos (ob_of hIt.1 (by decide) (by decide)), qM hIt ((tl_arr (by decide)).trans w3), bd2_eq, h0, if_pos rfl, b_within_X12, if_pos o4, if_neg (by decide), gd_pos (ob_of hIt.1 (by decide) (by decide)), v1, Option.bind_some, gd_pos (ob_of v2.1 (by decide) (by decide)), v3, bd2_eq, if_neg (nI_ne0 (by omega) (by omega)), gd_pos (ob_of hV2.1 (by decide) (by decide)), e_finding hV2.1, bd2_eq]
          · obtain ⟨g65, hG⟩ := id (hI.tl (v := -100001))
            refine ⟨-100001, _, _, ?_, tl_w48 (v := -100001) hR, ?_, rel_fin (v := -100001) hR (by decide)⟩
            · unfold f_X11_drive
              rw [gd_pos (ob_of h65 (by decide) (by decide)), qC, bd2_eq, if_pos rfl, b_within_X11, if_neg o4, if_pos rfl, gd_pos (ob_of h65 (by decide) (by decide)), e_told h65, bd2_eq]
            · unfold f_X12_drive
              rw [gd_pos (ob_of g65 (by decide) (by decide)), qM hI.tl (tl_arr (by decide)), bd2_eq, h0, if_pos rfl, b_within_X12, if_neg o4, if_pos rfl, gd_pos (ob_of g65 (by decide) (by decide)), e_finding g65, bd2_eq]
        · exact bad _ hlt qC qM
      · exact badX (Or.inl o1)
    · exact badX (Or.inr (Or.inr h3x))
  · exact badX (Or.inr (Or.inl h2x))
