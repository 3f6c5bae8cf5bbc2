/-! undo -/
theorem slot_lt (nx k : Nat) : slot nx k < 16 := Nat.mod_lt _ (by decide)
theorem hist_pop {C C' : Pv} {O O' : Nat → Nat → Option Nat} {len len' : Nat → Nat} {n kp nx : Nat} (h : hist C O len n (kp + 1) nx) (hkp : kp + 1 ≤ 16) (hnx : nx < 16) (hO : O' = O) (hl : len' = len) (h4 : C' 4 = C 4) (hdyn : ∀ a, 65 ≤ a → C' a = C a) (hrow : ∀ a, a ∈ rowset → ∀ i, C' a i = und C O len nx 1 a i) (h50 : C' 50 = C 50) (h49 : ∀ i, i < 424 → C' 49 i = C 50 (424 * kp + i)) : hist C' O' len' n kp (slot nx 0) := by
  subst hO; subst hl
  have sl : ∀ k, k < 15 → slot (slot nx 0) k = slot nx (k + 1) := by
    intro k hk
    unfold slot
    omega
  have ep : ∀ k, k ≤ kp → ∀ i, i < 424 → pst C' kp k i = pst C (kp + 1) (k + 1) i := by
    intro k hk i hi
    show _ = C 50 (424 * (kp + 1 - (k + 1)) + i)
    cases k with
    | zero =>
      show C' 49 i = _
      rw [h49 i hi]
      exact congrArg (C 50) (by omega)
    | succ k =>
      show C' 50 (424 * (kp - (k + 1)) + i) = _
      rw [h50]
      exact congrArg (C 50) (by omega)
  have eu : ∀ k, k ≤ kp → ∀ a, a ∈ rowset → ∀ i, und C' O' len' (slot nx 0) k a i = und C O' len' nx (k + 1) a i := by
    intro k
    induction k with
    | zero => intro _ a ha i; exact hrow a ha i
    | succ k ih =>
      intro hk a ha i
      obtain ⟨ro2, o2, fr2, e1, e2, e3, e4, e5, e6, e7⟩ := h.2.1 (k + 1) (by omega)
      obtain ⟨rl2, -, -⟩ := row_len e4
      rw [und_succ (C := C) e1 e2 e3 (by omega), und_succ (C := C') (nx := slot nx 0) (k := k) (by rw [sl k (by omega)]; exact e1) (by rw [sl k (by omega)]; exact e2) (by rw [sl k (by omega), h4]; exact e3) (by omega), hdyn o2 e5, ih (by omega) a ha i]
  refine ⟨fun k hk => ?_, fun k hk => ?_, fun k hk c c1 c2 => ?_⟩
  · refine core_congrN (ep k hk) (core_congr (fun a ha => funext fun i => eu k hk a ha i) (h.1 (k + 1) (by omega)))
  · obtain ⟨ro2, o2, fr2, e1, e2, e3, e4, e5, e6, e7⟩ := h.2.1 (k + 1) (by omega)
    rw [sl k (by omega)]
    exact ⟨ro2, o2, fr2, e1, e2, by rw [h4]; exact e3, e4, e5, e6, e7⟩
  · rw [ep k (by omega) c (by omega), ep (k + 1) (by omega) c (by omega)]
    exact h.2.2 (k + 1) (by omega) c c1 c2
/-- the world behind Journal.takeBack -/
def tbS (S : Wd) (ro p' q : Nat) (F : Nat → Int32) : Wd := sI (sA (sI (sI S 1 3 (nI q)) 1 4 (nI p')) ro F) 1 5 (wI S 1 5 + 1)
theorem e_takeBack {S : Wd} (hI : Inv S) {ro o fr p q : Nat} (hp : p < 16) (hq : q + 1 ≤ 16) (h14 : wI S 1 4 = nI p) (h13 : wI S 1 3 = nI (q + 1)) (e1 : wO S 2 (slot p 0) = some ro) (e2 : wO S 3 (slot p 0) = some o) (e3 : wI S 4 (slot p 0) = nI fr) (e4 : ro ∈ rowset) (e5 : 65 ≤ o) (e6 : o < wn S) (e7 : fr + wl S o ≤ (kT ro).2) : f_X3_takeBack S 1 = some (nI q, tbS S ro (slot p 0) q (va_cpy (wI S o) (wI S ro) 0 fr (wl S o))) := by
  obtain ⟨h65, hF⟩ := id hI
  obtain ⟨rl, rk, r65⟩ := row_len e4
  obtain ⟨r1, r2, r3, r4, -, r6, r7, r8, r9⟩ := row_ne e4
  have sp := slot_lt p 0
  unfold f_X3_takeBack
  rw [gd_pos (ob_of h65 (by decide) (by decide)), h13, if_neg (nI_ne0 (by omega) (by omega)), gd_pos (ob_of h65 (by decide) (by decide)), gd_pos (ob_of h65 (by decide) (by decide)), nI_pred]
  show gd (ob (sI S 1 3 (nI q)) 1 3) _ = _
  have hU : ∀ v, 65 ≤ wn (sI S 1 3 v) := fun _ => h65
  rw [gd_pos (ob_of (hU _) (by decide) (by decide)), gd_pos (ob_of (hU _) (by decide) (by decide)), wI_sI_ne (by decide), h14]
  rw [show irm (nI p + 16 - 1) 16 = nI (slot p 0) by
    rw [show nI p + 16 - 1 = nI (p + 15) by show nI p + nI 16 - nI 1 = _; rw [nI_add, nI_sub (by omega)]; rfl]
    exact (irm_nI (d := 16) (by omega) (by decide) (by decide)).trans (by unfold slot; rfl)]
  show gd (ob (sI (sI S 1 3 (nI q)) 1 4 (nI (slot p 0))) 1 3) _ = _
  generalize hV : sI (sI S 1 3 (nI q)) 1 4 (nI (slot p 0)) = V
  have V65 : 65 ≤ wn V := by rw [← hV]; exact h65
  have VO : wO V = wO S := by rw [← hV]; rfl
  have Vl : wl V = wl S := by rw [← hV]; rfl
  have Vn : wn V = wn S := by rw [← hV]; rfl
  have V14 : wI V 1 4 = nI (slot p 0) := by rw [← hV, wI_sI_eq]
  have V13 : wI V 1 3 = nI q := by rw [← hV, wI_sI_ne (by decide), wI_sI_eq]
  have VI : ∀ a, a ≠ 1 → wI V a = wI S a := fun a ha => by rw [← hV, wI_sI' _ _ _ _ _ ha, wI_sI' _ _ _ _ _ ha]
  have V15 : wI V 1 5 = wI S 1 5 := by rw [← hV, wI_sI_ne (by decide), wI_sI_ne (by decide)]
  simp (decide := true) only [gd_ob V65, VO, hF, Option.bind_some, V14]
  rw [gd_pos (ix_of V65 (by decide) (by decide) (by show _ < 16; omega)), nI_clamp (by omega), e1, Option.bind_some, gd_pos (ix_of V65 (by decide) (by decide) (by show _ < 16; omega)), e2, Option.bind_some, gd_pos (ix_of V65 (by decide) (by decide) (by show _ < 16; omega)), VI 4 (by decide), e3]
  have wlo : wlen V o = wl S o := by rw [wlen_ge e5, Vl]
  have wlr : wlen V ro = (kT ro).2 := wlen_lt r65
  have oo : ob V o 100 := ⟨by rw [Vn]; exact e6, by rw [kT_ge e5]⟩
  have orr : ob V ro 100 := ob_of V65 r65 rk
  have hwa : f_X3_writeAgain V ro o (nI fr) = some (sA V ro (va_cpy (wI S o) (wI S ro) 0 fr (wl S o))) := by
    unfold f_X3_writeAgain
    rw [if_neg (nI_pos (by omega)), gd_pos orr, gd_pos oo, wlo, wlr]
    rw [if_neg (show ¬ Int32.ofNat (kT ro).2 - Int32.ofNat (wl S o) < nI fr by
      rw [show Int32.ofNat (kT ro).2 - Int32.ofNat (wl S o) = nI ((kT ro).2 - wl S o) from nI_sub (by omega)]
      exact nI_nlt (by omega) (by omega))]
    rw [gd_pos oo, gd_pos oo, gd_pos orr, show (Int32.ofNat (wl S o)).toNatClampNeg = wl S o from nI_clamp (by omega), nI_clamp (by omega)]
    rw [gd_pos ⟨by decide, nI_pos (by omega), nI_pos (n := wl S o) (by omega), by show 0 + wl S o ≤ wl S o; omega, e7⟩, VI o (by omega), VI ro r1]
    rfl
  rw [hwa, Option.bind_some]
  have hA : ∀ F, 65 ≤ wn (sA V ro F) := fun _ => V65
  rw [gd_pos (ob_of (hA _) (by decide) (by decide)), gd_pos (ob_of (hA _) (by decide) (by decide)), wI_sA, if_neg (Ne.symm r1), V15]
  show gd (ob (sI (sA V ro _) 1 5 _) 1 3) _ = _
  have hB : ∀ F v, 65 ≤ wn (sI (sA V ro F) 1 5 v) := fun _ _ => V65
  rw [gd_pos (ob_of (hB _ _) (by decide) (by decide)), wI_sI_ne (by decide), wI_sA, if_neg (Ne.symm r1), V13]
  unfold tbS
  rw [hV]
/-- the reference's undo -/
theorem e_mundo {S : Wd} (hI : Inv S) {q : Nat} (hq : q + 1 ≤ 16) (h2 : wI S 48 2 = nI (q + 1)) : f_X12_undo S 48 = some (nI q, sA (sI S 48 2 (nI q)) 49 (fun i => if i < 424 then wI S 50 (424 * q + i) else wI S 49 i)) := by
  obtain ⟨h65, hF⟩ := id hI
  generalize hT : sI S 48 2 (nI q) = T
  have T65 : 65 ≤ wn T := by rw [← hT]; exact h65
  have TO : wO T = wO S := by rw [← hT]; rfl
  have T2 : wI T 48 2 = nI q := by rw [← hT, wI_sI_eq]
  have T49 : wI T 49 = wI S 49 := by rw [← hT, wI_sI' _ _ _ _ _ (by decide)]
  have T50 : wI T 50 = wI S 50 := by rw [← hT, wI_sI' _ _ _ _ _ (by decide)]
  have s0 : B_X12_undo (0, [48], [], S) = some (.inr (1, [48], [nI 0], sA T 49 (fun i => if i < 0 then wI S 50 (424 * q + i) else wI S 49 i))) := by
    show B_X12_undo_0 S 48 = _
    unfold B_X12_undo_0
    simp (decide := true) only [gd_ob h65]
    rw [h2, if_neg (nI_ne0 (by omega) (by omega)), nI_pred, hT]
    rw [show (fun i => if i < 0 then wI S 50 (424 * q + i) else wI S 49 i) = wI T 49 from (funext fun i => if_neg (by omega)).trans T49.symm, sA_self]
    rfl
  have s1 : ∀ k, k < 424 → B_X12_undo (1, [48], [nI k], sA T 49 (fun i => if i < k then wI S 50 (424 * q + i) else wI S 49 i)) = some (.inr (1, [48], [nI (k + 1)], sA T 49 (fun i => if i < k + 1 then wI S 50 (424 * q + i) else wI S 49 i))) := by
    intro k hk
    show B_X12_undo_1 _ 48 (nI k) = _
    unfold B_X12_undo_1
    rw [if_neg (show ¬ (424 : Int32) ≤ nI k from nI_ge (b := 424) hk (by decide))]
    simp (decide := true) only [gd_ob (show 65 ≤ wn (sA T 49 _) from T65), wO_sA, TO, hF, Option.bind_some, wI_sA, if_false, T2, ltS]
    rw [show nI q * 424 + nI k = nI (424 * q + k) by show nI q * nI 424 + nI k = _; rw [nI_mul, nI_add, Nat.mul_comm], gd_pos (ix_of (by exact T65) (by decide) (by decide) (by show _ < 6784; omega)), gd_pos (rdN (by exact T65) hk), nI_clamp (by omega), nI_clamp (by omega), nI_1, sI_sA, T50]
    congr 6
    funext i
    unfold upd
    by_cases hi : i = k
    · rw [if_pos hi, if_pos (by omega), hi]
    · rw [if_neg hi]
      dsimp only
      by_cases h : i < k
      · rw [if_pos h, if_pos (by omega)]
      · rw [if_neg h, if_neg (by omega)]
  unfold f_X12_undo
  refine (ru_step s0).trans ((ru_for (fun k => (1, [48], [nI k], sA T 49 (fun i => if i < k then wI S 50 (424 * q + i) else wI S 49 i))) 424 s1).trans (ru_done ?_))
  show B_X12_undo_1 _ 48 (nI 424) = _
  unfold B_X12_undo_1
  rw [if_pos (by decide)]
  simp (decide := true) only [gd_ob (show 65 ≤ wn (sA T 49 _) from T65), wI_sA, if_false, T2]
theorem sim_undo {j : Nat} {S : Wd} (hR : Rel j S) (hj : j < 512) : ∃ r S1 S2, f_X11_undo S 0 = some (r, S1) ∧ 48 < wn S1 ∧ f_X12_undo S1 48 = some (r, S2) ∧ Rel (j + 1) S2 := by
  have hI := hR.1
  obtain ⟨h65, hF⟩ := id hI
  obtain ⟨q, p, hq, hp, h13, h14, h48, hh⟩ := rel_jn hR
  cases q with
  | zero =>
    obtain ⟨g65, hG⟩ := id (hI.tl (v := -100006))
    refine ⟨-100006, _, _, ?_, tl_w48 (v := -100006) hR, ru_done ?_, rel_fin (v := -100006) hR (by decide)⟩
    · unfold f_X11_undo f_X3_takeBack
      simp (decide := true) only [gd_ob h65, hF, Option.bind_some]
      rw [h13, if_pos nI_0, bd2_eq]
      simp (decide := true) only [gd_ob h65, e_told h65, bd2_eq]
    · show B_X12_undo_0 _ 48 = _
      unfold B_X12_undo_0
      rw [gd_pos (ob_of g65 (by decide) (by decide)), tl_wI (by decide), h48, if_pos nI_0]
      simp (decide := true) only [gd_ob g65, e_finding g65, bd2_eq]
  | succ q =>
    obtain ⟨ro, o, fr, e1, e2, e3, e4, e5, e6, e7⟩ := hh.2.1 0 (by omega)
    obtain ⟨rl, rk, r65⟩ := row_len e4
    obtain ⟨r1, r2, r3, r4, -, r6, r7, r8, r9⟩ := row_ne e4
    rw [pv_of rfl] at e3
    have ht := e_takeBack hI hp hq h14 h13 e1 e2 e3 e4 e5 e6 e7
    generalize hF' : va_cpy (wI S o) (wI S ro) 0 fr (wl S o) = F at ht
    generalize hS1 : tbS S ro (slot p 0) q F = S1 at ht
    have n1 : wn S1 = wn S := by rw [← hS1]; rfl
    have l1 : wl S1 = wl S := by rw [← hS1]; rfl
    have o1 : wO S1 = wO S := by rw [← hS1]; rfl
    have i13 : wI S1 1 3 = nI q := by rw [← hS1]; unfold tbS; rw [wI_sI_ne (by decide), wI_sA, if_neg (Ne.symm r1), wI_sI_ne (by decide), wI_sI_eq]
    have i14 : wI S1 1 4 = nI (slot p 0) := by rw [← hS1]; unfold tbS; rw [wI_sI_ne (by decide), wI_sA, if_neg (Ne.symm r1), wI_sI_eq]
    have i15 : wI S1 1 5 = wI S 1 5 + 1 := by rw [← hS1]; unfold tbS; rw [wI_sI_eq]
    have iro : wI S1 ro = F := by rw [← hS1]; unfold tbS; rw [wI_sI' _ _ _ _ _ r1, wI_sA, if_pos rfl]
    have iot : ∀ a, a ≠ 1 → a ≠ ro → wI S1 a = wI S a := fun a x1 x2 => by rw [← hS1]; unfold tbS; rw [wI_sI' _ _ _ _ _ x1, wI_sA, if_neg x2, wI_sI' _ _ _ _ _ x1, wI_sI' _ _ _ _ _ x1]
    have hI1 : Inv S1 := hI.of (Nat.le_of_eq n1.symm) (fun i k _ _ _ => by rw [o1]) (fun i k hi hk => by
      rw [iot i (by omega) (fun h => by
        subst h
        simp only [rowset, List.mem_cons, List.not_mem_nil, or_false] at e4
        omega)])
    obtain ⟨I65, hIF⟩ := id hI1
    have hm := e_mundo hI1 hq (by rw [iot 48 (by decide) (Ne.symm r6)]; exact h48)
    generalize hS2 : sA (sI S1 48 2 (nI q)) 49 (fun i => if i < 424 then wI S1 50 (424 * q + i) else wI S1 49 i) = S2 at hm
    have hge := nI_nofind (n := q) (by omega)
    refine ⟨nI q, S1, S2, ?_, by rw [n1]; omega, hm, ?_⟩
    · unfold f_X11_undo
      simp (decide := true) only [gd_ob h65, hF, Option.bind_some]
      rw [ht, bd2_eq]
      simp (decide := true) only [gd_ob I65, e_told I65, bd2_eq]
      rw [tl_ge hge]
    · have n2 : wn S2 = wn S := by rw [← hS2]; exact n1
      have l2 : wl S2 = wl S := by rw [← hS2]; exact l1
      have o2 : wO S2 = wO S := by rw [← hS2]; exact o1
      have j49 : ∀ i, i < 424 → wI S2 49 i = wI S 50 (424 * q + i) := fun i hi => by
        rw [← hS2, wI_sA, if_pos rfl, if_pos hi, iot 50 (by decide) (Ne.symm r8)]
      have j482 : wI S2 48 2 = nI q := by rw [← hS2, wI_sA, if_neg (by decide), wI_sI_eq]
      have jot : ∀ a k, a ≠ 49 → ¬ (a = 48 ∧ k = 2) → wI S2 a k = wI S1 a k := fun a k x1 x2 => by rw [← hS2, wI_sA, if_neg x1, wI_sI_ne x2]
      have jrow : ∀ a, a ≠ 1 → a ≠ 49 → a ≠ 48 → a ≠ ro → wI S2 a = wI S a := fun a x1 x2 x3 x4 => funext fun k => by rw [jot a k x2 (fun h => x3 h.1), iot a x1 x4]
      obtain ⟨-, ⟨hsh, -⟩, hfi, ⟨cc, hcc, hc5, hme, hwo⟩, -, -⟩ := id hR
      have rx : ∀ a, a ∈ [5, 7, 13, 14, 15, 16, 0, 8, 10, 22, 26, 29, 40, 41, 42, 43, 44, 45, 46, 47, 51, 52, 53, 50, 4] → a ≠ ro := by
        intro a ha h
        subst h
        simp only [rowset, List.mem_cons, List.not_mem_nil, or_false] at e4 ha
        omega
      refine ⟨hI.of (Nat.le_of_eq n2.symm) (fun i k _ _ _ => by rw [o2]) (fun i k hi hk => ?_), ⟨?_, q, slot p 0, by omega, slot_lt _ _, ?_, ?_, ?_, ?_⟩, ?_, ⟨cc + 1, by omega, ?_, ?_, ?_⟩, ?_, ?_⟩
      · rw [jrow i (by omega) (by omega) (by omega) (rx i (by rcases hi with rfl | rfl | rfl | rfl | rfl <;> decide))]
      · refine shR_congr (fun a ha => ?_) hsh
        have hp' : ∀ k, pers a k = true := by
          intro k
          rcases (show a = 40 ∨ a = 41 ∨ a = 42 ∨ a = 43 ∨ a = 44 ∨ a = 45 ∨ a = 46 ∨ a = 47 ∨ a = 51 ∨ a = 52 ∨ a = 53 by omega) with rfl | rfl | rfl | rfl | rfl | rfl | rfl | rfl | rfl | rfl | rfl <;> rfl
        rw [pv_arr hp', pv_arr hp']
        refine jrow a (by omega) (by omega) (by omega) (rx a ?_)
        simp only [List.mem_cons, List.not_mem_nil, or_false]
        omega
      · rw [pv_of rfl, jot 1 3 (by decide) (by decide)]; exact i13
      · rw [pv_of rfl, jot 1 4 (by decide) (by decide)]; exact i14
      · rw [pv_of rfl]; exact j482
      · rw [n2]
        refine hist_pop (C := pv S) hh hq hp o2 l2 ?_ ?_ ?_ ?_ ?_
        · rw [pv_arr (fun _ => rfl), pv_arr (fun _ => rfl)]; exact jrow 4 (by decide) (by decide) (by decide) (rx 4 (by decide))
        · intro a ha
          rw [pv_arr (fun _ => pers_dyn ha), pv_arr (fun _ => pers_dyn ha)]
          exact jrow a (by omega) (by omega) (by omega) (by omega)
        · intro a ha i
          rw [und_succ (C := pv S) e1 e2 (by rw [pv_of rfl]; exact e3) (by omega), pv_of (pers_row (Or.inl ha)), pv_of (pers_dyn e5)]
          show _ = if a = ro ∧ fr ≤ i ∧ i < fr + wl S o then wI S o (i - fr) else pv S a i
          obtain ⟨y1, -, -, -, -, y6, y7, -⟩ := row_ne ha
          rw [pv_of (pers_row (Or.inl ha)), jot a i y7 (fun h => y6 h.1)]
          by_cases hc : a = ro
          · subst hc
            rw [iro, ← hF']
            show (if fr ≤ i ∧ i < fr + wl S o then wI S o (0 + (i - fr)) else wI S a i) = _
            rw [Nat.zero_add]
            by_cases hc : fr ≤ i ∧ i < fr + wl S o
            · rw [if_pos hc, if_pos ⟨rfl, hc⟩]
            · rw [if_neg hc, if_neg (fun h => hc h.2)]
          · rw [if_neg (fun h => hc h.1), iot a y1 hc]
        · rw [pv_arr (fun _ => rfl), pv_arr (fun _ => rfl)]; exact jrow 50 (by decide) (by decide) (by decide) (rx 50 (by decide))
        · intro i hi
          rw [pv_of rfl, pv_of rfl]
          exact j49 i hi
      · rw [jrow 0 (by decide) (by decide) (by decide) (Ne.symm r9), jot 48 3 (by decide) (by decide), iot 48 (by decide) (Ne.symm r6)]; exact hfi
      · rw [jot 1 5 (by decide) (by decide), i15, hc5, nI_1]
      · rw [jrow 5 (by decide) (by decide) (by decide) (rx 5 (by decide))]
        rcases hme with h | ⟨x, x1, x2⟩
        · exact Or.inl h
        · exact Or.inr ⟨x, by omega, x2⟩
      · rw [jrow 13 (by decide) (by decide) (by decide) (rx 13 (by decide))]
        rcases hwo with h | ⟨x, x1, x2⟩
        · exact Or.inl h
        · exact Or.inr ⟨x, by omega, x2⟩
      · rw [jrow 5 (by decide) (by decide) (by decide) (rx 5 (by decide)), jot 1 5 (by decide) (by decide), i15, hc5, nI_1]
        intro he
        exfalso
        rcases hme with h | ⟨x, x1, x2⟩
        · rw [h] at he
          have := nI_pos (n := cc + 1) (by omega)
          rw [← he] at this
          exact this (by decide)
        · rw [x2] at he
          have := (nI_eq (by omega) (by omega)).mp he
          omega
      · rw [jrow 13 (by decide) (by decide) (by decide) (rx 13 (by decide)), jot 1 5 (by decide) (by decide), i15, hc5, nI_1]
        intro he
        exfalso
        rcases hwo with h | ⟨x, x1, x2⟩
        · rw [h] at he
          have := nI_pos (n := cc + 1) (by omega)
          rw [← he] at this
          exact this (by decide)
        · rw [x2] at he
          have := (nI_eq (by omega) (by omega)).mp he
          omega
