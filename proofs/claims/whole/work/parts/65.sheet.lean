/-! sheets -/
theorem hist_congr {C C' : Pv} {O : Nat → Nat → Option Nat} {len : Nat → Nat} {n kp nx : Nat} (hkp : kp ≤ 16) (h : hist C O len n kp nx) (e : ∀ a, a ∈ rowset ∨ a = 4 ∨ a = 49 ∨ a = 50 ∨ 65 ≤ a → C' a = C a) : hist C' O len n kp nx := by
  have h4 := e 4 (by decide)
  have ep : ∀ k, pst C' kp k = pst C kp k := by
    intro k
    unfold pst
    rw [e 49 (by decide), e 50 (by decide)]
  have eu : ∀ k, k ≤ kp → ∀ a, a ∈ rowset → ∀ i, und C' O len nx k a i = und C O len nx k a i := by
    intro k
    induction k with
    | zero => intro _ a ha i; show C' a i = C a i; rw [e a (Or.inl ha)]
    | succ k ih =>
      intro hk a ha i
      obtain ⟨ro2, o2, fr2, e1, e2, e3, e4, e5, e6, e7⟩ := h.2.1 k (by omega)
      obtain ⟨rl2, -, -⟩ := row_len e4
      rw [und_succ (C := C) e1 e2 e3 (by omega), und_succ (C := C') e1 e2 (by rw [h4]; exact e3) (by omega), e o2 (Or.inr (Or.inr (Or.inr (Or.inr e5)))), ih (by omega) a ha i]
  refine ⟨fun k hk => ?_, fun k hk => ?_, fun k hk c c1 c2 => ?_⟩
  · rw [ep]
    exact core_congr (fun a ha => funext fun i => eu k hk a ha i) (h.1 k hk)
  · obtain ⟨ro2, o2, fr2, e1, e2, e3, e4⟩ := h.2.1 k hk
    exact ⟨ro2, o2, fr2, e1, e2, by rw [h4]; exact e3, e4⟩
  · rw [ep, ep]
    exact h.2.2 k hk c c1 c2
/-- only sheets are new -/
theorem rel_sh {j : Nat} {S S2 : Wd} (hR : Rel j S) (q1 : wn S2 = wn S) (q2 : wl S2 = wl S) (q3 : wO S2 = wO S) (he : ∀ a k, ¬ (40 ≤ a ∧ a ≤ 47) → ¬ (51 ≤ a ∧ a ≤ 53) → a ≠ 64 → wI S2 a k = wI S a k) (hs : shR (wI S2)) : Rel (j + 1) S2 := by
  obtain ⟨h1, ⟨h2, kp, nx, y1, y2, y3, y4, y5, y6⟩, h3, ⟨c, h4, h5⟩, h6, h7⟩ := hR
  have ea : ∀ a, ¬ (40 ≤ a ∧ a ≤ 47) → ¬ (51 ≤ a ∧ a ≤ 53) → a ≠ 64 → wI S2 a = wI S a := fun a x1 x2 x3 => funext fun k => he a k x1 x2 x3
  have ep : ∀ a, ¬ (40 ≤ a ∧ a ≤ 47) → ¬ (51 ≤ a ∧ a ≤ 53) → a ≠ 64 → pv S2 a = pv S a := fun a x1 x2 x3 => funext fun k => by
    show (if pers a k = true then wI S2 a k else 0) = if pers a k = true then wI S a k else 0
    rw [he a k x1 x2 x3]
  have ek : ∀ a, ¬ (40 ≤ a ∧ a ≤ 47) → ¬ (51 ≤ a ∧ a ≤ 53) → a ≠ 64 → kv S2 a = kv S a := fun a x1 x2 x3 => funext fun k => by
    show (if kch a k = true then wI S2 a k else 0) = if kch a k = true then wI S a k else 0
    rw [he a k x1 x2 x3]
  refine ⟨h1.of (Nat.le_of_eq q1.symm) (fun i k _ _ _ => by rw [q3]) (fun i k hi hk => he i k (by omega) (by omega) (by omega)), ⟨?_, kp, nx, y1, y2, ?_, ?_, ?_, ?_⟩, ?_, ⟨c, by omega, ?_⟩, ?_, ?_⟩
  · refine shR_congr (fun a ha => ?_) hs
    refine pv_arr fun k => ?_
    rcases (show a = 40 ∨ a = 41 ∨ a = 42 ∨ a = 43 ∨ a = 44 ∨ a = 45 ∨ a = 46 ∨ a = 47 ∨ a = 51 ∨ a = 52 ∨ a = 53 by omega) with rfl | rfl | rfl | rfl | rfl | rfl | rfl | rfl | rfl | rfl | rfl <;> rfl
  · rw [ep 1 (by decide) (by decide) (by decide)]; exact y3
  · rw [ep 1 (by decide) (by decide) (by decide)]; exact y4
  · rw [ep 48 (by decide) (by decide) (by decide)]; exact y5
  · rw [q1, q2, q3]
    refine hist_congr y1 y6 fun a ha => ?_
    refine ep a ?_ ?_ ?_
    all_goals
      simp only [rowset, List.mem_cons, List.not_mem_nil, or_false] at ha
      omega
  · rw [ea 0 (by decide) (by decide) (by decide), ea 48 (by decide) (by decide) (by decide)]; exact h3
  · rw [ea 1 (by decide) (by decide) (by decide), ea 5 (by decide) (by decide) (by decide), ea 13 (by decide) (by decide) (by decide)]; exact h5
  · rw [ea 1 (by decide) (by decide) (by decide), ea 5 (by decide) (by decide) (by decide)]
    unfold WOk at h6 ⊢
    rw [ek 7 (by decide) (by decide) (by decide), ek 49 (by decide) (by decide) (by decide)]; exact h6
  · rw [ea 1 (by decide) (by decide) (by decide), ea 13 (by decide) (by decide) (by decide)]
    unfold GOk at h7 ⊢
    rw [ek 13 (by decide) (by decide) (by decide), ek 14 (by decide) (by decide) (by decide), ek 15 (by decide) (by decide) (by decide), ek 16 (by decide) (by decide) (by decide), ek 49 (by decide) (by decide) (by decide)]; exact h7
theorem rel_shR {j : Nat} {S : Wd} (h : Rel j S) : shR (wI S) := by
  refine shR_congr (fun a ha => ?_) h.2.1.1
  refine (pv_arr fun k => ?_).symm
  rcases (show a = 40 ∨ a = 41 ∨ a = 42 ∨ a = 43 ∨ a = 44 ∨ a = 45 ∨ a = 46 ∨ a = 47 ∨ a = 51 ∨ a = 52 ∨ a = 53 by omega) with rfl | rfl | rfl | rfl | rfl | rfl | rfl | rfl | rfl | rfl | rfl <;> rfl
theorem sh_facts {S : Wd} (hI : Inv S) {s : Nat} (hs : s < 4) : wO S 39 s = some (40 + 2 * s) ∧ wO S (40 + 2 * s) 0 = some (41 + 2 * s) ∧ ob S (40 + 2 * s) 7 ∧ ob S (41 + 2 * s) 100 ∧ (∀ k, k < 20 → ix S (41 + 2 * s) 100 (nI k)) ∧ wlen S (41 + 2 * s) = 20 := by
  obtain ⟨h65, hF⟩ := id hI
  rcases (show s = 0 ∨ s = 1 ∨ s = 2 ∨ s = 3 by omega) with rfl | rfl | rfl | rfl <;>
  exact ⟨by simp only [hF], by simp only [hF], ob_of h65 (by decide) (by decide), ob_of h65 (by decide) (by decide), fun k hk => ix_of h65 (by decide) (by decide) hk, wlen_lt (by decide)⟩
theorem e_fill {S : Wd} {a : Nat} (ho : ob S a 100) (hl : wlen S a < 2 ^ 31) (v : Int32) : f_J7_fill_53178 S a v = some (sA S a (fun i => if i < wlen S a then v else wI S a i)) := by
  have hw : ∀ F, wlen (sA S a F) a = wlen S a := fun _ => rfl
  have s0 : B_J7_fill_53178 (0, [a], [v], S) = some (.inr (1, [a], [v, nI 0, nI (wlen S a)], sA S a (fun i => if i < 0 then v else wI S a i))) := by
    show B_J7_fill_53178_0 S a v = _
    unfold B_J7_fill_53178_0
    rw [gd_pos ho, show (fun i => if i < 0 then v else wI S a i) = wI S a from funext fun i => if_neg (by omega), sA_self]
    rfl
  have s1 : ∀ k, k < wlen S a → B_J7_fill_53178 (1, [a], [v, nI k, nI (wlen S a)], sA S a (fun i => if i < k then v else wI S a i)) = some (.inr (1, [a], [v, nI (k + 1), nI (wlen S a)], sA S a (fun i => if i < k + 1 then v else wI S a i))) := by
    intro k hk
    show B_J7_fill_53178_1 _ a v (nI k) (nI (wlen S a)) = _
    unfold B_J7_fill_53178_1
    rw [if_neg (nI_ge hk hl), gd_pos (show ix (sA S a _) a 100 (nI k) from ⟨ho, by rw [hw]; exact vp_in_nI hk hl⟩), nI_clamp (by omega), nI_1, sI_sA]
    show some _ = _
    congr 6
    funext i
    unfold upd
    by_cases hi : i = k
    · rw [if_pos hi, if_pos (by omega)]
    · rw [if_neg hi]
      dsimp only
      by_cases h : i < k
      · rw [if_pos h, if_pos (by omega)]
      · rw [if_neg h, if_neg (by omega)]
  unfold f_J7_fill_53178
  refine (ru_step s0).trans ((ru_for (fun k => (1, [a], [v, nI k, nI (wlen S a)], sA S a (fun i => if i < k then v else wI S a i))) (wlen S a) s1).trans (ru_done ?_))
  show B_J7_fill_53178_1 _ a v (nI (wlen S a)) (nI (wlen S a)) = _
  unfold B_J7_fill_53178_1
  rw [if_pos (Int32.le_refl _)]
