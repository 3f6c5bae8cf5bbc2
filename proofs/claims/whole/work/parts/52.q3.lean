/-! loops that count -/
theorem ru_for {σ ρ : Type} {f : σ → Option (ρ ⊕ σ)} (st : Nat → σ) : ∀ n : Nat, (∀ k, k < n → f (st k) = some (.inr (st (k + 1)))) → ru f (st 0) = ru f (st n)
  | 0, _ => rfl
  | n + 1, h => (ru_for st n fun k hk => h k (by omega)).trans (ru_step (h n (by omega)))
def nsum (g : Nat → Int32) : Nat → Int32
  | 0 => 0
  | k + 1 => nsum g k + g k
theorem nsum_congr {g g' : Nat → Int32} : ∀ n : Nat, (∀ k, k < n → g k = g' k) → nsum g n = nsum g' n
  | 0, _ => rfl
  | n + 1, h => by rw [nsum, nsum, nsum_congr n fun k hk => h k (by omega), h n (by omega)]
theorem e_sumOf {S : Wd} (hI : Inv S) {f : Nat} (hf : f < 10) : f_X4_sumOf S 31 (nI f) = some (nsum (fun k => wI S 32 (k * 10 + f) - wI S 32 (f * 10 + k)) 10, S) := by
  obtain ⟨h65, hF⟩ := id hI
  have s0 : B_X4_sumOf (0, [31], [nI f], S) = some (.inr (1, [31], [nI f, 0, nI 0], S)) := by
    show B_X4_sumOf_0 S 31 (nI f) = _
    unfold B_X4_sumOf_0
    rw [b_isFirm_X11, if_pos ⟨nI_pos' (by omega), nI_le (b := 9) (by omega) (by decide)⟩, if_neg (by decide)]
    rfl
  have s1 : ∀ k, k < 10 → B_X4_sumOf (1, [31], [nI f, nsum (fun k => wI S 32 (k * 10 + f) - wI S 32 (f * 10 + k)) k, nI k], S) = some (.inr (1, [31], [nI f, nsum (fun k => wI S 32 (k * 10 + f) - wI S 32 (f * 10 + k)) (k + 1), nI (k + 1)], S)) := by
    intro k hk
    show B_X4_sumOf_1 S 31 (nI f) _ (nI k) = _
    unfold B_X4_sumOf_1
    rw [if_neg (show ¬ (10 : Int32) ≤ nI k from nI_ge (b := 10) hk (by decide))]
    simp (decide := true) only [gd_ob h65, hF, Option.bind_some]
    rw [show nI k * 10 + nI f = nI (k * 10 + f) by show nI k * nI 10 + nI f = _; rw [nI_mul, nI_add], show nI f * 10 + nI k = nI (f * 10 + k) by show nI f * nI 10 + nI k = _; rw [nI_mul, nI_add], gd_pos (ix_of h65 (by decide) (by decide) (by show _ < 100; omega)), gd_pos (ix_of h65 (by decide) (by decide) (by show _ < 100; omega)), nI_clamp (by omega), nI_clamp (by omega), nI_1]
    rfl
  unfold f_X4_sumOf
  refine (ru_step s0).trans ((ru_for (fun k => (1, [31], [nI f, nsum (fun k => wI S 32 (k * 10 + f) - wI S 32 (f * 10 + k)) k, nI k], S)) 10 s1).trans ?_)
  refine ru_done ?_
  show B_X4_sumOf_1 S 31 (nI f) _ (nI 10) = _
  unfold B_X4_sumOf_1
  rw [if_pos (by decide)]
theorem e_netOf {S : Wd} (hI : Inv S) {f : Nat} (hf : f < 10) : f_X12_netOf S 48 (nI f) = some (nsum (fun k => wI S 49 (310 + 10 * k + f) - wI S 49 (310 + 10 * f + k)) 10, S) := by
  obtain ⟨h65, hF⟩ := id hI
  have s1 : ∀ k, k < 10 → B_X12_netOf (1, [48], [nI f, nsum (fun k => wI S 49 (310 + 10 * k + f) - wI S 49 (310 + 10 * f + k)) k, nI k], S) = some (.inr (1, [48], [nI f, nsum (fun k => wI S 49 (310 + 10 * k + f) - wI S 49 (310 + 10 * f + k)) (k + 1), nI (k + 1)], S)) := by
    intro k hk
    show B_X12_netOf_1 S 48 (nI f) _ (nI k) = _
    unfold B_X12_netOf_1
    rw [if_neg (show ¬ (10 : Int32) ≤ nI k from nI_ge (b := 10) hk (by decide))]
    simp (decide := true) only [gd_ob h65, hF, Option.bind_some]
    rw [show (310 : Int32) + 10 * nI k + nI f = nI (310 + 10 * k + f) by show nI 310 + nI 10 * nI k + nI f = _; rw [nI_mul, nI_add, nI_add], show (310 : Int32) + 10 * nI f + nI k = nI (310 + 10 * f + k) by show nI 310 + nI 10 * nI f + nI k = _; rw [nI_mul, nI_add, nI_add], gd_pos (rdN h65 (by omega)), gd_pos (rdN h65 (by omega)), nI_clamp (by omega), nI_clamp (by omega), nI_1]
    rfl
  unfold f_X12_netOf
  refine (ru_step (s' := (1, [48], [nI f, 0, nI 0], S)) rfl).trans ((ru_for (fun k => (1, [48], [nI f, nsum (fun k => wI S 49 (310 + 10 * k + f) - wI S 49 (310 + 10 * f + k)) k, nI k], S)) 10 s1).trans ?_)
  refine ru_done ?_
  show B_X12_netOf_1 S 48 (nI f) _ (nI 10) = _
  unfold B_X12_netOf_1
  rw [if_pos (by decide)]
theorem net_eq {C : Pv} {N : Nat → Int32} (h : cOwe C N) {f : Nat} (hf : f < 10) : nsum (fun k => C 32 (k * 10 + f) - C 32 (f * 10 + k)) 10 = nsum (fun k => N (310 + 10 * k + f) - N (310 + 10 * f + k)) 10 := by
  refine nsum_congr 10 fun k hk => ?_
  have e1 := (h (k * 10 + f) (by omega)).1
  have e2 := (h (f * 10 + k) (by omega)).1
  show C 32 (k * 10 + f) - C 32 (f * 10 + k) = _
  rw [e1, e2, show 310 + (k * 10 + f) = 310 + 10 * k + f by omega, show 310 + (f * 10 + k) = 310 + 10 * f + k by omega]
theorem sim_net {j : Nat} {S : Wd} (hR : Rel j S) (hj : j < 512) (a1 : Int32) : ∃ r S1 S2, f_X11_net S 0 a1 = some (r, S1) ∧ 48 < wn S1 ∧ f_X12_net S1 48 a1 = some (r, S2) ∧ Rel (j + 1) S2 := by
  have hI := hR.1
  obtain ⟨h65, hF⟩ := id hI
  obtain ⟨g65, hG⟩ := id (hI.tl (v := -100001))
  obtain ⟨-, -, -, -, -, -, -, ho, -⟩ := rel_core hR
  by_cases hat : 0 ≤ a1 ∧ a1 ≤ 9
  · obtain ⟨f, hf, rfl⟩ := nat_le (n := 9) hat.1 hat.2 (by decide)
    refine ⟨nsum (fun k => wI S 32 (k * 10 + f) - wI S 32 (f * 10 + k)) 10, S, S, ?_, rel_w48 hR, ?_, rel_up hR⟩
    · unfold f_X11_net
      rw [b_isFirm_X11, if_pos hat, if_neg (by decide)]
      simp (decide := true) only [gd_ob h65, hF, Option.bind_some, e_sumOf hI (show f < 10 by omega), bd2_eq]
    · unfold f_X12_net
      rw [b_isFirm_X12, if_pos hat, if_neg (by decide)]
      simp (decide := true) only [gd_ob h65, e_netOf hI (show f < 10 by omega), bd2_eq]
      rw [net_eq ho (by omega)]
  · refine ⟨-100001, _, _, ?_, tl_w48 (v := -100001) hR, ?_, rel_fin (v := -100001) hR (by decide)⟩
    · unfold f_X11_net
      rw [b_isFirm_X11, if_neg hat, if_pos rfl]
      simp (decide := true) only [gd_ob h65, e_told h65, bd2_eq]
    · unfold f_X12_net
      rw [b_isFirm_X12, if_neg hat, if_pos rfl]
      simp (decide := true) only [gd_ob g65, e_finding g65, bd2_eq]
/-- which loads were given to a lorry -/
def gvB (N : Nat → Int32) (l : Int32) : Nat → Int32
  | 0 => 0
  | k + 1 => if N (112 + 11 * k + 10) = l then gvB N l k ||| (1 <<< (nI k &&& 31)) else gvB N l k
theorem e_givenTo {S : Wd} (hI : Inv S) {n : Nat} (hn : n ≤ 8) (v : wI S 11 0 = nI n) (hl : ∀ i, i < n → wI S 11 (1 + i * 11 + 10) = wI S 49 (112 + 11 * i + 10)) (l : Int32) : f_X11_givenTo S 0 l = some (gvB (wI S 49) l n, S) := by
  obtain ⟨h65, hF⟩ := id hI
  have s1 : ∀ k, k < n → B_X11_givenTo (1, [0], [l, gvB (wI S 49) l k, nI k], S) = some (.inr (1, [0], [l, gvB (wI S 49) l (k + 1), nI (k + 1)], S)) := by
    intro k hk
    show B_X11_givenTo_1 S 0 l _ (nI k) = _
    unfold B_X11_givenTo_1
    simp (decide := true) only [gd_ob h65, hF, Option.bind_some, e_count hI tb10, bd2_eq]
    rw [show wI S (10 + 1) 0 = nI n from v, if_neg (nI_ge hk (by omega)), show (10 : Int32) = nI 10 from rfl, e_at hI tb10 v hn hk (by decide), bd2_eq, show wI S (10 + 1) (1 + k * 11 + 10) = _ from hl k hk, nI_1, gvB]
    split <;> rfl
  unfold f_X11_givenTo
  refine (ru_step (s' := (1, [0], [l, 0, nI 0], S)) rfl).trans ((ru_for (fun k => (1, [0], [l, gvB (wI S 49) l k, nI k], S)) n s1).trans ?_)
  refine ru_done ?_
  show B_X11_givenTo_1 S 0 l _ (nI n) = _
  unfold B_X11_givenTo_1
  simp (decide := true) only [gd_ob h65, hF, Option.bind_some, e_count hI tb10, bd2_eq]
  rw [show wI S (10 + 1) 0 = nI n from v, if_pos (nI_le (Nat.le_refl n) (by omega))]
theorem i32_or0 (x : Int32) : x ||| 0 = x := by
  apply Int32.toBitVec_inj.mp
  simp
theorem sim_lorryIs {j : Nat} {S : Wd} (hR : Rel j S) (hj : j < 512) (a1 a2 : Int32) : ∃ r S1 S2, f_X11_lorryIs S 0 a1 a2 = some (r, S1) ∧ 48 < wn S1 ∧ f_X12_lorryIs S1 48 a1 a2 = some (r, S2) ∧ Rel (j + 1) S2 := by
  have hI := hR.1
  obtain ⟨h65, hF⟩ := id hI
  obtain ⟨-, ⟨n, hn, u, v, hl⟩, ⟨m, hm, um, vm, hd⟩, -⟩ := rel_core hR
  have hC : f_X11_lorryIs S 0 a1 a2 = if 0 ≤ a1 ∧ a1 < nI n then (if 0 ≤ a2 ∧ a2 ≤ 7 then (if a2 = 7 then some (gvB (wI S 49) a1 m, S) else bd2 (f_X8_at S 8 a1 a2) (fun r S' => some (r, S'))) else some (-100001, tl S (-100001))) else some (-100001, tl S (-100001)) := by
    unfold f_X11_lorryIs
    simp (decide := true) only [gd_ob h65, hF, Option.bind_some]
    rw [b_has hI tb8, v]
    simp (decide := true) only [gd_ob h65, hF, Option.bind_some, b_within_X11, if_true, if_false, e_told h65, bd2_eq, e_givenTo hI hm vm (fun i hi => (hd i hi).2.1)]
  have hM0 : ∀ {S' : Wd}, Inv S' → wI S' 49 = wI S 49 → B_X12_lorryIs (0, [48], [a1, a2], S') = if 0 ≤ a1 ∧ a1 < nI n then (if 0 ≤ a2 ∧ a2 ≤ 7 then (if 7 ≤ a2 then some (.inr (1, [48], [a1, a2, 0, nI 0], S')) else some (.inl (wI S 49 (70 + 7 * a1.toNatClampNeg + a2.toNatClampNeg), S'))) else some (.inl (-100001, fl S'))) else some (.inl (-100001, fl S')) := by
    intro S' hI' hN
    obtain ⟨g65, hG⟩ := id hI'
    show B_X12_lorryIs_0 S' 48 a1 a2 = _
    unfold B_X12_lorryIs_0
    simp (decide := true) only [gd_ob g65]
    rw [b_isLorry hI' (by rw [hN]; exact u) (by omega)]
    simp (decide := true) only [gd_ob g65, hG, Option.bind_some, b_within_X12, if_true, if_false, e_finding g65, bd2_eq]
    split
    · rename_i hat
      obtain ⟨i, hi, rfl⟩ := nat_lt hat.1 hat.2 (by omega)
      split
      · rename_i hk
        obtain ⟨c, hc, rfl⟩ := nat_le (n := 7) hk.1 hk.2 (by decide)
        split
        · rfl
        · rw [e_ofLorry, bd2_eq, gd_pos (rdN g65 (by omega)), nI_clamp (by omega), nI_clamp (by omega), nI_clamp (by omega), hN]
      · rfl
    · rfl
  have hM1 : ru B_X12_lorryIs (1, [48], [a1, a2, 0, nI 0], S) = some (gvB (wI S 49) a1 m, S) := by
    have s1 : ∀ k, k < m → B_X12_lorryIs (1, [48], [a1, a2, gvB (wI S 49) a1 k, nI k], S) = some (.inr (1, [48], [a1, a2, gvB (wI S 49) a1 (k + 1), nI (k + 1)], S)) := by
      intro k hk
      show B_X12_lorryIs_1 S 48 a1 a2 _ (nI k) = _
      unfold B_X12_lorryIs_1
      simp (decide := true) only [gd_ob h65, gd_ix h65, hF, Option.bind_some]
      rw [show wI S 49 (Int32.toNatClampNeg 65) = nI m from um, if_neg (nI_ge hk (by omega)), show (10 : Int32) = nI 10 from rfl, e_ofLoad, bd2_eq, gd_pos (rdN h65 (by omega)), nI_clamp (by omega), nI_1, i32_or0, gvB]
      split <;> rfl
    refine (ru_for (fun k => (1, [48], [a1, a2, gvB (wI S 49) a1 k, nI k], S)) m s1).trans ?_
    refine ru_done ?_
    show B_X12_lorryIs_1 S 48 a1 a2 _ (nI m) = _
    unfold B_X12_lorryIs_1
    simp (decide := true) only [gd_ob h65, gd_ix h65, hF, Option.bind_some]
    rw [show wI S 49 (Int32.toNatClampNeg 65) = nI m from um, if_pos (nI_le (Nat.le_refl m) (by omega))]
  rw [hC]
  unfold f_X12_lorryIs
  split
  · rename_i hat
    split
    · rename_i hk
      obtain ⟨i, hi, rfl⟩ := nat_lt hat.1 hat.2 (by omega)
      obtain ⟨c, hc, rfl⟩ := nat_le (n := 7) hk.1 hk.2 (by decide)
      by_cases h7 : c = 7
      · subst h7
        rw [if_pos (show nI 7 = 7 from rfl)]
        exact ⟨_, S, S, rfl, rel_w48 hR, by rw [ru_step (by rw [hM0 hI rfl, if_pos hat, if_pos hk, if_pos (by decide)])]; exact hM1, rel_up hR⟩
      · have hne : ¬ nI c = 7 := fun e => h7 ((nI_eq (by omega) (by decide)).mp (e : nI c = nI 7))
        rw [if_neg hne, e_at hI tb8 v hn hi (by omega), bd2_eq]
        obtain ⟨x, -, e1, e2⟩ := hl i hi c (by omega)
        refine ⟨_, S, S, rfl, rel_w48 hR, ru_done ?_, rel_up hR⟩
        rw [hM0 hI rfl, if_pos hat, if_pos hk, if_neg (show ¬ (7 : Int32) ≤ nI c from nI_ge (b := 7) (by omega) (by decide)), nI_clamp (by omega), nI_clamp (by omega), e1, show wI S (8 + 1) (1 + i * 7 + c) = nI x from e2]
    · rename_i hk
      exact ⟨_, _, _, rfl, tl_w48 hR, ru_done (by rw [hM0 hI.tl (tl_arr (by decide)), if_pos hat, if_neg hk]), rel_fin hR (by decide)⟩
  · rename_i hat
    exact ⟨_, _, _, rfl, tl_w48 hR, ru_done (by rw [hM0 hI.tl (tl_arr (by decide)), if_neg hat]), rel_fin hR (by decide)⟩
