/-! acts that write one place -/
theorem rel_row {j : Nat} {S S1 S2 : Wd} {ro fr m o p q : Nat} {st : Nat → Nat → Prop} (hR : Rel j S) (hq : q ≤ 16) (hp : p < 16) (hh : hist (pv S) (wO S) (wl S) (wn S) q p) (hro : ro ∈ rowset) (hfm : fr + m ≤ (kT ro).2) (hc : CK S S1 ro fr m o p q st) (hs : ∀ a i, st a i → a = ro) (hm : MK S1 S2 q) (hcore : core (fun a => if a = ro then wI S1 ro else wI S a) (wI S2 49)) (hst : ∀ (D D' : Pv) (N : Nat → Int32), (∀ a, a ∈ rowset → ∀ i, ¬ st a i → D' a i = D a i) → (∀ c, 64 ≤ c → c ≤ 68 → N c ≤ pv S 49 c) → core D N → core D' N) (hmono : ∀ c, 64 ≤ c → c ≤ 68 → wI S 49 c ≤ wI S2 49 c) (hj : j < 512) : Rel (j + 1) S2 := by
  refine rel_act st hR hq hp hh hro hfm hc hm ?_ hst hmono hj
  refine core_congr (fun a ha => ?_) hcore
  rw [act_rows hc hm ha]
  show _ = if a = ro then wI S1 ro else wI S a
  by_cases he : a = ro
  · rw [if_pos he, he]
  · rw [if_neg he]
    exact funext fun k => hc.2.2.2.2.2.2.2.2.2.2.2.2.2 a ha k (fun h => he h.1) (fun h => he (hs a k h))
theorem same_row {S : Wd} {f : Nat → Int32} {ro : Nat} : ∀ a, a ∈ rowset → a ≠ ro → (fun a => if a = ro then f else wI S a) a = wI S a := fun _ _ h => if_neg h
theorem cRoad_set {C C' : Pv} {N N' : Nat → Int32} {x y w : Nat} (hx : x < 8) (hy : y < 8) (hne : x ≠ y) (hw : w ≤ 400) (eC : ∀ k, C' 6 k = if k = 8 * min x y + max x y then nI w else C 6 k) (eN : ∀ k, N' k = if k = 8 * y + x then nI w else if k = 8 * x + y then nI w else N k) (h : cRoad C N) : cRoad C' N' := by
  intro a b ha hb
  obtain ⟨r, x1, x2, x3⟩ := h a b ha hb
  by_cases he : (a = x ∧ b = y) ∨ (a = y ∧ b = x)
  · refine ⟨w, hw, ?_, fun _ => ?_⟩
    · rw [eN]
      rcases he with ⟨rfl, rfl⟩ | ⟨rfl, rfl⟩
      · rw [if_neg (by omega), if_pos rfl]
      · rw [if_pos rfl]
    · rw [eC, if_pos (by omega)]
  · refine ⟨r, x1, ?_, fun hab => ?_⟩
    · rw [eN, if_neg (by omega), if_neg (by omega)]; exact x2
    · rw [eC, if_neg (by omega)]; exact x3 hab
/-- road -/
theorem sim_road {j : Nat} {S : Wd} (hR : Rel j S) (hj : j < 512) (a1 a2 a3 : Int32) : ∃ r S1 S2, f_X11_road S 0 a1 a2 a3 = some (r, S1) ∧ 48 < wn S1 ∧ f_X12_road S1 48 a1 a2 a3 = some (r, S2) ∧ Rel (j + 1) S2 := by
  have hI := hR.1
  obtain ⟨h65, hF⟩ := id hI
  obtain ⟨g65, hG⟩ := id (hI.tl (v := -100001))
  have hcore := rel_core hR
  obtain ⟨q, p, hq, hp, h13, h14, h48, hh⟩ := rel_jn hR
  by_cases hok : (0 ≤ a1 ∧ a1 ≤ 7) ∧ (0 ≤ a2 ∧ a2 ≤ 7) ∧ ¬ a1 = a2 ∧ (0 ≤ a3 ∧ a3 ≤ 400)
  · obtain ⟨o1, o2, o3, o4⟩ := hok
    obtain ⟨x, hx, rfl⟩ := nat_le (n := 7) o1.1 o1.2 (by decide)
    obtain ⟨y, hy, rfl⟩ := nat_le (n := 7) o2.1 o2.2 (by decide)
    obtain ⟨w, hw, rfl⟩ := nat_le (n := 400) o4.1 o4.2 (by decide)
    have hne : x ≠ y := fun e => o3 (by rw [e])
    have eix : mMin (nI x) (nI y) * 8 + mMax (nI x) (nI y) = nI (8 * min x y + max x y) := by
      rw [mMin_nI (by omega) (by omega), mMax_nI (by omega) (by omega)]
      show nI (min x y) * nI 8 + nI (max x y) = _
      rw [nI_mul, nI_add, Nat.mul_comm]
    obtain ⟨g, hg1, hg2⟩ := e_keep hI (ro := 6) (fr := 8 * min x y + max x y) (m := 1) (by decide) (by decide) (by show _ ≤ 64; omega) (by decide) hp hq h14 h13
    have hck0 := ck_kp (S := S) (p := p) (q := q) h65 (show (6 : Nat) ∈ rowset by decide) hg2
    have hck := hck0.wr (k := 8 * min x y + max x y) (v := nI w) h65 (by decide) (Or.inl ⟨Nat.le_refl _, by omega⟩)
    have hIK := ck_inv hI hck0
    generalize hK : kpS S 6 (8 * min x y + max x y) 1 p q g = K at hg1 hck0 hck hIK
    obtain ⟨K65, hKF⟩ := id hIK
    obtain ⟨w48, e48, e49⟩ := ck_48 h65 hck
    have hI1 := ck_inv hI hck
    obtain ⟨T, t1, t2, t3, t4⟩ := rel_keepM hI1 hq (by rw [e48]; exact h48)
    obtain ⟨T65, hTF⟩ := id t3
    refine ⟨wI S 6 (8 * min x y + max x y), sI K 6 (8 * min x y + max x y) (nI w), sI (sI T 49 (8 * x + y) (nI w)) 49 (8 * y + x) (nI w), ?_, w48, ?_, ?_⟩
    · unfold f_X11_road
      rw [b_isTown_X11, if_pos o1, if_neg (by decide), b_isTown_X11, if_pos o2, if_neg (by decide), if_neg o3, b_within_X11, if_pos o4, if_neg (by decide)]
      simp (decide := true) only [gd_ob h65, hF, Option.bind_some]
      unfold f_X10_join
      rw [b_isTown_X11, if_pos o1, if_neg (by decide), b_isTown_X11, if_pos o2, if_neg (by decide)]
      simp (decide := true) only [gd_ob h65, hF, Option.bind_some, eix]
      rw [gd_pos (ix_of h65 (by decide) (by decide) (by show _ < 64; omega)), show (1 : Int32) = nI 1 from rfl, hg1, Option.bind_some]
      simp (decide := true) only [gd_ob K65, hKF, Option.bind_some]
      rw [gd_pos (ix_of K65 (by decide) (by decide) (by show _ < 64; omega)), nI_clamp (by omega)]
      rfl
    · have hT1 : 65 ≤ wn (sI T 49 (8 * x + y) (nI w)) := T65
      unfold f_X12_road
      rw [b_isTown_X12, if_pos o1, if_neg (by decide), b_isTown_X12, if_pos o2, if_neg (by decide), if_neg o3, b_within_X12, if_pos o4, if_neg (by decide), gd_pos (ob_of hI1.1 (by decide) (by decide)), t1, Option.bind_some]
      simp (decide := true) only [gd_ob T65, hTF, Option.bind_some]
      rw [show (0 : Int32) + 8 * nI x + nI y = nI (8 * x + y) by show nI 0 + nI 8 * nI x + nI y = _; rw [nI_mul, nI_add, nI_add, Nat.zero_add], show (0 : Int32) + 8 * nI y + nI x = nI (8 * y + x) by show nI 0 + nI 8 * nI y + nI x = _; rw [nI_mul, nI_add, nI_add, Nat.zero_add], gd_pos (rdN T65 (by omega)), gd_pos (rdN T65 (by omega)), nI_clamp (by omega), nI_clamp (by omega)]
      show gd (ob (sI T 49 (8 * x + y) (nI w)) 48 12) _ = _
      rw [gd_pos (ob_of hT1 (by decide) (by decide)), wO_sI]
      simp (decide := true) only [hTF, Option.bind_some]
      rw [gd_pos (rdN hT1 (by omega)), t4, e49]
      obtain ⟨r, -, y1, y2⟩ := hcore.1 x y (by omega) (by omega)
      rw [y1, y2 hne]
      rfl
    · have hmk := (t2.wr (k := 8 * x + y) (v := nI w)).wr (k := 8 * y + x) (v := nI w)
      have eN : ∀ k, wI (sI (sI T 49 (8 * x + y) (nI w)) 49 (8 * y + x) (nI w)) 49 k = if k = 8 * y + x then nI w else if k = 8 * x + y then nI w else wI S 49 k := by
        intro k
        rw [wI_sI, if_pos rfl, wI_sI, if_pos rfl, t4, e49]
      refine rel_row hR hq hp hh (show (6 : Nat) ∈ rowset by decide) (show 8 * min x y + max x y + 1 ≤ 64 by omega) hck (fun _ _ h => h.elim) hmk ?_ (st_none _) ?_ hj
      · refine core_Road same_row (fun k _ h1 => by rw [eN, if_neg (by omega), if_neg (by omega)]) (cRoad_set (by omega) (by omega) hne hw (fun k => ?_) eN hcore.1) hcore
        show (if (6 : Nat) = 6 then wI (sI K 6 (8 * min x y + max x y) (nI w)) 6 else wI S 6) k = _
        rw [if_pos rfl]
        by_cases he : k = 8 * min x y + max x y
        · rw [if_pos he, he, wI_sI_eq]
        · rw [if_neg he, wI_sI_ne (fun h => he h.2)]
          exact hck0.2.2.2.2.2.2.2.2.2.2.2.2.2 6 (by decide) k (fun h => he (by omega)) id
      · intro c c1 c2
        rw [eN, if_neg (by omega), if_neg (by omega)]
        exact Int32.le_refl _
  · refine ⟨-100001, _, _, ?_, tl_w48 (v := -100001) hR, ?_, rel_fin (v := -100001) hR (by decide)⟩
    · unfold f_X11_road
      rw [b_isTown_X11]
      split
      · rename_i o1
        rw [if_neg (by decide), b_isTown_X11]
        split
        · rename_i o2
          rw [if_neg (by decide)]
          split
          · simp (decide := true) only [gd_ob h65, e_told h65, bd2_eq]
          · rename_i o3
            rw [b_within_X11, if_neg (fun o4 => hok ⟨o1, o2, o3, o4⟩)]
            simp (decide := true) only [if_true, gd_ob h65, e_told h65, bd2_eq]
        · simp (decide := true) only [if_true, gd_ob h65, e_told h65, bd2_eq]
      · simp (decide := true) only [if_true, gd_ob h65, e_told h65, bd2_eq]
    · unfold f_X12_road
      rw [b_isTown_X12]
      split
      · rename_i o1
        rw [if_neg (by decide), b_isTown_X12]
        split
        · rename_i o2
          rw [if_neg (by decide)]
          split
          · simp (decide := true) only [gd_ob g65, e_finding g65, bd2_eq]
          · rename_i o3
            rw [b_within_X12, if_neg (fun o4 => hok ⟨o1, o2, o3, o4⟩)]
            simp (decide := true) only [if_true, gd_ob g65, e_finding g65, bd2_eq]
        · simp (decide := true) only [if_true, gd_ob g65, e_finding g65, bd2_eq]
      · simp (decide := true) only [if_true, gd_ob g65, e_finding g65, bd2_eq]
