/-! cannot: the reference, and the whole -/
theorem e_canS {V : Wd} (hI : Inv V) {n : Nat} (hn : n ≤ 30) (u : wI V 49 68 = nI n) {X Y Z : Nat → Nat} (hf : ∀ i, i < n → X i < 6 ∧ Y i < 8 ∧ Z i ≤ 4000 ∧ wI V 49 (260 + i) = nI (X i + 6 * Y i + 48 * Z i)) {w : Nat → Int32} (hw : ∀ k, k < 64 → wI V 54 k = w k) {l : Nat} (hl : l < 6) (fi c : Int32) {i j : Nat} (hi : i < n) (hj : j < n) : (¬ cbP X Y Z w l i j → B_X12_cannot (2, [48], [nI l, fi, c, nI i, nI j], V) = some (.inr (2, [48], [nI l, fi, c, nI i, nI (j + 1)], V))) ∧ (cbP X Y Z w l i j → B_X12_cannot (2, [48], [nI l, fi, c, nI i, nI j], V) = if fi = 0 then some (.inr (2, [48], [nI l, fi, c + 1, nI i, nI (j + 1)], V)) else some (.inl (100 * nI i + nI j, V))) := by
  obtain ⟨h65, hF⟩ := id hI
  obtain ⟨x1, y1, z1, e1⟩ := hf i hi
  obtain ⟨x2, y2, z2, e2⟩ := hf j hj
  obtain ⟨p1, p2, p3⟩ := rep_parts x1 y1 z1
  obtain ⟨q1, q2, q3⟩ := rep_parts x2 y2 z2
  have key : B_X12_cannot (2, [48], [nI l, fi, c, nI i, nI j], V) = if nI (X i) = nI l then (if nI (X j) = nI l then (if w (8 * Y i + Y j) ≤ mAbs (nI (Z i) - nI (Z j)) then some (.inr (2, [48], [nI l, fi, c, nI i, nI (j + 1)], V)) else (if fi = 0 then some (.inr (2, [48], [nI l, fi, c + 1, nI i, nI (j + 1)], V)) else some (.inl (100 * nI i + nI j, V)))) else some (.inr (2, [48], [nI l, fi, c, nI i, nI (j + 1)], V))) else some (.inr (2, [48], [nI l, fi, c, nI i, nI (j + 1)], V)) := by
    show B_X12_cannot_2 V 48 (nI l) fi c (nI i) (nI j) = _
    unfold B_X12_cannot_2
    simp (decide := true) only [gd_ob h65, hF, Option.bind_some, gd_pos (show ix V 49 100 (68 : Int32) from rdN h65 (show 68 < 424 by decide)), show (68 : Int32).toNatClampNeg = 68 from rfl, u, if_true, if_false]
    rw [if_neg (nI_ge hj (by omega)), show (260 : Int32) + nI i = nI (260 + i) from nI_add 260 i, show (260 : Int32) + nI j = nI (260 + j) from nI_add 260 j, gd_pos (rdN h65 (by omega)), gd_pos (rdN h65 (by omega)), nI_clamp (show 260 + i < 2 ^ 31 by omega), nI_clamp (show 260 + j < 2 ^ 31 by omega), e1, e2, p1, q1, p2, q2, p3, q3, show (8 : Int32) * nI (Y i) + nI (Y j) = nI (8 * Y i + Y j) by show nI 8 * nI (Y i) + nI (Y j) = _; rw [nI_mul, nI_add], gd_pos (ix_of h65 (by decide) (by decide) (show 8 * Y i + Y j < 64 by omega)), nI_clamp (show 8 * Y i + Y j < 2 ^ 31 by omega), hw _ (by omega), nI_1, show c + 0 = c from Int32.add_zero c]
  constructor
  · intro hp
    rw [key]
    by_cases h1 : X i = l
    · rw [if_pos (show nI (X i) = nI l by rw [h1])]
      by_cases h2 : X j = l
      · rw [if_pos (show nI (X j) = nI l by rw [h2])]
        by_cases hb : w (8 * Y i + Y j) ≤ mAbs (nI (Z i) - nI (Z j))
        · rw [if_pos hb]
        · exact absurd ⟨h1, h2, hb⟩ hp
      · rw [if_neg (fun h => h2 ((nI_eq (by omega) (by omega)).mp h))]
    · rw [if_neg (fun h => h1 ((nI_eq (by omega) (by omega)).mp h))]
  · rintro ⟨h1, h2, hb⟩
    rw [key, if_pos (show nI (X i) = nI l by rw [h1]), if_pos (show nI (X j) = nI l by rw [h2]), if_neg hb]
theorem e_canE {V : Wd} (hI : Inv V) {n : Nat} (hn : n ≤ 30) (u : wI V 49 68 = nI n) (l fi c : Int32) {i j : Nat} (hj : j = n) : ru B_X12_cannot (2, [48], [l, fi, c, nI i, nI j], V) = ru B_X12_cannot (1, [48], [l, fi, c, nI (i + 1)], V) := by
  obtain ⟨h65, hF⟩ := id hI
  subst hj
  refine ru_step ?_
  show B_X12_cannot_2 V 48 l fi c (nI i) (nI j) = _
  unfold B_X12_cannot_2
  simp (decide := true) only [gd_ob h65, hF, Option.bind_some, gd_pos (show ix V 49 100 (68 : Int32) from rdN h65 (show 68 < 424 by decide)), show (68 : Int32).toNatClampNeg = 68 from rfl, u]
  rw [if_pos (Int32.le_refl _), nI_1]
theorem e_can1 {V : Wd} (hI : Inv V) {n : Nat} (hn : n ≤ 30) (u : wI V 49 68 = nI n) (l fi c : Int32) {i : Nat} : (i < n → ru B_X12_cannot (1, [48], [l, fi, c, nI i], V) = ru B_X12_cannot (2, [48], [l, fi, c, nI i, nI (i + 1)], V)) ∧ (i = n → ru B_X12_cannot (1, [48], [l, fi, c, nI i], V) = if fi = 0 then some (c, V) else some (-100006, fl V)) := by
  obtain ⟨h65, hF⟩ := id hI
  have key : B_X12_cannot (1, [48], [l, fi, c, nI i], V) = if nI n ≤ nI i then (if fi = 0 then some (.inl (c, V)) else some (.inl (-100006, fl V))) else some (.inr (2, [48], [l, fi, c, nI i, nI (i + 1)], V)) := by
    show B_X12_cannot_1 V 48 l fi c (nI i) = _
    unfold B_X12_cannot_1
    simp (decide := true) only [gd_ob h65, hF, Option.bind_some, gd_pos (show ix V 49 100 (68 : Int32) from rdN h65 (show 68 < 424 by decide)), show (68 : Int32).toNatClampNeg = 68 from rfl, u, e_finding h65, bd2_eq, nI_1]
  constructor
  · intro h
    rw [if_neg (nI_ge h (by omega))] at key
    exact ru_step key
  · rintro rfl
    rw [if_pos (Int32.le_refl _)] at key
    by_cases hf : fi = 0
    · rw [if_pos hf] at key ⊢
      exact ru_done key
    · rw [if_neg hf] at key ⊢
      exact ru_done key
theorem e_canA {V : Wd} (hI : Inv V) {n : Nat} (hn : n ≤ 30) (u : wI V 49 68 = nI n) {X Y Z : Nat → Nat} (hf : ∀ i, i < n → X i < 6 ∧ Y i < 8 ∧ Z i ≤ 4000 ∧ wI V 49 (260 + i) = nI (X i + 6 * Y i + 48 * Z i)) {w : Nat → Int32} (hw : ∀ k, k < 64 → wI V 54 k = w k) {l : Nat} (hl : l < 6) {i : Nat} (hi : i < n) : ∀ (f j : Nat) (s : Nat × Int32), j + f = n → ru B_X12_cannot (2, [48], [nI l, 0, nI s.1, nI i, nI j], V) = ru B_X12_cannot (1, [48], [nI l, 0, nI (cbI (cbP X Y Z w l) i f j s).1, nI (i + 1)], V)
  | 0, j, s, hj => e_canE hI hn u _ _ _ (by omega)
  | f + 1, j, s, hj => by
    obtain ⟨k1, k2⟩ := e_canS hI hn u hf hw hl 0 (nI s.1) hi (show j < n by omega)
    unfold cbI
    rcases Classical.em (cbP X Y Z w l i j) with hp | hp
    · have h := k2 hp
      rw [if_pos rfl, nI_1] at h
      rw [cbS_pos hp]
      exact (ru_step h).trans (e_canA hI hn u hf hw hl hi f (j + 1) (s.1 + 1, if s.1 = 0 then 100 * nI i + nI j else s.2) (by omega))
    · rw [cbS_neg hp]
      exact (ru_step (k1 hp)).trans (e_canA hI hn u hf hw hl hi f (j + 1) s (by omega))
theorem e_canAO {V : Wd} (hI : Inv V) {n : Nat} (hn : n ≤ 30) (u : wI V 49 68 = nI n) {X Y Z : Nat → Nat} (hf : ∀ i, i < n → X i < 6 ∧ Y i < 8 ∧ Z i ≤ 4000 ∧ wI V 49 (260 + i) = nI (X i + 6 * Y i + 48 * Z i)) {w : Nat → Int32} (hw : ∀ k, k < 64 → wI V 54 k = w k) {l : Nat} (hl : l < 6) : ∀ (f i : Nat) (s : Nat × Int32), i + f = n → ru B_X12_cannot (1, [48], [nI l, 0, nI s.1, nI i], V) = some (nI (cbO (cbP X Y Z w l) n f i s).1, V)
  | 0, i, s, hi => ((e_can1 hI hn u (nI l) 0 (nI s.1) (i := i)).2 (by omega)).trans (if_pos rfl)
  | f + 1, i, s, hi => by
    unfold cbO
    exact ((e_can1 hI hn u (nI l) 0 (nI s.1) (i := i)).1 (by omega)).trans ((e_canA hI hn u hf hw hl (show i < n by omega) (n - (i + 1)) (i + 1) s (by omega)).trans (e_canAO hI hn u hf hw hl f (i + 1) _ (by omega)))
theorem e_canF {V : Wd} (hI : Inv V) {n : Nat} (hn : n ≤ 30) (u : wI V 49 68 = nI n) {X Y Z : Nat → Nat} (hf : ∀ i, i < n → X i < 6 ∧ Y i < 8 ∧ Z i ≤ 4000 ∧ wI V 49 (260 + i) = nI (X i + 6 * Y i + 48 * Z i)) {w : Nat → Int32} (hw : ∀ k, k < 64 → wI V 54 k = w k) {l : Nat} (hl : l < 6) {fi : Int32} (hfi : ¬ fi = 0) (c : Int32) (fp : Int32) {i : Nat} (hi : i < n) : ∀ (f j : Nat), j + f = n → ru B_X12_cannot (2, [48], [nI l, fi, c, nI i, nI j], V) = if (cbI (cbP X Y Z w l) i f j (0, fp)).1 = 0 then ru B_X12_cannot (1, [48], [nI l, fi, c, nI (i + 1)], V) else some ((cbI (cbP X Y Z w l) i f j (0, fp)).2, V)
  | 0, j, hj => (e_canE hI hn u _ _ _ (by omega)).trans (if_pos rfl).symm
  | f + 1, j, hj => by
    obtain ⟨k1, k2⟩ := e_canS hI hn u hf hw hl fi c hi (show j < n by omega)
    unfold cbI
    rcases Classical.em (cbP X Y Z w l i j) with hp | hp
    · have h := k2 hp
      rw [if_neg hfi] at h
      rw [cbS_pos hp, if_pos rfl]
      obtain ⟨h1, h2⟩ := cbI_pos (P := cbP X Y Z w l) (i := i) f (j + 1) (0 + 1, 100 * nI i + nI j) (Nat.succ_pos _)
      show _ = if (cbI (cbP X Y Z w l) i f (j + 1) (0 + 1, 100 * nI i + nI j)).1 = 0 then _ else some ((cbI (cbP X Y Z w l) i f (j + 1) (0 + 1, 100 * nI i + nI j)).2, V)
      rw [if_neg (by omega), h2]
      exact ru_done h
    · rw [cbS_neg hp]
      exact (ru_step (k1 hp)).trans (e_canF hI hn u hf hw hl hfi c fp hi f (j + 1) (by omega))
theorem e_canFO {V : Wd} (hI : Inv V) {n : Nat} (hn : n ≤ 30) (u : wI V 49 68 = nI n) {X Y Z : Nat → Nat} (hf : ∀ i, i < n → X i < 6 ∧ Y i < 8 ∧ Z i ≤ 4000 ∧ wI V 49 (260 + i) = nI (X i + 6 * Y i + 48 * Z i)) {w : Nat → Int32} (hw : ∀ k, k < 64 → wI V 54 k = w k) {l : Nat} (hl : l < 6) {fi : Int32} (hfi : ¬ fi = 0) (c : Int32) (fp : Int32) : ∀ (f i : Nat), i + f = n → ru B_X12_cannot (1, [48], [nI l, fi, c, nI i], V) = if (cbO (cbP X Y Z w l) n f i (0, fp)).1 = 0 then some (-100006, fl V) else some ((cbO (cbP X Y Z w l) n f i (0, fp)).2, V)
  | 0, i, hi => ((e_can1 hI hn u (nI l) fi c (i := i)).2 (by omega)).trans ((if_neg hfi).trans (if_pos rfl).symm)
  | f + 1, i, hi => by
    unfold cbO
    refine ((e_can1 hI hn u (nI l) fi c (i := i)).1 (by omega)).trans ((e_canF hI hn u hf hw hl hfi c fp (show i < n by omega) (n - (i + 1)) (i + 1) (by omega)).trans ?_)
    by_cases h0 : (cbI (cbP X Y Z w l) i (n - (i + 1)) (i + 1) (0, fp)).1 = 0
    · rw [if_pos h0, cbI_zero _ _ _ h0]
      exact e_canFO hI hn u hf hw hl hfi c fp f (i + 1) (by omega)
    · rw [if_neg h0]
      obtain ⟨h1, h2⟩ := cbO_pos (P := cbP X Y Z w l) (n := n) f (i + 1) (cbI (cbP X Y Z w l) i (n - (i + 1)) (i + 1) (0, fp)) (by omega)
      rw [if_neg (by omega), h2]
theorem cbO_zero {P : Nat → Nat → Prop} {n : Nat} : ∀ (f i : Nat) (s : Nat × Int32), (cbO P n f i s).1 = 0 → cbO P n f i s = s
  | 0, _, _, _ => rfl
  | f + 1, i, s, h => by
    unfold cbO at h ⊢
    by_cases h0 : (cbI P i (n - (i + 1)) (i + 1) s).1 = 0
    · rw [cbI_zero _ _ _ h0] at h ⊢
      exact cbO_zero f (i + 1) s h
    · have := (cbO_pos (P := P) (n := n) f (i + 1) (cbI P i (n - (i + 1)) (i + 1) s) (by omega)).1
      omega
theorem sim_cannot {j : Nat} {S : Wd} (hR : Rel j S) (hj : j < 512) (a1 a2 : Int32) : ∃ r S1 S2, f_X11_cannot S 0 a1 a2 = some (r, S1) ∧ 48 < wn S1 ∧ f_X12_cannot S1 48 a1 a2 = some (r, S2) ∧ Rel (j + 1) S2 := by
  have hI := hR.1
  obtain ⟨h65, hF⟩ := id hI
  obtain ⟨k1, ⟨m, hm, mu, mv, ml⟩, k3, k4, k5, k6, -⟩ := rel_core hR
  obtain ⟨n, hn, u, v, hf⟩ := rep_facts k6
  by_cases o1 : 0 ≤ a1 ∧ a1 < nI m
  · obtain ⟨l, hl, rfl⟩ := nat_lt o1.1 o1.2 (by omega)
    obtain ⟨W, w1, w2, w3, w4⟩ := rel_measure hR
    have hIW := w3.1
    obtain ⟨W65, hWF⟩ := id hIW
    have e30 : wI W 30 = wI S 30 := w2.arr (by omega)
    have e49 : wI W 49 = wI S 49 := w2.arr (by omega)
    have hA0 : Ag (fun a k => a = 28 ∧ (k = 2 ∨ k = 3)) W (sI (sI W 28 2 0) 28 3 (-100006)) := (Ag.sI ⟨rfl, Or.inl rfl⟩).trans (Ag.sI ⟨rfl, Or.inr rfl⟩)
    obtain ⟨T, t1, t2, t3, t4⟩ := e_cmpO hIW hn (by rw [e30]; exact v) (X := rpX S) (Y := rpY S) (Z := rpZ S) (fun i hi => by rw [e30]; exact ⟨(hf i hi).1, (hf i hi).2.1, (hf i hi).2.2.1, (hf i hi).2.2.2.1, (hf i hi).2.2.2.2.1, (hf i hi).2.2.2.2.2.1⟩) (w := fw (wI S 49)) w4 (show l < 6 by omega) n 0 (sI (sI W 28 2 0) 28 3 (-100006)) (0, -100006) (by omega) (by
      have : n * n ≤ 30 * 30 := Nat.mul_le_mul hn hn
      show 0 + n * n < _
      omega) hA0 (by rw [wI_sI_ne (by decide), wI_sI_eq]; rfl) wI_sI_eq
    have hle := cbO_le (P := cbP (rpX S) (rpY S) (rpZ S) (fw (wI S 49)) l) (n := n) n 0 (0, -100006)
    have hJ := cbO_J (P := cbP (rpX S) (rpY S) (rpZ S) (fw (wI S 49)) l) (n := n) (by omega) n 0 (0, -100006) (by omega) (Or.inl rfl)
    have hz := cbO_zero (P := cbP (rpX S) (rpY S) (rpZ S) (fw (wI S 49)) l) (n := n) n 0 (0, -100006)
    have hcm : f_X6_compare S 28 (nI l) = some T := by
      unfold f_X6_compare
      refine (ru_step (show B_X6_compare (0, [28], [nI l], S) = some (.inr (1, [28], [nI l, nI 0], sI (sI W 28 2 0) 28 3 (-100006))) from ?_)).trans t1
      show B_X6_compare_0 S 28 (nI l) = _
      unfold B_X6_compare_0
      simp (decide := true) only [gd_ob h65, hF, Option.bind_some, w1, gd_ob W65, ltS, gd_ob (show 65 ≤ wn (sI W 28 2 0) from W65)]
      rfl
    have hRT : Rel j T := rel_qy w3 (t2.qy (by rintro a k ⟨rfl, (rfl | rfl)⟩ <;> rfl))
    have hIT := hRT.1
    obtain ⟨T65, hTF⟩ := id hIT
    have f49 : wI T 49 = wI S 49 := (t2.arr (by omega)).trans e49
    have ref : ∀ {V : Wd}, Inv V → wI V 49 = wI S 49 → ∃ V', Ag (fun a _ => a = 54) V V' ∧ f_X12_cannot V 48 (nI l) a2 = if a2 = 0 then some (nI (cbO (cbP (rpX S) (rpY S) (rpZ S) (fw (wI S 49)) l) n n 0 (0, -100006)).1, V') else if (cbO (cbP (rpX S) (rpY S) (rpZ S) (fw (wI S 49)) l) n n 0 (0, -100006)).1 = 0 then some (-100006, fl V') else some ((cbO (cbP (rpX S) (rpY S) (rpZ S) (fw (wI S 49)) l) n n 0 (0, -100006)).2, V') := by
      intro V hV e
      obtain ⟨V', v1, v2, v3⟩ := e_findFar hV
      have hIV := v2.inv hV (by omega)
      have g49 : wI V' 49 = wI S 49 := (v2.arr (by omega)).trans e
      rw [e] at v3
      have hff : ∀ i, i < n → rpX S i < 6 ∧ rpY S i < 8 ∧ rpZ S i ≤ 4000 ∧ wI V' 49 (260 + i) = nI (rpX S i + 6 * rpY S i + 48 * rpZ S i) := fun i hi => by rw [g49]; exact ⟨(hf i hi).1, (hf i hi).2.1, (hf i hi).2.2.1, (hf i hi).2.2.2.2.2.2⟩
      refine ⟨V', v2, ?_⟩
      unfold f_X12_cannot
      refine (ru_step (show B_X12_cannot (0, [48], [nI l, a2], V) = some (.inr (1, [48], [nI l, a2, nI 0, nI 0], V')) from ?_)).trans ?_
      · show B_X12_cannot_0 V 48 (nI l) a2 = _
        unfold B_X12_cannot_0
        rw [gd_pos (ob_of hV.1 (by decide) (by decide)), b_isLorry hV (by rw [e]; exact mu) (by omega), if_pos o1, if_neg (by decide), gd_pos (ob_of hV.1 (by decide) (by decide)), v1, Option.bind_some]
        rfl
      · by_cases h0 : a2 = 0
        · rw [if_pos h0, h0]
          exact e_canAO hIV hn (by rw [g49]; exact u) hff v3 (by omega) n 0 (0, -100006) (by omega)
        · rw [if_neg h0]
          exact e_canFO hIV hn (by rw [g49]; exact u) hff v3 (by omega) h0 (nI 0) (-100006) n 0 (by omega)
    generalize cbO (cbP (rpX S) (rpY S) (rpZ S) (fw (wI S 49)) l) n n 0 (0, -100006) = R at *
    have hC : f_X11_cannot S 0 (nI l) a2 = if a2 = 0 then some (nI R.1, tl T (nI R.1)) else some (R.2, tl T R.2) := by
      unfold f_X11_cannot f_X6_pairs f_X6_firstPair
      simp (decide := true) only [gd_ob h65, hF, Option.bind_some]
      rw [b_has hI tb8, mv, if_pos o1, if_neg (by decide)]
      simp (decide := true) only [gd_ob h65, hF, Option.bind_some, hcm, gd_ob T65, hTF, bd2_eq, t3, t4, e_told T65]
    have hsq : n * n ≤ 30 * 30 := Nat.mul_le_mul hn hn
    have hle' : R.1 ≤ 0 + n * n := hle
    have q54 : ∀ a k, (fun (a _ : Nat) => a = 54) a k → keepc a k = false := by rintro a k rfl; rfl
    by_cases h0 : a2 = 0
    · obtain ⟨V', v1, v2⟩ := ref hIT f49
      rw [if_pos h0] at v2
      exact ⟨nI R.1, T, V', by rw [hC, if_pos h0, tl_ge (nI_nofind (by omega))], by omega, v2, rel_up (rel_qy hRT (v1.qy q54))⟩
    · by_cases hr : R.1 = 0
      · obtain ⟨V', v1, v2⟩ := ref (hIT.tl (v := -100006)) ((tl_arr (by decide)).trans f49)
        rw [if_neg h0, if_pos hr] at v2
        have hR2 : R.2 = -100006 := by rw [hz hr]
        exact ⟨-100006, _, _, by rw [hC, if_neg h0, hR2], by rw [tl_wn]; omega, v2, rel_qy (rel_fin hRT (by decide)) ((ag_fl v1 (by omega)).qy q54)⟩
      · obtain ⟨V', v1, v2⟩ := ref hIT f49
        rw [if_neg h0, if_neg hr] at v2
        obtain ⟨k, k1, k2⟩ := hJ.resolve_left hr
        exact ⟨R.2, T, V', by rw [hC, if_neg h0, tl_ge (by rw [k2]; exact nI_nofind (by omega))], by omega, v2, rel_up (rel_qy hRT (v1.qy q54))⟩
  · obtain ⟨g65, hG⟩ := id (hI.tl (v := -100001))
    refine ⟨-100001, _, _, ?_, tl_w48 (v := -100001) hR, ru_done ?_, rel_fin (v := -100001) hR (by decide)⟩
    · unfold f_X11_cannot
      simp (decide := true) only [gd_ob h65, hF, Option.bind_some]
      rw [b_has hI tb8, mv, if_neg o1, if_pos rfl]
      simp (decide := true) only [gd_ob h65, e_told h65, bd2_eq]
    · show B_X12_cannot_0 _ 48 a1 a2 = _
      unfold B_X12_cannot_0
      rw [gd_pos (ob_of g65 (by decide) (by decide)), b_isLorry hI.tl (by rw [tl_arr (by decide)]; exact mu) (by omega), if_neg o1, if_pos rfl]
      simp (decide := true) only [gd_ob g65, e_finding g65, bd2_eq]
