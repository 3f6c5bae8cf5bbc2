/-! keeping, on both sides -/
theorem Wd_ext {S S' : Wd} (h1 : wn S = wn S') (h2 : wl S = wl S') (h3 : wI S = wI S') (h4 : wO S = wO S') : S = S' := by
  obtain ⟨a, b, c, d⟩ := S
  obtain ⟨a', b', c', d'⟩ := S'
  have e1 : a = a' := h1
  have e2 : b = b' := h2
  have e3 : c = c' := h3
  have e4 : d = d' := h4
  rw [e1, e2, e3, e4]
theorem sA_self (S : Wd) (i : Nat) : sA S i (wI S i) = S := by
  refine Wd_ext rfl rfl ?_ rfl
  funext a
  rw [wI_sA]
  split
  · rename_i e; rw [e]
  · rfl
theorem sI_sA (S : Wd) (i : Nat) (f : Nat → Int32) (k : Nat) (v : Int32) : sI (sA S i f) i k v = sA S i (upd f k v) := by
  refine Wd_ext rfl rfl ?_ rfl
  funext a c
  rw [wI_sI, wI_sA, wI_sA]
  by_cases e : a = i
  · rw [if_pos e, if_pos e, if_pos e]; rfl
  · rw [if_neg e, if_neg e, if_neg e]
theorem irm_nI {a d : Nat} (ha : a < 2 ^ 31) (h0 : 0 < d) (hd : d < 2 ^ 31) : irm (nI a) (nI d) = nI (a % d) := pk_rem ha h0 hd
theorem mMin_nI {a b : Nat} (ha : a < 2 ^ 31) (hb : b < 2 ^ 31) : mMin (nI a) (nI b) = nI (min a b) := by
  unfold mMin
  by_cases h : b < a
  · rw [if_pos (nI_lt h ha), Nat.min_eq_right (by omega)]
  · rw [if_neg (nI_nlt (by omega) hb), Nat.min_eq_left (by omega)]
theorem mMax_nI {a b : Nat} (ha : a < 2 ^ 31) (hb : b < 2 ^ 31) : mMax (nI a) (nI b) = nI (max a b) := by
  unfold mMax
  by_cases h : a < b
  · rw [if_pos (nI_lt h hb), Nat.max_eq_right (by omega)]
  · rw [if_neg (nI_nlt (by omega) ha), Nat.max_eq_left (by omega)]
theorem kT_ge {i : Nat} (h : 65 ≤ i) : kT i = (100, 0) := by
  unfold kT
  rw [List.getD_eq_getElem?_getD, List.getElem?_eq_none (show kL.length ≤ i from h)]
  rfl
theorem nI_sub {a b : Nat} (h : b ≤ a) : nI a - nI b = nI (a - b) := by
  have : nI (a - b) + nI b = nI a := by rw [nI_add, Nat.sub_add_cancel h]
  rw [← this]
  exact Int32.add_sub_cancel _ _
theorem nk_dyn {S : Wd} (h65 : 65 ≤ wn S) (m : Nat) : nk S 100 m := ⟨by rw [kT_ge h65], by rw [wlen_ge h65, wl_sN, if_pos rfl]⟩
/-- Arrays.copyOfRange -/
theorem e_copy {S : Wd} (h65 : 65 ≤ wn S) {ro fr m : Nat} (ho : ob S ro 100) (hle : fr + m ≤ wlen S ro) (hm : m ≤ 200) (hw : wlen S ro < 2 ^ 31) : ∃ g : Nat → Int32, f_J7_copyOfRange_feecc S ro (nI fr) (nI fr + nI m) = some (wn S, sA (sN S m) (wn S) g) ∧ ∀ i, i < m → g i = wI S ro (fr + i) := by
  have hcpy : ∃ g : Nat → Int32, f_J7_copyOfRangeInt_feecc S ro (nI fr) (nI (fr + m)) = some (wn S, sA (sN S m) (wn S) g) ∧ ∀ i, i < m → g i = wI S ro (fr + i) := by
    have hro : ro < wn S := ho.1
    have e1 : nI (fr + m) - nI fr = nI m := by rw [nI_sub (by omega), Nat.add_sub_cancel_left]
    have hl1 : wlen (sN S m) ro = wlen S ro := by
      by_cases h : ro < 65
      · rw [wlen_lt h, wlen_lt h]
      · rw [wlen_ge (by omega), wlen_ge (by omega), wl_sN, if_neg (by omega)]
    have hl2 : wlen (sN S m) (wn S) = m := by rw [wlen_ge h65, wl_sN, if_pos rfl]
    have o1 : ob (sN S m) ro 100 := ⟨by rw [wn_sN]; omega, ho.2⟩
    have o2 : ob (sN S m) (wn S) 100 := ⟨by rw [wn_sN]; omega, by rw [kT_ge h65]⟩
    have emin : mMin (Int32.ofNat (wlen S ro) - nI fr) (nI m) = nI m := by
      show mMin (nI (wlen S ro) - nI fr) (nI m) = nI m
      rw [nI_sub (by omega), mMin_nI (by omega) (by omega), Nat.min_eq_right (by omega)]
    refine ⟨va_cpy (wI (sN S m) ro) (wI (sN S m) (wn S)) fr 0 m, ?_, fun i hi => ?_⟩
    · unfold f_J7_copyOfRangeInt_feecc f_J7_checkLength_df160
      rw [if_pos (nI_le (by omega) (by omega)), Option.bind_some, e1, gd_pos ⟨nI_pos (by omega), by rw [nI_clamp (by omega)]; exact hm⟩, nI_clamp (by omega), gd_pos (nk_dyn h65 m)]
      show gd (ob (sN S m) ro 100) _ = _
      rw [gd_pos o1, gd_pos o1, gd_pos o2, hl1, hl2, emin, nI_clamp (by omega), nI_clamp (by omega)]
      rw [gd_pos ⟨nI_pos (by omega), by decide, nI_pos (by omega), by omega, by show 0 + m ≤ m; omega⟩]
      rfl
    · show (if 0 ≤ i ∧ i < 0 + m then wI (sN S m) ro (fr + (i - 0)) else _) = _
      rw [if_pos ⟨Nat.zero_le _, by omega⟩, wI_sN, if_neg (by omega)]
      rfl
  rw [nI_add]
  obtain ⟨g, hg1, hg2⟩ := hcpy
  unfold f_J7_copyOfRange_feecc
  by_cases hf : nI fr = 0
  · have hf0 : fr = 0 := (nI_eq (by omega) (by decide)).mp (hf.trans nI_0.symm)
    rw [if_pos hf, gd_pos ho]
    by_cases hlen : nI (fr + m) = Int32.ofNat (wlen S ro)
    · have hl0 : fr + m = wlen S ro := (nI_eq (by omega) hw).mp hlen
      have hml : wlen S ro = m := by omega
      rw [if_pos hlen, gd_pos ho, hml, gd_pos hm, gd_pos (nk_dyn h65 m)]
      refine ⟨wI S ro, ?_, fun i hi => by rw [hf0, Nat.zero_add]⟩
      show gd (ob (sA (sN S m) (wn S) (wI S ro)) (wn S) 100) _ = _
      rw [gd_pos ⟨by rw [wn_sA, wn_sN]; omega, by rw [kT_ge h65]⟩]
    · rw [if_neg hlen, hg1, bd2_eq]
      exact ⟨g, rfl, hg2⟩
  · rw [if_neg hf, hg1, bd2_eq]
    exact ⟨g, rfl, hg2⟩
/-- the world behind Journal.keep -/
def kpS (S : Wd) (ro fr m p q : Nat) (g : Nat → Int32) : Wd := sI (sI (sI (sI (sO (sA (sN (sO S 2 p (some ro)) m) (wn S) g) 3 p (some (wn S))) 4 p (nI fr)) 1 4 (nI ((p + 1) % 16))) 1 3 (nI (min (q + 1) 16))) 1 5 (wI S 1 5 + 1)
theorem e_keep {S : Wd} (hI : Inv S) {ro fr m p q : Nat} (hro : ro < 65) (hk : (kT ro).1 = 100) (hle : fr + m ≤ (kT ro).2) (hm : m ≤ 200) (hp : p < 16) (hq : q ≤ 16) (h14 : wI S 1 4 = nI p) (h13 : wI S 1 3 = nI q) : ∃ g : Nat → Int32, f_X3_keep S 1 ro (nI fr) (nI m) = some (kpS S ro fr m p q g) ∧ ∀ i, i < m → g i = wI S ro (fr + i) := by
  obtain ⟨h65, hF⟩ := id hI
  have hlen : wlen S ro = (kT ro).2 := wlen_lt hro
  have hb : (kT ro).2 < 2 ^ 31 := by
    have hall : ∀ a, a < 65 → (kT a).2 < 2 ^ 31 := by decide +kernel
    exact hall ro hro
  have o0 : ob S ro 100 := ob_of h65 hro hk
  generalize hT : sO S 2 p (some ro) = T
  have T65 : 65 ≤ wn T := by rw [← hT]; exact h65
  have To : ob T ro 100 := ob_of T65 hro hk
  have Tl : wlen T ro = (kT ro).2 := wlen_lt hro
  obtain ⟨g, hg1, hg2⟩ := e_copy (S := T) T65 (fr := fr) (m := m) To (by rw [Tl]; exact hle) hm (by rw [Tl]; exact hb)
  refine ⟨g, ?_, fun i hi => by rw [hg2 i hi, ← hT]; rfl⟩
  have Tn : wn T = wn S := by rw [← hT]; rfl
  have TI : wI T = wI S := by rw [← hT]; rfl
  have TO : ∀ k, wO T 1 k = wO S 1 k := fun k => by rw [← hT, wO_sO, if_neg (by decide)]
  unfold f_X3_keep
  rw [if_neg (nI_pos (by omega)), if_neg (nI_pos (by omega)), gd_pos o0, hlen]
  rw [show Int32.ofNat (kT ro).2 - nI m = nI ((kT ro).2 - m) from nI_sub (by omega), if_pos (nI_le (by omega) (by omega))]
  simp (decide := true) only [gd_ob h65, hF, Option.bind_some]
  rw [h14, gd_pos (ix_of h65 (by decide) (by decide) (by exact hp)), gd_pos o0, nI_clamp (by omega), hT]
  show gd (ob T 1 3) _ = _
  simp (decide := true) only [gd_ob T65, TO, hF, Option.bind_some, TI, h14]
  rw [hg1, bd2_eq]
  generalize hU : sA (sN T m) (wn T) g = U
  have U65 : 65 ≤ wn U := by rw [← hU, wn_sA, wn_sN]; omega
  have UI1 : ∀ k, wI U 1 k = wI S 1 k := fun k => by rw [← hU, wI_sA, if_neg (by omega), wI_sN, if_neg (by omega), TI]
  have UO1 : ∀ k, wO U 1 k = wO S 1 k := fun k => by rw [← hU, wO_sA, wO_sN, if_neg (by omega), TO]
  rw [gd_pos (ix_of U65 (by decide) (by decide) (by exact hp)), gd_pos ⟨by rw [← hU, wn_sA, wn_sN]; omega, by rw [kT_ge T65]⟩, nI_clamp (by omega)]
  simp (decide := true) only [ltS, gd_ob (show 65 ≤ wn (sO U 3 p (some (wn T))) from U65), wO_sO, if_false, if_true, UO1, hF, Option.bind_some, wI_sO, UI1, h14, wI_sI, h13]
  rw [gd_pos (ix_of (show 65 ≤ wn (sO U 3 p (some (wn T))) from U65) (by decide) (by decide) (by exact hp)), nI_clamp (by omega)]
  simp (decide := true) only [gd_ob (show 65 ≤ wn (sI (sO U 3 p (some (wn T))) 4 p (nI fr)) from U65)]
  rw [nI_1, show irm (nI (p + 1)) 16 = nI ((p + 1) % 16) from irm_nI (d := 16) (by omega) (by decide) (by decide), nI_1, show mMin (nI (q + 1)) 16 = nI (min (q + 1) 16) from mMin_nI (b := 16) (by omega) (by decide)]
  rw [gd_pos (ob_of (by exact U65) (by decide) (by decide)), gd_pos (ob_of (by exact U65) (by decide) (by decide)), gd_pos (ob_of (by exact U65) (by decide) (by decide)), gd_pos (ob_of (by exact U65) (by decide) (by decide))]
  unfold kpS
  rw [hT, ← Tn, hU]

/-- the reference's keep -/
theorem e_mkeep {S : Wd} (hI : Inv S) {q : Nat} (hq : q ≤ 16) (h2 : wI S 48 2 = nI q) : ∃ S' : Wd, f_X12_keep S 48 = some S' ∧ wn S' = wn S ∧ wl S' = wl S ∧ wO S' = wO S ∧ (∀ a k, a ≠ 50 → ¬ (a = 48 ∧ k = 2) → wI S' a k = wI S a k) ∧ wI S' 48 2 = nI (min (q + 1) 16) ∧ (∀ i, i < 424 → wI S' 50 (424 * (min (q + 1) 16 - 1) + i) = wI S 49 i) ∧ ∀ t i, t + 1 < min (q + 1) 16 → i < 424 → wI S' 50 (424 * t + i) = wI S 50 (424 * (t + (q + 1 - min (q + 1) 16)) + i) := by
  obtain ⟨h65, hF⟩ := id hI
  -- the second loop, from a world with c kept
  have loop2 : ∀ (T : Wd) (c : Nat), 65 ≤ wn T → wO T 48 0 = some 49 → wO T 48 1 = some 50 → c < 16 → wI T 48 2 = nI c → ru B_X12_keep (2, [48], [nI 0], T) = some (sI (sA T 50 (fun i => if 424 * c ≤ i ∧ i < 424 * c + 424 then wI T 49 (i - 424 * c) else wI T 50 i)) 48 2 (nI (c + 1))) := by
    intro T c T65 T0 T1 hc hT2
    have s1 : ∀ k, k < 424 → B_X12_keep (2, [48], [nI k], sA T 50 (fun i => if 424 * c ≤ i ∧ i < 424 * c + k then wI T 49 (i - 424 * c) else wI T 50 i)) = some (.inr (2, [48], [nI (k + 1)], sA T 50 (fun i => if 424 * c ≤ i ∧ i < 424 * c + (k + 1) then wI T 49 (i - 424 * c) else wI T 50 i))) := by
      intro k hk
      show B_X12_keep_2 _ 48 (nI k) = _
      unfold B_X12_keep_2
      rw [if_neg (show ¬ (424 : Int32) ≤ nI k from nI_ge (b := 424) hk (by decide))]
      simp (decide := true) only [gd_ob (show 65 ≤ wn (sA T 50 _) from T65), wO_sA, T0, T1, Option.bind_some, wI_sA, if_false, if_true, hT2, ltS]
      rw [show nI c * 424 + nI k = nI (424 * c + k) by show nI c * nI 424 + nI k = _; rw [nI_mul, nI_add, Nat.mul_comm], gd_pos (rdN (by exact T65) (by omega)), gd_pos (ix_of (by exact T65) (by decide) (by decide) (by show _ < 6784; omega)), nI_clamp (by omega), nI_clamp (by omega), nI_1, sI_sA]
      congr 6
      funext i
      unfold upd
      by_cases hi : i = 424 * c + k
      · rw [if_pos hi, if_pos ⟨by omega, by omega⟩, hi, Nat.add_sub_cancel_left]
      · rw [if_neg hi]
        dsimp only
        by_cases h : 424 * c ≤ i ∧ i < 424 * c + k
        · rw [if_pos h, if_pos ⟨h.1, by omega⟩]
        · rw [if_neg h, if_neg (fun h' => h ⟨h'.1, by omega⟩)]
    have e0 : sA T 50 (fun i => if 424 * c ≤ i ∧ i < 424 * c + 0 then wI T 49 (i - 424 * c) else wI T 50 i) = T := by
      rw [show (fun i => if 424 * c ≤ i ∧ i < 424 * c + 0 then wI T 49 (i - 424 * c) else wI T 50 i) = wI T 50 from funext fun i => if_neg (by omega)]
      exact sA_self T 50
    have hfor := ru_for (fun k => (2, [48], [nI k], sA T 50 (fun i => if 424 * c ≤ i ∧ i < 424 * c + k then wI T 49 (i - 424 * c) else wI T 50 i))) 424 s1
    rw [e0] at hfor
    rw [hfor]
    refine ru_done ?_
    show B_X12_keep_2 _ 48 (nI 424) = _
    unfold B_X12_keep_2
    rw [if_pos (by decide)]
    simp (decide := true) only [gd_ob (show 65 ≤ wn (sA T 50 _) from T65), wI_sA, if_false, hT2, ltS]
    rw [nI_1]
  by_cases h16 : q = 16
  · subst h16
    have s0 : B_X12_keep (0, [48], [], S) = some (.inr (1, [48], [nI 0], S)) := by
      show B_X12_keep_0 S 48 = _
      unfold B_X12_keep_0
      simp (decide := true) only [gd_ob h65]
      rw [if_pos (show wI S 48 2 = 16 from h2)]
      rfl
    have s1 : ∀ k, k < 6360 → B_X12_keep (1, [48], [nI k], sA S 50 (fun i => if i < k then wI S 50 (i + 424) else wI S 50 i)) = some (.inr (1, [48], [nI (k + 1)], sA S 50 (fun i => if i < k + 1 then wI S 50 (i + 424) else wI S 50 i))) := by
      intro k hk
      show B_X12_keep_1 _ 48 (nI k) = _
      unfold B_X12_keep_1
      rw [if_neg (show ¬ (6360 : Int32) ≤ nI k from nI_ge (b := 6360) hk (by decide))]
      simp (decide := true) only [gd_ob (show 65 ≤ wn (sA S 50 _) from h65), wO_sA, hF, Option.bind_some, wI_sA, if_true, ltS]
      rw [show nI k + 424 = nI (k + 424) from nI_add k 424, gd_pos (ix_of (by exact h65) (by decide) (by decide) (by show _ < 6784; omega)), gd_pos (ix_of (by exact h65) (by decide) (by decide) (by show _ < 6784; omega)), nI_clamp (by omega), nI_clamp (by omega), nI_1, sI_sA, if_neg (by omega)]
      congr 6
      funext i
      unfold upd
      by_cases hi : i = k
      · rw [if_pos hi, if_pos (by omega), hi]
      · rw [if_neg hi]
        dsimp only
        by_cases h : i < k
        · rw [if_pos h, if_pos (by omega)]
        · rw [if_neg h, if_neg (by omega)]
    have e0 : sA S 50 (fun i => if i < 0 then wI S 50 (i + 424) else wI S 50 i) = S := by
      rw [show (fun i => if i < 0 then wI S 50 (i + 424) else wI S 50 i) = wI S 50 from funext fun i => if_neg (by omega)]
      exact sA_self S 50
    have hfor := ru_for (fun k => (1, [48], [nI k], sA S 50 (fun i => if i < k then wI S 50 (i + 424) else wI S 50 i))) 6360 s1
    rw [e0] at hfor
    generalize hT : sI (sA S 50 (fun i => if i < 6360 then wI S 50 (i + 424) else wI S 50 i)) 48 2 (nI 15) = T
    have s2 : B_X12_keep (1, [48], [nI 6360], sA S 50 (fun i => if i < 6360 then wI S 50 (i + 424) else wI S 50 i)) = some (.inr (2, [48], [nI 0], T)) := by
      show B_X12_keep_1 _ 48 (nI 6360) = _
      unfold B_X12_keep_1
      rw [if_pos (by decide)]
      simp (decide := true) only [gd_ob (show 65 ≤ wn (sA S 50 _) from h65), wI_sA, if_false, h2, ltS]
      rw [show nI 16 - 1 = nI 15 from rfl, hT]
      rfl
    have TI : ∀ a k, a ≠ 50 → ¬ (a = 48 ∧ k = 2) → wI T a k = wI S a k := fun a k n1 n2 => by rw [← hT, wI_sI_ne n2, wI_sA, if_neg n1]
    have T50 : ∀ k, wI T 50 k = if k < 6360 then wI S 50 (k + 424) else wI S 50 k := fun k => by rw [← hT, wI_sI_ne (by rintro ⟨h, -⟩; cases h), wI_sA, if_pos rfl]
    have hl := loop2 T 15 (by rw [← hT]; exact h65) (by rw [← hT]; show wO S 48 0 = _; simp only [hF]) (by rw [← hT]; show wO S 48 1 = _; simp only [hF]) (by decide) (by rw [← hT, wI_sI_eq])
    refine ⟨_, (ru_step s0).trans (hfor.trans ((ru_step s2).trans hl)), ?_, ?_, ?_, ?_, ?_, ?_, ?_⟩
    · rw [wn_sI, wn_sA, ← hT]; rfl
    · rw [wl_sI, wl_sA, ← hT]; rfl
    · rw [wO_sI, wO_sA, ← hT]; rfl
    · intro a k n1 n2
      rw [wI_sI_ne n2, wI_sA, if_neg n1, TI a k n1 n2]
    · rw [wI_sI_eq]; rfl
    · intro i hi
      rw [wI_sI_ne (by rintro ⟨h, -⟩; cases h), wI_sA, if_pos rfl, if_pos ⟨by omega, by omega⟩, TI 49 _ (by decide) (by rintro ⟨h, -⟩; cases h)]
      exact congrArg (wI S 49) (by omega)
    · intro t i ht hi
      rw [wI_sI_ne (by rintro ⟨h, -⟩; cases h), wI_sA, if_pos rfl, if_neg (by omega), T50, if_pos (by omega)]
      exact congrArg (wI S 50) (by omega)
  · have s0 : B_X12_keep (0, [48], [], S) = some (.inr (2, [48], [nI 0], S)) := by
      show B_X12_keep_0 S 48 = _
      unfold B_X12_keep_0
      simp (decide := true) only [gd_ob h65]
      rw [if_neg (by rw [h2]; exact fun e => h16 ((nI_eq (by omega) (by decide)).mp (e : nI q = nI 16)))]
      rfl
    have hl := loop2 S q h65 (by simp only [hF]) (by simp only [hF]) (by omega) h2
    have em : min (q + 1) 16 = q + 1 := by omega
    rw [em]
    refine ⟨_, (ru_step s0).trans hl, rfl, rfl, rfl, ?_, ?_, ?_, ?_⟩
    · intro a k n1 n2
      rw [wI_sI_ne n2, wI_sA, if_neg n1]
    · rw [wI_sI_eq]
    · intro i hi
      rw [wI_sI_ne (by rintro ⟨h, -⟩; cases h), wI_sA, if_pos rfl, if_pos ⟨by omega, by omega⟩]
      exact congrArg (wI S 49) (by omega)
    · intro t i ht hi
      rw [wI_sI_ne (by rintro ⟨h, -⟩; cases h), wI_sA, if_pos rfl, if_neg (by omega)]
      exact congrArg (wI S 50) (by omega)
