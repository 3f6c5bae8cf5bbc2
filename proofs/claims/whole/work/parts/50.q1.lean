/-! calls that ask, the short ones -/
theorem tb8 : tbl 8 7 6 := Or.inl ⟨rfl, rfl, rfl⟩
theorem tb10 : tbl 10 11 8 := Or.inr (Or.inl ⟨rfl, rfl, rfl⟩)
theorem tb22 : tbl 22 3 40 := Or.inr (Or.inr (Or.inl ⟨rfl, rfl, rfl⟩))
theorem tb26 : tbl 26 3 20 := Or.inr (Or.inr (Or.inr (Or.inl ⟨rfl, rfl, rfl⟩)))
theorem tb29 : tbl 29 3 30 := Or.inr (Or.inr (Or.inr (Or.inr ⟨rfl, rfl, rfl⟩)))
theorem core_congr {C C' : Pv} {N : Nat → Int32} (h : ∀ a, a ∈ rowset → C' a = C a) (hc : core C N) : core C' N := by
  have h6 := h 6 (by decide)
  have h9 := h 9 (by decide)
  have h11 := h 11 (by decide)
  have h23 := h 23 (by decide)
  have h25 := h 25 (by decide)
  have h27 := h 27 (by decide)
  have h30 := h 30 (by decide)
  have h32 := h 32 (by decide)
  have h36 := h 36 (by decide)
  simpa only [core, cRoad, cLorry, cLoad, cPrice, cContr, cRep, cTrust, cOwe, cText, h6, h9, h11, h23, h25, h27, h30, h32, h36] using hc
theorem pers_row {a k : Nat} (h : a ∈ rowset ∨ a = 49 ∨ a = 50 ∨ a = 4) : pers a k = true := by
  simp only [rowset, List.mem_cons, List.not_mem_nil, or_false] at h
  rcases h with (rfl | rfl | rfl | rfl | rfl | rfl | rfl | rfl | rfl) | rfl | rfl | rfl <;> rfl
theorem rel_core {j : Nat} {S : Wd} (h : Rel j S) : core (wI S) (wI S 49) := by
  obtain ⟨-, ⟨-, kp, nx, h1, h2, h3, h4, h5, h6, -, -⟩, -⟩ := h
  have h0 := h6 0 (Nat.zero_le _)
  rw [show pst (pv S) kp 0 = wI S 49 from pv_arr fun k => pers_row (Or.inr (Or.inl rfl))] at h0
  exact core_congr (fun a ha => (pv_arr fun k => pers_row (Or.inl ha)).symm) h0
theorem tl_lt {S : Wd} {v : Int32} (h : v < -99999) : tl S v = sI S 0 12 (wI S 0 12 + 1) := if_pos h
theorem tl_ge {S : Wd} {v : Int32} (h : -99999 ≤ v) : tl S v = S := if_neg (i32nl.mpr h)
theorem tl_wn {S : Wd} {v : Int32} : wn (tl S v) = wn S := by unfold tl; split <;> rfl
theorem tl_wO {S : Wd} {v : Int32} : wO (tl S v) = wO S := by unfold tl; split <;> rfl
theorem tl_wI {S : Wd} {v : Int32} {a k : Nat} (h : ¬ (a = 0 ∧ k = 12)) : wI (tl S v) a k = wI S a k := by unfold tl; split <;> first | rfl | exact wI_sI_ne h
theorem tl_arr {S : Wd} {v : Int32} {a : Nat} (h : a ≠ 0) : wI (tl S v) a = wI S a := by funext k; exact tl_wI fun e => h e.1
theorem Inv.tl {S : Wd} {v : Int32} (h : Inv S) : Inv (tl S v) := h.of (Nat.le_of_eq tl_wn.symm) (fun i k _ _ _ => by rw [tl_wO]) (fun i k hi _ => tl_wI (by rcases hi with rfl | rfl | rfl | rfl | rfl <;> (rintro ⟨h, -⟩; cases h)))
theorem rel_fin {j : Nat} {S : Wd} {v : Int32} (h : Rel j S) (hv : v < -99999) : Rel (j + 1) (fl (tl S v)) := by
  have := rel_up (rel_find (x := 1) h)
  unfold fl
  rw [tl_wI (by decide), tl_lt hv]
  exact this
theorem rel_w48 {j : Nat} {S : Wd} (h : Rel j S) : 48 < wn S := Nat.lt_of_lt_of_le (by decide) h.1.1
theorem tl_w48 {j : Nat} {S : Wd} {v : Int32} (h : Rel j S) : 48 < wn (tl S v) := by rw [tl_wn]; exact rel_w48 h
theorem le_pred {l : Int32} {n : Nat} (hn : n < 2 ^ 31) : l ≤ nI n - 1 ↔ l < nI n := by
  have e : (nI n - 1).toInt = (n : Int) - 1 := by
    rw [Int32.toInt_sub, nI_toInt hn]
    have : (1 : Int32).toInt = 1 := by decide
    rw [this]
    exact Int.bmod_eq_of_le (by omega) (by omega)
  rw [Int32.le_iff_toInt_le, Int32.lt_iff_toInt_lt, e, nI_toInt hn]
  omega
theorem b_isLorry {β : Type} {S : Wd} (hI : Inv S) {n : Nat} (hn : wI S 49 64 = nI n) (hn2 : n < 2 ^ 31) {l : Int32} {F : Int32 → Wd → Option β} : bd2 (f_X12_isLorry S 48 l) F = if 0 ≤ l ∧ l < nI n then F 1 S else F 0 S := by
  obtain ⟨h65, hI⟩ := hI
  unfold f_X12_isLorry
  simp (decide := true) only [gd_ob h65, gd_ix h65, hI, Option.bind_some]
  rw [show wI S 49 (Int32.toNatClampNeg 64) = nI n from hn, bd2_assoc, b_within_X12]
  simp only [le_pred hn2]
  split
  · rw [gd_pos nb1]; rfl
  · rw [gd_pos nb0]; rfl
theorem b_isLoad {β : Type} {S : Wd} (hI : Inv S) {n : Nat} (hn : wI S 49 65 = nI n) (hn2 : n < 2 ^ 31) {l : Int32} {F : Int32 → Wd → Option β} : bd2 (f_X12_isLoad S 48 l) F = if 0 ≤ l ∧ l < nI n then F 1 S else F 0 S := by
  obtain ⟨h65, hI⟩ := hI
  unfold f_X12_isLoad
  simp (decide := true) only [gd_ob h65, gd_ix h65, hI, Option.bind_some]
  rw [show wI S 49 (Int32.toNatClampNeg 65) = nI n from hn, bd2_assoc, b_within_X12]
  simp only [le_pred hn2]
  split
  · rw [gd_pos nb1]; rfl
  · rw [gd_pos nb0]; rfl
theorem rdN {S : Wd} (h65 : 65 ≤ wn S) {k : Nat} (hk : k < 424) : ix S 49 100 (nI k) := ix_of h65 (by decide) (by decide) hk
theorem e_ofLorry {S : Wd} {a c : Nat} : f_X12_ofLorry S (nI a) (nI c) = some (nI (70 + 7 * a + c), S) := by
  unfold f_X12_ofLorry
  show some (nI 70 + nI 7 * nI a + nI c, S) = _
  rw [nI_mul, nI_add, nI_add]
theorem e_ofLoad {S : Wd} {a c : Nat} : f_X12_ofLoad S (nI a) (nI c) = some (nI (112 + 11 * a + c), S) := by
  unfold f_X12_ofLoad
  show some (nI 112 + nI 11 * nI a + nI c, S) = _
  rw [nI_mul, nI_add, nI_add]
theorem nI_nofind {n : Nat} (h : n < 2 ^ 31) : (-99999 : Int32) ≤ nI n := by
  rw [Int32.le_iff_toInt_le, nI_toInt h]
  have : (-99999 : Int32).toInt = -99999 := by decide
  rw [this]
  omega
/-- all -/
theorem sim_all {j : Nat} {S : Wd} (hR : Rel j S) (hj : j < 512) (a1 : Int32) : ∃ r S1 S2, f_X11_all S 0 a1 = some (r, S1) ∧ 48 < wn S1 ∧ f_X12_all S1 48 a1 = some (r, S2) ∧ Rel (j + 1) S2 := by
  have hI := hR.1
  obtain ⟨h65, hF⟩ := id hI
  obtain ⟨-, ⟨n0, -, u0, v0, -⟩, ⟨n1, -, u1, v1, -⟩, ⟨n2, -, u2, v2, -⟩, ⟨n3, -, u3, v3, -⟩, ⟨n4, -, u4, v4, -⟩, -⟩ := rel_core hR
  have hM : ∀ k : Nat, k ≤ 4 → f_X12_all S 48 (nI k) = some (wI S 49 (64 + k), S) := by
    intro k hk
    unfold f_X12_all
    rw [b_within_X12, if_pos ⟨nI_pos' (by omega), nI_le (b := 4) hk (by decide)⟩, if_neg (by decide)]
    simp (decide := true) only [gd_ob h65, hF, Option.bind_some]
    rw [show (64 : Int32) + nI k = nI (64 + k) from nI_add 64 k, gd_pos (rdN h65 (by omega)), nI_clamp (by omega)]
  have hC : f_X11_all S 0 a1 = if a1 = 0 then some (wI S 9 0, S) else if a1 = 1 then some (wI S 11 0, S) else if a1 = 2 then some (wI S 23 0, S) else if a1 = 3 then some (wI S 27 0, S) else if a1 = 4 then some (wI S 30 0, S) else if a1 = 5 then some (wI S 0 12, S) else some (-100001, tl S (-100001)) := by
    unfold f_X11_all f_X5_count f_X1_contracts f_X6_count
    simp (decide := true) only [gd_ob h65, hF, Option.bind_some, e_count hI tb8, e_count hI tb10, e_count hI tb22, e_count hI tb26, e_count hI tb29, bd2_eq, e_told h65]
  rw [hC]
  by_cases c0 : a1 = 0
  · rw [if_pos c0]; exact ⟨_, S, S, rfl, rel_w48 hR, by rw [c0, v0, ← u0]; exact hM 0 (by decide), rel_up hR⟩
  rw [if_neg c0]
  by_cases c1 : a1 = 1
  · rw [if_pos c1]; exact ⟨_, S, S, rfl, rel_w48 hR, by rw [c1, v1, ← u1]; exact hM 1 (by decide), rel_up hR⟩
  rw [if_neg c1]
  by_cases c2 : a1 = 2
  · rw [if_pos c2]; exact ⟨_, S, S, rfl, rel_w48 hR, by rw [c2, v2, ← u2]; exact hM 2 (by decide), rel_up hR⟩
  rw [if_neg c2]
  by_cases c3 : a1 = 3
  · rw [if_pos c3]; exact ⟨_, S, S, rfl, rel_w48 hR, by rw [c3, v3, ← u3]; exact hM 3 (by decide), rel_up hR⟩
  rw [if_neg c3]
  by_cases c4 : a1 = 4
  · rw [if_pos c4]; exact ⟨_, S, S, rfl, rel_w48 hR, by rw [c4, v4, ← u4]; exact hM 4 (by decide), rel_up hR⟩
  rw [if_neg c4]
  have hno : ¬ (0 ≤ a1 ∧ a1 ≤ 4) := by
    rintro ⟨p1, p2⟩
    obtain ⟨k, hk, rfl⟩ := nat_le (n := 4) p1 p2 (by decide)
    rcases (show k = 0 ∨ k = 1 ∨ k = 2 ∨ k = 3 ∨ k = 4 by omega) with rfl | rfl | rfl | rfl | rfl
    · exact c0 rfl
    · exact c1 rfl
    · exact c2 rfl
    · exact c3 rfl
    · exact c4 rfl
  have hM2 : ∀ {S' : Wd}, Inv S' → f_X12_all S' 48 a1 = if a1 = 5 then some (wI S' 48 3, S') else some (-100001, fl S') := by
    intro S' hI'
    obtain ⟨h65', hF'⟩ := id hI'
    unfold f_X12_all
    rw [b_within_X12, if_neg hno, if_pos rfl]
    simp (decide := true) only [gd_ob h65', e_finding h65', bd2_eq]
  by_cases c5 : a1 = 5
  · rw [if_pos c5]; exact ⟨_, S, S, rfl, rel_w48 hR, by rw [hM2 hI, if_pos c5, hR.2.2.1], rel_up hR⟩
  · rw [if_neg c5]; exact ⟨_, _, _, rfl, tl_w48 hR, by rw [hM2 hI.tl, if_neg c5], rel_fin hR (by decide)⟩
