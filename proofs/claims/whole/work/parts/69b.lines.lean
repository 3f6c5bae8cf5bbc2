/-! new lines -/
theorem nI_le_of {a b : Nat} (ha : a < 2 ^ 31) (h : nI a ≤ nI b) : a ≤ b := by
  by_cases hc : a ≤ b
  · exact hc
  · exact absurd (nI_lt (by omega) ha) (i32nl.mpr h)
def line3 (S : Wd) (a b c : Int32) : Wd := sI (sI (sI (sN S 3) (wn S) 0 a) (wn S) 1 b) (wn S) 2 c
theorem line3_facts {S : Wd} (hI : Inv S) (a b c : Int32) : Inv (line3 S a b c) ∧ wn (line3 S a b c) = wn S + 1 ∧ wl (line3 S a b c) (wn S) = 3 ∧ (∀ i, i < wn S → wl (line3 S a b c) i = wl S i) ∧ (∀ i k, i < wn S → wO (line3 S a b c) i k = wO S i k) ∧ (∀ i k, i < wn S → wI (line3 S a b c) i k = wI S i k) ∧ wI (line3 S a b c) (wn S) 0 = a ∧ wI (line3 S a b c) (wn S) 1 = b ∧ wI (line3 S a b c) (wn S) 2 = c := by
  have h65 := hI.1
  have eO : ∀ i k, i < wn S → wO (line3 S a b c) i k = wO S i k := fun i k hi => by
    unfold line3
    rw [wO_sI, wO_sI, wO_sI, wO_sN, if_neg (by omega)]
  have eI : ∀ i k, i < wn S → wI (line3 S a b c) i k = wI S i k := fun i k hi => by
    unfold line3
    rw [wI_sI_ne (by omega), wI_sI_ne (by omega), wI_sI_ne (by omega), wI_sN, if_neg (by omega)]
  refine ⟨hI.of (by show wn S ≤ wn S + 1; omega) (fun i k _ _ h => eO i k (by omega)) (fun i k hi hk => eI i k (by omega)), rfl, ?_, fun i hi => ?_, eO, eI, ?_, ?_, ?_⟩
  · show wl (sN S 3) (wn S) = 3
    rw [wl_sN, if_pos rfl]
  · show wl (sN S 3) i = _
    rw [wl_sN, if_neg (by omega)]
  · unfold line3
    rw [wI_sI_ne (by omega), wI_sI_ne (by omega), wI_sI_eq]
  · unfold line3
    rw [wI_sI_ne (by omega), wI_sI_eq]
  · unfold line3
    rw [wI_sI_eq]
theorem e_line3 {β : Type} {S : Wd} (h65 : 65 ≤ wn S) (a1 a2 a3 : Int32) (K : Wd → Option β) : (gd (nk S 100 (3 : Int32).toNatClampNeg) (ltS (sN S (3 : Int32).toNatClampNeg) (fun S2 => gd (ix S2 (wn S) 100 (0 : Int32)) (ltS (sI S2 (wn S) (0 : Int32).toNatClampNeg a1) (fun S5 => gd (ix S5 (wn S) 100 (1 : Int32)) (ltS (sI S5 (wn S) (1 : Int32).toNatClampNeg a2) (fun S8 => gd (ix S8 (wn S) 100 (2 : Int32)) (ltS (sI S8 (wn S) (2 : Int32).toNatClampNeg a3) K)))))))) = K (line3 S a1 a2 a3) := by
  have hk : (kT (wn S)).1 = 100 := by rw [kT_ge h65]
  have hwl : wlen (sN S 3) (wn S) = 3 := by rw [wlen_ge h65, wl_sN, if_pos rfl]
  rw [show (3 : Int32).toNatClampNeg = 3 from rfl, gd_pos ⟨hk, hwl⟩]
  have hix : ∀ (V : Wd) (k : Nat), wn V = wn S + 1 → wlen V (wn S) = 3 → k < 3 → ix V (wn S) 100 (nI k) := fun V k v1 v2 hk3 => ⟨⟨by omega, hk⟩, by rw [v2]; exact vp_in_nI hk3 (by decide)⟩
  show gd (ix (sN S 3) (wn S) 100 (nI 0)) _ = _
  rw [gd_pos (hix (sN S 3) 0 rfl hwl (by decide))]
  show gd (ix (sI (sN S 3) (wn S) 0 a1) (wn S) 100 (nI 1)) _ = _
  rw [gd_pos (hix (sI (sN S 3) (wn S) 0 a1) 1 rfl hwl (by decide))]
  show gd (ix (sI (sI (sN S 3) (wn S) 0 a1) (wn S) 1 a2) (wn S) 100 (nI 2)) _ = _
  rw [gd_pos (hix (sI (sI (sN S 3) (wn S) 0 a1) (wn S) 1 a2) 2 rfl hwl (by decide))]
  rfl
theorem st_Price {n : Nat} (hn : n ≤ 40) {D D' : Pv} {N : Nat → Int32} (hst : ∀ a, a ∈ rowset → ∀ i, ¬ (a = 23 ∧ 1 + n * 3 ≤ i) → D' a i = D a i) (hN : N 66 ≤ nI n) (h : core D N) : core D' N := by
  refine core_Price (fun a ha hne => funext fun i => hst a ha i (fun h => hne h.1)) (fun _ _ _ _ => rfl) ?_ h
  obtain ⟨n', x1, x2, x3, x4⟩ := h.2.2.2.1
  have hle : n' ≤ n := nI_le_of (by omega) (by rw [← x2]; exact hN)
  refine ⟨n', x1, x2, by rw [hst 23 (by decide) 0 (by omega)]; exact x3, fun i hi => ?_⟩
  obtain ⟨x, y, z, y1, y2, y3, y4, y5, y6, y7⟩ := x4 i hi
  exact ⟨x, y, z, y1, y2, y3, by rw [hst 23 (by decide) _ (by omega)]; exact y4, by rw [hst 23 (by decide) _ (by omega)]; exact y5, by rw [hst 23 (by decide) _ (by omega)]; exact y6, y7⟩
theorem cPrice_add {C C' : Pv} {N N' L : Nat → Int32} {n x y z : Nat} (hn : n < 40) (u : N 66 = nI n) (hx : x ≤ 77) (hy : y ≤ 365) (hz : z ≤ 9999) (eC : ∀ i, C' 23 i = if i = 0 then nI (n + 1) else if 1 + n * 3 ≤ i ∧ i < 1 + n * 3 + 3 then L (i - (1 + n * 3)) else C 23 i) (L0 : L 0 = nI x) (L1 : L 1 = nI y) (L2 : L 2 = nI z) (eN : ∀ k, N' k = if k = 66 then nI (n + 1) else if k = 200 + n then nI (10000 * (366 * x + y) + z) else N k) (h : cPrice C N) : cPrice C' N' := by
  obtain ⟨n', x1, x2, x3, x4⟩ := h
  have hnn : n' = n := (nI_eq (by omega) (by omega)).mp (x2.symm.trans u)
  subst hnn
  refine ⟨n' + 1, by omega, by rw [eN, if_pos rfl], by rw [eC, if_pos rfl], fun i hi => ?_⟩
  by_cases he : i = n'
  · subst he
    refine ⟨x, y, z, hx, hy, hz, ?_, ?_, ?_, ?_⟩
    · rw [eC, if_neg (by omega), if_pos (by omega), Nat.sub_self]; exact L0
    · rw [eC, if_neg (by omega), if_pos (by omega), Nat.add_sub_cancel_left]; exact L1
    · rw [eC, if_neg (by omega), if_pos (by omega), Nat.add_sub_cancel_left]; exact L2
    · rw [eN, if_neg (by omega), if_pos rfl]
  · obtain ⟨x', y', z', y1, y2, y3, y4, y5, y6, y7⟩ := x4 i (by omega)
    exact ⟨x', y', z', y1, y2, y3, by rw [eC, if_neg (by omega), if_neg (by omega)]; exact y4, by rw [eC, if_neg (by omega), if_neg (by omega)]; exact y5, by rw [eC, if_neg (by omega), if_neg (by omega)]; exact y6, by rw [eN, if_neg (by omega), if_neg (by omega)]; exact y7⟩
/-- both sides of a new line -/
theorem add_Price {j : Nat} {S : Wd} (hR : Rel j S) (hj : j < 512) {n x y z : Nat} (hn : n < 40) (u : wI S 49 66 = nI n) (v : wI S 23 0 = nI n) (hx : x ≤ 77) (hy : y ≤ 365) (hz : z ≤ 9999) : ∃ S1 T : Wd, f_X8_add (line3 S (nI x) (nI y) (nI z)) 22 (wn S) = some (nI n, S1) ∧ 48 < wn S1 ∧ Inv S1 ∧ wI S1 49 = wI S 49 ∧ f_X12_keep S1 48 = some T ∧ Inv T ∧ wI T 49 = wI S 49 ∧ Rel (j + 1) (sI (sI T 49 (200 + n) (nI (10000 * (366 * x + y) + z))) 49 66 (nI (n + 1))) := by
  have hI := hR.1
  have h65 := hI.1
  have hcore := rel_core hR
  obtain ⟨q, p, hq, hp, h13, h14, h48, hh⟩ := rel_jn hR
  obtain ⟨l1, l2, l3, l4, l5, l6, l7, l8, l9⟩ := line3_facts hI (nI x) (nI y) (nI z)
  generalize line3 S (nI x) (nI y) (nI z) = L at l1 l2 l3 l4 l5 l6 l7 l8 l9
  obtain ⟨S1, a1, a2, a3⟩ := e_add l1 tb22 (show wI L 23 0 = nI n by rw [l6 23 0 (by omega)]; exact v) hn hp hq (by rw [l6 1 4 (by omega)]; exact h14) (by rw [l6 1 3 (by omega)]; exact h13) h65 (by omega) l3
  have hck := a2.pre h65 (show (23 : Nat) ∈ rowset by decide) (by omega) l4 l5 l6
  obtain ⟨w48, e48, e49⟩ := ck_48 h65 hck
  have hI1 := ck_inv hI hck
  obtain ⟨T, t1, t2, t3, t4⟩ := rel_keepM hI1 hq (by rw [e48]; exact h48)
  refine ⟨S1, T, a1, w48, hI1, e49, t1, t3, by rw [t4, e49], ?_⟩
  have hmk := (t2.wr (k := 200 + n) (v := nI (10000 * (366 * x + y) + z))).wr (k := 66) (v := nI (n + 1))
  have eN : ∀ k, wI (sI (sI T 49 (200 + n) (nI (10000 * (366 * x + y) + z))) 49 66 (nI (n + 1))) 49 k = if k = 66 then nI (n + 1) else if k = 200 + n then nI (10000 * (366 * x + y) + z) else wI S 49 k := by
    intro k
    rw [wI_sI, if_pos rfl, wI_sI, if_pos rfl, t4, e49]
  refine rel_row hR hq hp hh (show (23 : Nat) ∈ rowset by decide) (show 0 + 1 ≤ 121 by omega) hck (fun _ _ h => h.1) hmk ?_ (fun D D' N e1 e2 e3 => st_Price (n := n) (by omega) e1 ?_ e3) ?_ hj
  · refine core_Price same_row (fun k _ h1 h2 => by rw [eN, if_neg h2, if_neg (by omega)]) (cPrice_add (L := wI L (wn S)) hn u hx hy hz (fun k => ?_) l7 l8 l9 eN hcore.2.2.2.1) hcore
    show (if (23 : Nat) = 23 then wI S1 23 else wI S 23) k = _
    rw [if_pos rfl, a3 k, l6 23 k (by omega)]
  · rw [← u, ← pv_of (S := S) (a := 49) (k := 66) rfl]
    exact e2 66 (by decide) (by decide)
  · intro k c1 c2
    rw [eN]
    by_cases hk : k = 66
    · rw [if_pos hk, hk, u]
      exact i32nl.mp (nI_nlt (by omega) (by omega))
    · rw [if_neg hk, if_neg (by omega)]
      exact Int32.le_refl _
theorem st_Contr {n : Nat} (hn : n ≤ 20) {D D' : Pv} {N : Nat → Int32} (hst : ∀ a, a ∈ rowset → ∀ i, ¬ (a = 27 ∧ 1 + n * 3 ≤ i) → D' a i = D a i) (hN : N 67 ≤ nI n) (h : core D N) : core D' N := by
  refine core_Contr (fun a ha hne => funext fun i => hst a ha i (fun h => hne h.1)) (fun _ _ _ _ => rfl) ?_ h
  obtain ⟨n', x1, x2, x3, x4⟩ := h.2.2.2.2.1
  have hle : n' ≤ n := nI_le_of (by omega) (by rw [← x2]; exact hN)
  refine ⟨n', x1, x2, by rw [hst 27 (by decide) 0 (by omega)]; exact x3, fun i hi => ?_⟩
  obtain ⟨x, y, z, y1, y2, y3, y4, y5, y6, y7⟩ := x4 i hi
  exact ⟨x, y, z, y1, y2, y3, by rw [hst 27 (by decide) _ (by omega)]; exact y4, by rw [hst 27 (by decide) _ (by omega)]; exact y5, by rw [hst 27 (by decide) _ (by omega)]; exact y6, y7⟩
theorem cContr_add {C C' : Pv} {N N' L : Nat → Int32} {n x y z : Nat} (hn : n < 20) (u : N 67 = nI n) (hx : x < 8) (hy : y < 10) (hz : z < 10) (eC : ∀ i, C' 27 i = if i = 0 then nI (n + 1) else if 1 + n * 3 ≤ i ∧ i < 1 + n * 3 + 3 then L (i - (1 + n * 3)) else C 27 i) (L0 : L 0 = nI x) (L1 : L 1 = nI y) (L2 : L 2 = nI z) (eN : ∀ k, N' k = if k = 67 then nI (n + 1) else if k = 240 + n then nI (x + 8 * y + 80 * z) else N k) (h : cContr C N) : cContr C' N' := by
  obtain ⟨n', x1, x2, x3, x4⟩ := h
  have hnn : n' = n := (nI_eq (by omega) (by omega)).mp (x2.symm.trans u)
  subst hnn
  refine ⟨n' + 1, by omega, by rw [eN, if_pos rfl], by rw [eC, if_pos rfl], fun i hi => ?_⟩
  by_cases he : i = n'
  · subst he
    refine ⟨x, y, z, hx, hy, hz, ?_, ?_, ?_, ?_⟩
    · rw [eC, if_neg (by omega), if_pos (by omega), Nat.sub_self]; exact L0
    · rw [eC, if_neg (by omega), if_pos (by omega), Nat.add_sub_cancel_left]; exact L1
    · rw [eC, if_neg (by omega), if_pos (by omega), Nat.add_sub_cancel_left]; exact L2
    · rw [eN, if_neg (by omega), if_pos rfl]
  · obtain ⟨x', y', z', y1, y2, y3, y4, y5, y6, y7⟩ := x4 i (by omega)
    exact ⟨x', y', z', y1, y2, y3, by rw [eC, if_neg (by omega), if_neg (by omega)]; exact y4, by rw [eC, if_neg (by omega), if_neg (by omega)]; exact y5, by rw [eC, if_neg (by omega), if_neg (by omega)]; exact y6, by rw [eN, if_neg (by omega), if_neg (by omega)]; exact y7⟩
/-- both sides of a new line -/
theorem add_Contr {j : Nat} {S : Wd} (hR : Rel j S) (hj : j < 512) {n x y z : Nat} (hn : n < 20) (u : wI S 49 67 = nI n) (v : wI S 27 0 = nI n) (hx : x < 8) (hy : y < 10) (hz : z < 10) : ∃ S1 T : Wd, f_X8_add (line3 S (nI x) (nI y) (nI z)) 26 (wn S) = some (nI n, S1) ∧ 48 < wn S1 ∧ Inv S1 ∧ wI S1 49 = wI S 49 ∧ f_X12_keep S1 48 = some T ∧ Inv T ∧ wI T 49 = wI S 49 ∧ Rel (j + 1) (sI (sI T 49 (240 + n) (nI (x + 8 * y + 80 * z))) 49 67 (nI (n + 1))) := by
  have hI := hR.1
  have h65 := hI.1
  have hcore := rel_core hR
  obtain ⟨q, p, hq, hp, h13, h14, h48, hh⟩ := rel_jn hR
  obtain ⟨l1, l2, l3, l4, l5, l6, l7, l8, l9⟩ := line3_facts hI (nI x) (nI y) (nI z)
  generalize line3 S (nI x) (nI y) (nI z) = L at l1 l2 l3 l4 l5 l6 l7 l8 l9
  obtain ⟨S1, a1, a2, a3⟩ := e_add l1 tb26 (show wI L 27 0 = nI n by rw [l6 27 0 (by omega)]; exact v) hn hp hq (by rw [l6 1 4 (by omega)]; exact h14) (by rw [l6 1 3 (by omega)]; exact h13) h65 (by omega) l3
  have hck := a2.pre h65 (show (27 : Nat) ∈ rowset by decide) (by omega) l4 l5 l6
  obtain ⟨w48, e48, e49⟩ := ck_48 h65 hck
  have hI1 := ck_inv hI hck
  obtain ⟨T, t1, t2, t3, t4⟩ := rel_keepM hI1 hq (by rw [e48]; exact h48)
  refine ⟨S1, T, a1, w48, hI1, e49, t1, t3, by rw [t4, e49], ?_⟩
  have hmk := (t2.wr (k := 240 + n) (v := nI (x + 8 * y + 80 * z))).wr (k := 67) (v := nI (n + 1))
  have eN : ∀ k, wI (sI (sI T 49 (240 + n) (nI (x + 8 * y + 80 * z))) 49 67 (nI (n + 1))) 49 k = if k = 67 then nI (n + 1) else if k = 240 + n then nI (x + 8 * y + 80 * z) else wI S 49 k := by
    intro k
    rw [wI_sI, if_pos rfl, wI_sI, if_pos rfl, t4, e49]
  refine rel_row hR hq hp hh (show (27 : Nat) ∈ rowset by decide) (show 0 + 1 ≤ 61 by omega) hck (fun _ _ h => h.1) hmk ?_ (fun D D' N e1 e2 e3 => st_Contr (n := n) (by omega) e1 ?_ e3) ?_ hj
  · refine core_Contr same_row (fun k _ h1 h2 => by rw [eN, if_neg h2, if_neg (by omega)]) (cContr_add (L := wI L (wn S)) hn u hx hy hz (fun k => ?_) l7 l8 l9 eN hcore.2.2.2.2.1) hcore
    show (if (27 : Nat) = 27 then wI S1 27 else wI S 27) k = _
    rw [if_pos rfl, a3 k, l6 27 k (by omega)]
  · rw [← u, ← pv_of (S := S) (a := 49) (k := 67) rfl]
    exact e2 67 (by decide) (by decide)
  · intro k c1 c2
    rw [eN]
    by_cases hk : k = 67
    · rw [if_pos hk, hk, u]
      exact i32nl.mp (nI_nlt (by omega) (by omega))
    · rw [if_neg hk, if_neg (by omega)]
      exact Int32.le_refl _
theorem st_Rep {n : Nat} (hn : n ≤ 30) {D D' : Pv} {N : Nat → Int32} (hst : ∀ a, a ∈ rowset → ∀ i, ¬ (a = 30 ∧ 1 + n * 3 ≤ i) → D' a i = D a i) (hN : N 68 ≤ nI n) (h : core D N) : core D' N := by
  refine core_Rep (fun a ha hne => funext fun i => hst a ha i (fun h => hne h.1)) (fun _ _ _ _ => rfl) ?_ h
  obtain ⟨n', x1, x2, x3, x4⟩ := h.2.2.2.2.2.1
  have hle : n' ≤ n := nI_le_of (by omega) (by rw [← x2]; exact hN)
  refine ⟨n', x1, x2, by rw [hst 30 (by decide) 0 (by omega)]; exact x3, fun i hi => ?_⟩
  obtain ⟨x, y, z, y1, y2, y3, y4, y5, y6, y7⟩ := x4 i hi
  exact ⟨x, y, z, y1, y2, y3, by rw [hst 30 (by decide) _ (by omega)]; exact y4, by rw [hst 30 (by decide) _ (by omega)]; exact y5, by rw [hst 30 (by decide) _ (by omega)]; exact y6, y7⟩
theorem cRep_add {C C' : Pv} {N N' L : Nat → Int32} {n x y z : Nat} (hn : n < 30) (u : N 68 = nI n) (hx : x < 6) (hy : y < 8) (hz : z ≤ 4000) (eC : ∀ i, C' 30 i = if i = 0 then nI (n + 1) else if 1 + n * 3 ≤ i ∧ i < 1 + n * 3 + 3 then L (i - (1 + n * 3)) else C 30 i) (L0 : L 0 = nI x) (L1 : L 1 = nI y) (L2 : L 2 = nI z) (eN : ∀ k, N' k = if k = 68 then nI (n + 1) else if k = 260 + n then nI (x + 6 * y + 48 * z) else N k) (h : cRep C N) : cRep C' N' := by
  obtain ⟨n', x1, x2, x3, x4⟩ := h
  have hnn : n' = n := (nI_eq (by omega) (by omega)).mp (x2.symm.trans u)
  subst hnn
  refine ⟨n' + 1, by omega, by rw [eN, if_pos rfl], by rw [eC, if_pos rfl], fun i hi => ?_⟩
  by_cases he : i = n'
  · subst he
    refine ⟨x, y, z, hx, hy, hz, ?_, ?_, ?_, ?_⟩
    · rw [eC, if_neg (by omega), if_pos (by omega), Nat.sub_self]; exact L0
    · rw [eC, if_neg (by omega), if_pos (by omega), Nat.add_sub_cancel_left]; exact L1
    · rw [eC, if_neg (by omega), if_pos (by omega), Nat.add_sub_cancel_left]; exact L2
    · rw [eN, if_neg (by omega), if_pos rfl]
  · obtain ⟨x', y', z', y1, y2, y3, y4, y5, y6, y7⟩ := x4 i (by omega)
    exact ⟨x', y', z', y1, y2, y3, by rw [eC, if_neg (by omega), if_neg (by omega)]; exact y4, by rw [eC, if_neg (by omega), if_neg (by omega)]; exact y5, by rw [eC, if_neg (by omega), if_neg (by omega)]; exact y6, by rw [eN, if_neg (by omega), if_neg (by omega)]; exact y7⟩
/-- both sides of a new line -/
theorem add_Rep {j : Nat} {S : Wd} (hR : Rel j S) (hj : j < 512) {n x y z : Nat} (hn : n < 30) (u : wI S 49 68 = nI n) (v : wI S 30 0 = nI n) (hx : x < 6) (hy : y < 8) (hz : z ≤ 4000) : ∃ S1 T : Wd, f_X8_add (line3 S (nI x) (nI y) (nI z)) 29 (wn S) = some (nI n, S1) ∧ 48 < wn S1 ∧ Inv S1 ∧ wI S1 49 = wI S 49 ∧ f_X12_keep S1 48 = some T ∧ Inv T ∧ wI T 49 = wI S 49 ∧ Rel (j + 1) (sI (sI T 49 (260 + n) (nI (x + 6 * y + 48 * z))) 49 68 (nI (n + 1))) := by
  have hI := hR.1
  have h65 := hI.1
  have hcore := rel_core hR
  obtain ⟨q, p, hq, hp, h13, h14, h48, hh⟩ := rel_jn hR
  obtain ⟨l1, l2, l3, l4, l5, l6, l7, l8, l9⟩ := line3_facts hI (nI x) (nI y) (nI z)
  generalize line3 S (nI x) (nI y) (nI z) = L at l1 l2 l3 l4 l5 l6 l7 l8 l9
  obtain ⟨S1, a1, a2, a3⟩ := e_add l1 tb29 (show wI L 30 0 = nI n by rw [l6 30 0 (by omega)]; exact v) hn hp hq (by rw [l6 1 4 (by omega)]; exact h14) (by rw [l6 1 3 (by omega)]; exact h13) h65 (by omega) l3
  have hck := a2.pre h65 (show (30 : Nat) ∈ rowset by decide) (by omega) l4 l5 l6
  obtain ⟨w48, e48, e49⟩ := ck_48 h65 hck
  have hI1 := ck_inv hI hck
  obtain ⟨T, t1, t2, t3, t4⟩ := rel_keepM hI1 hq (by rw [e48]; exact h48)
  refine ⟨S1, T, a1, w48, hI1, e49, t1, t3, by rw [t4, e49], ?_⟩
  have hmk := (t2.wr (k := 260 + n) (v := nI (x + 6 * y + 48 * z))).wr (k := 68) (v := nI (n + 1))
  have eN : ∀ k, wI (sI (sI T 49 (260 + n) (nI (x + 6 * y + 48 * z))) 49 68 (nI (n + 1))) 49 k = if k = 68 then nI (n + 1) else if k = 260 + n then nI (x + 6 * y + 48 * z) else wI S 49 k := by
    intro k
    rw [wI_sI, if_pos rfl, wI_sI, if_pos rfl, t4, e49]
  refine rel_row hR hq hp hh (show (30 : Nat) ∈ rowset by decide) (show 0 + 1 ≤ 91 by omega) hck (fun _ _ h => h.1) hmk ?_ (fun D D' N e1 e2 e3 => st_Rep (n := n) (by omega) e1 ?_ e3) ?_ hj
  · refine core_Rep same_row (fun k _ h1 h2 => by rw [eN, if_neg h2, if_neg (by omega)]) (cRep_add (L := wI L (wn S)) hn u hx hy hz (fun k => ?_) l7 l8 l9 eN hcore.2.2.2.2.2.1) hcore
    show (if (30 : Nat) = 30 then wI S1 30 else wI S 30) k = _
    rw [if_pos rfl, a3 k, l6 30 k (by omega)]
  · rw [← u, ← pv_of (S := S) (a := 49) (k := 68) rfl]
    exact e2 68 (by decide) (by decide)
  · intro k c1 c2
    rw [eN]
    by_cases hk : k = 68
    · rw [if_pos hk, hk, u]
      exact i32nl.mp (nI_nlt (by omega) (by omega))
    · rw [if_neg hk, if_neg (by omega)]
      exact Int32.le_refl _
