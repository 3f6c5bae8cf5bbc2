/-! long lines -/
def wln (S : Wd) (len : Nat) (F : Nat → Int32) : Wd := sA (sN S len) (wn S) F
theorem wln_facts {S : Wd} (hI : Inv S) (len : Nat) (F : Nat → Int32) : Inv (wln S len F) ∧ wn (wln S len F) = wn S + 1 ∧ wl (wln S len F) (wn S) = len ∧ (∀ i, i < wn S → wl (wln S len F) i = wl S i) ∧ (∀ i k, i < wn S → wO (wln S len F) i k = wO S i k) ∧ (∀ i k, i < wn S → wI (wln S len F) i k = wI S i k) ∧ wI (wln S len F) (wn S) = F := by
  have h65 := hI.1
  have eO : ∀ i k, i < wn S → wO (wln S len F) i k = wO S i k := fun i k hi => by
    unfold wln
    rw [wO_sA, wO_sN, if_neg (by omega)]
  have eI : ∀ i k, i < wn S → wI (wln S len F) i k = wI S i k := fun i k hi => by
    unfold wln
    rw [wI_sA, if_neg (by omega), wI_sN, if_neg (by omega)]
  refine ⟨hI.of (by show wn S ≤ wn S + 1; omega) (fun i k _ _ h => eO i k (by omega)) (fun i k hi hk => eI i k (by omega)), rfl, ?_, fun i hi => ?_, eO, eI, ?_⟩
  · show wl (sN S len) (wn S) = len
    rw [wl_sN, if_pos rfl]
  · show wl (sN S len) i = _
    rw [wl_sN, if_neg (by omega)]
  · unfold wln
    rw [wI_sA, if_pos rfl]
theorem ln_al {β : Type} {S : Wd} (h65 : 65 ≤ wn S) (len : Nat) (K : Wd → Option β) : gd (nk S 100 len) (ltS (sN S len) K) = K (wln S len (fun _ => 0)) := by
  have hwl : wlen (sN S len) (wn S) = len := by rw [wlen_ge h65, wl_sN, if_pos rfl]
  rw [gd_pos ⟨by rw [kT_ge h65], hwl⟩]
  show K (sN S len) = _
  unfold wln
  rw [show (fun _ => 0) = wI (sN S len) (wn S) by rw [wI_sN, if_pos rfl], sA_self]
theorem ln_st {β : Type} {S : Wd} (h65 : 65 ≤ wn S) {len : Nat} (F : Nat → Int32) (k : Nat) (hk : k < len) (hl : len < 2 ^ 31) (v : Int32) (K : Wd → Option β) : gd (ix (wln S len F) (wn S) 100 (nI k)) (ltS (sI (wln S len F) (wn S) (nI k).toNatClampNeg v) K) = K (wln S len (upd F k v)) := by
  have hwl : wlen (wln S len F) (wn S) = len := by
    show wlen (sN S len) (wn S) = len
    rw [wlen_ge h65, wl_sN, if_pos rfl]
  rw [gd_pos ⟨⟨by show wn S < wn S + 1; omega, by rw [kT_ge h65]⟩, by rw [hwl]; exact vp_in_nI hk hl⟩, nI_clamp (by omega)]
  unfold wln
  rw [sI_sA]
  rfl
theorem MK.wrA {S1 S2 : Wd} {q : Nat} {F : Nat → Int32} (h : MK S1 S2 q) : MK S1 (sA S2 49 F) q := by
  obtain ⟨m1, m2, m3, m4, m5, m6, m7⟩ := h
  refine ⟨m1, m2, m3, fun a i x1 x2 x3 => ?_, ?_, fun i hi => ?_, fun t i ht hi => ?_⟩
  · rw [wI_sA, if_neg x1]; exact m4 a i x1 x2 x3
  · rw [wI_sA, if_neg (by decide)]; exact m5
  · rw [wI_sA, if_neg (by decide)]; exact m6 i hi
  · rw [wI_sA, if_neg (by decide)]; exact m7 t i ht hi
/-- one write in a line of the reference's row -/
theorem md_load {β : Type} {T : Wd} (hT : Inv T) (F : Nat → Int32) {n : Nat} (c : Nat) (hk : 112 + 11 * n + c < 424) (v : Int32) (K : Wd → Option β) : gd (ob (sA T 49 F) 48 12) (Option.bind (wO (sA T 49 F) 48 0) (fun q => bd2 (f_X12_ofLoad (sA T 49 F) (nI n) (nI c)) (fun r S' => gd (ix S' q 100 r) (ltS (sI S' q r.toNatClampNeg v) K)))) = K (sA T 49 (upd F (112 + 11 * n + c) v)) := by
  obtain ⟨T65, hTF⟩ := id hT
  have V65 : 65 ≤ wn (sA T 49 F) := T65
  rw [gd_pos (ob_of V65 (by decide) (by decide)), wO_sA]
  simp (decide := true) only [hTF, Option.bind_some, e_ofLoad, bd2_eq]
  rw [gd_pos (rdN V65 hk), nI_clamp (by omega), sI_sA]
  rfl
theorem md_lorry {β : Type} {T : Wd} (hT : Inv T) (F : Nat → Int32) {n : Nat} (c : Nat) (hk : 70 + 7 * n + c < 424) (v : Int32) (K : Wd → Option β) : gd (ob (sA T 49 F) 48 12) (Option.bind (wO (sA T 49 F) 48 0) (fun q => bd2 (f_X12_ofLorry (sA T 49 F) (nI n) (nI c)) (fun r S' => gd (ix S' q 100 r) (ltS (sI S' q r.toNatClampNeg v) K)))) = K (sA T 49 (upd F (70 + 7 * n + c) v)) := by
  obtain ⟨T65, hTF⟩ := id hT
  have V65 : 65 ≤ wn (sA T 49 F) := T65
  rw [gd_pos (ob_of V65 (by decide) (by decide)), wO_sA]
  simp (decide := true) only [hTF, Option.bind_some, e_ofLorry, bd2_eq]
  rw [gd_pos (rdN V65 hk), nI_clamp (by omega), sI_sA]
  rfl
theorem md_cnt {T : Wd} (hT : Inv T) (F : Nat → Int32) (c : Nat) (hk : c < 424) (w : Int32) : gd (ob (sA T 49 F) 48 12) (Option.bind (wO (sA T 49 F) 48 0) (fun q => gd (ix (sA T 49 F) q 100 (nI c)) (gd (ix (sA T 49 F) q 100 (nI c)) (ltS (sI (sA T 49 F) q (nI c).toNatClampNeg (wI (sA T 49 F) q (nI c).toNatClampNeg + 1)) (fun S' => some (w, S')))))) = some (w, sA T 49 (upd F c (F c + 1))) := by
  obtain ⟨T65, hTF⟩ := id hT
  have V65 : 65 ≤ wn (sA T 49 F) := T65
  rw [gd_pos (ob_of V65 (by decide) (by decide)), wO_sA]
  simp (decide := true) only [hTF, Option.bind_some]
  rw [gd_pos (rdN V65 hk), gd_pos (rdN V65 hk), nI_clamp (by omega), sI_sA, wI_sA, if_pos rfl]
  rfl
theorem st_Load {n : Nat} (hn : n ≤ 8) {D D' : Pv} {N : Nat → Int32} (hst : ∀ a, a ∈ rowset → ∀ i, ¬ (a = 11 ∧ 1 + n * 11 ≤ i) → D' a i = D a i) (hN : N 65 ≤ nI n) (h : core D N) : core D' N := by
  refine core_Load (fun a ha hne => funext fun i => hst a ha i (fun h => hne h.1)) (fun _ _ _ _ => rfl) ?_ h
  obtain ⟨n', x1, x2, x3, x4⟩ := h.2.2.1
  have hle : n' ≤ n := nI_le_of (by omega) (by rw [← x2]; exact hN)
  refine ⟨n', x1, x2, by rw [hst 11 (by decide) 0 (by omega)]; exact x3, fun i hi => ?_⟩
  · skip
    exact ⟨fun c hc => by
      obtain ⟨w, y1, y2, y3⟩ := (x4 i hi).1 c hc
      exact ⟨w, y1, y2, by rw [hst 11 (by decide) _ (by omega)]; exact y3⟩, by rw [hst 11 (by decide) _ (by omega)]; exact (x4 i hi).2.1, (x4 i hi).2.2⟩
theorem cLoad_add {C C' : Pv} {N N' L : Nat → Int32} {n : Nat} (hn : n < 8) (u : N 65 = nI n) (hL : ∀ c : Nat, c < 10 → ∃ w : Nat, w ≤ loadMax c ∧ L c = nI w) (hL10 : L 10 = -1) (eC : ∀ i, C' 11 i = if i = 0 then nI (n + 1) else if 1 + n * 11 ≤ i ∧ i < 1 + n * 11 + 11 then L (i - (1 + n * 11)) else C 11 i) (eN : ∀ k, N' k = if k = 65 then nI (n + 1) else if 112 + 11 * n ≤ k ∧ k < 112 + 11 * n + 11 then L (k - (112 + 11 * n)) else N k) (h : cLoad C N) : cLoad C' N' := by
  obtain ⟨n', x1, x2, x3, x4⟩ := h
  have hnn : n' = n := (nI_eq (by omega) (by omega)).mp (x2.symm.trans u)
  subst hnn
  refine ⟨n' + 1, by omega, by rw [eN, if_pos rfl], by rw [eC, if_pos rfl], fun i hi => ?_⟩
  by_cases he : i = n'
  · subst he
    refine ⟨fun c hc => ?_, ?_, ?_⟩
    · obtain ⟨w, w1, w2⟩ := hL c hc
      exact ⟨w, w1, by rw [eN, if_neg (by omega), if_pos (by omega), Nat.add_sub_cancel_left]; exact w2, by rw [eC, if_neg (by omega), if_pos (by omega), Nat.add_sub_cancel_left]; exact w2⟩
    · rw [eC, if_neg (by omega), if_pos (by omega), eN, if_neg (by omega), if_pos (by omega), Nat.add_sub_cancel_left, Nat.add_sub_cancel_left]
    · rw [eN, if_neg (by omega), if_pos (by omega), Nat.add_sub_cancel_left]
      exact Or.inl hL10
  · have hi' : i < n' := by omega
    refine ⟨fun c hc => ?_, ?_, ?_⟩
    · obtain ⟨w, y1, y2, y3⟩ := (x4 i hi').1 c hc
      exact ⟨w, y1, by rw [eN, if_neg (by omega), if_neg (by omega)]; exact y2, by rw [eC, if_neg (by omega), if_neg (by omega)]; exact y3⟩
    · rw [eC, if_neg (by omega), if_neg (by omega), eN, if_neg (by omega), if_neg (by omega)]
      exact (x4 i hi').2.1
    · rw [eN, if_neg (by omega), if_neg (by omega)]
      exact (x4 i hi').2.2
/-- both sides of a new line -/
theorem add_Load {j : Nat} {S : Wd} (hR : Rel j S) (hj : j < 512) {n : Nat} (L : Nat → Int32) (hn : n < 8) (u : wI S 49 65 = nI n) (v : wI S 11 0 = nI n) (hL : ∀ c : Nat, c < 10 → ∃ w : Nat, w ≤ loadMax c ∧ L c = nI w) (hL10 : L 10 = -1) : ∃ S1 T : Wd, f_X8_add (wln S 11 L) 10 (wn S) = some (nI n, S1) ∧ 48 < wn S1 ∧ Inv S1 ∧ wI S1 49 = wI S 49 ∧ f_X12_keep S1 48 = some T ∧ Inv T ∧ wI T 49 = wI S 49 ∧ Rel (j + 1) (sA T 49 (fun k => if k = 65 then nI (n + 1) else if 112 + 11 * n ≤ k ∧ k < 112 + 11 * n + 11 then L (k - (112 + 11 * n)) else wI S 49 k)) := by
  have hI := hR.1
  have h65 := hI.1
  have hcore := rel_core hR
  obtain ⟨q, p, hq, hp, h13, h14, h48, hh⟩ := rel_jn hR
  obtain ⟨l1, l2, l3, l4, l5, l6, l7⟩ := wln_facts hI 11 L
  generalize wln S 11 L = W at l1 l2 l3 l4 l5 l6 l7
  obtain ⟨S1, a1, a2, a3⟩ := e_add l1 tb10 (show wI W 11 0 = nI n by rw [l6 11 0 (by omega)]; exact v) hn hp hq (by rw [l6 1 4 (by omega)]; exact h14) (by rw [l6 1 3 (by omega)]; exact h13) h65 (by omega) l3
  have hck := a2.pre h65 (show (11 : Nat) ∈ rowset by decide) (by omega) l4 l5 l6
  obtain ⟨w48, e48, e49⟩ := ck_48 h65 hck
  have hI1 := ck_inv hI hck
  obtain ⟨T, t1, t2, t3, t4⟩ := rel_keepM hI1 hq (by rw [e48]; exact h48)
  refine ⟨S1, T, a1, w48, hI1, e49, t1, t3, by rw [t4, e49], ?_⟩
  have eN : ∀ k, wI (sA T 49 (fun k => if k = 65 then nI (n + 1) else if 112 + 11 * n ≤ k ∧ k < 112 + 11 * n + 11 then L (k - (112 + 11 * n)) else wI S 49 k)) 49 k = (fun k => if k = 65 then nI (n + 1) else if 112 + 11 * n ≤ k ∧ k < 112 + 11 * n + 11 then L (k - (112 + 11 * n)) else wI S 49 k) k := by
    intro k
    rw [wI_sA, if_pos rfl]
  refine rel_row hR hq hp hh (show (11 : Nat) ∈ rowset by decide) (show 0 + 1 ≤ 89 by omega) hck (fun _ _ h => h.1) t2.wrA ?_ (fun D D' N e1 e2 e3 => st_Load (n := n) (by omega) e1 ?_ e3) ?_ hj
  · refine core_Load same_row (fun k _ h1 h2 => by rw [eN]; dsimp only; rw [if_neg h2, if_neg (by omega)]) (cLoad_add (L := L) hn u hL hL10 (fun k => ?_) eN hcore.2.2.1) hcore
    show (if (11 : Nat) = 11 then wI S1 11 else wI S 11) k = _
    rw [if_pos rfl, a3 k, l6 11 k (by omega), l7]
  · rw [← u, ← pv_of (S := S) (a := 49) (k := 65) rfl]
    exact e2 65 (by decide) (by decide)
  · intro k c1 c2
    rw [eN]
    dsimp only
    by_cases hk : k = 65
    · rw [if_pos hk, hk, u]
      exact i32nl.mp (nI_nlt (by omega) (by omega))
    · rw [if_neg hk, if_neg (by omega)]
      exact Int32.le_refl _
theorem st_Lorry {n : Nat} (hn : n ≤ 6) {D D' : Pv} {N : Nat → Int32} (hst : ∀ a, a ∈ rowset → ∀ i, ¬ (a = 9 ∧ 1 + n * 7 ≤ i) → D' a i = D a i) (hN : N 64 ≤ nI n) (h : core D N) : core D' N := by
  refine core_Lorry (fun a ha hne => funext fun i => hst a ha i (fun h => hne h.1)) (fun _ _ _ _ => rfl) ?_ h
  obtain ⟨n', x1, x2, x3, x4⟩ := h.2.1
  have hle : n' ≤ n := nI_le_of (by omega) (by rw [← x2]; exact hN)
  refine ⟨n', x1, x2, by rw [hst 9 (by decide) 0 (by omega)]; exact x3, fun i hi => ?_⟩
  · skip
    intro c hc
    obtain ⟨w, y1, y2, y3⟩ := x4 i hi c hc
    exact ⟨w, y1, y2, by rw [hst 9 (by decide) _ (by omega)]; exact y3⟩
theorem cLorry_add {C C' : Pv} {N N' L : Nat → Int32} {n : Nat} (hn : n < 6) (u : N 64 = nI n) (hL : ∀ c : Nat, c < 7 → ∃ w : Nat, w ≤ lorryMax c ∧ L c = nI w) (eC : ∀ i, C' 9 i = if i = 0 then nI (n + 1) else if 1 + n * 7 ≤ i ∧ i < 1 + n * 7 + 7 then L (i - (1 + n * 7)) else C 9 i) (eN : ∀ k, N' k = if k = 64 then nI (n + 1) else if 70 + 7 * n ≤ k ∧ k < 70 + 7 * n + 7 then L (k - (70 + 7 * n)) else N k) (h : cLorry C N) : cLorry C' N' := by
  obtain ⟨n', x1, x2, x3, x4⟩ := h
  have hnn : n' = n := (nI_eq (by omega) (by omega)).mp (x2.symm.trans u)
  subst hnn
  refine ⟨n' + 1, by omega, by rw [eN, if_pos rfl], by rw [eC, if_pos rfl], fun i hi => ?_⟩
  by_cases he : i = n'
  · subst he
    intro c hc
    obtain ⟨w, w1, w2⟩ := hL c hc
    exact ⟨w, w1, by rw [eN, if_neg (by omega), if_pos (by omega), Nat.add_sub_cancel_left]; exact w2, by rw [eC, if_neg (by omega), if_pos (by omega), Nat.add_sub_cancel_left]; exact w2⟩
  · have hi' : i < n' := by omega
    intro c hc
    obtain ⟨w, y1, y2, y3⟩ := x4 i hi' c hc
    exact ⟨w, y1, by rw [eN, if_neg (by omega), if_neg (by omega)]; exact y2, by rw [eC, if_neg (by omega), if_neg (by omega)]; exact y3⟩
/-- both sides of a new line -/
theorem add_Lorry {j : Nat} {S : Wd} (hR : Rel j S) (hj : j < 512) {n : Nat} (L : Nat → Int32) (hn : n < 6) (u : wI S 49 64 = nI n) (v : wI S 9 0 = nI n) (hL : ∀ c : Nat, c < 7 → ∃ w : Nat, w ≤ lorryMax c ∧ L c = nI w) : ∃ S1 T : Wd, f_X8_add (wln S 7 L) 8 (wn S) = some (nI n, S1) ∧ 48 < wn S1 ∧ Inv S1 ∧ wI S1 49 = wI S 49 ∧ f_X12_keep S1 48 = some T ∧ Inv T ∧ wI T 49 = wI S 49 ∧ Rel (j + 1) (sA T 49 (fun k => if k = 64 then nI (n + 1) else if 70 + 7 * n ≤ k ∧ k < 70 + 7 * n + 7 then L (k - (70 + 7 * n)) else wI S 49 k)) := by
  have hI := hR.1
  have h65 := hI.1
  have hcore := rel_core hR
  obtain ⟨q, p, hq, hp, h13, h14, h48, hh⟩ := rel_jn hR
  obtain ⟨l1, l2, l3, l4, l5, l6, l7⟩ := wln_facts hI 7 L
  generalize wln S 7 L = W at l1 l2 l3 l4 l5 l6 l7
  obtain ⟨S1, a1, a2, a3⟩ := e_add l1 tb8 (show wI W 9 0 = nI n by rw [l6 9 0 (by omega)]; exact v) hn hp hq (by rw [l6 1 4 (by omega)]; exact h14) (by rw [l6 1 3 (by omega)]; exact h13) h65 (by omega) l3
  have hck := a2.pre h65 (show (9 : Nat) ∈ rowset by decide) (by omega) l4 l5 l6
  obtain ⟨w48, e48, e49⟩ := ck_48 h65 hck
  have hI1 := ck_inv hI hck
  obtain ⟨T, t1, t2, t3, t4⟩ := rel_keepM hI1 hq (by rw [e48]; exact h48)
  refine ⟨S1, T, a1, w48, hI1, e49, t1, t3, by rw [t4, e49], ?_⟩
  have eN : ∀ k, wI (sA T 49 (fun k => if k = 64 then nI (n + 1) else if 70 + 7 * n ≤ k ∧ k < 70 + 7 * n + 7 then L (k - (70 + 7 * n)) else wI S 49 k)) 49 k = (fun k => if k = 64 then nI (n + 1) else if 70 + 7 * n ≤ k ∧ k < 70 + 7 * n + 7 then L (k - (70 + 7 * n)) else wI S 49 k) k := by
    intro k
    rw [wI_sA, if_pos rfl]
  refine rel_row hR hq hp hh (show (9 : Nat) ∈ rowset by decide) (show 0 + 1 ≤ 43 by omega) hck (fun _ _ h => h.1) t2.wrA ?_ (fun D D' N e1 e2 e3 => st_Lorry (n := n) (by omega) e1 ?_ e3) ?_ hj
  · refine core_Lorry same_row (fun k _ h1 h2 => by rw [eN]; dsimp only; rw [if_neg h2, if_neg (by omega)]) (cLorry_add (L := L) hn u hL (fun k => ?_) eN hcore.2.1) hcore
    show (if (9 : Nat) = 9 then wI S1 9 else wI S 9) k = _
    rw [if_pos rfl, a3 k, l6 9 k (by omega), l7]
  · rw [← u, ← pv_of (S := S) (a := 49) (k := 64) rfl]
    exact e2 64 (by decide) (by decide)
  · intro k c1 c2
    rw [eN]
    dsimp only
    by_cases hk : k = 64
    · rw [if_pos hk, hk, u]
      exact i32nl.mp (nI_nlt (by omega) (by omega))
    · rw [if_neg hk, if_neg (by omega)]
      exact Int32.le_refl _
