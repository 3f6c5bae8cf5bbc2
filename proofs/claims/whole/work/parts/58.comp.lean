/-! the parts of the relation, one by one -/
theorem cRoad_c {C C' : Pv} {N N' : Nat → Int32} (h : C' 6 = C 6) (e : ∀ k, k < 64 → N' k = N k) (hc : cRoad C N) : cRoad C' N' := by
  intro a b ha hb
  obtain ⟨r, x1, x2, x3⟩ := hc a b ha hb
  exact ⟨r, x1, (e _ (by omega)).trans x2, fun hne => by rw [h]; exact x3 hne⟩
theorem cLorry_c {C C' : Pv} {N N' : Nat → Int32} (h : C' 9 = C 9) (e0 : N' 64 = N 64) (e : ∀ k, 70 ≤ k → k < 112 → N' k = N k) (hc : cLorry C N) : cLorry C' N' := by
  obtain ⟨n, x1, x2, x3, x4⟩ := hc
  refine ⟨n, x1, e0.trans x2, by rw [h]; exact x3, fun i hi c hc => ?_⟩
  obtain ⟨v, y1, y2, y3⟩ := x4 i hi c hc
  exact ⟨v, y1, (e _ (by omega) (by omega)).trans y2, by rw [h]; exact y3⟩
theorem cLoad_c {C C' : Pv} {N N' : Nat → Int32} (h : C' 11 = C 11) (e0 : N' 65 = N 65) (e : ∀ k, 112 ≤ k → k < 200 → N' k = N k) (hc : cLoad C N) : cLoad C' N' := by
  obtain ⟨n, x1, x2, x3, x4⟩ := hc
  refine ⟨n, x1, e0.trans x2, by rw [h]; exact x3, fun i hi => ⟨fun c hc => ?_, ?_, ?_⟩⟩
  · obtain ⟨v, y1, y2, y3⟩ := (x4 i hi).1 c hc
    exact ⟨v, y1, (e _ (by omega) (by omega)).trans y2, by rw [h]; exact y3⟩
  · rw [h, e _ (by omega) (by omega)]; exact (x4 i hi).2.1
  · rw [e _ (by omega) (by omega)]; exact (x4 i hi).2.2
theorem cPrice_c {C C' : Pv} {N N' : Nat → Int32} (h : C' 23 = C 23) (e0 : N' 66 = N 66) (e : ∀ k, 200 ≤ k → k < 240 → N' k = N k) (hc : cPrice C N) : cPrice C' N' := by
  obtain ⟨n, x1, x2, x3, x4⟩ := hc
  refine ⟨n, x1, e0.trans x2, by rw [h]; exact x3, fun i hi => ?_⟩
  obtain ⟨x, y, z, y1, y2, y3, y4, y5, y6, y7⟩ := x4 i hi
  exact ⟨x, y, z, y1, y2, y3, by rw [h]; exact y4, by rw [h]; exact y5, by rw [h]; exact y6, (e _ (by omega) (by omega)).trans y7⟩
theorem cContr_c {C C' : Pv} {N N' : Nat → Int32} (h : C' 27 = C 27) (e0 : N' 67 = N 67) (e : ∀ k, 240 ≤ k → k < 260 → N' k = N k) (hc : cContr C N) : cContr C' N' := by
  obtain ⟨n, x1, x2, x3, x4⟩ := hc
  refine ⟨n, x1, e0.trans x2, by rw [h]; exact x3, fun i hi => ?_⟩
  obtain ⟨x, y, z, y1, y2, y3, y4, y5, y6, y7⟩ := x4 i hi
  exact ⟨x, y, z, y1, y2, y3, by rw [h]; exact y4, by rw [h]; exact y5, by rw [h]; exact y6, (e _ (by omega) (by omega)).trans y7⟩
theorem cRep_c {C C' : Pv} {N N' : Nat → Int32} (h : C' 30 = C 30) (e0 : N' 68 = N 68) (e : ∀ k, 260 ≤ k → k < 290 → N' k = N k) (hc : cRep C N) : cRep C' N' := by
  obtain ⟨n, x1, x2, x3, x4⟩ := hc
  refine ⟨n, x1, e0.trans x2, by rw [h]; exact x3, fun i hi => ?_⟩
  obtain ⟨x, y, z, y1, y2, y3, y4, y5, y6, y7⟩ := x4 i hi
  exact ⟨x, y, z, y1, y2, y3, by rw [h]; exact y4, by rw [h]; exact y5, by rw [h]; exact y6, (e _ (by omega) (by omega)).trans y7⟩
theorem cTrust_c {C C' : Pv} {N N' : Nat → Int32} (h : C' 25 = C 25) (e : ∀ k, 290 ≤ k → k < 310 → N' k = N k) (hc : cTrust C N) : cTrust C' N' := by
  intro f hf
  obtain ⟨d, x, x1, x2, x3, x4, x5⟩ := hc f hf
  exact ⟨d, x, x1, (e _ (by omega) (by omega)).trans x2, (e _ (by omega) (by omega)).trans x3, by rw [h]; exact x4, by rw [h]; exact x5⟩
theorem cOwe_c {C C' : Pv} {N N' : Nat → Int32} (h : C' 32 = C 32) (e : ∀ k, 310 ≤ k → k < 410 → N' k = N k) (hc : cOwe C N) : cOwe C' N' := by
  intro k hk
  rw [h, e _ (by omega) (by omega)]
  exact hc k hk
theorem cText_c {C C' : Pv} {N N' : Nat → Int32} (h : C' 36 = C 36) (e0 : N' 69 = N 69) (e : ∀ k, 410 ≤ k → k < 424 → N' k = N k) (hc : cText C N) : cText C' N' := by
  obtain ⟨n, x1, x2, x3, x4⟩ := hc
  refine ⟨n, x1, e0.trans x2, by rw [h]; exact x3, fun i hi => ?_⟩
  obtain ⟨s, y1, y2, y3⟩ := x4 i hi
  exact ⟨s, y1, (e _ (by omega) (by omega)).trans y2, by rw [h]; exact y3⟩
/-! the class's keep, as CK says it -/
theorem row_ne {ro : Nat} (h : ro ∈ rowset) : ro ≠ 1 ∧ ro ≠ 2 ∧ ro ≠ 3 ∧ ro ≠ 4 ∧ ro < 65 ∧ ro ≠ 48 ∧ ro ≠ 49 ∧ ro ≠ 50 ∧ ro ≠ 0 := by
  simp only [rowset, List.mem_cons, List.not_mem_nil, or_false] at h
  omega
theorem ck_kp {S : Wd} (h65 : 65 ≤ wn S) {ro fr m p q : Nat} {g : Nat → Int32} (hro : ro ∈ rowset) (hg : ∀ i, i < m → g i = wI S ro (fr + i)) : CK S (kpS S ro fr m p q g) ro fr m (wn S) p q (fun _ _ => False) := by
  obtain ⟨r1, r2, r3, r4, r5, -⟩ := row_ne hro
  have eI : ∀ a k, a ≠ wn S → ¬ (a = 4 ∧ k = p) → ¬ (a = 1 ∧ k = 4) → ¬ (a = 1 ∧ k = 3) → ¬ (a = 1 ∧ k = 5) → wI (kpS S ro fr m p q g) a k = wI S a k := by
    intro a k x0 x1 x2 x3 x4
    unfold kpS
    rw [wI_sI_ne x4, wI_sI_ne x3, wI_sI_ne x2, wI_sI_ne x1, wI_sO, wI_sA, if_neg (show ¬ a = wn S from x0), wI_sN, if_neg (show ¬ a = wn (sO S 2 p (some ro)) from x0), wI_sO]
  have eO : ∀ a k, a ≠ wn S → wO (kpS S ro fr m p q g) a k = if a = 3 then (if k = p then some (wn S) else wO S a k) else if a = 2 then (if k = p then some ro else wO S a k) else wO S a k := by
    intro a k x0
    unfold kpS
    rw [wO_sI, wO_sI, wO_sI, wO_sI, wO_sO, wO_sA, wO_sN, if_neg (show ¬ a = wn (sO S 2 p (some ro)) from x0), wO_sO]
    by_cases h3 : a = 3
    · subst h3
      rw [if_pos rfl, if_pos rfl, if_neg (show ¬ (3 : Nat) = 2 by decide)]
    · rw [if_neg h3, if_neg h3]
  refine ⟨Nat.le_refl _, ?_, ?_, ?_, ?_, ?_, ?_, ?_, ?_, ?_, ?_, ?_, ?_, ?_⟩
  · show wn S < wn S + 1
    omega
  · intro a k x2 x3 hl
    rw [eO a k (by omega), if_neg x3, if_neg x2]
  · intro k
    rw [eO 2 k (by omega), if_neg (by decide), if_pos rfl]
  · intro k
    rw [eO 3 k (by omega), if_pos rfl]
  · intro a ha
    show (if a = wn S then m else wl S a) = _
    rw [if_neg (by omega)]
  · show (if wn S = wn S then m else _) = _
    rw [if_pos rfl]
  · unfold kpS
    rw [wI_sI_ne (by decide), wI_sI_eq]
  · unfold kpS
    rw [wI_sI_ne (by decide), wI_sI_ne (by decide), wI_sI_eq]
  · unfold kpS
    rw [wI_sI_eq]
  · intro k
    by_cases hk : k = p
    · subst hk
      rw [if_pos rfl]
      unfold kpS
      rw [wI_sI_ne (by rintro ⟨h, -⟩; cases h), wI_sI_ne (by rintro ⟨h, -⟩; cases h), wI_sI_ne (by rintro ⟨h, -⟩; cases h), wI_sI_eq]
    · rw [if_neg hk, eI 4 k (by omega) (fun h => hk h.2) (by rintro ⟨h, -⟩; cases h) (by rintro ⟨h, -⟩; cases h) (by rintro ⟨h, -⟩; cases h)]
  · intro i hi
    rw [← hg i hi]
    unfold kpS
    rw [wI_sI_ne (by omega), wI_sI_ne (by omega), wI_sI_ne (by omega), wI_sI_ne (by omega), wI_sO, wI_sA, if_pos rfl]
  · intro a k hl x1 x4 _
    exact eI a k (by omega) (fun h => x4 h.1) (fun h => x1 h.1) (fun h => x1 h.1) (fun h => x1 h.1)
  · intro a ha i _ _
    obtain ⟨y1, -, -, y4, y5, -⟩ := row_ne ha
    exact eI a i (by omega) (fun h => y4 h.1) (fun h => y1 h.1) (fun h => y1 h.1) (fun h => y1 h.1)
/-- a write in the kept row -/
theorem CK.wr {S S1 : Wd} {ro fr m o p q k : Nat} {st : Nat → Nat → Prop} {v : Int32} (h : CK S S1 ro fr m o p q st) (h65 : 65 ≤ wn S) (hro : ro ∈ rowset) (hk : (fr ≤ k ∧ k < fr + m) ∨ st ro k) : CK S (sI S1 ro k v) ro fr m o p q st := by
  obtain ⟨r1, r2, r3, r4, r5, -⟩ := row_ne hro
  obtain ⟨c1, c2, c3, c4, c5, c6, c7, c8, c9, c10, c11, c12, c13, c14⟩ := h
  refine ⟨c1, c2, c3, c4, c5, c6, c7, ?_, ?_, ?_, ?_, ?_, ?_, ?_⟩
  · rw [wI_sI_ne (by omega)]; exact c8
  · rw [wI_sI_ne (by omega)]; exact c9
  · rw [wI_sI_ne (by omega)]; exact c10
  · intro i; rw [wI_sI_ne (by omega)]; exact c11 i
  · intro i hi; rw [wI_sI_ne (by omega)]; exact c12 i hi
  · intro a i x1 x2 x3 x4
    rw [wI_sI_ne (by rintro ⟨h, -⟩; subst h; exact x4 hro)]
    exact c13 a i x1 x2 x3 x4
  · intro a ha i x1 x2
    rw [wI_sI_ne (by
      rintro ⟨h, h'⟩
      subst h; subst h'
      rcases hk with hk | hk
      · exact x1 ⟨rfl, hk⟩
      · exact x2 hk)]
    exact c14 a ha i x1 x2
theorem CK.stale {S S1 : Wd} {ro fr m o p q : Nat} {st st' : Nat → Nat → Prop} (h : CK S S1 ro fr m o p q st) (hs : ∀ a i, st a i → st' a i) : CK S S1 ro fr m o p q st' := by
  obtain ⟨c1, c2, c3, c4, c5, c6, c7, c8, c9, c10, c11, c12, c13, c14⟩ := h
  exact ⟨c1, c2, c3, c4, c5, c6, c7, c8, c9, c10, c11, c12, c13, fun a ha i x1 x2 => c14 a ha i x1 (fun h => x2 (hs a i h))⟩
/-- cells made ahead of the keep -/
theorem CK.pre {S S0 S1 : Wd} {ro fr m o p q : Nat} {st : Nat → Nat → Prop} (h : CK S0 S1 ro fr m o p q st) (h65 : 65 ≤ wn S) (hro : ro ∈ rowset) (hn : wn S ≤ wn S0) (hl : ∀ a, a < wn S → wl S0 a = wl S a) (hO : ∀ a k, a < wn S → wO S0 a k = wO S a k) (hI : ∀ a k, a < wn S → wI S0 a k = wI S a k) : CK S S1 ro fr m o p q st := by
  obtain ⟨-, -, -, -, r5, -⟩ := row_ne hro
  obtain ⟨c1, c2, c3, c4, c5, c6, c7, c8, c9, c10, c11, c12, c13, c14⟩ := h
  refine ⟨by omega, c2, fun a k x1 x2 x3 => (c3 a k x1 x2 (by omega)).trans (hO a k x3), fun k => ?_, fun k => ?_, fun a ha => (c6 a (by omega)).trans (hl a ha), c7, c8, c9, c10.trans (by rw [hI 1 5 (by omega)]), fun k => ?_, fun i hi => (c12 i hi).trans (hI ro _ (by omega)), fun a k x1 x2 x3 x4 => (c13 a k (by omega) x2 x3 x4).trans (hI a k x1), fun a ha i x1 x2 => (c14 a ha i x1 x2).trans (hI a i (by have := (row_ne ha).2.2.2.2.1; omega))⟩
  · rw [c4 k, hO 2 k (by omega)]
  · rw [c5 k, hO 3 k (by omega)]
  · rw [c11 k, hI 4 k (by omega)]
theorem mk_of {S1 S2 : Wd} {q : Nat} (h : wn S2 = wn S1 ∧ wl S2 = wl S1 ∧ wO S2 = wO S1 ∧ (∀ a k, a ≠ 50 → ¬ (a = 48 ∧ k = 2) → wI S2 a k = wI S1 a k) ∧ wI S2 48 2 = nI (min (q + 1) 16) ∧ (∀ i, i < 424 → wI S2 50 (424 * (min (q + 1) 16 - 1) + i) = wI S1 49 i) ∧ ∀ t i, t + 1 < min (q + 1) 16 → i < 424 → wI S2 50 (424 * t + i) = wI S1 50 (424 * (t + (q + 1 - min (q + 1) 16)) + i)) : MK S1 S2 q :=
  ⟨h.1, h.2.1, h.2.2.1, fun a k _ x2 x3 => h.2.2.2.1 a k x2 x3, h.2.2.2.2.1, h.2.2.2.2.2.1, h.2.2.2.2.2.2⟩
theorem MK.wr {S1 S2 : Wd} {q k : Nat} {v : Int32} (h : MK S1 S2 q) : MK S1 (sI S2 49 k v) q := by
  obtain ⟨m1, m2, m3, m4, m5, m6, m7⟩ := h
  refine ⟨m1, m2, m3, fun a i x1 x2 x3 => ?_, ?_, fun i hi => ?_, fun t i ht hi => ?_⟩
  · rw [wI_sI_ne (fun h => x1 h.1)]; exact m4 a i x1 x2 x3
  · rw [wI_sI_ne (by rintro ⟨h, -⟩; cases h)]; exact m5
  · rw [wI_sI_ne (by rintro ⟨h, -⟩; cases h)]; exact m6 i hi
  · rw [wI_sI_ne (by rintro ⟨h, -⟩; cases h)]; exact m7 t i ht hi
