/-! the history, one act longer -/
theorem core_congrN {C : Pv} {N N' : Nat → Int32} (e : ∀ i, i < 424 → N' i = N i) (h : core C N) : core C N' := by
  obtain ⟨h1, ⟨n2, l2, a2, b2, h2⟩, ⟨n3, l3, a3, b3, h3⟩, ⟨n4, l4, a4, b4, h4⟩, ⟨n5, l5, a5, b5, h5⟩, ⟨n6, l6, a6, b6, h6⟩, h7, h8, ⟨n9, l9, a9, b9, h9⟩⟩ := h
  refine ⟨fun a b ha hb => ?_, ⟨n2, l2, (e _ (by omega)).trans a2, b2, fun i hi c hc => ?_⟩, ⟨n3, l3, (e _ (by omega)).trans a3, b3, fun i hi => ⟨fun c hc => ?_, ?_, ?_⟩⟩, ⟨n4, l4, (e _ (by omega)).trans a4, b4, fun i hi => ?_⟩, ⟨n5, l5, (e _ (by omega)).trans a5, b5, fun i hi => ?_⟩, ⟨n6, l6, (e _ (by omega)).trans a6, b6, fun i hi => ?_⟩, fun f hf => ?_, fun k hk => ?_, ⟨n9, l9, (e _ (by omega)).trans a9, b9, fun i hi => ?_⟩⟩
  · obtain ⟨r, x1, x2, x3⟩ := h1 a b ha hb
    exact ⟨r, x1, (e _ (by omega)).trans x2, x3⟩
  · obtain ⟨v, x1, x2, x3⟩ := h2 i hi c hc
    exact ⟨v, x1, (e _ (by omega)).trans x2, x3⟩
  · obtain ⟨v, x1, x2, x3⟩ := (h3 i hi).1 c hc
    exact ⟨v, x1, (e _ (by omega)).trans x2, x3⟩
  · rw [e _ (by omega)]; exact (h3 i hi).2.1
  · rw [e _ (by omega)]; exact (h3 i hi).2.2
  · obtain ⟨x, y, z, x1, x2, x3, x4, x5, x6, x7⟩ := h4 i hi
    exact ⟨x, y, z, x1, x2, x3, x4, x5, x6, (e _ (by omega)).trans x7⟩
  · obtain ⟨x, y, z, x1, x2, x3, x4, x5, x6, x7⟩ := h5 i hi
    exact ⟨x, y, z, x1, x2, x3, x4, x5, x6, (e _ (by omega)).trans x7⟩
  · obtain ⟨x, y, z, x1, x2, x3, x4, x5, x6, x7⟩ := h6 i hi
    exact ⟨x, y, z, x1, x2, x3, x4, x5, x6, (e _ (by omega)).trans x7⟩
  · obtain ⟨d, x, x1, x2, x3, x4, x5⟩ := h7 f hf
    exact ⟨d, x, x1, (e _ (by omega)).trans x2, (e _ (by omega)).trans x3, x4, x5⟩
  · rw [e _ (by omega)]; exact h8 k hk
  · obtain ⟨s, x1, x2, x3⟩ := h9 i hi
    exact ⟨s, x1, (e _ (by omega)).trans x2, x3⟩
theorem und_succ {C : Pv} {O : Nat → Nat → Option Nat} {len : Nat → Nat} {nx k ro o fr : Nat} (h2 : O 2 (slot nx k) = some ro) (h3 : O 3 (slot nx k) = some o) (h4 : C 4 (slot nx k) = nI fr) (hf : fr < 2 ^ 31) (a i : Nat) : und C O len nx (k + 1) a i = if a = ro ∧ fr ≤ i ∧ i < fr + len o then C o (i - fr) else und C O len nx k a i := by
  rw [und, h2, h3]
  show (if a = ro ∧ (C 4 (slot nx k)).toNatClampNeg ≤ i ∧ i < (C 4 (slot nx k)).toNatClampNeg + len o then C o (i - (C 4 (slot nx k)).toNatClampNeg) else _) = _
  rw [h4, nI_clamp hf]
theorem row_len {ro : Nat} (h : ro ∈ rowset) : (kT ro).2 ≤ 200 ∧ (kT ro).1 = 100 ∧ ro < 65 := by
  simp only [rowset, List.mem_cons, List.not_mem_nil, or_false] at h
  rcases h with rfl | rfl | rfl | rfl | rfl | rfl | rfl | rfl | rfl <;> decide
theorem pst_le {C : Pv} {O : Nat → Nat → Option Nat} {len : Nat → Nat} {n kp nx : Nat} (h : hist C O len n kp nx) {c : Nat} (h1 : 64 ≤ c) (h2 : c ≤ 68) : ∀ k, k ≤ kp → pst C kp k c ≤ C 49 c
  | 0, _ => by
    show C 49 c ≤ C 49 c
    exact Int32.le_refl _
  | k + 1, hk => Int32.le_trans (h.2.2 k (by omega) c h1 h2) (pst_le h h1 h2 k (by omega))
theorem hist_push {C C' : Pv} {O O' : Nat → Nat → Option Nat} {len len' : Nat → Nat} {n n' kp nx ro fr m o : Nat} (stale : Nat → Nat → Prop) (h : hist C O len n kp nx) (hkp : kp ≤ 16) (hnx : nx < 16) (hro : ro ∈ rowset) (hfm : fr + m ≤ (kT ro).2) (h65 : 65 ≤ n) (ho : n ≤ o) (ho' : o < n') (hn : n ≤ n')
    (hO2 : ∀ k, O' 2 k = if k = nx then some ro else O 2 k) (hO3 : ∀ k, O' 3 k = if k = nx then some o else O 3 k) (h4 : ∀ k, C' 4 k = if k = nx then nI fr else C 4 k) (hlo : len' o = m) (hl : ∀ a, 65 ≤ a → a < n → len' a = len a) (hold : ∀ i, i < m → C' o i = C ro (fr + i)) (hdyn : ∀ a, 65 ≤ a → a < n → C' a = C a)
    (hrow : ∀ a, a ∈ rowset → ∀ i, ¬ (a = ro ∧ fr ≤ i ∧ i < fr + m) → ¬ stale a i → C' a i = C a i) (hcore : core C' (C' 49)) (hst : ∀ (D D' : Pv) (N : Nat → Int32), (∀ a, a ∈ rowset → ∀ i, ¬ stale a i → D' a i = D a i) → (∀ c, 64 ≤ c → c ≤ 68 → N c ≤ C 49 c) → core D N → core D' N)
    (hp0 : ∀ i, i < 424 → C' 50 (424 * (min (kp + 1) 16 - 1) + i) = C 49 i) (hpt : ∀ t i, t + 1 < min (kp + 1) 16 → i < 424 → C' 50 (424 * t + i) = C 50 (424 * (t + (kp + 1 - min (kp + 1) 16)) + i)) (hmono : ∀ c, 64 ≤ c → c ≤ 68 → C 49 c ≤ C' 49 c) : hist C' O' len' n' (min (kp + 1) 16) ((nx + 1) % 16) := by
  obtain ⟨rl, -, -⟩ := row_len hro
  have sl0 : slot ((nx + 1) % 16) 0 = nx := by unfold slot; omega
  have sl1 : ∀ k, k < 15 → slot ((nx + 1) % 16) (k + 1) = slot nx k ∧ slot nx k ≠ nx := by
    intro k hk
    unfold slot
    omega
  -- the reference's rows of the past
  have ep : ∀ k, k + 1 ≤ min (kp + 1) 16 → ∀ i, i < 424 → pst C' (min (kp + 1) 16) (k + 1) i = pst C kp k i := by
    intro k hk i hi
    show C' 50 (424 * (min (kp + 1) 16 - (k + 1)) + i) = _
    cases k with
    | zero => exact hp0 i hi
    | succ k =>
      show _ = C 50 (424 * (kp - (k + 1)) + i)
      rw [hpt _ i (by omega) hi]
      exact congrArg (C 50) (by omega)
  -- the class's rows, taken back
  have eu : ∀ k, k + 1 ≤ min (kp + 1) 16 → ∀ a, a ∈ rowset → ∀ i, ¬ stale a i → und C' O' len' ((nx + 1) % 16) (k + 1) a i = und C O len nx k a i := by
    intro k
    induction k with
    | zero =>
      intro hk a ha i hs
      rw [und_succ (by rw [sl0, hO2, if_pos rfl]) (by rw [sl0, hO3, if_pos rfl]) (by rw [sl0, h4, if_pos rfl]) (by omega), hlo]
      by_cases hc : a = ro ∧ fr ≤ i ∧ i < fr + m
      · rw [if_pos hc, hold _ (by omega), hc.1, Nat.add_sub_cancel' hc.2.1]
        rfl
      · rw [if_neg hc]
        exact hrow a ha i hc hs
    | succ k ih =>
      intro hk a ha i hs
      obtain ⟨s1, s2⟩ := sl1 k (by omega)
      obtain ⟨ro2, o2, fr2, e1, e2, e3, e4, e5, e6, e7⟩ := h.2.1 k (by omega)
      obtain ⟨rl2, -, -⟩ := row_len e4
      rw [und_succ (C := C) e1 e2 e3 (by omega), und_succ (C := C') (k := k + 1) (by rw [s1, hO2, if_neg s2]; exact e1) (by rw [s1, hO3, if_neg s2]; exact e2) (by rw [s1, h4, if_neg s2]; exact e3) (by omega), hl o2 e5 e6, hdyn o2 e5 e6, ih (by omega) a ha i hs]
  refine ⟨fun k hk => ?_, fun k hk => ?_, fun k hk c c1 c2 => ?_⟩
  · cases k with
    | zero => exact hcore
    | succ k =>
      refine core_congrN (N := pst C kp k) (ep k hk) ?_
      refine hst (und C O len nx k) _ _ (eu k hk) (fun c c1 c2 => pst_le h c1 c2 k (by omega)) (h.1 k (by omega))
  · cases k with
    | zero =>
      rw [sl0]
      exact ⟨ro, o, fr, by rw [hO2, if_pos rfl], by rw [hO3, if_pos rfl], by rw [h4, if_pos rfl], hro, by omega, ho', by rw [hlo]; exact hfm⟩
    | succ k =>
      obtain ⟨s1, s2⟩ := sl1 k (by omega)
      obtain ⟨ro2, o2, fr2, e1, e2, e3, e4, e5, e6, e7⟩ := h.2.1 k (by omega)
      rw [s1]
      exact ⟨ro2, o2, fr2, by rw [hO2, if_neg s2]; exact e1, by rw [hO3, if_neg s2]; exact e2, by rw [h4, if_neg s2]; exact e3, e4, e5, by omega, by rw [hl o2 e5 e6]; exact e7⟩
  · rw [ep k (by omega) c (by omega)]
    cases k with
    | zero => exact hmono c c1 c2
    | succ k =>
      rw [ep k (by omega) c (by omega)]
      exact h.2.2 k (by omega) c c1 c2
/-- no stale line -/
theorem st_none (C : Pv) : ∀ (D D' : Pv) (N : Nat → Int32), (∀ a, a ∈ rowset → ∀ i, ¬ (fun _ _ => False : Nat → Nat → Prop) a i → D' a i = D a i) → (∀ c, 64 ≤ c → c ≤ 68 → N c ≤ C 49 c) → core D N → core D' N :=
  fun _ _ _ h _ hc => core_congr (fun a ha => funext fun i => h a ha i id) hc
