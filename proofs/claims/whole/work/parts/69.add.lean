/-! new cells, and new lines of tables -/
theorem hist_new {C C' : Pv} {O O' : Nat → Nat → Option Nat} {len len' : Nat → Nat} {n n' kp nx : Nat} (h : hist C O len n kp nx) (hn : n ≤ n') (e : ∀ a, a ∈ rowset ∨ a = 4 ∨ a = 49 ∨ a = 50 ∨ (65 ≤ a ∧ a < n) → C' a = C a) (hO2 : O' 2 = O 2) (hO3 : O' 3 = O 3) (hl : ∀ a, a < n → len' a = len a) : hist C' O' len' n' kp nx := by
  have h4 := e 4 (Or.inr (Or.inl rfl))
  have ep : ∀ k, pst C' kp k = pst C kp k := by
    intro k
    unfold pst
    rw [e 49 (Or.inr (Or.inr (Or.inl rfl))), e 50 (Or.inr (Or.inr (Or.inr (Or.inl rfl))))]
  have eu : ∀ k, k ≤ kp → ∀ a, a ∈ rowset → ∀ i, und C' O' len' nx k a i = und C O len nx k a i := by
    intro k
    induction k with
    | zero => intro _ a ha i; show C' a i = C a i; rw [e a (Or.inl ha)]
    | succ k ih =>
      intro hk a ha i
      obtain ⟨ro2, o2, fr2, e1, e2, e3, e4, e5, e6, e7⟩ := h.2.1 k (by omega)
      obtain ⟨rl2, -, -⟩ := row_len e4
      rw [und_succ (C := C) e1 e2 e3 (by omega), und_succ (C := C') (by rw [hO2]; exact e1) (by rw [hO3]; exact e2) (by rw [h4]; exact e3) (by omega), e o2 (Or.inr (Or.inr (Or.inr (Or.inr ⟨e5, e6⟩)))), hl o2 e6, ih (by omega) a ha i]
  refine ⟨fun k hk => ?_, fun k hk => ?_, fun k hk c c1 c2 => ?_⟩
  · rw [ep]
    exact core_congr (fun a ha => funext fun i => eu k hk a ha i) (h.1 k hk)
  · obtain ⟨ro2, o2, fr2, e1, e2, e3, e4, e5, e6, e7⟩ := h.2.1 k hk
    exact ⟨ro2, o2, fr2, by rw [hO2]; exact e1, by rw [hO3]; exact e2, by rw [h4]; exact e3, e4, e5, by omega, by rw [hl o2 e6]; exact e7⟩
  · rw [ep, ep]
    exact h.2.2 k hk c c1 c2
theorem rel_new {j : Nat} {S S0 : Wd} (hR : Rel j S) (hn : wn S ≤ wn S0) (hl : ∀ a, a < wn S → wl S0 a = wl S a) (hO : ∀ a k, a < wn S → wO S0 a k = wO S a k) (hI : ∀ a k, a < wn S → wI S0 a k = wI S a k) : Rel j S0 := by
  obtain ⟨h1, ⟨h2, kp, nx, y1, y2, y3, y4, y5, y6⟩, h3, ⟨c, h4, h5⟩, h6, h7⟩ := hR
  have h65 := h1.1
  have ea : ∀ a, a < wn S → wI S0 a = wI S a := fun a ha => funext fun k => hI a k ha
  have ep : ∀ a, a < wn S → pv S0 a = pv S a := fun a ha => funext fun k => by
    show (if pers a k = true then wI S0 a k else 0) = if pers a k = true then wI S a k else 0
    rw [hI a k ha]
  have ek : ∀ a, a < wn S → kv S0 a = kv S a := fun a ha => funext fun k => by
    show (if kch a k = true then wI S0 a k else 0) = if kch a k = true then wI S a k else 0
    rw [hI a k ha]
  refine ⟨h1.of hn (fun i k _ _ h => hO i k (by omega)) (fun i k hi hk => hI i k (by omega)), ⟨?_, kp, nx, y1, y2, ?_, ?_, ?_, ?_⟩, ?_, ⟨c, h4, ?_⟩, ?_, ?_⟩
  · exact shR_congr (fun a ha => ep a (by omega)) h2
  · rw [ep 1 (by omega)]; exact y3
  · rw [ep 1 (by omega)]; exact y4
  · rw [ep 48 (by omega)]; exact y5
  · refine hist_new y6 hn (fun a ha => ep a ?_) (funext fun k => hO 2 k (by omega)) (funext fun k => hO 3 k (by omega)) hl
    simp only [rowset, List.mem_cons, List.not_mem_nil, or_false] at ha
    omega
  · rw [ea 0 (by omega), ea 48 (by omega)]; exact h3
  · rw [ea 1 (by omega), ea 5 (by omega), ea 13 (by omega)]; exact h5
  · rw [ea 1 (by omega), ea 5 (by omega)]
    unfold WOk at h6 ⊢
    rw [ek 7 (by omega), ek 49 (by omega)]; exact h6
  · rw [ea 1 (by omega), ea 13 (by omega)]
    unfold GOk at h7 ⊢
    rw [ek 13 (by omega), ek 14 (by omega), ek 15 (by omega), ek 16 (by omega), ek 49 (by omega)]; exact h7
theorem CK.wrA {S S1 : Wd} {ro fr m o p q : Nat} {st : Nat → Nat → Prop} {F : Nat → Int32} (h : CK S S1 ro fr m o p q st) (h65 : 65 ≤ wn S) (hro : ro ∈ rowset) (hF : ∀ i, ¬ (fr ≤ i ∧ i < fr + m) → ¬ st ro i → F i = wI S1 ro i) : CK S (sA S1 ro F) ro fr m o p q st := by
  obtain ⟨r1, r2, r3, r4, r5, -⟩ := row_ne hro
  obtain ⟨c1, c2, c3, c4, c5, c6, c7, c8, c9, c10, c11, c12, c13, c14⟩ := h
  refine ⟨c1, c2, c3, c4, c5, c6, c7, ?_, ?_, ?_, ?_, ?_, ?_, ?_⟩
  · rw [wI_sA, if_neg (by omega)]; exact c8
  · rw [wI_sA, if_neg (by omega)]; exact c9
  · rw [wI_sA, if_neg (by omega)]; exact c10
  · intro i; rw [wI_sA, if_neg (by omega)]; exact c11 i
  · intro i hi; rw [wI_sA, if_neg (by omega)]; exact c12 i hi
  · intro a i x1 x2 x3 x4
    rw [wI_sA, if_neg (by rintro rfl; exact x4 hro)]
    exact c13 a i x1 x2 x3 x4
  · intro a ha i x1 x2
    rw [wI_sA]
    by_cases he : a = ro
    · subst he
      rw [if_pos rfl, hF i (fun h => x1 ⟨rfl, h⟩) x2]
      exact c14 a ha i x1 x2
    · rw [if_neg he]
      exact c14 a ha i x1 x2
/-- a new line -/
theorem e_add {S : Wd} (hI : Inv S) {t cols most n p q b : Nat} (ht : tbl t cols most) (hn : wI S (t + 1) 0 = nI n) (hm : n < most) (hp : p < 16) (hq : q ≤ 16) (h14 : wI S 1 4 = nI p) (h13 : wI S 1 3 = nI q) (hb : 65 ≤ b) (hbn : b < wn S) (hbl : wl S b = cols) : ∃ S1 : Wd, f_X8_add S t b = some (nI n, S1) ∧ CK S S1 (t + 1) 0 1 (wn S) p q (fun a i => a = t + 1 ∧ 1 + n * cols ≤ i) ∧ ∀ i, wI S1 (t + 1) i = if i = 0 then nI (n + 1) else if 1 + n * cols ≤ i ∧ i < 1 + n * cols + cols then wI S b (i - (1 + n * cols)) else wI S (t + 1) i := by
  obtain ⟨f1, f2, f3, f4, f5, f6, f7, f8, f9, f10, f11, f12, f13, f14, f15, f16⟩ := tbl_facts hI ht
  have h65 := hI.1
  obtain ⟨rl, rk, r65⟩ := row_len f10
  obtain ⟨g, hg1, hg2⟩ := e_keep hI (ro := t + 1) (fr := 0) (m := 1) r65 rk (by omega) (by decide) hp hq h14 h13
  have hck := ck_kp (S := S) (p := p) (q := q) h65 f10 hg2
  generalize hK : kpS S (t + 1) 0 1 p q g = K at hg1 hck
  have hsp : 1 + n * cols + cols ≤ 1 + cols * most := by
    have h2 : (n + 1) * cols ≤ most * cols := Nat.mul_le_mul_right _ hm
    rw [Nat.add_mul, Nat.mul_comm most cols] at h2
    omega
  have hbo : ob S b 100 := ⟨hbn, by rw [kT_ge hb]⟩
  have bnr : b ∉ rowset := by
    simp only [rowset, List.mem_cons, List.not_mem_nil, or_false]
    omega
  have hck' := (hck.stale (st' := fun a i => a = t + 1 ∧ 1 + n * cols ≤ i) (fun _ _ h => h.elim)).wrA (F := va_cpy (wI S b) (wI K (t + 1)) 0 (1 + n * cols) cols) h65 f10 (fun i x1 x2 => by
    show (if _ then _ else _) = _
    rw [if_neg (fun h => x2 ⟨rfl, h.1⟩)])
  have hck'' := hck'.wr (k := 0) (v := nI (n + 1)) h65 f10 (Or.inl ⟨by omega, by omega⟩)
  obtain ⟨c1, c2, c3, c4, c5, c6, c7, c8, c9, c10, c11, c12, c13, c14⟩ := hck
  have K65 : 65 ≤ wn K := by omega
  have ko : ob K t 8 := ⟨by omega, f1.2⟩
  have kb : ob K b 100 := ⟨by omega, hbo.2⟩
  have kr : ob K (t + 1) 100 := ob_of K65 r65 rk
  have hbw : wlen S b = cols := by rw [wlen_ge hb, hbl]
  have kbw : wlen K b = cols := by rw [wlen_ge hb, c6 b hbn, hbl]
  have krw : wlen K (t + 1) = 1 + cols * most := by rw [wlen_lt r65, f7]
  have K1 : wI K t 1 = nI cols := by rw [c13 t 1 (by omega) f13 f14 f12, f4]
  have Kb : wI K b = wI S b := funext fun i => c13 b i hbn (by omega) (by omega) bnr
  refine ⟨_, ?_, hck'', fun i => ?_⟩
  · unfold f_X8_add
    rw [gd_pos f1, f2, Option.bind_some, gd_pos (show ix S (t + 1) 100 (0 : Int32) from f6 0 (by omega)), gd_pos f1, f5, show wI S (t + 1) (0 : Int32).toNatClampNeg = nI n from hn, if_neg (nI_ge hm (by omega)), gd_pos hbo, gd_pos f1, hbw, f4, if_pos (show Int32.ofNat cols = nI cols from rfl), gd_pos f1, f3, Option.bind_some, gd_pos f1, Option.bind_some, gd_pos (ob_of h65 (by decide) (by decide)), show (0 : Int32) = nI 0 from rfl, show (1 : Int32) = nI 1 from rfl, hg1, Option.bind_some, gd_pos ko, c3 t 3 f15 f16 (by omega), f2, Option.bind_some, gd_pos ko, gd_pos ko, gd_pos kb, gd_pos kr, K1, nI_mul, nI_add, nI_clamp (show 0 < 2 ^ 31 by decide), nI_clamp (show cols < 2 ^ 31 by omega), nI_clamp (show 1 + n * cols < 2 ^ 31 by omega), kbw, krw, Kb]
    rw [gd_pos ⟨nI_pos (n := 0) (by decide), nI_pos (n := 1 + n * cols) (by omega), nI_pos (n := cols) (by omega), by omega, by omega⟩]
    have hA : ∀ F, 65 ≤ wn (sA K (t + 1) F) := fun _ => K65
    show gd (ob (sA K (t + 1) _) t 8) _ = _
    rw [gd_pos (show ob (sA K (t + 1) _) t 8 from ko), wO_sA, c3 t 3 f15 f16 (by omega), f2, Option.bind_some, gd_pos (ix_of (hA _) r65 rk (by omega)), nI_add]
    rfl
  · rw [wI_sI, if_pos rfl, wI_sA, if_pos rfl]
    by_cases h0 : i = 0
    · rw [if_pos h0, if_pos h0]
    · rw [if_neg h0, if_neg h0]
      show (if 1 + n * cols ≤ i ∧ i < 1 + n * cols + cols then wI S b (0 + (i - (1 + n * cols))) else wI K (t + 1) i) = _
      by_cases hc : 1 + n * cols ≤ i ∧ i < 1 + n * cols + cols
      · rw [if_pos hc, if_pos hc, Nat.zero_add]
      · rw [if_neg hc, if_neg hc]
        exact c14 (t + 1) f10 i (by omega) id
theorem e_addFull {S : Wd} (hI : Inv S) {t cols most b : Nat} (ht : tbl t cols most) (hn : wI S (t + 1) 0 = nI most) : f_X8_add S t b = some (-100005, S) := by
  obtain ⟨f1, f2, f3, f4, f5, f6, f7, f8, f9, f10, f11, f12, f13, f14, f15, f16⟩ := tbl_facts hI ht
  unfold f_X8_add
  rw [gd_pos f1, f2, Option.bind_some, gd_pos (show ix S (t + 1) 100 (0 : Int32) from f6 0 (by omega)), gd_pos f1, f5, show wI S (t + 1) (0 : Int32).toNatClampNeg = nI most from hn, if_pos (Int32.le_refl _)]
