/-! writes in tables -/
theorem tbl_facts {S : Wd} (hI : Inv S) {t cols most : Nat} (ht : tbl t cols most) : ob S t 8 ∧ wO S t 3 = some (t + 1) ∧ wO S t 0 = some 1 ∧ wI S t 1 = nI cols ∧ wI S t 2 = nI most ∧ (∀ j, j < (kT (t + 1)).2 → ix S (t + 1) 100 (nI j)) ∧ (kT (t + 1)).2 = 1 + cols * most ∧ cols ≤ 11 ∧ most ≤ 40 ∧ t + 1 ∈ rowset ∧ t < 65 ∧ t ∉ rowset ∧ t ≠ 1 ∧ t ≠ 4 ∧ t ≠ 2 ∧ t ≠ 3 := by
  obtain ⟨h65, hF⟩ := id hI
  rcases ht with ⟨rfl, rfl, rfl⟩ | ⟨rfl, rfl, rfl⟩ | ⟨rfl, rfl, rfl⟩ | ⟨rfl, rfl, rfl⟩ | ⟨rfl, rfl, rfl⟩ <;>
  exact ⟨ob_of h65 (by decide) (by decide), by simp only [hF], by simp only [hF], by simp only [hF]; rfl, by simp only [hF]; rfl, fun j hj => ix_of h65 (by decide) (by decide) hj, by decide, by decide, by decide, by decide, by decide, by decide, by decide, by decide, by decide, by decide⟩
theorem e_isCell {S : Wd} (hI : Inv S) {t cols most n : Nat} (ht : tbl t cols most) (hn : wI S (t + 1) 0 = nI n) (hm : n ≤ most) {a k : Nat} (ha : a < n) (hk : k < cols) : f_X8_isCell S t (nI a) (nI k) = some (1, S) := by
  obtain ⟨f1, f2, f3, f4, f5, f6, f7, f8, f9, -⟩ := tbl_facts hI ht
  unfold f_X8_isCell
  have z0 : ix S (t + 1) 100 (0 : Int32) := f6 0 (by omega)
  rw [if_neg (nI_pos (by omega)), gd_pos f1, f2, Option.bind_some, gd_pos z0]
  rw [show wI S (t + 1) (0 : Int32).toNatClampNeg = nI n from hn, if_neg (nI_ge ha (by omega)), if_neg (nI_pos (by omega)), gd_pos f1, f4, if_neg (nI_ge hk (by omega))]
theorem cell_lt {t cols most n a k : Nat} (ht : tbl t cols most) (hm : n ≤ most) (ha : a < n) (hk : k < cols) : 1 + a * cols + k < 1 + cols * most := by
  have h1 : a + 1 ≤ most := by omega
  have h2 : (a + 1) * cols ≤ most * cols := Nat.mul_le_mul_right _ h1
  rw [Nat.add_mul] at h2
  have h3 : most * cols = cols * most := Nat.mul_comm _ _
  omega
theorem e_set {S : Wd} (hI : Inv S) {t cols most n p q : Nat} (ht : tbl t cols most) (hn : wI S (t + 1) 0 = nI n) (hm : n ≤ most) {a k : Nat} (ha : a < n) (hk : k < cols) (hp : p < 16) (hq : q ≤ 16) (h14 : wI S 1 4 = nI p) (h13 : wI S 1 3 = nI q) (v : Int32) : ∃ g : Nat → Int32, f_X8_set S t (nI a) (nI k) v = some (wI S (t + 1) (1 + a * cols + k), sI (kpS S (t + 1) (1 + a * cols + k) 1 p q g) (t + 1) (1 + a * cols + k) v) ∧ ∀ i, i < 1 → g i = wI S (t + 1) (1 + a * cols + k + i) := by
  obtain ⟨f1, f2, f3, f4, f5, f6, f7, f8, f9, f10, f11, f12, f13, f14, f15, f16⟩ := tbl_facts hI ht
  have h65 := hI.1
  have hlt := cell_lt ht hm ha hk
  obtain ⟨rl, rk, r65⟩ := row_len f10
  obtain ⟨g, hg1, hg2⟩ := e_keep hI (ro := t + 1) (fr := 1 + a * cols + k) (m := 1) r65 rk (by omega) (by decide) hp hq h14 h13
  refine ⟨g, ?_, hg2⟩
  have hck := ck_kp (S := S) (p := p) (q := q) h65 f10 hg2
  generalize hK : kpS S (t + 1) (1 + a * cols + k) 1 p q g = K at hg1 hck ⊢
  obtain ⟨c1, c2, c3, c4, c5, c6, c7, c8, c9, c10, c11, c12, c13, c14⟩ := hck
  have K65 : 65 ≤ wn K := by omega
  have ko : ob K t 8 := ⟨by omega, f1.2⟩
  unfold f_X8_set
  rw [gd_pos f1, e_at hI ht hn hm ha hk, bd2_eq, gd_pos f1, e_isCell hI ht hn hm ha hk, bd2_eq, if_neg (by decide), gd_pos f1, f3, Option.bind_some, gd_pos f1, f2, Option.bind_some, gd_pos f1, gd_pos (ob_of h65 (by decide) (by decide)), f4, nI_x]
  rw [show (1 : Int32) = nI 1 from rfl, hg1, Option.bind_some, gd_pos ko, c3 t 3 f15 f16 (by omega), f2, Option.bind_some, gd_pos ko, c13 t 1 (by omega) f13 f14 f12, f4, nI_mul, nI_add, nI_add, gd_pos (ix_of K65 r65 rk (by omega)), nI_clamp (by omega)]
  rfl

/-- what both sides need of the state for an act -/
theorem rel_keepM {S1 : Wd} (hI1 : Inv S1) {q : Nat} (hq : q ≤ 16) (h2 : wI S1 48 2 = nI q) : ∃ T : Wd, f_X12_keep S1 48 = some T ∧ MK S1 T q ∧ Inv T ∧ wI T 49 = wI S1 49 := by
  obtain ⟨T, e1, e2⟩ := e_mkeep hI1 hq h2
  obtain ⟨a1, a2, a3, a4, -⟩ := id e2
  refine ⟨T, e1, mk_of e2, hI1.of (Nat.le_of_eq a1.symm) (fun i k _ _ _ => by rw [a3]) (fun i k hi hk => a4 i k (by omega) (by omega)), funext fun k => a4 49 k (by decide) (by rintro ⟨h, -⟩; cases h)⟩
theorem ck_inv {S S1 : Wd} {ro fr m o p q : Nat} {st : Nat → Nat → Prop} (hI : Inv S) (h : CK S S1 ro fr m o p q st) : Inv S1 := by
  obtain ⟨c1, c2, c3, c4, c5, c6, c7, c8, c9, c10, c11, c12, c13, c14⟩ := h
  have h65 := hI.1
  refine hI.of (by omega) (fun i k x1 x2 x3 => c3 i k x1 x2 (by omega)) (fun i k hi hk => c13 i k (by omega) (by omega) (by omega) ?_)
  simp only [rowset, List.mem_cons, List.not_mem_nil, or_false]
  omega
theorem ck_48 {S S1 : Wd} {ro fr m o p q : Nat} {st : Nat → Nat → Prop} (h65 : 65 ≤ wn S) (h : CK S S1 ro fr m o p q st) : 48 < wn S1 ∧ wI S1 48 2 = wI S 48 2 ∧ wI S1 49 = wI S 49 := by
  obtain ⟨c1, c2, c3, c4, c5, c6, c7, c8, c9, c10, c11, c12, c13, c14⟩ := h
  exact ⟨by omega, c13 48 2 (by omega) (by decide) (by decide) (by decide), funext fun k => c13 49 k (by omega) (by decide) (by decide) (by decide)⟩
/-- the rows of the world behind an act with one write v at place x of row ro, and one write w at place y of the reference's row -/
theorem act_rows {S S1 S2 : Wd} {ro fr m o p q : Nat} {st : Nat → Nat → Prop} (hc : CK S S1 ro fr m o p q st) (hm : MK S1 S2 q) {a : Nat} (ha : a ∈ rowset) : wI S2 a = wI S1 a := by
  obtain ⟨y1, y2, y3, y4, y5, y6, y7, y8, -⟩ := row_ne ha
  exact funext fun k => hm.2.2.2.1 a k y7 y8 (fun h => y6 h.1)
theorem cLoad_set {C C' : Pv} {N N' : Nat → Int32} {n i c v : Nat} (hn : N 65 = nI n) (hn8 : n ≤ 8) (hi : i < n) (hc : c < 10) (hv : v ≤ loadMax c) (eC : ∀ k, C' 11 k = if k = 1 + i * 11 + c then nI v else C 11 k) (eN : ∀ k, k < 424 → N' k = if k = 112 + 11 * i + c then nI v else N k) (h : cLoad C N) : cLoad C' N' := by
  obtain ⟨n', x1, x2, x3, x4⟩ := h
  have hnn : n' = n := (nI_eq (by omega) (by omega)).mp (x2.symm.trans hn)
  subst hnn
  refine ⟨n', x1, by rw [eN _ (by omega), if_neg (by omega)]; exact x2, by rw [eC, if_neg (by omega)]; exact x3, fun i' hi' => ⟨fun c' hc' => ?_, ?_, ?_⟩⟩
  · obtain ⟨w, y1, y2, y3⟩ := (x4 i' hi').1 c' hc'
    by_cases he : i' = i ∧ c' = c
    · obtain ⟨rfl, rfl⟩ := he
      exact ⟨v, hv, by rw [eN _ (by omega), if_pos rfl], by rw [eC, if_pos rfl]⟩
    · exact ⟨w, y1, by rw [eN _ (by omega), if_neg (by omega)]; exact y2, by rw [eC, if_neg (by omega)]; exact y3⟩
  · rw [eC, if_neg (by omega), eN _ (by omega), if_neg (by omega)]; exact (x4 i' hi').2.1
  · rw [eN _ (by omega), if_neg (by omega)]; exact (x4 i' hi').2.2
/-- pay -/
theorem sim_pay {j : Nat} {S : Wd} (hR : Rel j S) (hj : j < 512) (a1 a2 : Int32) : ∃ r S1 S2, f_X11_pay S 0 a1 a2 = some (r, S1) ∧ 48 < wn S1 ∧ f_X12_pay S1 48 a1 a2 = some (r, S2) ∧ Rel (j + 1) S2 := by
  have hI := hR.1
  obtain ⟨h65, hF⟩ := id hI
  have hcore := rel_core hR
  obtain ⟨k1, k2, ⟨n, hn, u, v, hl⟩, k4, k5, k6, k7, k8, k9⟩ := id hcore
  obtain ⟨q, p, hq, hp, h13, h14, h48, hh⟩ := rel_jn hR
  have hC : f_X11_pay S 0 a1 a2 = if 0 ≤ a1 ∧ a1 < nI n then (if 0 ≤ a2 ∧ a2 ≤ 9999 then bd2 (f_X8_set S 10 a1 5 a2) (fun r S' => some (r, S')) else some (-100001, tl S (-100001))) else some (-100001, tl S (-100001)) := by
    unfold f_X11_pay
    simp (decide := true) only [gd_ob h65, hF, Option.bind_some]
    rw [b_has hI tb10, v]
    simp (decide := true) only [gd_ob h65, hF, Option.bind_some, b_within_X11, if_true, if_false, e_told h65, bd2_eq]
  have hM : ∀ {S' : Wd}, Inv S' → wI S' 49 = wI S 49 → f_X12_pay S' 48 a1 a2 = if 0 ≤ a1 ∧ a1 < nI n then (if 0 ≤ a2 ∧ a2 ≤ 9999 then Option.bind (f_X12_keep S' 48) (fun T => gd (ob T 48 12) (Option.bind (wO T 48 0) (fun q18 => bd2 (f_X12_ofLoad T a1 5) (fun r22 S21 => gd (ix S21 q18 100 r22) (gd (ob S21 48 12) (Option.bind (wO S21 48 0) (fun q25 => bd2 (f_X12_ofLoad S21 a1 5) (fun r29 S28 => gd (ix S28 q25 100 r29) (ltS (sI S28 q25 r29.toNatClampNeg a2) (fun S31 => some ((wI S21 q18 r22.toNatClampNeg), S31))))))))))) else some (-100001, fl S')) else some (-100001, fl S') := by
    intro S' hI' hN
    obtain ⟨g65, hG⟩ := id hI'
    unfold f_X12_pay
    simp (decide := true) only [gd_ob g65]
    rw [b_isLoad hI' (by rw [hN]; exact u) (by omega)]
    simp (decide := true) only [gd_ob g65, b_within_X12, if_true, if_false, e_finding g65, bd2_eq]
  rw [hC]
  split
  · rename_i hat
    obtain ⟨i, hi, rfl⟩ := nat_lt hat.1 hat.2 (by omega)
    split
    · rename_i hk
      obtain ⟨w, hw, rfl⟩ := nat_le (n := 9999) hk.1 hk.2 (by decide)
      obtain ⟨g, hg1, hg2⟩ := e_set hI tb10 v hn hi (show 5 < 11 by decide) hp hq h14 h13 (nI w)
      have hck := (ck_kp (S := S) (p := p) (q := q) h65 (show (11 : Nat) ∈ rowset by decide) hg2).wr (k := 1 + i * 11 + 5) (v := nI w) h65 (by decide) (Or.inl ⟨Nat.le_refl _, by omega⟩)
      rw [show (5 : Int32) = nI 5 from rfl, hg1, bd2_eq]
      generalize hS1 : sI (kpS S (10 + 1) (1 + i * 11 + 5) 1 p q g) (10 + 1) (1 + i * 11 + 5) (nI w) = S1 at hck ⊢
      obtain ⟨w48, e48, e49⟩ := ck_48 h65 hck
      have hI1 := ck_inv hI hck
      obtain ⟨T, t1, t2, t3, t4⟩ := rel_keepM hI1 hq (by rw [e48]; exact h48)
      obtain ⟨T65, hTF⟩ := id t3
      refine ⟨_, S1, sI T 49 (112 + 11 * i + 5) (nI w), rfl, w48, ?_, ?_⟩
      · rw [hM hI1 e49, if_pos hat, if_pos hk, t1, Option.bind_some]
        simp (decide := true) only [gd_ob T65, hTF, Option.bind_some, show (5 : Int32) = nI 5 from rfl, e_ofLoad, bd2_eq]
        rw [gd_pos (rdN T65 (by omega)), gd_pos (rdN T65 (by omega)), nI_clamp (by omega), t4, e49]
        obtain ⟨x, -, y1, y2⟩ := (hl i hi).1 5 (by decide)
        rw [y1, show wI S (10 + 1) (1 + i * 11 + 5) = nI x from y2]
        rfl
      · have hmk := t2.wr (k := 112 + 11 * i + 5) (v := nI w)
        have rows : ∀ a, a ∈ rowset → ∀ k, wI (sI T 49 (112 + 11 * i + 5) (nI w)) a k = if a = 11 ∧ k = 1 + i * 11 + 5 then nI w else wI S a k := by
          intro a ha k
          rw [act_rows hck hmk ha]
          by_cases he : a = 11 ∧ k = 1 + i * 11 + 5
          · rw [if_pos he, he.1, he.2, ← hS1]
            exact wI_sI_eq
          · rw [if_neg he]
            exact hck.2.2.2.2.2.2.2.2.2.2.2.2.2 a ha k (fun h => he ⟨h.1, by omega⟩) id
        have eN : ∀ k, wI (sI T 49 (112 + 11 * i + 5) (nI w)) 49 k = if k = 112 + 11 * i + 5 then nI w else wI S 49 k := by
          intro k
          rw [wI_sI, if_pos rfl, t4, e49]
        have same : ∀ a, a ∈ rowset → a ≠ 11 → wI (sI T 49 (112 + 11 * i + 5) (nI w)) a = wI S a := fun a ha hne => funext fun k => by rw [rows a ha k, if_neg (fun h => hne h.1)]
        refine rel_act (fun _ _ => False) hR hq hp hh (show (11 : Nat) ∈ rowset by decide) (show 1 + i * 11 + 5 + 1 ≤ 89 by omega) hck hmk ?_ (st_none _) ?_ hj
        · refine core_Load same (fun k _ h1 h2 => by rw [eN, if_neg (by omega)]) (cLoad_set u hn hi (show 5 < 10 by decide) (show w ≤ 9999 from hw) (fun k => ?_) (fun k _ => eN k) ⟨n, hn, u, v, hl⟩) hcore
          rw [rows 11 (by decide) k]
          by_cases he : k = 1 + i * 11 + 5
          · rw [if_pos ⟨rfl, he⟩, if_pos he]
          · rw [if_neg (fun h => he h.2), if_neg he]
        · intro c c1 c2
          rw [eN, if_neg (by omega)]
          exact Int32.le_refl _
    · rename_i hk
      exact ⟨_, _, _, rfl, tl_w48 hR, by rw [hM hI.tl (tl_arr (by decide)), if_pos hat, if_neg hk], rel_fin hR (by decide)⟩
  · rename_i hat
    exact ⟨_, _, _, rfl, tl_w48 hR, by rw [hM hI.tl (tl_arr (by decide)), if_neg hat], rel_fin hR (by decide)⟩
