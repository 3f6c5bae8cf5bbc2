/-! window, give -/
theorem e_setPair {S : Wd} (hI : Inv S) {t cols most n p q : Nat} (ht : tbl t cols most) (hn : wI S (t + 1) 0 = nI n) (hm : n ≤ most) {a k : Nat} (ha : a < n) (hk : k + 1 < cols) (hp : p < 16) (hq : q ≤ 16) (h14 : wI S 1 4 = nI p) (h13 : wI S 1 3 = nI q) (v w : Int32) : ∃ g : Nat → Int32, f_X8_setPair S t (nI a) (nI k) v w = some (sI (sI (kpS S (t + 1) (1 + a * cols + k) 2 p q g) (t + 1) (1 + a * cols + k) v) (t + 1) (1 + a * cols + k + 1) w) ∧ ∀ i, i < 2 → g i = wI S (t + 1) (1 + a * cols + k + i) := by
  obtain ⟨f1, f2, f3, f4, f5, f6, f7, f8, f9, f10, f11, f12, f13, f14, f15, f16⟩ := tbl_facts hI ht
  have h65 := hI.1
  have hlt := cell_lt (k := k + 1) ht hm ha hk
  obtain ⟨rl, rk, r65⟩ := row_len f10
  obtain ⟨g, hg1, hg2⟩ := e_keep hI (ro := t + 1) (fr := 1 + a * cols + k) (m := 2) r65 rk (by omega) (by decide) hp hq h14 h13
  refine ⟨g, ?_, hg2⟩
  have hck := ck_kp (S := S) (p := p) (q := q) h65 f10 hg2
  generalize hK : kpS S (t + 1) (1 + a * cols + k) 2 p q g = K at hg1 hck ⊢
  obtain ⟨c1, c2, c3, c4, c5, c6, c7, c8, c9, c10, c11, c12, c13, c14⟩ := hck
  have K65 : 65 ≤ wn K := by omega
  have ko : ob K t 8 := ⟨by omega, f1.2⟩
  unfold f_X8_setPair
  rw [gd_pos f1, e_isCell hI ht hn hm ha (by omega), bd2_eq, if_neg (by decide), gd_pos f1, nI_1, e_isCell hI ht hn hm ha hk, bd2_eq, if_neg (by decide), gd_pos f1, gd_pos f1, f3, Option.bind_some, gd_pos f1, f2, Option.bind_some, gd_pos (ob_of h65 (by decide) (by decide)), f4, nI_x]
  rw [show (2 : Int32) = nI 2 from rfl, hg1, Option.bind_some, gd_pos ko, c3 t 3 f15 f16 (by omega), f2, Option.bind_some, gd_pos (ix_of K65 r65 rk (by omega)), nI_clamp (by omega)]
  show gd (ob (sI K (t + 1) (1 + a * cols + k) v) t 8) _ = _
  have ko' : ob (sI K (t + 1) (1 + a * cols + k) v) t 8 := ko
  have K65' : 65 ≤ wn (sI K (t + 1) (1 + a * cols + k) v) := K65
  rw [gd_pos ko', wO_sI, c3 t 3 f15 f16 (by omega), f2, Option.bind_some, nI_1, gd_pos (ix_of K65' r65 rk (by omega)), nI_clamp (by omega)]
  rfl
theorem sim_window {j : Nat} {S : Wd} (hR : Rel j S) (hj : j < 512) (a1 a2 a3 a4 : Int32) : ∃ r S1 S2, f_X11_window S 0 a1 a2 a3 a4 = some (r, S1) ∧ 48 < wn S1 ∧ f_X12_window S1 48 a1 a2 a3 a4 = some (r, S2) ∧ Rel (j + 1) S2 := by
  have hI := hR.1
  obtain ⟨h65, hF⟩ := id hI
  have hcore := rel_core hR
  obtain ⟨k1, k2, ⟨n, hn, u, v, hl⟩, k4, k5, k6, k7, k8, k9⟩ := id hcore
  obtain ⟨q, p, hq, hp, h13, h14, h48, hh⟩ := rel_jn hR
  have hC : f_X11_window S 0 a1 a2 a3 a4 = if 0 ≤ a1 ∧ a1 < nI n then (if 0 ≤ a3 ∧ a3 ≤ 4000 then (if 0 ≤ a4 ∧ a4 ≤ 4000 then (if a3 ≤ a4 then (if a2 = 0 then Option.bind (f_X8_setPair S 10 a1 6 a3 a4) (fun S' => some (1, S')) else Option.bind (f_X8_setPair S 10 a1 8 a3 a4) (fun S' => some (1, S'))) else some (-100003, tl S (-100003))) else some (-100001, tl S (-100001))) else some (-100001, tl S (-100001))) else some (-100001, tl S (-100001)) := by
    unfold f_X11_window
    simp (decide := true) only [gd_ob h65, hF, Option.bind_some]
    rw [b_has hI tb10, v]
    simp (decide := true) only [gd_ob h65, hF, Option.bind_some, b_within_X11, if_true, if_false, e_told h65, bd2_eq]
  have hM : ∀ {S' : Wd}, Inv S' → wI S' 49 = wI S 49 → ¬ ((0 ≤ a1 ∧ a1 < nI n) ∧ (0 ≤ a3 ∧ a3 ≤ 4000) ∧ (0 ≤ a4 ∧ a4 ≤ 4000) ∧ a3 ≤ a4) → f_X12_window S' 48 a1 a2 a3 a4 = if 0 ≤ a1 ∧ a1 < nI n then (if 0 ≤ a3 ∧ a3 ≤ 4000 then (if 0 ≤ a4 ∧ a4 ≤ 4000 then some (-100003, fl S') else some (-100001, fl S')) else some (-100001, fl S')) else some (-100001, fl S') := by
    intro S' hI' hN hno
    obtain ⟨g65, hG⟩ := id hI'
    unfold f_X12_window
    simp (decide := true) only [gd_ob g65]
    rw [b_isLoad hI' (by rw [hN]; exact u) (by omega)]
    simp (decide := true) only [gd_ob g65, b_within_X12, if_true, if_false, e_finding g65, bd2_eq]
    by_cases c1 : 0 ≤ a1 ∧ a1 < nI n
    · rw [if_pos c1, if_pos c1]
      by_cases c2 : 0 ≤ a3 ∧ a3 ≤ 4000
      · rw [if_pos c2, if_pos c2]
        by_cases c3 : 0 ≤ a4 ∧ a4 ≤ 4000
        · rw [if_pos c3, if_pos c3, if_neg (fun c4 => hno ⟨c1, c2, c3, c4⟩)]
        · rw [if_neg c3, if_neg c3]
      · rw [if_neg c2, if_neg c2]
    · rw [if_neg c1, if_neg c1]
  rw [hC]
  split
  · rename_i hat
    split
    · rename_i hf
      split
      · rename_i ht
        split
        · rename_i hle
          obtain ⟨i, hi, rfl⟩ := nat_lt hat.1 hat.2 (by omega)
          obtain ⟨x, hx, rfl⟩ := nat_le (n := 4000) hf.1 hf.2 (by decide)
          obtain ⟨y, hy, rfl⟩ := nat_le (n := 4000) ht.1 ht.2 (by decide)
          have main : ∀ c : Nat, (c = 6 ∨ c = 8) → ∃ S1 T : Wd, f_X8_setPair S 10 (nI i) (nI c) (nI x) (nI y) = some S1 ∧ 48 < wn S1 ∧ Inv S1 ∧ wI S1 49 = wI S 49 ∧ f_X12_keep S1 48 = some T ∧ Inv T ∧ Rel (j + 1) (sI (sI T 49 (112 + 11 * i + c) (nI x)) 49 (112 + 11 * i + c + 1) (nI y)) := by
            intro c hc
            obtain ⟨g, hg1, hg2⟩ := e_setPair hI tb10 v hn hi (show c + 1 < 11 by omega) hp hq h14 h13 (nI x) (nI y)
            have hck := ((ck_kp (S := S) (p := p) (q := q) h65 (show (11 : Nat) ∈ rowset by decide) hg2).wr (k := 1 + i * 11 + c) (v := nI x) h65 (by decide) (Or.inl ⟨Nat.le_refl _, by omega⟩)).wr (k := 1 + i * 11 + c + 1) (v := nI y) h65 (by decide) (Or.inl ⟨by omega, by omega⟩)
            generalize hS1 : sI (sI (kpS S (10 + 1) (1 + i * 11 + c) 2 p q g) (10 + 1) (1 + i * 11 + c) (nI x)) (10 + 1) (1 + i * 11 + c + 1) (nI y) = S1 at hck hg1
            obtain ⟨w48, e48, e49⟩ := ck_48 h65 hck
            have hI1 := ck_inv hI hck
            obtain ⟨T, t1, t2, t3, t4⟩ := rel_keepM hI1 hq (by rw [e48]; exact h48)
            refine ⟨S1, T, hg1, w48, hI1, e49, t1, t3, ?_⟩
            have hmk := (t2.wr (k := 112 + 11 * i + c) (v := nI x)).wr (k := 112 + 11 * i + c + 1) (v := nI y)
            have eN : ∀ k, wI (sI (sI T 49 (112 + 11 * i + c) (nI x)) 49 (112 + 11 * i + c + 1) (nI y)) 49 k = if k = 112 + 11 * i + c + 1 then nI y else if k = 112 + 11 * i + c then nI x else wI S 49 k := by
              intro k
              rw [wI_sI, if_pos rfl, wI_sI, if_pos rfl, t4, e49]
            refine rel_row hR hq hp hh (show (11 : Nat) ∈ rowset by decide) (show 1 + i * 11 + c + 2 ≤ 89 by omega) hck (fun _ _ h => h.elim) hmk ?_ (st_none _) ?_ hj
            · refine core_Load same_row (fun k _ h1 h2 => by rw [eN, if_neg (by omega), if_neg (by omega)]) ?_ hcore
              have l1 := cLoad_set (C := wI S) (C' := fun _ k => if k = 1 + i * 11 + c then nI x else wI S 11 k) (N := wI S 49) (N' := fun k => if k = 112 + 11 * i + c then nI x else wI S 49 k) u hn hi (show c < 10 by omega) (show x ≤ loadMax c by rcases hc with rfl | rfl <;> exact hx) (fun _ => rfl) (fun _ _ => rfl) ⟨n, hn, u, v, hl⟩
              refine cLoad_set (n := n) (i := i) (c := c + 1) (v := y) (by rw [if_neg (by omega)]; exact u) hn hi (by omega) (show y ≤ loadMax (c + 1) by rcases hc with rfl | rfl <;> exact hy) (fun k => ?_) (fun k _ => eN k) l1
              show (if (11 : Nat) = 11 then wI S1 11 else wI S 11) k = if k = 1 + i * 11 + (c + 1) then nI y else if k = 1 + i * 11 + c then nI x else wI S 11 k
              rw [if_pos rfl]
              by_cases he : k = 1 + i * 11 + (c + 1)
              · rw [if_pos he, he, ← hS1]; exact wI_sI_eq
              · rw [if_neg he]
                by_cases he2 : k = 1 + i * 11 + c
                · rw [if_pos he2, he2, ← hS1]
                  exact (wI_sI_ne (by omega)).trans wI_sI_eq
                · rw [if_neg he2]
                  exact hck.2.2.2.2.2.2.2.2.2.2.2.2.2 11 (by decide) k (fun h => by omega) id
            · intro c' c1 c2
              rw [eN, if_neg (by omega), if_neg (by omega)]
              exact Int32.le_refl _
          have hMg : ∀ {S1 T : Wd} (c : Nat), (c = 6 ∨ c = 8) → Inv S1 → wI S1 49 = wI S 49 → Inv T → f_X12_keep S1 48 = some T → (if a2 = 0 then c = 6 else c = 8) → f_X12_window S1 48 (nI i) a2 (nI x) (nI y) = some (1, sI (sI T 49 (112 + 11 * i + c) (nI x)) 49 (112 + 11 * i + c + 1) (nI y)) := by
            intro S1 T c hc hI' hN hIT hk h2
            obtain ⟨g65, hG⟩ := id hI'
            obtain ⟨T65, hTF⟩ := id hIT
            unfold f_X12_window
            simp (decide := true) only [gd_ob g65]
            rw [b_isLoad hI' (by rw [hN]; exact u) (by omega), if_pos hat, if_neg (by decide), b_within_X12, if_pos hf, if_neg (by decide), b_within_X12, if_pos ht, if_neg (by decide), if_pos hle, gd_pos (ob_of g65 (by decide) (by decide)), hk, Option.bind_some]
            have hT1 : 65 ≤ wn (sI T 49 (112 + 11 * i + c) (nI x)) := T65
            have tail : (bd2 (f_X12_ofLoad T (nI i) (nI c)) (fun r29 S28 => gd (ob S28 48 12) (Option.bind (wO S28 48 0) (fun q31 => gd (ix S28 q31 100 r29) (ltS (sI S28 q31 r29.toNatClampNeg (nI x)) (fun S34 => gd (ob S34 48 12) (Option.bind (wO S34 48 0) (fun q37 => gd (ix S34 q37 100 (r29 + (1 : Int32))) (ltS (sI S34 q37 (r29 + (1 : Int32)).toNatClampNeg (nI y)) (fun S40 => some ((1 : Int32), S40)))))))))) : Option (Int32 × Wd)) = some (1, sI (sI T 49 (112 + 11 * i + c) (nI x)) 49 (112 + 11 * i + c + 1) (nI y)) := by
              simp (decide := true) only [e_ofLoad, bd2_eq, gd_ob T65, hTF, Option.bind_some]
              rw [gd_pos (rdN T65 (by omega)), nI_clamp (by omega)]
              show gd (ob (sI T 49 (112 + 11 * i + c) (nI x)) 48 12) _ = _
              rw [gd_pos (ob_of hT1 (by decide) (by decide)), wO_sI]
              simp (decide := true) only [hTF, Option.bind_some]
              rw [nI_1, gd_pos (rdN hT1 (by omega)), nI_clamp (by omega)]
              rfl
            by_cases ha : a2 = 0
            · rw [if_pos ha] at h2 ⊢
              subst h2
              exact tail
            · rw [if_neg ha] at h2 ⊢
              subst h2
              exact tail
          by_cases ha : a2 = 0
          · obtain ⟨S1, T, m1, m2, m3, m4, m5, m6, m7⟩ := main 6 (Or.inl rfl)
            rw [if_pos ha]
            exact ⟨1, S1, _, by rw [show (6 : Int32) = nI 6 from rfl, m1]; rfl, m2, hMg 6 (Or.inl rfl) m3 m4 m6 m5 (by rw [if_pos ha]), m7⟩
          · obtain ⟨S1, T, m1, m2, m3, m4, m5, m6, m7⟩ := main 8 (Or.inr rfl)
            rw [if_neg ha]
            exact ⟨1, S1, _, by rw [show (8 : Int32) = nI 8 from rfl, m1]; rfl, m2, hMg 8 (Or.inr rfl) m3 m4 m6 m5 (by rw [if_neg ha]), m7⟩
        · rename_i hle
          exact ⟨_, _, _, rfl, tl_w48 hR, by rw [hM hI.tl (tl_arr (by decide)) (fun h => hle h.2.2.2), if_pos hat, if_pos hf, if_pos ht], rel_fin hR (by decide)⟩
      · rename_i ht
        exact ⟨_, _, _, rfl, tl_w48 hR, by rw [hM hI.tl (tl_arr (by decide)) (fun h => ht h.2.2.1), if_pos hat, if_pos hf, if_neg ht], rel_fin hR (by decide)⟩
    · rename_i hf
      exact ⟨_, _, _, rfl, tl_w48 hR, by rw [hM hI.tl (tl_arr (by decide)) (fun h => hf h.2.1), if_pos hat, if_neg hf], rel_fin hR (by decide)⟩
  · rename_i hat
    exact ⟨_, _, _, rfl, tl_w48 hR, by rw [hM hI.tl (tl_arr (by decide)) (fun h => hat h.1), if_neg hat], rel_fin hR (by decide)⟩
