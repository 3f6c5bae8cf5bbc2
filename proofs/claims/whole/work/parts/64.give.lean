/-! fits, give -/
theorem e_fitsM {S : Wd} (hI : Inv S) {l d : Nat} (hl : l < 6) (hd : d < 8) : f_X12_fits S 48 (nI l) (nI d) = some (fitI (wI S 49) l d, S) := by
  obtain ⟨h65, hF⟩ := id hI
  unfold f_X12_fits
  simp (decide := true) only [gd_ob h65, hF, Option.bind_some, show (0 : Int32) = nI 0 from rfl, show (2 : Int32) = nI 2 from rfl, show (3 : Int32) = nI 3 from rfl, show (4 : Int32) = nI 4 from rfl, show (5 : Int32) = nI 5 from rfl, show (6 : Int32) = nI 6 from rfl, e_ofLoad, e_ofLorry, bd2_eq]
  rw [gd_pos (rdN h65 (by omega)), gd_pos (rdN h65 (by omega)), gd_pos (rdN h65 (by omega)), gd_pos (rdN h65 (by omega)), gd_pos (rdN h65 (by omega)), gd_pos (rdN h65 (by omega)), nI_clamp (by omega), nI_clamp (by omega), nI_clamp (by omega), nI_clamp (by omega), nI_clamp (by omega), nI_clamp (by omega)]
  simp (decide := true) only [if_true, if_false]
  unfold fitI
  split
  · rfl
  · split
    · rfl
    · split
      · split <;> rfl
      · split
        · rename_i h; rw [if_pos (show _ = (2 : Int32) from h)]; split <;> rename_i h' <;> first | (rw [if_pos (show _ = (3 : Int32) from h')]; try rfl) | (rw [if_neg (show ¬ _ = (3 : Int32) from h')]; try rfl)
        · rename_i h; rw [if_neg (show ¬ _ = (2 : Int32) from h)]; split <;> rename_i h' <;> first | (rw [if_pos (show _ = (3 : Int32) from h')]; try rfl) | (rw [if_neg (show ¬ _ = (3 : Int32) from h')]; try rfl)
theorem e_fitsC {S : Wd} (hI : Inv S) {n m l d : Nat} {N : Nat → Int32} (v8 : wI S 9 0 = nI n) (hn : n ≤ 6) (v10 : wI S 11 0 = nI m) (hm : m ≤ 8) (hl : l < n) (hd : d < m) (eL : ∀ c, c < 7 → wI S 9 (1 + l * 7 + c) = N (70 + 7 * l + c)) (eD : ∀ c, c < 10 → wI S 11 (1 + d * 11 + c) = N (112 + 11 * d + c)) : f_X0_fits S 12 (nI l) (nI d) = some (fitI N l d, S) := by
  obtain ⟨h65, hF⟩ := id hI
  unfold f_X0_fits
  rw [if_neg (fun h => nI_pos (n := d) (by omega) (by rw [h]; decide))]
  have aL : ∀ c, c < 7 → f_X8_at S 8 (nI l) (nI c) = some (N (70 + 7 * l + c), S) := fun c hc => by rw [e_at hI tb8 v8 hn hl hc, show wI S (8 + 1) (1 + l * 7 + c) = _ from eL c hc]
  have aD : ∀ c, c < 10 → f_X8_at S 10 (nI d) (nI c) = some (N (112 + 11 * d + c), S) := fun c hc => by rw [e_at hI tb10 v10 hm hd (show c < 11 by omega), show wI S (10 + 1) (1 + d * 11 + c) = _ from eD c hc]
  have l0 := aL 0 (by decide)
  have l5 := aL 5 (by decide)
  have l6 := aL 6 (by decide)
  have d2 := aD 2 (by decide)
  have d3 := aD 3 (by decide)
  have d4 := aD 4 (by decide)
  simp (decide := true) only [gd_ob h65, hF, Option.bind_some, show (0 : Int32) = nI 0 from rfl, show (2 : Int32) = nI 2 from rfl, show (3 : Int32) = nI 3 from rfl, show (4 : Int32) = nI 4 from rfl, show (5 : Int32) = nI 5 from rfl, show (6 : Int32) = nI 6 from rfl, l0, l5, l6, d2, d3, d4, bd2_eq]
  have ht : f_X0_takes S (N (70 + 7 * l + 0)) (N (112 + 11 * d + 2)) = some (if N (112 + 11 * d + 2) = 1 then (if N (70 + 7 * l + 0) = 1 then 1 else 0) else if N (112 + 11 * d + 2) = 2 then (if N (70 + 7 * l + 0) = 3 then 1 else 0) else if N (70 + 7 * l + 0) = 3 then 0 else 1, S) := by
    unfold f_X0_takes
    split
    · split <;> rfl
    · split
      · split <;> rfl
      · split <;> rfl
  rw [ht, bd2_eq]
  have hX : (if N (112 + 11 * d + 2) = 1 then (if N (70 + 7 * l + 0) = 1 then (1 : Int32) else 0) else if N (112 + 11 * d + 2) = 2 then (if N (70 + 7 * l + 0) = 3 then 1 else 0) else if N (70 + 7 * l + 0) = 3 then 0 else 1) = 0 ∨ (if N (112 + 11 * d + 2) = 1 then (if N (70 + 7 * l + 0) = 1 then (1 : Int32) else 0) else if N (112 + 11 * d + 2) = 2 then (if N (70 + 7 * l + 0) = 3 then 1 else 0) else if N (70 + 7 * l + 0) = 3 then 0 else 1) = 1 := by
    split
    · split
      · exact Or.inr rfl
      · exact Or.inl rfl
    · split
      · split
        · exact Or.inr rfl
        · exact Or.inl rfl
      · split
        · exact Or.inl rfl
        · exact Or.inr rfl
  unfold fitI
  generalize (if N (112 + 11 * d + 2) = 1 then (if N (70 + 7 * l + 0) = 1 then (1 : Int32) else 0) else if N (112 + 11 * d + 2) = 2 then (if N (70 + 7 * l + 0) = 3 then 1 else 0) else if N (70 + 7 * l + 0) = 3 then 0 else 1) = X at hX ⊢
  rcases hX with rfl | rfl
  · rw [if_pos (show (0 : Int32) = nI 0 from rfl)]
    split
    · rfl
    · split <;> rfl
  · rw [if_neg (show ¬ (1 : Int32) = nI 0 by decide)]
    simp (decide := true) only [gd_ob h65, hF, Option.bind_some, l0, l5, l6, d2, d3, d4, bd2_eq]
    split
    · rfl
    · split <;> rfl

theorem fitI01 (N : Nat → Int32) (l d : Nat) : fitI N l d = 0 ∨ fitI N l d = 1 := by
  unfold fitI
  repeat' split
  all_goals first | exact Or.inl rfl | exact Or.inr rfl
theorem cLoad_giv {C C' : Pv} {N N' : Nat → Int32} {n i : Nat} {w : Int32} (hn : N 65 = nI n) (hn8 : n ≤ 8) (hi : i < n) (hw : w = -1 ∨ ∃ g : Nat, g < 6 ∧ w = nI g) (eC : ∀ k, C' 11 k = if k = 1 + i * 11 + 10 then w else C 11 k) (eN : ∀ k, N' k = if k = 112 + 11 * i + 10 then w else N k) (h : cLoad C N) : cLoad C' N' := by
  obtain ⟨n', x1, x2, x3, x4⟩ := h
  have hnn : n' = n := (nI_eq (by omega) (by omega)).mp (x2.symm.trans hn)
  subst hnn
  refine ⟨n', x1, by rw [eN, if_neg (by omega)]; exact x2, by rw [eC, if_neg (by omega)]; exact x3, fun i' hi' => ⟨fun c' hc' => ?_, ?_⟩⟩
  · obtain ⟨y, y1, y2, y3⟩ := (x4 i' hi').1 c' hc'
    exact ⟨y, y1, by rw [eN, if_neg (by omega)]; exact y2, by rw [eC, if_neg (by omega)]; exact y3⟩
  · by_cases he : i' = i
    · subst he
      rw [eC, if_pos rfl, eN, if_pos rfl]
      exact ⟨rfl, hw⟩
    · rw [eC, if_neg (by omega), eN, if_neg (by omega)]
      exact (x4 i' hi').2
theorem sim_give {j : Nat} {S : Wd} (hR : Rel j S) (hj : j < 512) (a1 a2 : Int32) : ∃ r S1 S2, f_X11_give S 0 a1 a2 = some (r, S1) ∧ 48 < wn S1 ∧ f_X12_give S1 48 a1 a2 = some (r, S2) ∧ Rel (j + 1) S2 := by
  have hI := hR.1
  obtain ⟨h65, hF⟩ := id hI
  have hcore := rel_core hR
  obtain ⟨k1, ⟨m, hm, mu, mv, ml⟩, ⟨n, hn, u, v, hl⟩, k4, k5, k6, k7, k8, k9⟩ := id hcore
  obtain ⟨q, p, hq, hp, h13, h14, h48, hh⟩ := rel_jn hR
  have bad : ∀ (x : Int32), x < -99999 → f_X11_give S 0 a1 a2 = some (x, tl S x) → (∀ {S' : Wd}, Inv S' → wI S' 49 = wI S 49 → f_X12_give S' 48 a1 a2 = some (x, fl S')) → ∃ r S1 S2, f_X11_give S 0 a1 a2 = some (r, S1) ∧ 48 < wn S1 ∧ f_X12_give S1 48 a1 a2 = some (r, S2) ∧ Rel (j + 1) S2 := fun x hx h1 h2 => ⟨x, _, _, h1, tl_w48 hR, h2 hI.tl (tl_arr (by decide)), rel_fin hR hx⟩
  by_cases hat : 0 ≤ a1 ∧ a1 < nI n
  · obtain ⟨i, hi, rfl⟩ := nat_lt hat.1 hat.2 (by omega)
    have main : (a2 = -1 ∨ ∃ g : Nat, g < 6 ∧ a2 = nI g) → ∃ S1 T : Wd, f_X8_set S 10 (nI i) (nI 10) a2 = some (wI S 11 (1 + i * 11 + 10), S1) ∧ 48 < wn S1 ∧ Inv S1 ∧ wI S1 49 = wI S 49 ∧ f_X12_keep S1 48 = some T ∧ Inv T ∧ wI T 49 = wI S 49 ∧ Rel (j + 1) (sI T 49 (112 + 11 * i + 10) a2) := by
      intro hw
      obtain ⟨g, hg1, hg2⟩ := e_set hI tb10 v hn hi (show 10 < 11 by decide) hp hq h14 h13 a2
      have hck := (ck_kp (S := S) (p := p) (q := q) h65 (show (11 : Nat) ∈ rowset by decide) hg2).wr (k := 1 + i * 11 + 10) (v := a2) h65 (by decide) (Or.inl ⟨Nat.le_refl _, by omega⟩)
      generalize hS1 : sI (kpS S (10 + 1) (1 + i * 11 + 10) 1 p q g) (10 + 1) (1 + i * 11 + 10) a2 = S1 at hck hg1
      obtain ⟨w48, e48, e49⟩ := ck_48 h65 hck
      have hI1 := ck_inv hI hck
      obtain ⟨T, t1, t2, t3, t4⟩ := rel_keepM hI1 hq (by rw [e48]; exact h48)
      refine ⟨S1, T, hg1, w48, hI1, e49, t1, t3, by rw [t4, e49], ?_⟩
      have hmk := t2.wr (k := 112 + 11 * i + 10) (v := a2)
      have eN : ∀ k, wI (sI T 49 (112 + 11 * i + 10) a2) 49 k = if k = 112 + 11 * i + 10 then a2 else wI S 49 k := by
        intro k
        rw [wI_sI, if_pos rfl, t4, e49]
      refine rel_row hR hq hp hh (show (11 : Nat) ∈ rowset by decide) (show 1 + i * 11 + 10 + 1 ≤ 89 by omega) hck (fun _ _ h => h.elim) hmk ?_ (st_none _) ?_ hj
      · refine core_Load same_row (fun k _ h1 h2 => by rw [eN, if_neg (by omega)]) (cLoad_giv u hn hi hw (fun k => ?_) eN ⟨n, hn, u, v, hl⟩) hcore
        show (if (11 : Nat) = 11 then wI S1 11 else wI S 11) k = _
        rw [if_pos rfl]
        by_cases he : k = 1 + i * 11 + 10
        · rw [if_pos he, he, ← hS1]; exact wI_sI_eq
        · rw [if_neg he]
          exact hck.2.2.2.2.2.2.2.2.2.2.2.2.2 11 (by decide) k (fun h => he (by omega)) id
      · intro c' c1 c2
        rw [eN, if_neg (by omega)]
        exact Int32.le_refl _
    have e10 := (hl i hi).2.1
    have tail : ∀ {T : Wd}, Inv T → wI T 49 = wI S 49 → (gd (ob T 48 12) (Option.bind (wO T 48 0) (fun q16 => bd2 (f_X12_ofLoad T (nI i) (10 : Int32)) (fun r20 S19 => gd (ix S19 q16 100 r20) (gd (ob S19 48 12) (Option.bind (wO S19 48 0) (fun q23 => bd2 (f_X12_ofLoad S19 (nI i) (10 : Int32)) (fun r27 S26 => gd (ix S26 q23 100 r27) (ltS (sI S26 q23 r27.toNatClampNeg a2) (fun S29 => some ((wI S19 q16 r20.toNatClampNeg), S29)))))))))) : Option (Int32 × Wd)) = some (wI S 11 (1 + i * 11 + 10), sI T 49 (112 + 11 * i + 10) a2) := by
      intro T hT hN
      obtain ⟨T65, hTF⟩ := id hT
      simp (decide := true) only [gd_ob T65, hTF, Option.bind_some, show (10 : Int32) = nI 10 from rfl, e_ofLoad, bd2_eq]
      rw [gd_pos (rdN T65 (by omega)), gd_pos (rdN T65 (by omega)), nI_clamp (by omega), hN, ← e10]
      rfl
    by_cases h1 : a2 = -1
    · obtain ⟨S1, T, m1, m2, m3, m4, m5, m6, m7, m8⟩ := main (Or.inl h1)
      obtain ⟨I65, hIF⟩ := id m3
      refine ⟨wI S 11 (1 + i * 11 + 10), S1, _, ?_, m2, ?_, m8⟩
      · unfold f_X11_give
        simp (decide := true) only [gd_ob h65, hF, Option.bind_some]
        rw [b_has hI tb10, v, if_pos hat, if_neg (by decide), if_pos h1, if_pos h1]
        simp (decide := true) only [gd_ob h65, hF, Option.bind_some]
        rw [show (10 : Int32) = nI 10 from rfl, m1, bd2_eq]
      · unfold f_X12_give
        rw [gd_pos (ob_of I65 (by decide) (by decide)), b_isLoad m3 (by rw [m4]; exact u) (by omega), if_pos hat, if_neg (by decide), if_pos h1, if_pos (by rw [h1]; decide), gd_pos (ob_of I65 (by decide) (by decide)), m5, Option.bind_some]
        exact tail m6 m7
    · by_cases hlo : 0 ≤ a2 ∧ a2 < nI m
      · obtain ⟨l, hll, rfl⟩ := nat_lt hlo.1 hlo.2 (by omega)
        have hfC := e_fitsC (N := wI S 49) hI mv hm v hn hll hi (fun c hc => by obtain ⟨y, -, y1, y2⟩ := ml l hll c hc; rw [y1, y2]) (fun c hc => by obtain ⟨y, -, y1, y2⟩ := (hl i hi).1 c hc; rw [y1, y2])
        have hfM : ∀ {S' : Wd}, Inv S' → wI S' 49 = wI S 49 → f_X12_fits S' 48 (nI l) (nI i) = some (fitI (wI S 49) l i, S') := fun h1 h2 => by rw [e_fitsM h1 (by omega) (by omega), h2]
        have hC : f_X11_give S 0 (nI i) (nI l) = if fitI (wI S 49) l i = 0 then some (-100004, tl S (-100004)) else bd2 (f_X8_set S 10 (nI i) (nI 10) (nI l)) (fun r S' => some (r, S')) := by
          unfold f_X11_give
          simp (decide := true) only [gd_ob h65, hF, Option.bind_some]
          rw [b_has hI tb10, v, if_pos hat, if_neg (by decide), if_neg h1]
          simp (decide := true) only [gd_ob h65, hF, Option.bind_some]
          rw [b_has hI tb8, mv, if_pos hlo, if_neg (by decide), if_neg h1]
          simp (decide := true) only [gd_ob h65, hF, Option.bind_some, hfC, bd2_eq, e_told h65]
          rfl
        have hM : ∀ {S' : Wd}, Inv S' → wI S' 49 = wI S 49 → f_X12_give S' 48 (nI i) (nI l) = if fitI (wI S 49) l i = 0 then some (-100004, fl S') else Option.bind (f_X12_keep S' 48) (fun S13 => gd (ob S13 48 12) (Option.bind (wO S13 48 0) (fun q16 => bd2 (f_X12_ofLoad S13 (nI i) (10 : Int32)) (fun r20 S19 => gd (ix S19 q16 100 r20) (gd (ob S19 48 12) (Option.bind (wO S19 48 0) (fun q23 => bd2 (f_X12_ofLoad S19 (nI i) (10 : Int32)) (fun r27 S26 => gd (ix S26 q23 100 r27) (ltS (sI S26 q23 r27.toNatClampNeg (nI l)) (fun S29 => some ((wI S19 q16 r20.toNatClampNeg), S29))))))))))) := by
          intro S' hI' hN
          obtain ⟨g65, hG⟩ := id hI'
          unfold f_X12_give
          rw [gd_pos (ob_of g65 (by decide) (by decide)), b_isLoad hI' (by rw [hN]; exact u) (by omega), if_pos hat, if_neg (by decide), if_neg h1, gd_pos (ob_of g65 (by decide) (by decide)), b_isLorry hI' (by rw [hN]; exact mu) (by omega), if_pos hlo, if_neg (by decide), if_neg (nI_pos (by omega))]
          simp (decide := true) only [gd_ob g65, hfM hI' hN, bd2_eq, e_finding g65]
        by_cases hfit : fitI (wI S 49) l i = 0
        · refine bad (-100004) (by decide) (by rw [hC, if_pos hfit]) (fun x1 x2 => by rw [hM x1 x2, if_pos hfit])
        · obtain ⟨S1, T, m1, m2, m3, m4, m5, m6, m7, m8⟩ := main (Or.inr ⟨l, by omega, rfl⟩)
          refine ⟨wI S 11 (1 + i * 11 + 10), S1, _, ?_, m2, ?_, m8⟩
          · rw [hC, if_neg hfit, m1, bd2_eq]
          · rw [hM m3 m4, if_neg hfit, m5, Option.bind_some]
            exact tail m6 m7
      · refine bad (-100001) (by decide) ?_ ?_
        · unfold f_X11_give
          simp (decide := true) only [gd_ob h65, hF, Option.bind_some]
          rw [b_has hI tb10, v, if_pos hat, if_neg (by decide), if_neg h1]
          simp (decide := true) only [gd_ob h65, hF, Option.bind_some]
          rw [b_has hI tb8, mv, if_neg hlo, if_pos rfl]
          simp (decide := true) only [gd_ob h65, hF, Option.bind_some, bd2_eq, e_told h65]
        · intro S' hI' hN
          obtain ⟨g65, hG⟩ := id hI'
          unfold f_X12_give
          rw [gd_pos (ob_of g65 (by decide) (by decide)), b_isLoad hI' (by rw [hN]; exact u) (by omega), if_pos hat, if_neg (by decide), if_neg h1, gd_pos (ob_of g65 (by decide) (by decide)), b_isLorry hI' (by rw [hN]; exact mu) (by omega), if_neg hlo, if_pos rfl]
          simp (decide := true) only [gd_ob g65, bd2_eq, e_finding g65]
  · refine bad (-100001) (by decide) ?_ ?_
    · unfold f_X11_give
      simp (decide := true) only [gd_ob h65, hF, Option.bind_some]
      rw [b_has hI tb10, v, if_neg hat, if_pos rfl]
      simp (decide := true) only [gd_ob h65, hF, Option.bind_some, bd2_eq, e_told h65]
    · intro S' hI' hN
      obtain ⟨g65, hG⟩ := id hI'
      unfold f_X12_give
      rw [gd_pos (ob_of g65 (by decide) (by decide)), b_isLoad hI' (by rw [hN]; exact u) (by omega), if_neg hat, if_pos rfl]
      simp (decide := true) only [gd_ob g65, bd2_eq, e_finding g65]
