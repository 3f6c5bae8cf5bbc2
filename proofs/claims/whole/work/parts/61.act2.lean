theorem cOwe_set {C C' : Pv} {N N' : Nat → Int32} {x : Nat} {v : Int32} (hv : -9999 ≤ v ∧ v ≤ 9999) (eC : ∀ k, C' 32 k = if k = x then v else C 32 k) (eN : ∀ k, N' k = if k = 310 + x then v else N k) (h : cOwe C N) : cOwe C' N' := by
  intro k hk
  by_cases he : k = x
  · rw [eC, eN, if_pos he, if_pos (by omega)]
    exact ⟨rfl, hv⟩
  · rw [eC, eN, if_neg he, if_neg (by omega)]
    exact h k hk
/-- owe -/
theorem sim_owe {j : Nat} {S : Wd} (hR : Rel j S) (hj : j < 512) (a1 a2 a3 : Int32) : ∃ r S1 S2, f_X11_owe S 0 a1 a2 a3 = some (r, S1) ∧ 48 < wn S1 ∧ f_X12_owe S1 48 a1 a2 a3 = some (r, S2) ∧ Rel (j + 1) S2 := by
  have hI := hR.1
  obtain ⟨h65, hF⟩ := id hI
  have hcore := rel_core hR
  obtain ⟨q, p, hq, hp, h13, h14, h48, hh⟩ := rel_jn hR
  by_cases hok : (0 ≤ a1 ∧ a1 ≤ 9) ∧ (0 ≤ a2 ∧ a2 ≤ 9) ∧ (-99 ≤ a3 ∧ a3 ≤ 99)
  · obtain ⟨o1, o2, o4⟩ := hok
    by_cases o3 : a1 = a2
    · obtain ⟨g65, hG⟩ := id (hI.tl (v := -100003))
      refine ⟨-100003, _, _, ?_, tl_w48 (v := -100003) hR, ?_, rel_fin (v := -100003) hR (by decide)⟩
      · unfold f_X11_owe
        rw [b_isFirm_X11, if_pos o1, if_neg (by decide), b_isFirm_X11, if_pos o2, if_neg (by decide), b_within_X11, if_pos o4, if_neg (by decide), if_pos o3]
        simp (decide := true) only [gd_ob h65, e_told h65, bd2_eq]
      · unfold f_X12_owe
        rw [b_isFirm_X12, if_pos o1, if_neg (by decide), b_isFirm_X12, if_pos o2, if_neg (by decide), b_within_X12, if_pos o4, if_neg (by decide), if_pos o3]
        simp (decide := true) only [gd_ob g65, e_finding g65, bd2_eq]
    obtain ⟨x, hx, rfl⟩ := nat_le (n := 9) o1.1 o1.2 (by decide)
    obtain ⟨y, hy, rfl⟩ := nat_le (n := 9) o2.1 o2.2 (by decide)
    have eix : nI x * 10 + nI y = nI (x * 10 + y) := by show nI x * nI 10 + nI y = _; rw [nI_mul, nI_add]
    have eix2 : (310 : Int32) + 10 * nI x + nI y = nI (310 + (x * 10 + y)) := by show nI 310 + nI 10 * nI x + nI y = _; rw [nI_mul, nI_add, nI_add]; congr 1; omega
    obtain ⟨ow1, ow2, ow3⟩ := hcore.2.2.2.2.2.2.2.1 (x * 10 + y) (by omega)
    have hmv0 : f_X4_move S 31 (nI x) (nI y) a3 = if -9999 ≤ wI S 32 (x * 10 + y) + a3 ∧ wI S 32 (x * 10 + y) + a3 ≤ 9999 then Option.bind (f_X3_keep S 1 32 (nI (x * 10 + y)) 1) (fun K => gd (ob K 31 4) (Option.bind (wO K 31 1) (fun q27 => gd (ix K q27 100 (nI (x * 10 + y))) (ltS (sI K q27 (x * 10 + y) (wI S 32 (x * 10 + y) + a3)) (fun S30 => some (wI S 32 (x * 10 + y) + a3, S30)))))) else some (-100005, S) := by
      unfold f_X4_move
      rw [b_isFirm_X11, if_pos o1, if_neg (by decide), b_isFirm_X11, if_pos o2, if_neg (by decide)]
      simp (decide := true) only [gd_ob h65, hF, Option.bind_some, eix]
      rw [gd_pos (ix_of h65 (by decide) (by decide) (by show _ < 100; omega)), nI_clamp (by omega), b_within_X11]
      simp (decide := true) only [if_true, if_false, gd_ob h65, hF, Option.bind_some]
    by_cases hin : -9999 ≤ wI S 32 (x * 10 + y) + a3 ∧ wI S 32 (x * 10 + y) + a3 ≤ 9999
    · obtain ⟨g, hg1, hg2⟩ := e_keep hI (ro := 32) (fr := x * 10 + y) (m := 1) (by decide) (by decide) (by show _ ≤ 100; omega) (by decide) hp hq h14 h13
      have hck0 := ck_kp (S := S) (p := p) (q := q) h65 (show (32 : Nat) ∈ rowset by decide) hg2
      have hck := hck0.wr (k := x * 10 + y) (v := wI S 32 (x * 10 + y) + a3) h65 (by decide) (Or.inl ⟨Nat.le_refl _, by omega⟩)
      have hIK := ck_inv hI hck0
      generalize hK : kpS S 32 (x * 10 + y) 1 p q g = K at hg1 hck0 hck hIK
      obtain ⟨K65, hKF⟩ := id hIK
      obtain ⟨w48, e48, e49⟩ := ck_48 h65 hck
      have hI1 := ck_inv hI hck
      obtain ⟨T, t1, t2, t3, t4⟩ := rel_keepM hI1 hq (by rw [e48]; exact h48)
      obtain ⟨T65, hTF⟩ := id t3
      have hge : (-99999 : Int32) ≤ wI S 32 (x * 10 + y) + a3 := Int32.le_trans (by decide) hin.1
      generalize hV : wI S 32 (x * 10 + y) + a3 = V at *
      refine ⟨V, sI K 32 (x * 10 + y) V, sI T 49 (310 + (x * 10 + y)) V, ?_, w48, ?_, ?_⟩
      · have hS65 : 65 ≤ wn (sI K 32 (x * 10 + y) V) := K65
        unfold f_X11_owe
        rw [b_isFirm_X11, if_pos o1, if_neg (by decide), b_isFirm_X11, if_pos o2, if_neg (by decide), b_within_X11, if_pos o4, if_neg (by decide), if_neg o3]
        simp (decide := true) only [gd_ob h65, hF, Option.bind_some]
        rw [hmv0, if_pos hin, show (1 : Int32) = nI 1 from rfl, hg1, Option.bind_some]
        simp (decide := true) only [gd_ob K65, hKF, Option.bind_some]
        rw [gd_pos (ix_of K65 (by decide) (by decide) (by show _ < 100; omega))]
        show gd (ob (sI K 32 (x * 10 + y) V) 0 11) _ = _
        simp (decide := true) only [gd_ob hS65, e_told hS65, bd2_eq]
        rw [tl_ge hge]
      · have hT65 : 65 ≤ wn (sI T 49 (310 + (x * 10 + y)) V) := T65
        obtain ⟨I165, hIF⟩ := id hI1
        unfold f_X12_owe
        rw [b_isFirm_X12, if_pos o1, if_neg (by decide), b_isFirm_X12, if_pos o2, if_neg (by decide), b_within_X12, if_pos o4, if_neg (by decide), if_neg o3]
        simp (decide := true) only [gd_ob I165, hIF, Option.bind_some, eix2]
        rw [gd_pos (rdN I165 (by omega)), nI_clamp (by omega), e49, ← ow1, hV, b_within_X12, if_pos hin, if_neg (by decide), gd_pos (ob_of I165 (by decide) (by decide)), t1, Option.bind_some]
        simp (decide := true) only [gd_ob T65, hTF, Option.bind_some]
        rw [gd_pos (rdN T65 (by omega)), gd_pos (rdN T65 (by omega)), t4, e49, ← ow1, hV]
        show gd (ob (sI T 49 (310 + (x * 10 + y)) V) 48 12) _ = _
        rw [gd_pos (ob_of hT65 (by decide) (by decide)), wO_sI]
        simp (decide := true) only [hTF, Option.bind_some]
        rw [gd_pos (rdN hT65 (by omega)), wI_sI_eq]
      · have hmk := t2.wr (k := 310 + (x * 10 + y)) (v := V)
        have eN : ∀ k, wI (sI T 49 (310 + (x * 10 + y)) V) 49 k = if k = 310 + (x * 10 + y) then V else wI S 49 k := by
          intro k
          rw [wI_sI, if_pos rfl, t4, e49]
        refine rel_row hR hq hp hh (show (32 : Nat) ∈ rowset by decide) (show x * 10 + y + 1 ≤ 100 by omega) hck (fun _ _ h => h.elim) hmk ?_ (st_none _) ?_ hj
        · refine core_Owe same_row (fun k _ h1 => by rw [eN, if_neg (by omega)]) (cOwe_set hin (fun k => ?_) eN hcore.2.2.2.2.2.2.2.1) hcore
          show (if (32 : Nat) = 32 then wI (sI K 32 (x * 10 + y) V) 32 else wI S 32) k = _
          rw [if_pos rfl]
          by_cases he : k = x * 10 + y
          · rw [if_pos he, he, wI_sI_eq]
          · rw [if_neg he, wI_sI_ne (fun h => he h.2)]
            exact hck0.2.2.2.2.2.2.2.2.2.2.2.2.2 32 (by decide) k (fun h => he (by omega)) id
        · intro c c1 c2
          rw [eN, if_neg (by omega)]
          exact Int32.le_refl _
    · obtain ⟨g65, hG⟩ := id (hI.tl (v := -100005))
      refine ⟨-100005, _, _, ?_, tl_w48 (v := -100005) hR, ?_, rel_fin (v := -100005) hR (by decide)⟩
      · unfold f_X11_owe
        rw [b_isFirm_X11, if_pos o1, if_neg (by decide), b_isFirm_X11, if_pos o2, if_neg (by decide), b_within_X11, if_pos o4, if_neg (by decide), if_neg o3]
        simp (decide := true) only [gd_ob h65, hF, Option.bind_some]
        rw [hmv0, if_neg hin, bd2_eq]
        simp (decide := true) only [gd_ob h65, e_told h65, bd2_eq]
      · unfold f_X12_owe
        rw [b_isFirm_X12, if_pos o1, if_neg (by decide), b_isFirm_X12, if_pos o2, if_neg (by decide), b_within_X12, if_pos o4, if_neg (by decide), if_neg o3]
        simp (decide := true) only [gd_ob g65, hG, Option.bind_some, eix2]
        rw [gd_pos (rdN g65 (by omega)), nI_clamp (by omega), tl_arr (by decide), ← ow1, b_within_X12, if_neg hin, if_pos rfl]
        simp (decide := true) only [gd_ob g65, e_finding g65, bd2_eq]
  · obtain ⟨g65, hG⟩ := id (hI.tl (v := -100001))
    refine ⟨-100001, _, _, ?_, tl_w48 (v := -100001) hR, ?_, rel_fin (v := -100001) hR (by decide)⟩
    · unfold f_X11_owe
      rw [b_isFirm_X11]
      split
      · rename_i o1
        rw [if_neg (by decide), b_isFirm_X11]
        split
        · rename_i o2
          rw [if_neg (by decide), b_within_X11, if_neg (fun o4 => hok ⟨o1, o2, o4⟩)]
          simp (decide := true) only [if_true, gd_ob h65, e_told h65, bd2_eq]
        · simp (decide := true) only [if_true, gd_ob h65, e_told h65, bd2_eq]
      · simp (decide := true) only [if_true, gd_ob h65, e_told h65, bd2_eq]
    · unfold f_X12_owe
      rw [b_isFirm_X12]
      split
      · rename_i o1
        rw [if_neg (by decide), b_isFirm_X12]
        split
        · rename_i o2
          rw [if_neg (by decide), b_within_X12, if_neg (fun o4 => hok ⟨o1, o2, o4⟩)]
          simp (decide := true) only [if_true, gd_ob g65, e_finding g65, bd2_eq]
        · simp (decide := true) only [if_true, gd_ob g65, e_finding g65, bd2_eq]
      · simp (decide := true) only [if_true, gd_ob g65, e_finding g65, bd2_eq]
theorem cTrust_set {C C' : Pv} {N N' : Nat → Int32} {f d e d' e' : Nat} (hf : f < 10) (h2 : d' + e' ≤ 200) (eC : ∀ k, C' 25 k = if k = 2 * f then nI d' else if k = 2 * f + 1 then nI e' else C 25 k) (eN : ∀ k, N' k = if k = 290 + f then nI d' else if k = 300 + f then nI e' else N k) (h : cTrust C N) : cTrust C' N' := by
  intro g hg
  by_cases he : g = f
  · subst he
    exact ⟨d', e', h2, by rw [eN, if_pos rfl], by rw [eN, if_neg (by omega), if_pos rfl], by rw [eC, if_pos rfl], by rw [eC, if_neg (by omega), if_pos rfl]⟩
  · obtain ⟨x, y, x1, x2, x3, x4, x5⟩ := h g hg
    exact ⟨x, y, x1, by rw [eN, if_neg (by omega), if_neg (by omega)]; exact x2, by rw [eN, if_neg (by omega), if_neg (by omega)]; exact x3, by rw [eC, if_neg (by omega), if_neg (by omega)]; exact x4, by rw [eC, if_neg (by omega), if_neg (by omega)]; exact x5⟩

/-- trusts -/
theorem sim_trusts {j : Nat} {S : Wd} (hR : Rel j S) (hj : j < 512) (a1 a2 : Int32) : ∃ r S1 S2, f_X11_trusts S 0 a1 a2 = some (r, S1) ∧ 48 < wn S1 ∧ f_X12_trusts S1 48 a1 a2 = some (r, S2) ∧ Rel (j + 1) S2 := by
  have hI := hR.1
  obtain ⟨h65, hF⟩ := id hI
  have hcore := rel_core hR
  obtain ⟨q, p, hq, hp, h13, h14, h48, hh⟩ := rel_jn hR
  by_cases o1 : 0 ≤ a1 ∧ a1 ≤ 9
  · obtain ⟨f, hf, rfl⟩ := nat_le (n := 9) o1.1 o1.2 (by decide)
    have hf10 : f < 10 := by omega
    obtain ⟨d, e, hde, e1, e2, e3, e4⟩ := hcore.2.2.2.2.2.2.1 f hf10
    have i290 : (290 : Int32) + nI f = nI (290 + f) := nI_add 290 f
    have i300 : (300 : Int32) + nI f = nI (300 + f) := nI_add 300 f
    have ejd : f_X1_judgedOf S 24 (nI f) = some (nI (d + e), S) := by rw [e_judgedOf hI hf10, e3, e4, nI_add]
    by_cases hfull : d + e = 200
    · obtain ⟨g65, hG⟩ := id (hI.tl (v := -100005))
      refine ⟨-100005, _, _, ?_, tl_w48 (v := -100005) hR, ?_, rel_fin (v := -100005) hR (by decide)⟩
      · unfold f_X11_trusts f_X1_judge
        rw [b_isFirm_X11, if_pos o1, if_neg (by decide)]
        simp (decide := true) only [gd_ob h65, hF, Option.bind_some, b_isFirm_X11, o1, and_self, if_true, if_false, ejd, bd2_eq, hfull]
        simp (decide := true) only [gd_ob h65, e_told h65, bd2_eq]
      · unfold f_X12_trusts
        rw [b_isFirm_X12, if_pos o1, if_neg (by decide)]
        simp (decide := true) only [gd_ob g65, hG, Option.bind_some, i290, i300]
        rw [gd_pos (rdN g65 (by omega)), gd_pos (rdN g65 (by omega)), nI_clamp (by omega), nI_clamp (by omega), tl_arr (by decide), e1, e2, nI_add, hfull, if_pos (show nI 200 = 200 from rfl)]
        simp (decide := true) only [gd_ob g65, e_finding g65, bd2_eq]
    · have hlt : nI (d + e) < 200 := nI_lt (b := 200) (by omega) (by decide)
      have hne : ¬ nI (d + e) = 200 := fun h => hfull ((nI_eq (by omega) (by decide)).mp (h : nI (d + e) = nI 200))
      have hge := nI_nofind (n := d + e + 1) (by omega)
      -- x: the place in the class's row, y: in the reference's; w: what stands there
      have main : ∀ (x y w d' e' : Nat), x < 20 → 290 ≤ y → y < 310 → wI S 25 x = nI w → d' + e' ≤ 200 → (∀ k, (if k = x then nI (w + 1) else wI S 25 k) = if k = 2 * f then nI d' else if k = 2 * f + 1 then nI e' else wI S 25 k) → (∀ k, (if k = y then nI (w + 1) else wI S 49 k) = if k = 290 + f then nI d' else if k = 300 + f then nI e' else wI S 49 k) →
          ∃ K T : Wd, f_X3_keep S 1 25 (nI x) 1 = some K ∧ Inv K ∧ wI K 25 x = nI w ∧ 48 < wn (sI K 25 x (nI (w + 1))) ∧ Inv (sI K 25 x (nI (w + 1))) ∧ wI (sI K 25 x (nI (w + 1))) 49 = wI S 49 ∧ f_X12_keep (sI K 25 x (nI (w + 1))) 48 = some T ∧ Inv T ∧ wI T 49 = wI S 49 ∧ Rel (j + 1) (sI T 49 y (nI (w + 1))) := by
        intro x y w d' e' hx hy1 hy2 hw hde' hC hN
        obtain ⟨g, hg1, hg2⟩ := e_keep hI (ro := 25) (fr := x) (m := 1) (by decide) (by decide) (by show _ ≤ 20; omega) (by decide) hp hq h14 h13
        have hck0 := ck_kp (S := S) (p := p) (q := q) h65 (show (25 : Nat) ∈ rowset by decide) hg2
        have hck := hck0.wr (k := x) (v := nI (w + 1)) h65 (by decide) (Or.inl ⟨Nat.le_refl _, by omega⟩)
        have hIK := ck_inv hI hck0
        generalize hK : kpS S 25 x 1 p q g = K at hg1 hck0 hck hIK
        obtain ⟨w48, e48, e49⟩ := ck_48 h65 hck
        have hI1 := ck_inv hI hck
        obtain ⟨T, t1, t2, t3, t4⟩ := rel_keepM hI1 hq (by rw [e48]; exact h48)
        have k25 : ∀ k, wI K 25 k = wI S 25 k := by
          intro k
          rw [← hK]
          unfold kpS
          rw [wI_sI_ne (by rintro ⟨h, -⟩; cases h), wI_sI_ne (by rintro ⟨h, -⟩; cases h), wI_sI_ne (by rintro ⟨h, -⟩; cases h), wI_sI_ne (by rintro ⟨h, -⟩; cases h), wI_sO, wI_sA, if_neg (show ¬ 25 = wn S by omega), wI_sN, if_neg (show ¬ 25 = wn (sO S 2 p (some 25)) from (by show ¬ 25 = wn S; omega)), wI_sO]
        refine ⟨K, T, hg1, hIK, by rw [k25, hw], w48, hI1, e49, t1, t3, by rw [t4, e49], ?_⟩
        have hmk := t2.wr (k := y) (v := nI (w + 1))
        have eN : ∀ k, wI (sI T 49 y (nI (w + 1))) 49 k = if k = y then nI (w + 1) else wI S 49 k := by
          intro k
          rw [wI_sI, if_pos rfl, t4, e49]
        refine rel_row hR hq hp hh (show (25 : Nat) ∈ rowset by decide) (show x + 1 ≤ 20 by omega) hck (fun _ _ h => h.elim) hmk ?_ (st_none _) ?_ hj
        · refine core_Trust same_row (fun k _ h1 => by rw [eN, if_neg (by omega)]) (cTrust_set (d := d) (e := e) hf10 hde' (fun k => ?_) (fun k => (eN k).trans (hN k)) hcore.2.2.2.2.2.2.1) hcore
          show (if (25 : Nat) = 25 then wI (sI K 25 x (nI (w + 1))) 25 else wI S 25) k = _
          rw [if_pos rfl, ← hC k]
          by_cases he : k = x
          · rw [if_pos he, he, wI_sI_eq]
          · rw [if_neg he, wI_sI_ne (fun h => he h.2), k25]
        · intro c c1 c2
          rw [eN, if_neg (by omega)]
          exact Int32.le_refl _
      by_cases h2 : a2 = 0
      · obtain ⟨K, T, m1, m2, m3, m4, m5, m6, m7, m8, m9, m10⟩ := main (2 * f + 1) (300 + f) e d (e + 1) (by omega) (by omega) (by omega) e4 (by omega) (fun k => by
          by_cases a : k = 2 * f + 1
          · rw [if_pos a, if_neg (by omega)]
          · rw [if_neg a]
            by_cases b : k = 2 * f
            · rw [if_pos b, b, e3]
            · rw [if_neg b]) (fun k => by
          by_cases a : k = 300 + f
          · rw [if_pos a, if_neg (by omega)]
          · rw [if_neg a]
            by_cases b : k = 290 + f
            · rw [if_pos b, b, e1]
            · rw [if_neg b])
        obtain ⟨K65, hKF⟩ := id m2
        obtain ⟨I65, hIF⟩ := id m5
        obtain ⟨T65, hTF⟩ := id m8
        refine ⟨nI (d + e + 1), sI K 25 (2 * f + 1) (nI (e + 1)), sI T 49 (300 + f) (nI (e + 1)), ?_, m4, ?_, m10⟩
        · unfold f_X11_trusts f_X1_judge
          rw [b_isFirm_X11, if_pos o1, if_neg (by decide)]
          simp (decide := true) only [gd_ob h65, hF, Option.bind_some, b_isFirm_X11, o1, and_self, if_true, if_false, ejd, bd2_eq, hlt, h2]
          rw [show (2 : Int32) * nI f + 1 = nI (2 * f + 1) by show nI 2 * nI f + nI 1 = _; rw [nI_mul, nI_add], m1, Option.bind_some]
          simp (decide := true) only [gd_ob K65, hKF, Option.bind_some]
          rw [gd_pos (ix_of K65 (by decide) (by decide) (by show _ < 20; omega)), gd_pos (ix_of K65 (by decide) (by decide) (by show _ < 20; omega)), nI_clamp (by omega), m3, nI_1, nI_1]
          show gd (ob (sI K 25 (2 * f + 1) (nI (e + 1))) 0 11) _ = _
          simp (decide := true) only [gd_ob I65, e_told I65, bd2_eq]
          rw [tl_ge hge]
        · unfold f_X12_trusts
          rw [b_isFirm_X12, if_pos o1, if_neg (by decide)]
          simp (decide := true) only [gd_ob I65, hIF, Option.bind_some, i290, i300]
          rw [gd_pos (rdN I65 (by omega)), gd_pos (rdN I65 (by omega)), nI_clamp (by omega), nI_clamp (by omega), m6, e1, e2, nI_add, if_neg hne, m7, Option.bind_some]
          simp (decide := true) only [gd_ob T65, hTF, Option.bind_some, h2, if_true]
          rw [gd_pos (rdN T65 (by omega)), gd_pos (rdN T65 (by omega)), m9, e2, nI_1, nI_1]
          rfl
      · obtain ⟨K, T, m1, m2, m3, m4, m5, m6, m7, m8, m9, m10⟩ := main (2 * f) (290 + f) d (d + 1) e (by omega) (by omega) (by omega) e3 (by omega) (fun k => by
          by_cases a : k = 2 * f
          · rw [if_pos a, if_pos a]
          · rw [if_neg a, if_neg a]
            by_cases b : k = 2 * f + 1
            · rw [if_pos b, b, e4]
            · rw [if_neg b]) (fun k => by
          by_cases a : k = 290 + f
          · rw [if_pos a, if_pos a]
          · rw [if_neg a, if_neg a]
            by_cases b : k = 300 + f
            · rw [if_pos b, b, e2]
            · rw [if_neg b])
        obtain ⟨K65, hKF⟩ := id m2
        obtain ⟨I65, hIF⟩ := id m5
        obtain ⟨T65, hTF⟩ := id m8
        refine ⟨nI (d + e + 1), sI K 25 (2 * f) (nI (d + 1)), sI T 49 (290 + f) (nI (d + 1)), ?_, m4, ?_, m10⟩
        · unfold f_X11_trusts f_X1_judge
          rw [b_isFirm_X11, if_pos o1, if_neg (by decide)]
          simp (decide := true) only [gd_ob h65, hF, Option.bind_some, b_isFirm_X11, o1, and_self, if_true, if_false, ejd, bd2_eq, hlt, h2]
          rw [show (2 : Int32) * nI f = nI (2 * f) from nI_mul 2 f, m1, Option.bind_some]
          simp (decide := true) only [gd_ob K65, hKF, Option.bind_some]
          rw [gd_pos (ix_of K65 (by decide) (by decide) (by show _ < 20; omega)), gd_pos (ix_of K65 (by decide) (by decide) (by show _ < 20; omega)), nI_clamp (by omega), m3, nI_1, nI_1]
          show gd (ob (sI K 25 (2 * f) (nI (d + 1))) 0 11) _ = _
          simp (decide := true) only [gd_ob I65, e_told I65, bd2_eq]
          rw [tl_ge hge]
        · unfold f_X12_trusts
          rw [b_isFirm_X12, if_pos o1, if_neg (by decide)]
          simp (decide := true) only [gd_ob I65, hIF, Option.bind_some, i290, i300]
          rw [gd_pos (rdN I65 (by omega)), gd_pos (rdN I65 (by omega)), nI_clamp (by omega), nI_clamp (by omega), m6, e1, e2, nI_add, if_neg hne, m7, Option.bind_some]
          simp (decide := true) only [gd_ob T65, hTF, Option.bind_some, h2, if_false]
          rw [gd_pos (rdN T65 (by omega)), gd_pos (rdN T65 (by omega)), m9, e1, nI_1, nI_1]
          rfl
  · obtain ⟨g65, hG⟩ := id (hI.tl (v := -100001))
    refine ⟨-100001, _, _, ?_, tl_w48 (v := -100001) hR, ?_, rel_fin (v := -100001) hR (by decide)⟩
    · unfold f_X11_trusts
      rw [b_isFirm_X11, if_neg o1, if_pos rfl]
      simp (decide := true) only [gd_ob h65, e_told h65, bd2_eq]
    · unfold f_X12_trusts
      rw [b_isFirm_X12, if_neg o1, if_pos rfl]
      simp (decide := true) only [gd_ob g65, e_finding g65, bd2_eq]
