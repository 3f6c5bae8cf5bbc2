/-! sim_clearing, sim_clear -/
theorem mxN_c {s s' : Nat → Int32} : ∀ k : Nat, (∀ i, i ≤ k → s i = s' i) → mxN s k = mxN s' k
  | 0, _ => rfl
  | k + 1, h => by
    have ih := mxN_c k fun i hi => h i (by omega)
    have := (mxN_le s' k).1
    unfold mxN
    rw [ih, h (k + 1) (by omega), h (mxN s' k) (by omega)]
theorem mnN_c {s s' : Nat → Int32} : ∀ k : Nat, (∀ i, i ≤ k → s i = s' i) → mnN s k = mnN s' k
  | 0, _ => rfl
  | k + 1, h => by
    have ih := mnN_c k fun i hi => h i (by omega)
    have := (mnN_le s' k).1
    unfold mnN
    rw [ih, h (k + 1) (by omega), h (mnN s' k) (by omega)]
theorem pyR_s : ∀ (f : Nat) (s s' P : Nat → Int32) (c : Nat), (∀ i, i < 10 → s i = s' i) → pyR f s P c = pyR f s' P c
  | 0, _, _, _, _, _ => rfl
  | f + 1, s, s', P, c, h => by
    have e1 := mxN_c (s := s) (s' := s') 9 fun i hi => h i (by omega)
    have e2 := mnN_c (s := s) (s' := s') 9 fun i hi => h i (by omega)
    have m1 := (mxN_le s' 9).1
    have m2 := (mnN_le s' 9).1
    have hx := h (mxN s' 9) (by omega)
    have hn := h (mnN s' 9) (by omega)
    have eA : pyA s = pyA s' := by unfold pyA; rw [e1, e2, hx, hn]
    have eP : pyP s = pyP s' := by unfold pyP; rw [e1, e2, eA]
    unfold pyR
    rw [e1, hx, eP]
    split
    · rfl
    · refine pyR_s f _ _ _ _ fun i hi => ?_
      unfold pyS upd
      rw [e1, e2, hx, eA, hn, h i hi]
theorem ag_fl {D : Nat → Nat → Prop} {S V : Wd} (h : Ag D S V) (hd : ¬ D 48 3) : Ag D (fl S) (fl V) := by
  refine ⟨h.1, h.2.1, h.2.2.1, fun a k hk => ?_⟩
  unfold fl
  rw [wI_sI, wI_sI, h.2.2.2 48 3 hd, h.2.2.2 a k hk]
theorem i32_m1 {a : Int32} (h : -1 ≤ a) (hn : ¬ a = -1) : 0 ≤ a := by
  have h1 := Int32.le_iff_toInt_le.mp h
  have e1 : (-1 : Int32).toInt = -1 := by decide
  have e0 : (0 : Int32).toInt = 0 := rfl
  rw [Int32.le_iff_toInt_le, e0]
  rw [e1] at h1
  have : a.toInt ≠ -1 := fun e => hn (Int32.toInt_inj.mp (by rw [e, e1]))
  omega
theorem sim_clearing {j : Nat} {S : Wd} (hR : Rel j S) (hj : j < 512) (a1 : Int32) : ∃ r S1 S2, f_X11_clearing S 0 a1 = some (r, S1) ∧ 48 < wn S1 ∧ f_X12_clearing S1 48 a1 = some (r, S2) ∧ Rel (j + 1) S2 := by
  have hI := hR.1
  obtain ⟨h65, hF⟩ := id hI
  obtain ⟨-, -, -, -, -, -, -, ho, -⟩ := rel_core hR
  by_cases c1 : -1 ≤ a1
  · obtain ⟨W, s, w1, w2, w3, w4, es⟩ := e_settle hI ho
    have hIW := w2.inv hI (by omega)
    obtain ⟨W65, hWF⟩ := id hIW
    have hRW : Rel j W := rel_qy hR (w2.qy (by rintro a k (rfl | rfl | ⟨rfl, rfl⟩) <;> rfl))
    have e49 : wI W 49 = wI S 49 := w2.arr (by omega)
    have hz := net_PZ (fun k hk => (ho k hk).2) es
    have pay : ∀ {V : Wd}, Inv V → wI V 49 = wI S 49 → ∃ V', f_X12_findPayments V 48 = some (nI (pyR 10 s (wI S 34) 0).1, V') ∧ Ag (fun a _ => a = 61 ∨ a = 62) V V' ∧ ∀ i, i < (pyR 10 s (wI S 34) 0).1 → wI V' 62 i = (pyR 10 s (wI S 34) 0).2 i := by
      intro V hV e
      obtain ⟨V', s', v1, v2, v3, es'⟩ := e_findPay hV (fun k hk => by rw [e]; exact (ho k hk).2)
      have hss : pyR 10 s' (wI V 62) 0 = pyR 10 s (wI V 62) 0 := pyR_s 10 s' s _ 0 fun i hi => by rw [es' i hi, es i hi, e]
      rw [hss] at v1 v3
      obtain ⟨q1, q2, -⟩ := pyR_congr 10 s (wI S 34) (wI V 62) 0 fun i hi => by omega
      exact ⟨V', by rw [v1, q1], v2, fun i hi => by rw [v3, q2 i hi]⟩
    obtain ⟨-, -, hle⟩ := pyR_congr 10 s (wI S 34) (wI S 34) 0 fun i hi => rfl
    have hok := pyR_ok 10 s (wI S 34) 0 hz fun i hi => by omega
    generalize pyR 10 s (wI S 34) 0 = R at *
    by_cases c2 : a1 = -1
    · obtain ⟨V', v1, v2, v3⟩ := pay hIW e49
      refine ⟨nI R.1, W, V', ?_, by omega, ?_, rel_up (rel_qy hRW (v2.qy (by rintro a k (rfl | rfl) <;> rfl)))⟩
      · unfold f_X11_clearing
        rw [if_pos c1]
        simp (decide := true) only [gd_ob h65, hF, Option.bind_some, w1, bd2_eq, gd_ob W65, e_told W65]
        rw [if_pos c2, tl_ge (nI_nofind (by omega))]
      · unfold f_X12_clearing
        rw [if_pos c1, gd_pos (ob_of W65 (by decide) (by decide)), v1, bd2_eq, if_pos c2]
    · have c3 := i32_m1 c1 c2
      obtain ⟨i, hi31, rfl⟩ := nat_of c3
      have hC : f_X11_clearing S 0 (nI i) = bd2 (f_X4_payment W 31 (nI i)) (fun r16 S14 => gd (ob S14 0 11) (bd2 (f_X11_told S14 0 r16) (fun r20 S18 => some (r20, S18)))) := by
        unfold f_X11_clearing
        rw [if_pos c1]
        simp (decide := true) only [gd_ob h65, hF, Option.bind_some, w1, bd2_eq, gd_ob W65, hWF]
        rw [if_neg c2]
      by_cases hlt : i < R.1
      · obtain ⟨V', v1, v2, v3⟩ := pay hIW e49
        have V65 : 65 ≤ wn V' := by rw [v2.1]; exact W65
        have V23 : wO V' 48 23 = some 62 := by rw [v2.2.2.1]; simp only [hWF]
        refine ⟨R.2 i, W, V', ?_, by omega, ?_, rel_up (rel_qy hRW (v2.qy (by rintro a k (rfl | rfl) <;> rfl)))⟩
        · rw [hC]
          unfold f_X4_payment
          rw [if_neg (nI_pos (by omega)), gd_pos (ob_of W65 (by decide) (by decide)), w4, if_neg (nI_ge hlt (by omega)), if_neg (show ¬ (10 : Int32) ≤ nI i from nI_ge (b := 10) (by omega) (by decide))]
          simp (decide := true) only [gd_ob W65, hWF, Option.bind_some]
          rw [gd_pos (ix_of W65 (by decide) (by decide) (show i < 10 by omega)), bd2_eq, gd_pos (ob_of W65 (by decide) (by decide)), e_told W65, bd2_eq, nI_clamp (by omega), w3, tl_ge (hok i hlt)]
        · unfold f_X12_clearing
          rw [if_pos c1, gd_pos (ob_of W65 (by decide) (by decide)), v1, bd2_eq, if_neg c2, if_neg (nI_ge hlt (by omega)), gd_pos (ob_of V65 (by decide) (by decide)), V23, Option.bind_some, gd_pos (ix_of V65 (by decide) (by decide) (show i < 10 by omega)), nI_clamp (by omega), v3 i hlt]
      · obtain ⟨V', v1, v2, v3⟩ := pay (hIW.tl (v := -100006)) ((tl_arr (by decide)).trans e49)
        have V65 : 65 ≤ wn V' := by rw [v2.1, tl_wn]; exact W65
        refine ⟨-100006, tl W (-100006), fl V', ?_, by rw [tl_wn]; omega, ?_, rel_qy (rel_fin hRW (by decide)) ((ag_fl v2 (by omega)).qy (by rintro a k (rfl | rfl) <;> rfl))⟩
        · rw [hC]
          unfold f_X4_payment
          rw [if_neg (nI_pos (by omega)), gd_pos (ob_of W65 (by decide) (by decide)), w4, if_pos (nI_le (by omega) (by omega)), bd2_eq, gd_pos (ob_of W65 (by decide) (by decide)), e_told W65, bd2_eq]
        · unfold f_X12_clearing
          rw [if_pos c1, gd_pos (ob_of (by rw [tl_wn]; exact W65) (by decide) (by decide)), v1, bd2_eq, if_neg c2, if_pos (nI_le (by omega) (by omega)), gd_pos (ob_of V65 (by decide) (by decide)), e_finding V65, bd2_eq]
  · obtain ⟨g65, hG⟩ := id (hI.tl (v := -100001))
    refine ⟨-100001, _, _, ?_, tl_w48 (v := -100001) hR, ?_, rel_fin (v := -100001) hR (by decide)⟩
    · unfold f_X11_clearing
      rw [if_neg c1]
      simp (decide := true) only [gd_ob h65, e_told h65, bd2_eq]
    · unfold f_X12_clearing
      rw [if_neg c1]
      simp (decide := true) only [gd_ob g65, e_finding g65, bd2_eq]
theorem sim_clear {j : Nat} {S : Wd} (hR : Rel j S) (hj : j < 512) : ∃ r S1 S2, f_X11_clear S 0 = some (r, S1) ∧ 48 < wn S1 ∧ f_X12_clear S1 48 = some (r, S2) ∧ Rel (j + 1) S2 := by
  have hI := hR.1
  obtain ⟨h65, hF⟩ := id hI
  obtain ⟨-, -, -, -, -, -, -, ho, -⟩ := rel_core hR
  obtain ⟨W, s, w1, w2, w3, w4, es⟩ := e_settle hI ho
  have hIW := w2.inv hI (by omega)
  obtain ⟨W65, hWF⟩ := id hIW
  have hRW : Rel j W := rel_qy hR (w2.qy (by rintro a k (rfl | rfl | ⟨rfl, rfl⟩) <;> rfl))
  have e49 : wI W 49 = wI S 49 := w2.arr (by omega)
  have hcore := rel_core hRW
  obtain ⟨q, p, hq, hp, h13, h14, h48, hh⟩ := rel_jn hRW
  obtain ⟨g, hg1, hg2⟩ := e_keep hIW (ro := 32) (fr := 0) (m := 100) (by decide) (by decide) (by decide) (by decide) hp hq h14 h13
  have hck0 := ck_kp (S := W) (p := p) (q := q) W65 (show (32 : Nat) ∈ rowset by decide) hg2
  have hIK := ck_inv hIW hck0
  generalize hK : kpS W 32 0 100 p q g = K at hg1 hck0 hIK
  obtain ⟨K65, hKF⟩ := id hIK
  have hck : CK W (sA K 32 (fun i => if i < 100 then 0 else wI K 32 i)) 32 0 100 (wn W) p q (fun _ _ => False) := hck0.wrA W65 (by decide) (fun i z1 _ => if_neg (by omega))
  obtain ⟨w48, e48, e49'⟩ := ck_48 W65 hck
  have hI1 := ck_inv hIW hck
  have row32 : ∀ i, i < 100 → wI (sA K 32 (fun i => if i < 100 then 0 else wI K 32 i)) 32 i = 0 := fun i hi => by rw [wI_sA, if_pos rfl, if_pos hi]
  have hfill : f_J7_fill_53178 K 32 0 = some (sA K 32 (fun i => if i < 100 then 0 else wI K 32 i)) := by
    have := e_fill (S := K) (a := 32) (ob_of K65 (by decide) (by decide)) (by rw [wlen_lt (by decide)]; decide) 0
    rw [show wlen K 32 = 100 from wlen_lt (by decide)] at this
    exact this
  generalize hS1 : sA K 32 (fun i => if i < 100 then 0 else wI K 32 i) = S1 at hck w48 e48 e49' hI1 row32 hfill
  obtain ⟨T, t1, t2, t3, t4⟩ := rel_keepM hI1 hq (by rw [e48]; exact h48)
  have eT : wI T 49 = wI S 49 := by rw [t4, e49', e49]
  obtain ⟨V, s', v1, v2, v3, es'⟩ := e_findPay t3 (fun k hk => by rw [eT]; exact (ho k hk).2)
  have hss : pyR 10 s' (wI T 62) 0 = pyR 10 s (wI T 62) 0 := pyR_s 10 s' s _ 0 fun i hi => by rw [es' i hi, es i hi, eT]
  obtain ⟨q1, -, -⟩ := pyR_congr 10 s (wI S 34) (wI T 62) 0 fun i hi => by omega
  rw [hss, ← q1] at v1
  have hIV := v2.inv t3 (by omega)
  obtain ⟨V65, hVF⟩ := id hIV
  have eV : wI V 49 = wI S 49 := by rw [v2.arr (by omega), eT]
  have d1 : ∀ k, k < 100 → B_X12_clear (1, [48], [nI (pyR 10 s (wI S 34) 0).1, nI k], sA V 49 (fun i => if 310 ≤ i ∧ i < 310 + k then 0 else wI V 49 i)) = some (.inr (1, [48], [nI (pyR 10 s (wI S 34) 0).1, nI (k + 1)], sA V 49 (fun i => if 310 ≤ i ∧ i < 310 + (k + 1) then 0 else wI V 49 i))) := by
    intro k hk
    have g65 : 65 ≤ wn (sA V 49 (fun i => if 310 ≤ i ∧ i < 310 + k then 0 else wI V 49 i)) := V65
    show B_X12_clear_1 _ 48 _ (nI k) = _
    unfold B_X12_clear_1
    rw [if_neg (show ¬ (100 : Int32) ≤ nI k from nI_ge (b := 100) hk (by decide))]
    simp (decide := true) only [gd_ob g65, wO_sA, hVF, Option.bind_some]
    rw [show (310 : Int32) + nI k = nI (310 + k) from nI_add 310 k, gd_pos (rdN g65 (by omega)), nI_clamp (by omega), nI_1, sI_sA]
    show some _ = _
    congr 6
    funext i
    show (if i = 310 + k then _ else if 310 ≤ i ∧ i < 310 + k then _ else _) = if 310 ≤ i ∧ i < 310 + (k + 1) then _ else _
    by_cases hi : i = 310 + k
    · rw [if_pos hi, if_pos (by omega)]
    · rw [if_neg hi]
      by_cases h : 310 ≤ i ∧ i < 310 + k
      · rw [if_pos h, if_pos (by omega)]
      · rw [if_neg h, if_neg (by omega)]
  have e0 : sA V 49 (fun i => if 310 ≤ i ∧ i < 310 + 0 then 0 else wI V 49 i) = V := by
    rw [show (fun i => if 310 ≤ i ∧ i < 310 + 0 then 0 else wI V 49 i) = wI V 49 from funext fun i => if_neg (by omega)]
    exact sA_self V 49
  have hfor := ru_for (fun k => (1, [48], [nI (pyR 10 s (wI S 34) 0).1, nI k], sA V 49 (fun i => if 310 ≤ i ∧ i < 310 + k then 0 else wI V 49 i))) 100 d1
  rw [e0] at hfor
  refine ⟨nI (pyR 10 s (wI S 34) 0).1, S1, sA V 49 (fun i => if 310 ≤ i ∧ i < 310 + 100 then 0 else wI V 49 i), ?_, w48, ?_, ?_⟩
  · unfold f_X11_clear f_X4_forget
    simp (decide := true) only [gd_ob h65, hF, Option.bind_some, w1, bd2_eq, gd_ob W65, hWF]
    rw [show Int32.ofNat (wlen W 32) = nI 100 by rw [wlen_lt (by decide)]; rfl, show (0 : Int32) = nI 0 from rfl, hg1, Option.bind_some]
    simp (decide := true) only [gd_ob K65, hKF, Option.bind_some]
    rw [show nI 0 = (0 : Int32) from rfl, hfill]
    rfl
  · unfold f_X12_clear
    refine (ru_step (show B_X12_clear (0, [48], [], S1) = some (.inr (1, [48], [nI (pyR 10 s (wI S 34) 0).1, nI 0], V)) from ?_)).trans (hfor.trans (ru_done ?_))
    · show B_X12_clear_0 S1 48 = _
      unfold B_X12_clear_0
      rw [gd_pos (ob_of hI1.1 (by decide) (by decide)), t1, Option.bind_some, gd_pos (ob_of t3.1 (by decide) (by decide)), v1, bd2_eq]
      rfl
    · show B_X12_clear_1 _ 48 _ (nI 100) = _
      unfold B_X12_clear_1
      rw [if_pos (by decide)]
  · have eN : ∀ k, wI (sA T 49 (fun i => if 310 ≤ i ∧ i < 310 + 100 then 0 else wI V 49 i)) 49 k = if 310 ≤ k ∧ k < 310 + 100 then 0 else wI W 49 k := fun k => by rw [wI_sA, if_pos rfl, eV, e49]
    have hrel : Rel (j + 1) (sA T 49 (fun i => if 310 ≤ i ∧ i < 310 + 100 then 0 else wI V 49 i)) := by
      refine rel_row hRW hq hp hh (show (32 : Nat) ∈ rowset by decide) (show 0 + 100 ≤ 100 by decide) hck (fun _ _ h => h.elim) t2.wrA ?_ (st_none _) ?_ hj
      · refine core_Owe same_row (fun k _ h1 => by rw [eN, if_neg (by omega)]) (fun k hk => ?_) hcore
        have e := eN (310 + k)
        rw [if_pos (by omega)] at e
        rw [e]
        refine ⟨?_, by decide, by decide⟩
        show (if (32 : Nat) = 32 then wI S1 32 else wI W 32) k = _
        rw [if_pos rfl]
        exact row32 k hk
      · intro c c1 c2
        rw [eN, if_neg (by omega)]
        exact Int32.le_refl _
    refine rel_qy hrel (Ag.qy (D := fun a _ => a = 61 ∨ a = 62) ⟨v2.1, v2.2.1, v2.2.2.1, fun a k hk => ?_⟩ (by rintro a k (rfl | rfl) <;> rfl))
    rw [wI_sA, wI_sA]
    by_cases ha : a = 49
    · rw [if_pos ha, if_pos ha]
    · rw [if_neg ha, if_neg ha]
      exact v2.2.2.2 a k hk
