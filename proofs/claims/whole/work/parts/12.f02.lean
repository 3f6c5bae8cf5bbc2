theorem mi_X11_isLoadOrNone : MI yX11_isLoadOrNone cX11_isLoadOrNone 2 (some .boolean) 1 := ⟨tw_507, tw_1, by decide +kernel, by decide +kernel, by decide +kernel⟩
noncomputable def f_X11_isLoadOrNone (S : Wd) (a0 : Nat) (a1 : Int32) : Option (Int32 × Wd) := if a1 = (-1 : Int32) then (some ((1 : Int32), S)) else (gd (ob S a0 11) (Option.bind (wO S a0 3) (fun q3 => gd (ob S q3 8) (bd2 (f_X8_has S q3 a1) (fun r8 S6 => if r8 = 0 then (some ((0 : Int32), S6)) else (some ((1 : Int32), S6)))))))
set_option maxRecDepth 100000 in
set_option maxHeartbeats 4000000 in
theorem k_X11_isLoadOrNone {S : Wd} {a0 : Nat} {a1 : Int32} {r : Int32} {S' : Wd} (h : f_X11_isLoadOrNone S a0 a1 = some (r, S')) : Sp yX11_isLoadOrNone cX11_isLoadOrNone 2 (some .boolean) 1 21 0 0 [.ref a0, .int a1] S (some (.int r)) S' := by
  unfold f_X11_isLoadOrNone at h
  refine Sp.of (by decide +kernel) (Nat.le_of_ble_eq_true rfl) ?_
  intro b hC hin hR
  show G b 0 [(0, .ref a0), (1, .int a1)] [] S 0 0
  refine g_iload_n hC dX11_isLoadOrNone_0 rfl ?_
  refine g_iconst (v := (-1 : Int32)) hC dX11_isLoadOrNone_1 (by decide) ?_
  refine g_icmp_eq (tgt := 16) hC dX11_isLoadOrNone_2 (by decide) (fun hc1 => ?_) (fun hc1 => ?_)
  · rw [if_pos hc1] at h
    refine g_iconst (v := (1 : Int32)) hC dX11_isLoadOrNone_16 (by decide) ?_
    refine g_goto (tgt := 21) hC dX11_isLoadOrNone_17 (by decide) ?_
    cases h
    exact g_zret hC hR rfl dX11_isLoadOrNone_21 (by decide) (by decide)
  · rw [if_neg hc1] at h
    refine g_aload_n hC dX11_isLoadOrNone_5 rfl ?_
    obtain ⟨ho2, h⟩ := gd_some h
    obtain ⟨q3, hq4, h⟩ := Option.bind_eq_some_iff.mp h
    refine g_getr (k := 3) (q := q3) hC ck_X11 (by decide) tw_305 rfl (by decide) dX11_isLoadOrNone_6 ho2 hq4 ?_
    refine g_iload_n hC dX11_isLoadOrNone_9 rfl ?_
    obtain ⟨ho7, h⟩ := gd_some h
    obtain ⟨r8, S6, hr5, h⟩ := bd2_some h
    refine g_callV (rest := []) hC mi_X8_has (k_X8_has hr5) ck_X8.1 (by decide) ho7 tw_430 tw_431 tw_432 dX11_isLoadOrNone_10 rfl rfl ⟨by decide, by decide⟩ (Nat.le_of_ble_eq_true rfl) ⟨by decide, by decide⟩ ?_
    refine g_if_eq (tgt := 20) hC dX11_isLoadOrNone_13 (by decide) (fun hc9 => ?_) (fun hc9 => ?_)
    · rw [if_pos hc9] at h
      refine g_iconst (v := (0 : Int32)) hC dX11_isLoadOrNone_20 (by decide) ?_
      cases h
      exact g_zret hC hR rfl dX11_isLoadOrNone_21 (by decide) (by decide)
    · rw [if_neg hc9] at h
      refine g_iconst (v := (1 : Int32)) hC dX11_isLoadOrNone_16 (by decide) ?_
      refine g_goto (tgt := 21) hC dX11_isLoadOrNone_17 (by decide) ?_
      cases h
      exact g_zret hC hR rfl dX11_isLoadOrNone_21 (by decide) (by decide)

theorem mi_X11_findingOfRow : MI yX11_findingOfRow cX11_findingOfRow 4 (some .int) 3 := ⟨tw_503, tw_1, by decide +kernel, by decide +kernel, by decide +kernel⟩
noncomputable def f_X11_findingOfRow (S : Wd) (a0 : Nat) (a1 : Int32) (a2 : Int32) (a3 : Int32) : Option (Int32 × Wd) := gd (ob S a0 11) (Option.bind (wO S a0 2) (fun q2 => gd (ob S q2 8) (bd2 (f_X8_has S q2 a1) (fun r7 S5 => if r7 = 0 then (some ((-100001 : Int32), S5)) else (gd (ob S5 a0 11) (bd2 (f_X11_isLoadOrNone S5 a0 a2) (fun r12 S10 => if r12 = 0 then (some ((-100001 : Int32), S10)) else (gd (ob S10 a0 11) (bd2 (f_X11_isLoadOrNone S10 a0 a3) (fun r17 S15 => if r17 = 0 then (some ((-100001 : Int32), S15)) else (if a2 = (-1 : Int32) then (if a3 = (-1 : Int32) then (gd (ob S15 a0 11) (Option.bind (wO S15 a0 4) (fun q39 => gd (ob S15 q39 0) (bd2 (f_X0_fits S15 q39 a1 a2) (fun r44 S42 => if r44 = 0 then (some ((-100004 : Int32), S42)) else (gd (ob S42 a0 11) (Option.bind (wO S42 a0 4) (fun q47 => gd (ob S42 q47 0) (bd2 (f_X0_fits S42 q47 a1 a3) (fun r52 S50 => if r52 = 0 then (some ((-100004 : Int32), S50)) else (some ((0 : Int32), S50)))))))))))) else (some ((-100001 : Int32), S15))) else (if a2 = a3 then (some ((-100001 : Int32), S15)) else (gd (ob S15 a0 11) (Option.bind (wO S15 a0 4) (fun q22 => gd (ob S15 q22 0) (bd2 (f_X0_fits S15 q22 a1 a2) (fun r27 S25 => if r27 = 0 then (some ((-100004 : Int32), S25)) else (gd (ob S25 a0 11) (Option.bind (wO S25 a0 4) (fun q30 => gd (ob S25 q30 0) (bd2 (f_X0_fits S25 q30 a1 a3) (fun r35 S33 => if r35 = 0 then (some ((-100004 : Int32), S33)) else (some ((0 : Int32), S33))))))))))))))))))))))))
set_option maxRecDepth 100000 in
set_option maxHeartbeats 4000000 in
theorem k_X11_findingOfRow {S : Wd} {a0 : Nat} {a1 : Int32} {a2 : Int32} {a3 : Int32} {r : Int32} {S' : Wd} (h : f_X11_findingOfRow S a0 a1 a2 a3 = some (r, S')) : Sp yX11_findingOfRow cX11_findingOfRow 4 (some .int) 3 66 0 0 [.ref a0, .int a1, .int a2, .int a3] S (some (.int r)) S' := by
  unfold f_X11_findingOfRow at h
  refine Sp.of (by decide +kernel) (Nat.le_of_ble_eq_true rfl) ?_
  intro b hC hin hR
  show G b 0 [(0, .ref a0), (1, .int a1), (2, .int a2), (3, .int a3)] [] S 0 0
  refine g_aload_n hC dX11_findingOfRow_0 rfl ?_
  obtain ⟨ho1, h⟩ := gd_some h
  obtain ⟨q2, hq3, h⟩ := Option.bind_eq_some_iff.mp h
  refine g_getr (k := 2) (q := q2) hC ck_X11 (by decide) tw_304 rfl (by decide) dX11_findingOfRow_1 ho1 hq3 ?_
  refine g_iload_n hC dX11_findingOfRow_4 rfl ?_
  obtain ⟨ho6, h⟩ := gd_some h
  obtain ⟨r7, S5, hr4, h⟩ := bd2_some h
  refine g_callV (rest := []) hC mi_X8_has (k_X8_has hr4) ck_X8.1 (by decide) ho6 tw_430 tw_431 tw_432 dX11_findingOfRow_5 rfl rfl ⟨by decide, by decide⟩ (Nat.le_of_ble_eq_true rfl) ⟨by decide, by decide⟩ ?_
  refine g_if_eq (tgt := 27) hC dX11_findingOfRow_8 (by decide) (fun hc8 => ?_) (fun hc8 => ?_)
  · rw [if_pos hc8] at h
    refine g_ldc hC tw_352 dX11_findingOfRow_27 ?_
    cases h
    exact g_iret hC hR dX11_findingOfRow_29 (by decide) (by decide)
  · rw [if_neg hc8] at h
    refine g_aload_n hC dX11_findingOfRow_11 rfl ?_
    refine g_iload_n hC dX11_findingOfRow_12 rfl ?_
    obtain ⟨ho11, h⟩ := gd_some h
    obtain ⟨r12, S10, hr9, h⟩ := bd2_some h
    refine g_callV (rest := []) hC mi_X11_isLoadOrNone (k_X11_isLoadOrNone hr9) ck_X11.1 (by decide) ho11 tw_504 tw_506 ts_5 dX11_findingOfRow_13 rfl rfl ⟨by decide, by decide⟩ (Nat.le_of_ble_eq_true rfl) ⟨by decide, by decide⟩ ?_
    refine g_if_eq (tgt := 27) hC dX11_findingOfRow_16 (by decide) (fun hc13 => ?_) (fun hc13 => ?_)
    · rw [if_pos hc13] at h
      refine g_ldc hC tw_352 dX11_findingOfRow_27 ?_
      cases h
      exact g_iret hC hR dX11_findingOfRow_29 (by decide) (by decide)
    · rw [if_neg hc13] at h
      refine g_aload_n hC dX11_findingOfRow_19 rfl ?_
      refine g_iload_n hC dX11_findingOfRow_20 rfl ?_
      obtain ⟨ho16, h⟩ := gd_some h
      obtain ⟨r17, S15, hr14, h⟩ := bd2_some h
      refine g_callV (rest := []) hC mi_X11_isLoadOrNone (k_X11_isLoadOrNone hr14) ck_X11.1 (by decide) ho16 tw_504 tw_506 ts_5 dX11_findingOfRow_21 rfl rfl ⟨by decide, by decide⟩ (Nat.le_of_ble_eq_true rfl) ⟨by decide, by decide⟩ ?_
      refine g_if_ne (tgt := 30) hC dX11_findingOfRow_24 (by decide) (fun hc18 => ?_) (fun hc18 => ?_)
      · rw [if_neg hc18] at h
        refine g_iload_n hC dX11_findingOfRow_30 rfl ?_
        refine g_iconst (v := (-1 : Int32)) hC dX11_findingOfRow_31 (by decide) ?_
        refine g_icmp_ne (tgt := 43) hC dX11_findingOfRow_32 (by decide) (fun hc19 => ?_) (fun hc19 => ?_)
        · rw [if_neg hc19] at h
          refine g_iload_n hC dX11_findingOfRow_43 rfl ?_
          refine g_iload_n hC dX11_findingOfRow_44 rfl ?_
          refine g_icmp_ne (tgt := 51) hC dX11_findingOfRow_45 (by decide) (fun hc20 => ?_) (fun hc20 => ?_)
          · rw [if_neg hc20] at h
            refine g_aload_n hC dX11_findingOfRow_51 rfl ?_
            obtain ⟨ho21, h⟩ := gd_some h
            obtain ⟨q22, hq23, h⟩ := Option.bind_eq_some_iff.mp h
            refine g_getr (k := 4) (q := q22) hC ck_X11 (by decide) tw_306 rfl (by decide) dX11_findingOfRow_52 ho21 hq23 ?_
            refine g_iload_n hC dX11_findingOfRow_55 rfl ?_
            refine g_iload_n hC dX11_findingOfRow_56 rfl ?_
            obtain ⟨ho26, h⟩ := gd_some h
            obtain ⟨r27, S25, hr24, h⟩ := bd2_some h
            refine g_callV (rest := []) hC mi_X0_fits (k_X0_fits hr24) ck_X0.1 (by decide) ho26 tw_488 tw_489 tw_490 dX11_findingOfRow_57 rfl rfl ⟨by decide, by decide⟩ (Nat.le_of_ble_eq_true rfl) ⟨by decide, by decide⟩ ?_
            refine g_if_eq (tgt := 79) hC dX11_findingOfRow_60 (by decide) (fun hc28 => ?_) (fun hc28 => ?_)
            · rw [if_pos hc28] at h
              refine g_ldc hC tw_442 dX11_findingOfRow_79 ?_
              cases h
              exact g_iret hC hR dX11_findingOfRow_81 (by decide) (by decide)
            · rw [if_neg hc28] at h
              refine g_aload_n hC dX11_findingOfRow_63 rfl ?_
              obtain ⟨ho29, h⟩ := gd_some h
              obtain ⟨q30, hq31, h⟩ := Option.bind_eq_some_iff.mp h
              refine g_getr (k := 4) (q := q30) hC ck_X11 (by decide) tw_306 rfl (by decide) dX11_findingOfRow_64 ho29 hq31 ?_
              refine g_iload_n hC dX11_findingOfRow_67 rfl ?_
              refine g_iload_n hC dX11_findingOfRow_68 rfl ?_
              obtain ⟨ho34, h⟩ := gd_some h
              obtain ⟨r35, S33, hr32, h⟩ := bd2_some h
              refine g_callV (rest := []) hC mi_X0_fits (k_X0_fits hr32) ck_X0.1 (by decide) ho34 tw_488 tw_489 tw_490 dX11_findingOfRow_69 rfl rfl ⟨by decide, by decide⟩ (Nat.le_of_ble_eq_true rfl) ⟨by decide, by decide⟩ ?_
              refine g_if_eq (tgt := 79) hC dX11_findingOfRow_72 (by decide) (fun hc36 => ?_) (fun hc36 => ?_)
              · rw [if_pos hc36] at h
                refine g_ldc hC tw_442 dX11_findingOfRow_79 ?_
                cases h
                exact g_iret hC hR dX11_findingOfRow_81 (by decide) (by decide)
              · rw [if_neg hc36] at h
                refine g_iconst (v := (0 : Int32)) hC dX11_findingOfRow_75 (by decide) ?_
                refine g_goto (tgt := 81) hC dX11_findingOfRow_76 (by decide) ?_
                cases h
                exact g_iret hC hR dX11_findingOfRow_81 (by decide) (by decide)
          · rw [if_pos hc20] at h
            refine g_ldc hC tw_352 dX11_findingOfRow_48 ?_
            cases h
            exact g_iret hC hR dX11_findingOfRow_50 (by decide) (by decide)
        · rw [if_pos hc19] at h
          refine g_iload_n hC dX11_findingOfRow_35 rfl ?_
          refine g_iconst (v := (-1 : Int32)) hC dX11_findingOfRow_36 (by decide) ?_
          refine g_icmp_eq (tgt := 51) hC dX11_findingOfRow_37 (by decide) (fun hc37 => ?_) (fun hc37 => ?_)
          · rw [if_pos hc37] at h
            refine g_aload_n hC dX11_findingOfRow_51 rfl ?_
            obtain ⟨ho38, h⟩ := gd_some h
            obtain ⟨q39, hq40, h⟩ := Option.bind_eq_some_iff.mp h
            refine g_getr (k := 4) (q := q39) hC ck_X11 (by decide) tw_306 rfl (by decide) dX11_findingOfRow_52 ho38 hq40 ?_
            refine g_iload_n hC dX11_findingOfRow_55 rfl ?_
            refine g_iload_n hC dX11_findingOfRow_56 rfl ?_
            obtain ⟨ho43, h⟩ := gd_some h
            obtain ⟨r44, S42, hr41, h⟩ := bd2_some h
            refine g_callV (rest := []) hC mi_X0_fits (k_X0_fits hr41) ck_X0.1 (by decide) ho43 tw_488 tw_489 tw_490 dX11_findingOfRow_57 rfl rfl ⟨by decide, by decide⟩ (Nat.le_of_ble_eq_true rfl) ⟨by decide, by decide⟩ ?_
            refine g_if_eq (tgt := 79) hC dX11_findingOfRow_60 (by decide) (fun hc45 => ?_) (fun hc45 => ?_)
            · rw [if_pos hc45] at h
              refine g_ldc hC tw_442 dX11_findingOfRow_79 ?_
              cases h
              exact g_iret hC hR dX11_findingOfRow_81 (by decide) (by decide)
            · rw [if_neg hc45] at h
              refine g_aload_n hC dX11_findingOfRow_63 rfl ?_
              obtain ⟨ho46, h⟩ := gd_some h
              obtain ⟨q47, hq48, h⟩ := Option.bind_eq_some_iff.mp h
              refine g_getr (k := 4) (q := q47) hC ck_X11 (by decide) tw_306 rfl (by decide) dX11_findingOfRow_64 ho46 hq48 ?_
              refine g_iload_n hC dX11_findingOfRow_67 rfl ?_
              refine g_iload_n hC dX11_findingOfRow_68 rfl ?_
              obtain ⟨ho51, h⟩ := gd_some h
              obtain ⟨r52, S50, hr49, h⟩ := bd2_some h
              refine g_callV (rest := []) hC mi_X0_fits (k_X0_fits hr49) ck_X0.1 (by decide) ho51 tw_488 tw_489 tw_490 dX11_findingOfRow_69 rfl rfl ⟨by decide, by decide⟩ (Nat.le_of_ble_eq_true rfl) ⟨by decide, by decide⟩ ?_
              refine g_if_eq (tgt := 79) hC dX11_findingOfRow_72 (by decide) (fun hc53 => ?_) (fun hc53 => ?_)
              · rw [if_pos hc53] at h
                refine g_ldc hC tw_442 dX11_findingOfRow_79 ?_
                cases h
                exact g_iret hC hR dX11_findingOfRow_81 (by decide) (by decide)
              · rw [if_neg hc53] at h
                refine g_iconst (v := (0 : Int32)) hC dX11_findingOfRow_75 (by decide) ?_
                refine g_goto (tgt := 81) hC dX11_findingOfRow_76 (by decide) ?_
                cases h
                exact g_iret hC hR dX11_findingOfRow_81 (by decide) (by decide)
          · rw [if_neg hc37] at h
            refine g_goto (tgt := 48) hC dX11_findingOfRow_40 (by decide) ?_
            refine g_ldc hC tw_352 dX11_findingOfRow_48 ?_
            cases h
            exact g_iret hC hR dX11_findingOfRow_50 (by decide) (by decide)
      · rw [if_pos hc18] at h
        refine g_ldc hC tw_352 dX11_findingOfRow_27 ?_
        cases h
        exact g_iret hC hR dX11_findingOfRow_29 (by decide) (by decide)

theorem mi_X0_roll : MI yX0_roll cX0_roll 5 none 1 := ⟨tw_526, tw_6, by decide +kernel, by decide +kernel, by decide +kernel⟩
noncomputable def B_X0_roll_0 (S : Wd) (a0 : Nat) (a1 : Int32) : Option ((Wd) ⊕ Cs) := some (.inr (1, [a0], [a1, a1, (0 : Int32)], S))
noncomputable def B_X0_roll_1 (S : Wd) (x0 : Nat) (x1 : Int32) (x2 : Int32) (x3 : Int32) : Option ((Wd) ⊕ Cs) := if (2 : Int32) < x3 then (gd (ob S x0 0) (gd (ob S x0 0) (ltS (sI S x0 4 ((wI S x0 4) + x2)) (fun S4 => gd (ob S4 x0 0) (gd (ob S4 x0 0) (ltS (sI S4 x0 5 ((wI S4 x0 5) + x2)) (fun S8 => some (.inl S8)))))))) else (gd (ob S x0 0) (if ((wI S x0 5) + x2) ≤ (270 : Int32) then (gd (ob S x0 0) (gd (ob S x0 0) (ltS (sI S x0 4 ((wI S x0 4) + x2)) (fun S14 => gd (ob S14 x0 0) (gd (ob S14 x0 0) (ltS (sI S14 x0 5 ((wI S14 x0 5) + x2)) (fun S18 => some (.inl S18)))))))) else (gd (ob S x0 0) (gd (ob S x0 0) (gd (ob S x0 0) (ltS (sI S x0 4 ((wI S x0 4) + (((270 : Int32) - (wI S x0 5)) + (45 : Int32)))) (fun S23 => gd (ob S23 x0 0) (ltS (sI S23 x0 5 (0 : Int32)) (fun S26 => gd (ob S26 x0 0) (gd (ob S26 x0 0) (ltS (sI S26 x0 8 ((wI S26 x0 8) + (1 : Int32))) (fun S30 => some (.inr (1, [x0], [x1, (x2 - ((270 : Int32) - (wI S x0 5))), (x3 + (1 : Int32))], S30))))))))))))))
noncomputable def B_X0_roll : Cs → Option ((Wd) ⊕ Cs)
  | (0, [a0], [a1], S) => B_X0_roll_0 S a0 a1
  | (1, [x0], [x1, x2, x3], S) => B_X0_roll_1 S x0 x1 x2 x3
  | _ => none
def P_X0_roll : Cs → Option (Nat × List (Nat × Value) × Wd × Nat × Nat)
  | (0, [a0], [a1], S) => some (0, [(0, .ref a0), (1, .int a1)], S, 0, 0)
  | (1, [x0], [x1, x2, x3], S) => some (4, [(0, .ref x0), (1, .int x1), (2, .int x2), (3, .int x3)], S, 0, 0)
  | _ => none
noncomputable def f_X0_roll (S : Wd) (a0 : Nat) (a1 : Int32) : Option (Wd) := ru B_X0_roll (0, [a0], [a1], S)
abbrev N_X0_roll (b : Bd) (r : Wd) (c : (Wd) ⊕ Cs) : Prop := match c with
  | .inl r' => r' = r
  | .inr s' => ∀ pc L S kc ks, P_X0_roll s' = some (pc, L, S, kc, ks) → G b pc L [] S kc ks
set_option maxRecDepth 100000 in
set_option maxHeartbeats 4000000 in
theorem w_X0_roll_0 {b : Bd} {r : Wd} (hC : CX b yX0_roll.cls cX0_roll 5 { frames := 0, cells := 0, slots := 0, locals := 0 }) (hin : yX0_roll.name = "<init>" → b.2.2.2.2.2.2.2.2.1.name = "<init>") (hR : RT b none none r 0 0) {S : Wd} {a0 : Nat} {a1 : Int32} {c : (Wd) ⊕ Cs} (h : B_X0_roll_0 S a0 a1 = some c) (hk : N_X0_roll b r c) : G b 0 [(0, .ref a0), (1, .int a1)] [] S 0 0 := by
  unfold B_X0_roll_0 at h
  refine g_iload_n hC dX0_roll_0 rfl ?_
  refine g_istore_n (L' := [(2, .int a1), (0, .ref a0), (1, .int a1)]) hC dX0_roll_1 (by decide) rfl ?_
  refine g_iconst (v := (0 : Int32)) hC dX0_roll_2 (by decide) ?_
  refine g_istore_n (L' := [(3, .int (0 : Int32)), (2, .int a1), (0, .ref a0), (1, .int a1)]) hC dX0_roll_3 (by decide) rfl ?_
  cases h
  refine g_pick (L' := [(0, .ref a0), (1, .int a1), (2, .int a1), (3, .int (0 : Int32))]) [2, 3, 1, 0] rfl ?_
  exact hk _ _ _ _ _ rfl
set_option maxRecDepth 100000 in
set_option maxHeartbeats 4000000 in
theorem w_X0_roll_1 {b : Bd} {r : Wd} (hC : CX b yX0_roll.cls cX0_roll 5 { frames := 0, cells := 0, slots := 0, locals := 0 }) (hin : yX0_roll.name = "<init>" → b.2.2.2.2.2.2.2.2.1.name = "<init>") (hR : RT b none none r 0 0) {S : Wd} {x0 : Nat} {x1 : Int32} {x2 : Int32} {x3 : Int32} {c : (Wd) ⊕ Cs} (h : B_X0_roll_1 S x0 x1 x2 x3 = some c) (hk : N_X0_roll b r c) : G b 4 [(0, .ref x0), (1, .int x1), (2, .int x2), (3, .int x3)] [] S 0 0 := by
  unfold B_X0_roll_1 at h
  refine g_iload_n hC dX0_roll_4 rfl ?_
  refine g_iconst (v := (2 : Int32)) hC dX0_roll_5 (by decide) ?_
  refine g_icmp_gt (tgt := 71) hC dX0_roll_6 (by decide) (fun hc1 => ?_) (fun hc1 => ?_)
  · rw [if_pos hc1] at h
    refine g_aload_n hC dX0_roll_71 rfl ?_
    refine g_dup hC dX0_roll_72 rfl ?_
    obtain ⟨ho2, h⟩ := gd_some h
    refine g_geti (k := 4) hC ck_X0 (by decide) tw_105 rfl (by decide) dX0_roll_73 ho2 ?_
    refine g_iload_n hC dX0_roll_76 rfl ?_
    refine g_iadd hC dX0_roll_77 ?_
    obtain ⟨ho3, h⟩ := gd_some h
    refine g_puti (k := 4) hC ck_X0 (by decide) tw_105 rfl (by decide) rfl rfl dX0_roll_78 ho3 ?_
    refine g_name (fun S4 eS5 => ?_)
    have h := ltS_use eS5 h
    refine g_aload_n hC dX0_roll_81 rfl ?_
    refine g_dup hC dX0_roll_82 rfl ?_
    obtain ⟨ho6, h⟩ := gd_some h
    refine g_geti (k := 5) hC ck_X0 (by decide) tw_106 rfl (by decide) dX0_roll_83 ho6 ?_
    refine g_iload_n hC dX0_roll_86 rfl ?_
    refine g_iadd hC dX0_roll_87 ?_
    obtain ⟨ho7, h⟩ := gd_some h
    refine g_puti (k := 5) hC ck_X0 (by decide) tw_106 rfl (by decide) rfl rfl dX0_roll_88 ho7 ?_
    refine g_name (fun S8 eS9 => ?_)
    have h := ltS_use eS9 h
    cases h
    subst hk
    exact g_vret hC hR dX0_roll_91 (by decide) (by decide)
  · rw [if_neg hc1] at h
    refine g_aload_n hC dX0_roll_9 rfl ?_
    obtain ⟨ho10, h⟩ := gd_some h
    refine g_geti (k := 5) hC ck_X0 (by decide) tw_106 rfl (by decide) dX0_roll_10 ho10 ?_
    refine g_iload_n hC dX0_roll_13 rfl ?_
    refine g_iadd hC dX0_roll_14 ?_
    refine g_sipush (v := (270 : Int32)) hC dX0_roll_15 (by decide) ?_
    refine g_icmp_le (tgt := 71) hC dX0_roll_18 (by decide) (fun hc11 => ?_) (fun hc11 => ?_)
    · rw [if_pos hc11] at h
      refine g_aload_n hC dX0_roll_71 rfl ?_
      refine g_dup hC dX0_roll_72 rfl ?_
      obtain ⟨ho12, h⟩ := gd_some h
      refine g_geti (k := 4) hC ck_X0 (by decide) tw_105 rfl (by decide) dX0_roll_73 ho12 ?_
      refine g_iload_n hC dX0_roll_76 rfl ?_
      refine g_iadd hC dX0_roll_77 ?_
      obtain ⟨ho13, h⟩ := gd_some h
      refine g_puti (k := 4) hC ck_X0 (by decide) tw_105 rfl (by decide) rfl rfl dX0_roll_78 ho13 ?_
      refine g_name (fun S14 eS15 => ?_)
      have h := ltS_use eS15 h
      refine g_aload_n hC dX0_roll_81 rfl ?_
      refine g_dup hC dX0_roll_82 rfl ?_
      obtain ⟨ho16, h⟩ := gd_some h
      refine g_geti (k := 5) hC ck_X0 (by decide) tw_106 rfl (by decide) dX0_roll_83 ho16 ?_
      refine g_iload_n hC dX0_roll_86 rfl ?_
      refine g_iadd hC dX0_roll_87 ?_
      obtain ⟨ho17, h⟩ := gd_some h
      refine g_puti (k := 5) hC ck_X0 (by decide) tw_106 rfl (by decide) rfl rfl dX0_roll_88 ho17 ?_
      refine g_name (fun S18 eS19 => ?_)
      have h := ltS_use eS19 h
      cases h
      subst hk
      exact g_vret hC hR dX0_roll_91 (by decide) (by decide)
    · rw [if_neg hc11] at h
      refine g_sipush (v := (270 : Int32)) hC dX0_roll_21 (by decide) ?_
      refine g_aload_n hC dX0_roll_24 rfl ?_
      obtain ⟨ho20, h⟩ := gd_some h
      refine g_geti (k := 5) hC ck_X0 (by decide) tw_106 rfl (by decide) dX0_roll_25 ho20 ?_
      refine g_isub hC dX0_roll_28 ?_
      refine g_istore (L' := [(4, .int ((270 : Int32) - (wI S x0 5))), (0, .ref x0), (1, .int x1), (2, .int x2), (3, .int x3)]) hC dX0_roll_29 (by decide) rfl ?_
      refine g_iload_n hC dX0_roll_31 rfl ?_
      refine g_iload hC dX0_roll_32 rfl ?_
      refine g_isub hC dX0_roll_34 ?_
      refine g_istore_n (L' := [(2, .int (x2 - ((270 : Int32) - (wI S x0 5)))), (4, .int ((270 : Int32) - (wI S x0 5))), (0, .ref x0), (1, .int x1), (3, .int x3)]) hC dX0_roll_35 (by decide) rfl ?_
      refine g_aload_n hC dX0_roll_36 rfl ?_
      refine g_dup hC dX0_roll_37 rfl ?_
      obtain ⟨ho21, h⟩ := gd_some h
      refine g_geti (k := 4) hC ck_X0 (by decide) tw_105 rfl (by decide) dX0_roll_38 ho21 ?_
      refine g_iload hC dX0_roll_41 rfl ?_
      refine g_bipush (v := (45 : Int32)) hC dX0_roll_43 (by decide) ?_
      refine g_iadd hC dX0_roll_45 ?_
      refine g_iadd hC dX0_roll_46 ?_
      obtain ⟨ho22, h⟩ := gd_some h
      refine g_puti (k := 4) hC ck_X0 (by decide) tw_105 rfl (by decide) rfl rfl dX0_roll_47 ho22 ?_
      refine g_name (fun S23 eS24 => ?_)
      have h := ltS_use eS24 h
      refine g_aload_n hC dX0_roll_50 rfl ?_
      refine g_iconst (v := (0 : Int32)) hC dX0_roll_51 (by decide) ?_
      obtain ⟨ho25, h⟩ := gd_some h
      refine g_puti (k := 5) hC ck_X0 (by decide) tw_106 rfl (by decide) rfl rfl dX0_roll_52 ho25 ?_
      refine g_name (fun S26 eS27 => ?_)
      have h := ltS_use eS27 h
      refine g_aload_n hC dX0_roll_55 rfl ?_
      refine g_dup hC dX0_roll_56 rfl ?_
      obtain ⟨ho28, h⟩ := gd_some h
      refine g_geti (k := 8) hC ck_X0 (by decide) tw_109 rfl (by decide) dX0_roll_57 ho28 ?_
      refine g_iconst (v := (1 : Int32)) hC dX0_roll_60 (by decide) ?_
      refine g_iadd hC dX0_roll_61 ?_
      obtain ⟨ho29, h⟩ := gd_some h
      refine g_puti (k := 8) hC ck_X0 (by decide) tw_109 rfl (by decide) rfl rfl dX0_roll_62 ho29 ?_
      refine g_name (fun S30 eS31 => ?_)
      have h := ltS_use eS31 h
      refine g_iinc (v := (1 : Int32)) (L' := [(3, .int (x3 + (1 : Int32))), (2, .int (x2 - ((270 : Int32) - (wI S x0 5)))), (4, .int ((270 : Int32) - (wI S x0 5))), (0, .ref x0), (1, .int x1)]) hC dX0_roll_65 rfl (by decide) (by decide) rfl ?_
      refine g_goto (tgt := 4) hC dX0_roll_68 (by decide) ?_
      cases h
      refine g_pick (L' := [(0, .ref x0), (1, .int x1), (2, .int (x2 - ((270 : Int32) - (wI S x0 5)))), (3, .int (x3 + (1 : Int32)))]) [3, 4, 1, 0] rfl ?_
      exact hk _ _ _ _ _ rfl
theorem w_X0_roll {b : Bd} {r : Wd} (hC : CX b yX0_roll.cls cX0_roll 5 { frames := 0, cells := 0, slots := 0, locals := 0 }) (hin : yX0_roll.name = "<init>" → b.2.2.2.2.2.2.2.2.1.name = "<init>") (hR : RT b none none r 0 0) {s : Cs} {c : (Wd) ⊕ Cs} (h : B_X0_roll s = some c) (hk : N_X0_roll b r c) : ∀ pc L S kc ks, P_X0_roll s = some (pc, L, S, kc, ks) → G b pc L [] S kc ks := by
  intro pc L S kc ks hp
  unfold B_X0_roll at h
  split at h
  · cases hp
    exact w_X0_roll_0 hC hin hR h hk
  · cases hp
    exact w_X0_roll_1 hC hin hR h hk
  · cases h
theorem k_X0_roll {S : Wd} {a0 : Nat} {a1 : Int32} {S' : Wd} (h : f_X0_roll S a0 a1 = some S') : Sp yX0_roll cX0_roll 5 none 0 0 0 0 [.ref a0, .int a1] S none S' := by
  unfold f_X0_roll at h
  refine Sp.of (by decide +kernel) (Nat.le_of_ble_eq_true rfl) ?_
  intro b hC hin hR
  exact ru_ind (P := fun s q0 => q0 = S' → ∀ pc L S kc ks, P_X0_roll s = some (pc, L, S, kc, ks) → G b pc L [] S kc ks) (fun s q0 hB e => w_X0_roll (r := S') hC hin hR hB e) (fun s s' q0 hB ih e => w_X0_roll (r := S') hC hin hR hB (ih e)) h rfl _ _ _ _ _ rfl

theorem mi_X0_go : MI yX0_go cX0_go 4 none 2 := ⟨tw_520, tw_6, by decide +kernel, by decide +kernel, by decide +kernel⟩
noncomputable def f_X0_go (S : Wd) (a0 : Nat) (a1 : Int32) (a2 : Int32) : Option (Wd) := gd (ob S a0 0) (if (wI S a0 11) = 0 then (gd (ob S a0 0) (Option.bind (wO S a0 0) (fun q4 => gd (ob S a0 0) (gd (ob S q4 10) (bd2 (f_X10_between S q4 (wI S a0 3) a1) (fun r10 S8 => if r10 = (1000000 : Int32) then (gd (ob S8 a0 0) (ltS (sI S8 a0 11 (1 : Int32)) (fun S36 => some S36))) else (gd (ob S8 a0 0) (if ((wI S8 a0 6) + r10) ≤ (540 : Int32) then (gd (ob S8 a0 0) (Option.bind (f_X0_roll S8 a0 r10) (fun S15 => gd (ob S15 a0 0) (gd (ob S15 a0 0) (ltS (sI S15 a0 6 ((wI S15 a0 6) + r10)) (fun S19 => if a2 = 0 then (gd (ob S19 a0 0) (ltS (sI S19 a0 3 a1) (fun S23 => some S23))) else (gd (ob S19 a0 0) (gd (ob S19 a0 0) (ltS (sI S19 a0 7 ((wI S19 a0 7) + r10)) (fun S27 => gd (ob S27 a0 0) (ltS (sI S27 a0 3 a1) (fun S30 => some S30)))))))))))) else (gd (ob S8 a0 0) (ltS (sI S8 a0 11 (2 : Int32)) (fun S33 => some S33))))))))))) else (some S))
set_option maxRecDepth 100000 in
set_option maxHeartbeats 4000000 in
theorem k_X0_go {S : Wd} {a0 : Nat} {a1 : Int32} {a2 : Int32} {S' : Wd} (h : f_X0_go S a0 a1 a2 = some S') : Sp yX0_go cX0_go 4 none 1 24 0 0 [.ref a0, .int a1, .int a2] S none S' := by
  unfold f_X0_go at h
  refine Sp.of (by decide +kernel) (Nat.le_of_ble_eq_true rfl) ?_
  intro b hC hin hR
  show G b 0 [(0, .ref a0), (1, .int a1), (2, .int a2)] [] S 0 0
  refine g_aload_n hC dX0_go_0 rfl ?_
  obtain ⟨ho1, h⟩ := gd_some h
  refine g_geti (k := 11) hC ck_X0 (by decide) tw_112 rfl (by decide) dX0_go_1 ho1 ?_
  refine g_if_eq (tgt := 8) hC dX0_go_4 (by decide) (fun hc2 => ?_) (fun hc2 => ?_)
  · rw [if_pos hc2] at h
    refine g_aload_n hC dX0_go_8 rfl ?_
    obtain ⟨ho3, h⟩ := gd_some h
    obtain ⟨q4, hq5, h⟩ := Option.bind_eq_some_iff.mp h
    refine g_getr (k := 0) (q := q4) hC ck_X0 (by decide) tw_101 rfl (by decide) dX0_go_9 ho3 hq5 ?_
    refine g_aload_n hC dX0_go_12 rfl ?_
    obtain ⟨ho6, h⟩ := gd_some h
    refine g_geti (k := 3) hC ck_X0 (by decide) tw_104 rfl (by decide) dX0_go_13 ho6 ?_
    refine g_iload_n hC dX0_go_16 rfl ?_
    obtain ⟨ho9, h⟩ := gd_some h
    obtain ⟨r10, S8, hr7, h⟩ := bd2_some h
    refine g_callV (rest := []) hC mi_X10_between (k_X10_between hr7) ck_X10.1 (by decide) ho9 tw_521 tw_410 tw_411 dX0_go_17 rfl rfl ⟨by decide, by decide⟩ (Nat.le_of_ble_eq_true rfl) ⟨by decide, by decide⟩ ?_
    refine g_istore_n (L' := [(3, .int r10), (0, .ref a0), (1, .int a1), (2, .int a2)]) hC dX0_go_20 (by decide) rfl ?_
    refine g_iload_n hC dX0_go_21 rfl ?_
    refine g_ldc hC tw_522 dX0_go_22 ?_
    refine g_icmp_ne (tgt := 33) hC dX0_go_24 (by decide) (fun hc11 => ?_) (fun hc11 => ?_)
    · rw [if_neg hc11] at h
      refine g_aload_n hC dX0_go_33 rfl ?_
      obtain ⟨ho12, h⟩ := gd_some h
      refine g_geti (k := 6) hC ck_X0 (by decide) tw_107 rfl (by decide) dX0_go_34 ho12 ?_
      refine g_iload_n hC dX0_go_37 rfl ?_
      refine g_iadd hC dX0_go_38 ?_
      refine g_sipush (v := (540 : Int32)) hC dX0_go_39 (by decide) ?_
      refine g_icmp_le (tgt := 51) hC dX0_go_42 (by decide) (fun hc13 => ?_) (fun hc13 => ?_)
      · rw [if_pos hc13] at h
        refine g_aload_n hC dX0_go_51 rfl ?_
        refine g_iload_n hC dX0_go_52 rfl ?_
        obtain ⟨ho16, h⟩ := gd_some h
        obtain ⟨S15, hr14, h⟩ := Option.bind_eq_some_iff.mp h
        refine g_callV (rest := []) hC mi_X0_roll (k_X0_roll hr14) ck_X0.1 (by decide) ho16 tw_523 tw_525 ts_8 dX0_go_53 rfl rfl ⟨by decide, by decide⟩ (Nat.le_of_ble_eq_true rfl) ⟨by decide, by decide⟩ ?_
        refine g_aload_n hC dX0_go_56 rfl ?_
        refine g_dup hC dX0_go_57 rfl ?_
        obtain ⟨ho17, h⟩ := gd_some h
        refine g_geti (k := 6) hC ck_X0 (by decide) tw_107 rfl (by decide) dX0_go_58 ho17 ?_
        refine g_iload_n hC dX0_go_61 rfl ?_
        refine g_iadd hC dX0_go_62 ?_
        obtain ⟨ho18, h⟩ := gd_some h
        refine g_puti (k := 6) hC ck_X0 (by decide) tw_107 rfl (by decide) rfl rfl dX0_go_63 ho18 ?_
        refine g_name (fun S19 eS20 => ?_)
        have h := ltS_use eS20 h
        refine g_iload_n hC dX0_go_66 rfl ?_
        refine g_if_eq (tgt := 80) hC dX0_go_67 (by decide) (fun hc21 => ?_) (fun hc21 => ?_)
        · rw [if_pos hc21] at h
          refine g_aload_n hC dX0_go_80 rfl ?_
          refine g_iload_n hC dX0_go_81 rfl ?_
          obtain ⟨ho22, h⟩ := gd_some h
          refine g_puti (k := 3) hC ck_X0 (by decide) tw_104 rfl (by decide) rfl rfl dX0_go_82 ho22 ?_
          refine g_name (fun S23 eS24 => ?_)
          have h := ltS_use eS24 h
          cases h
          exact g_vret hC hR dX0_go_85 (by decide) (by decide)
        · rw [if_neg hc21] at h
          refine g_aload_n hC dX0_go_70 rfl ?_
          refine g_dup hC dX0_go_71 rfl ?_
          obtain ⟨ho25, h⟩ := gd_some h
          refine g_geti (k := 7) hC ck_X0 (by decide) tw_108 rfl (by decide) dX0_go_72 ho25 ?_
          refine g_iload_n hC dX0_go_75 rfl ?_
          refine g_iadd hC dX0_go_76 ?_
          obtain ⟨ho26, h⟩ := gd_some h
          refine g_puti (k := 7) hC ck_X0 (by decide) tw_108 rfl (by decide) rfl rfl dX0_go_77 ho26 ?_
          refine g_name (fun S27 eS28 => ?_)
          have h := ltS_use eS28 h
          refine g_aload_n hC dX0_go_80 rfl ?_
          refine g_iload_n hC dX0_go_81 rfl ?_
          obtain ⟨ho29, h⟩ := gd_some h
          refine g_puti (k := 3) hC ck_X0 (by decide) tw_104 rfl (by decide) rfl rfl dX0_go_82 ho29 ?_
          refine g_name (fun S30 eS31 => ?_)
          have h := ltS_use eS31 h
          cases h
          exact g_vret hC hR dX0_go_85 (by decide) (by decide)
      · rw [if_neg hc13] at h
        refine g_aload_n hC dX0_go_45 rfl ?_
        refine g_iconst (v := (2 : Int32)) hC dX0_go_46 (by decide) ?_
        obtain ⟨ho32, h⟩ := gd_some h
        refine g_puti (k := 11) hC ck_X0 (by decide) tw_112 rfl (by decide) rfl rfl dX0_go_47 ho32 ?_
        refine g_name (fun S33 eS34 => ?_)
        have h := ltS_use eS34 h
        cases h
        exact g_vret hC hR dX0_go_50 (by decide) (by decide)
    · rw [if_pos hc11] at h
      refine g_aload_n hC dX0_go_27 rfl ?_
      refine g_iconst (v := (1 : Int32)) hC dX0_go_28 (by decide) ?_
      obtain ⟨ho35, h⟩ := gd_some h
      refine g_puti (k := 11) hC ck_X0 (by decide) tw_112 rfl (by decide) rfl rfl dX0_go_29 ho35 ?_
      refine g_name (fun S36 eS37 => ?_)
      have h := ltS_use eS37 h
      cases h
      exact g_vret hC hR dX0_go_32 (by decide) (by decide)
  · rw [if_neg hc2] at h
    cases h
    exact g_vret hC hR dX0_go_7 (by decide) (by decide)

theorem mi_X0_dock : MI yX0_dock cX0_dock 4 none 2 := ⟨tw_530, tw_6, by decide +kernel, by decide +kernel, by decide +kernel⟩
noncomputable def f_X0_dock (S : Wd) (a0 : Nat) (a1 : Int32) (a2 : Int32) : Option (Wd) := gd (ob S a0 0) (if (wI S a0 11) = 0 then (gd (ob S a0 0) (if (wI S a0 4) ≤ a2 then (gd (ob S a0 0) (if (mMax (a1 - (wI S a0 4)) (0 : Int32)) < (45 : Int32) then (gd (ob S a0 0) (gd (ob S a0 0) (ltS (sI S a0 9 ((wI S a0 9) + (mMax (a1 - (wI S a0 4)) (0 : Int32)))) (fun S9 => gd (ob S9 a0 0) (gd (ob S9 a0 0) (ltS (sI S9 a0 4 ((wI S9 a0 4) + ((mMax (a1 - (wI S a0 4)) (0 : Int32)) + (30 : Int32)))) (fun S13 => some S13))))))) else (gd (ob S a0 0) (ltS (sI S a0 5 (0 : Int32)) (fun S16 => gd (ob S16 a0 0) (gd (ob S16 a0 0) (ltS (sI S16 a0 9 ((wI S16 a0 9) + (mMax (a1 - (wI S a0 4)) (0 : Int32)))) (fun S20 => gd (ob S20 a0 0) (gd (ob S20 a0 0) (ltS (sI S20 a0 4 ((wI S20 a0 4) + ((mMax (a1 - (wI S a0 4)) (0 : Int32)) + (30 : Int32)))) (fun S24 => some S24))))))))))) else (gd (ob S a0 0) (ltS (sI S a0 11 (3 : Int32)) (fun S27 => some S27))))) else (some S))
set_option maxRecDepth 100000 in
set_option maxHeartbeats 4000000 in
theorem k_X0_dock {S : Wd} {a0 : Nat} {a1 : Int32} {a2 : Int32} {S' : Wd} (h : f_X0_dock S a0 a1 a2 = some S') : Sp yX0_dock cX0_dock 4 none 1 13 0 0 [.ref a0, .int a1, .int a2] S none S' := by
  unfold f_X0_dock at h
  refine Sp.of (by decide +kernel) (Nat.le_of_ble_eq_true rfl) ?_
  intro b hC hin hR
  show G b 0 [(0, .ref a0), (1, .int a1), (2, .int a2)] [] S 0 0
  refine g_aload_n hC dX0_dock_0 rfl ?_
  obtain ⟨ho1, h⟩ := gd_some h
  refine g_geti (k := 11) hC ck_X0 (by decide) tw_112 rfl (by decide) dX0_dock_1 ho1 ?_
  refine g_if_eq (tgt := 8) hC dX0_dock_4 (by decide) (fun hc2 => ?_) (fun hc2 => ?_)
  · rw [if_pos hc2] at h
    refine g_aload_n hC dX0_dock_8 rfl ?_
    obtain ⟨ho3, h⟩ := gd_some h
    refine g_geti (k := 4) hC ck_X0 (by decide) tw_105 rfl (by decide) dX0_dock_9 ho3 ?_
    refine g_iload_n hC dX0_dock_12 rfl ?_
    refine g_icmp_le (tgt := 22) hC dX0_dock_13 (by decide) (fun hc4 => ?_) (fun hc4 => ?_)
    · rw [if_pos hc4] at h
      refine g_iload_n hC dX0_dock_22 rfl ?_
      refine g_aload_n hC dX0_dock_23 rfl ?_
      obtain ⟨ho5, h⟩ := gd_some h
      refine g_geti (k := 4) hC ck_X0 (by decide) tw_105 rfl (by decide) dX0_dock_24 ho5 ?_
      refine g_isub hC dX0_dock_27 ?_
      refine g_iconst (v := (0 : Int32)) hC dX0_dock_28 (by decide) ?_
      refine g_mmax (st := []) hC tw_531 tw_80 tw_5 tw_81 dX0_dock_29 (by decide) (Nat.le_of_ble_eq_true rfl) (by decide) (by decide) ?_
      refine g_istore_n (L' := [(3, .int (mMax (a1 - (wI S a0 4)) (0 : Int32))), (0, .ref a0), (1, .int a1), (2, .int a2)]) hC dX0_dock_32 (by decide) rfl ?_
      refine g_iload_n hC dX0_dock_33 rfl ?_
      refine g_bipush (v := (45 : Int32)) hC dX0_dock_34 (by decide) ?_
      refine g_icmp_lt (tgt := 44) hC dX0_dock_36 (by decide) (fun hc6 => ?_) (fun hc6 => ?_)
      · rw [if_pos hc6] at h
        refine g_aload_n hC dX0_dock_44 rfl ?_
        refine g_dup hC dX0_dock_45 rfl ?_
        obtain ⟨ho7, h⟩ := gd_some h
        refine g_geti (k := 9) hC ck_X0 (by decide) tw_110 rfl (by decide) dX0_dock_46 ho7 ?_
        refine g_iload_n hC dX0_dock_49 rfl ?_
        refine g_iadd hC dX0_dock_50 ?_
        obtain ⟨ho8, h⟩ := gd_some h
        refine g_puti (k := 9) hC ck_X0 (by decide) tw_110 rfl (by decide) rfl rfl dX0_dock_51 ho8 ?_
        refine g_name (fun S9 eS10 => ?_)
        have h := ltS_use eS10 h
        refine g_aload_n hC dX0_dock_54 rfl ?_
        refine g_dup hC dX0_dock_55 rfl ?_
        obtain ⟨ho11, h⟩ := gd_some h
        refine g_geti (k := 4) hC ck_X0 (by decide) tw_105 rfl (by decide) dX0_dock_56 ho11 ?_
        refine g_iload_n hC dX0_dock_59 rfl ?_
        refine g_bipush (v := (30 : Int32)) hC dX0_dock_60 (by decide) ?_
        refine g_iadd hC dX0_dock_62 ?_
        refine g_iadd hC dX0_dock_63 ?_
        obtain ⟨ho12, h⟩ := gd_some h
        refine g_puti (k := 4) hC ck_X0 (by decide) tw_105 rfl (by decide) rfl rfl dX0_dock_64 ho12 ?_
        refine g_name (fun S13 eS14 => ?_)
        have h := ltS_use eS14 h
        cases h
        exact g_vret hC hR dX0_dock_67 (by decide) (by decide)
      · rw [if_neg hc6] at h
        refine g_aload_n hC dX0_dock_39 rfl ?_
        refine g_iconst (v := (0 : Int32)) hC dX0_dock_40 (by decide) ?_
        obtain ⟨ho15, h⟩ := gd_some h
        refine g_puti (k := 5) hC ck_X0 (by decide) tw_106 rfl (by decide) rfl rfl dX0_dock_41 ho15 ?_
        refine g_name (fun S16 eS17 => ?_)
        have h := ltS_use eS17 h
        refine g_aload_n hC dX0_dock_44 rfl ?_
        refine g_dup hC dX0_dock_45 rfl ?_
        obtain ⟨ho18, h⟩ := gd_some h
        refine g_geti (k := 9) hC ck_X0 (by decide) tw_110 rfl (by decide) dX0_dock_46 ho18 ?_
        refine g_iload_n hC dX0_dock_49 rfl ?_
        refine g_iadd hC dX0_dock_50 ?_
        obtain ⟨ho19, h⟩ := gd_some h
        refine g_puti (k := 9) hC ck_X0 (by decide) tw_110 rfl (by decide) rfl rfl dX0_dock_51 ho19 ?_
        refine g_name (fun S20 eS21 => ?_)
        have h := ltS_use eS21 h
        refine g_aload_n hC dX0_dock_54 rfl ?_
        refine g_dup hC dX0_dock_55 rfl ?_
        obtain ⟨ho22, h⟩ := gd_some h
        refine g_geti (k := 4) hC ck_X0 (by decide) tw_105 rfl (by decide) dX0_dock_56 ho22 ?_
        refine g_iload_n hC dX0_dock_59 rfl ?_
        refine g_bipush (v := (30 : Int32)) hC dX0_dock_60 (by decide) ?_
        refine g_iadd hC dX0_dock_62 ?_
        refine g_iadd hC dX0_dock_63 ?_
        obtain ⟨ho23, h⟩ := gd_some h
        refine g_puti (k := 4) hC ck_X0 (by decide) tw_105 rfl (by decide) rfl rfl dX0_dock_64 ho23 ?_
        refine g_name (fun S24 eS25 => ?_)
        have h := ltS_use eS25 h
        cases h
        exact g_vret hC hR dX0_dock_67 (by decide) (by decide)
    · rw [if_neg hc4] at h
      refine g_aload_n hC dX0_dock_16 rfl ?_
      refine g_iconst (v := (3 : Int32)) hC dX0_dock_17 (by decide) ?_
      obtain ⟨ho26, h⟩ := gd_some h
      refine g_puti (k := 11) hC ck_X0 (by decide) tw_112 rfl (by decide) rfl rfl dX0_dock_18 ho26 ?_
      refine g_name (fun S27 eS28 => ?_)
      have h := ltS_use eS28 h
      cases h
      exact g_vret hC hR dX0_dock_21 (by decide) (by decide)
  · rw [if_neg hc2] at h
    cases h
    exact g_vret hC hR dX0_dock_7 (by decide) (by decide)

theorem mi_X0_carry : MI yX0_carry cX0_carry 2 none 1 := ⟨tw_516, tw_6, by decide +kernel, by decide +kernel, by decide +kernel⟩
noncomputable def f_X0_carry (S : Wd) (a0 : Nat) (a1 : Int32) : Option (Wd) := if a1 = (-1 : Int32) then (some S) else (gd (ob S a0 0) (gd (ob S a0 0) (Option.bind (wO S a0 2) (fun q4 => gd (ob S q4 8) (bd2 (f_X8_at S q4 a1 (5 : Int32)) (fun r9 S7 => gd (ob S7 a0 0) (ltS (sI S7 a0 10 ((wI S a0 10) + r9)) (fun S11 => gd (ob S11 a0 0) (Option.bind (wO S11 a0 2) (fun q14 => gd (ob S11 q14 8) (bd2 (f_X8_at S11 q14 a1 (0 : Int32)) (fun r19 S17 => gd (ob S17 a0 0) (Option.bind (f_X0_go S17 a0 r19 (1 : Int32)) (fun S21 => gd (ob S21 a0 0) (Option.bind (wO S21 a0 2) (fun q24 => gd (ob S21 q24 8) (bd2 (f_X8_at S21 q24 a1 (6 : Int32)) (fun r29 S27 => gd (ob S27 a0 0) (Option.bind (wO S27 a0 2) (fun q31 => gd (ob S27 q31 8) (bd2 (f_X8_at S27 q31 a1 (7 : Int32)) (fun r36 S34 => gd (ob S34 a0 0) (Option.bind (f_X0_dock S34 a0 r29 r36) (fun S38 => gd (ob S38 a0 0) (Option.bind (wO S38 a0 2) (fun q41 => gd (ob S38 q41 8) (bd2 (f_X8_at S38 q41 a1 (1 : Int32)) (fun r46 S44 => gd (ob S44 a0 0) (Option.bind (f_X0_go S44 a0 r46 (0 : Int32)) (fun S48 => gd (ob S48 a0 0) (Option.bind (wO S48 a0 2) (fun q51 => gd (ob S48 q51 8) (bd2 (f_X8_at S48 q51 a1 (8 : Int32)) (fun r56 S54 => gd (ob S54 a0 0) (Option.bind (wO S54 a0 2) (fun q58 => gd (ob S54 q58 8) (bd2 (f_X8_at S54 q58 a1 (9 : Int32)) (fun r63 S61 => gd (ob S61 a0 0) (Option.bind (f_X0_dock S61 a0 r56 r63) (fun S65 => some S65))))))))))))))))))))))))))))))))))))))))
set_option maxRecDepth 100000 in
set_option maxHeartbeats 4000000 in
theorem k_X0_carry {S : Wd} {a0 : Nat} {a1 : Int32} {S' : Wd} (h : f_X0_carry S a0 a1 = some S') : Sp yX0_carry cX0_carry 2 none 2 47 0 0 [.ref a0, .int a1] S none S' := by
  unfold f_X0_carry at h
  refine Sp.of (by decide +kernel) (Nat.le_of_ble_eq_true rfl) ?_
  intro b hC hin hR
  show G b 0 [(0, .ref a0), (1, .int a1)] [] S 0 0
  refine g_iload_n hC dX0_carry_0 rfl ?_
  refine g_iconst (v := (-1 : Int32)) hC dX0_carry_1 (by decide) ?_
  refine g_icmp_ne (tgt := 6) hC dX0_carry_2 (by decide) (fun hc1 => ?_) (fun hc1 => ?_)
  · rw [if_neg hc1] at h
    refine g_aload_n hC dX0_carry_6 rfl ?_
    refine g_dup hC dX0_carry_7 rfl ?_
    obtain ⟨ho2, h⟩ := gd_some h
    refine g_geti (k := 10) hC ck_X0 (by decide) tw_111 rfl (by decide) dX0_carry_8 ho2 ?_
    refine g_aload_n hC dX0_carry_11 rfl ?_
    obtain ⟨ho3, h⟩ := gd_some h
    obtain ⟨q4, hq5, h⟩ := Option.bind_eq_some_iff.mp h
    refine g_getr (k := 2) (q := q4) hC ck_X0 (by decide) tw_103 rfl (by decide) dX0_carry_12 ho3 hq5 ?_
    refine g_iload_n hC dX0_carry_15 rfl ?_
    refine g_iconst (v := (5 : Int32)) hC dX0_carry_16 (by decide) ?_
    obtain ⟨ho8, h⟩ := gd_some h
    obtain ⟨r9, S7, hr6, h⟩ := bd2_some h
    refine g_callV (rest := [.int (wI S a0 10), .ref a0]) hC mi_X8_at (k_X8_at hr6) ck_X8.1 (by decide) ho8 tw_492 tw_435 tw_436 dX0_carry_17 rfl rfl ⟨by decide, by decide⟩ (Nat.le_of_ble_eq_true rfl) ⟨by decide, by decide⟩ ?_
    refine g_iadd hC dX0_carry_20 ?_
    obtain ⟨ho10, h⟩ := gd_some h
    refine g_puti (k := 10) hC ck_X0 (by decide) tw_111 rfl (by decide) rfl rfl dX0_carry_21 ho10 ?_
    refine g_name (fun S11 eS12 => ?_)
    have h := ltS_use eS12 h
    refine g_aload_n hC dX0_carry_24 rfl ?_
    refine g_aload_n hC dX0_carry_25 rfl ?_
    obtain ⟨ho13, h⟩ := gd_some h
    obtain ⟨q14, hq15, h⟩ := Option.bind_eq_some_iff.mp h
    refine g_getr (k := 2) (q := q14) hC ck_X0 (by decide) tw_103 rfl (by decide) dX0_carry_26 ho13 hq15 ?_
    refine g_iload_n hC dX0_carry_29 rfl ?_
    refine g_iconst (v := (0 : Int32)) hC dX0_carry_30 (by decide) ?_
    obtain ⟨ho18, h⟩ := gd_some h
    obtain ⟨r19, S17, hr16, h⟩ := bd2_some h
    refine g_callV (rest := [.ref a0]) hC mi_X8_at (k_X8_at hr16) ck_X8.1 (by decide) ho18 tw_492 tw_435 tw_436 dX0_carry_31 rfl rfl ⟨by decide, by decide⟩ (Nat.le_of_ble_eq_true rfl) ⟨by decide, by decide⟩ ?_
    refine g_iconst (v := (1 : Int32)) hC dX0_carry_34 (by decide) ?_
    obtain ⟨ho22, h⟩ := gd_some h
    obtain ⟨S21, hr20, h⟩ := Option.bind_eq_some_iff.mp h
    refine g_callV (rest := []) hC mi_X0_go (k_X0_go hr20) ck_X0.1 (by decide) ho22 tw_517 tw_519 ts_7 dX0_carry_35 rfl rfl ⟨by decide, by decide⟩ (Nat.le_of_ble_eq_true rfl) ⟨by decide, by decide⟩ ?_
    refine g_aload_n hC dX0_carry_38 rfl ?_
    refine g_aload_n hC dX0_carry_39 rfl ?_
    obtain ⟨ho23, h⟩ := gd_some h
    obtain ⟨q24, hq25, h⟩ := Option.bind_eq_some_iff.mp h
    refine g_getr (k := 2) (q := q24) hC ck_X0 (by decide) tw_103 rfl (by decide) dX0_carry_40 ho23 hq25 ?_
    refine g_iload_n hC dX0_carry_43 rfl ?_
    refine g_bipush (v := (6 : Int32)) hC dX0_carry_44 (by decide) ?_
    obtain ⟨ho28, h⟩ := gd_some h
    obtain ⟨r29, S27, hr26, h⟩ := bd2_some h
    refine g_callV (rest := [.ref a0]) hC mi_X8_at (k_X8_at hr26) ck_X8.1 (by decide) ho28 tw_492 tw_435 tw_436 dX0_carry_46 rfl rfl ⟨by decide, by decide⟩ (Nat.le_of_ble_eq_true rfl) ⟨by decide, by decide⟩ ?_
    refine g_aload_n hC dX0_carry_49 rfl ?_
    obtain ⟨ho30, h⟩ := gd_some h
    obtain ⟨q31, hq32, h⟩ := Option.bind_eq_some_iff.mp h
    refine g_getr (k := 2) (q := q31) hC ck_X0 (by decide) tw_103 rfl (by decide) dX0_carry_50 ho30 hq32 ?_
    refine g_iload_n hC dX0_carry_53 rfl ?_
    refine g_bipush (v := (7 : Int32)) hC dX0_carry_54 (by decide) ?_
    obtain ⟨ho35, h⟩ := gd_some h
    obtain ⟨r36, S34, hr33, h⟩ := bd2_some h
    refine g_callV (rest := [.int r29, .ref a0]) hC mi_X8_at (k_X8_at hr33) ck_X8.1 (by decide) ho35 tw_492 tw_435 tw_436 dX0_carry_56 rfl rfl ⟨by decide, by decide⟩ (Nat.le_of_ble_eq_true rfl) ⟨by decide, by decide⟩ ?_
    obtain ⟨ho39, h⟩ := gd_some h
    obtain ⟨S38, hr37, h⟩ := Option.bind_eq_some_iff.mp h
    refine g_callV (rest := []) hC mi_X0_dock (k_X0_dock hr37) ck_X0.1 (by decide) ho39 tw_527 tw_529 ts_9 dX0_carry_59 rfl rfl ⟨by decide, by decide⟩ (Nat.le_of_ble_eq_true rfl) ⟨by decide, by decide⟩ ?_
    refine g_aload_n hC dX0_carry_62 rfl ?_
    refine g_aload_n hC dX0_carry_63 rfl ?_
    obtain ⟨ho40, h⟩ := gd_some h
    obtain ⟨q41, hq42, h⟩ := Option.bind_eq_some_iff.mp h
    refine g_getr (k := 2) (q := q41) hC ck_X0 (by decide) tw_103 rfl (by decide) dX0_carry_64 ho40 hq42 ?_
    refine g_iload_n hC dX0_carry_67 rfl ?_
    refine g_iconst (v := (1 : Int32)) hC dX0_carry_68 (by decide) ?_
    obtain ⟨ho45, h⟩ := gd_some h
    obtain ⟨r46, S44, hr43, h⟩ := bd2_some h
    refine g_callV (rest := [.ref a0]) hC mi_X8_at (k_X8_at hr43) ck_X8.1 (by decide) ho45 tw_492 tw_435 tw_436 dX0_carry_69 rfl rfl ⟨by decide, by decide⟩ (Nat.le_of_ble_eq_true rfl) ⟨by decide, by decide⟩ ?_
    refine g_iconst (v := (0 : Int32)) hC dX0_carry_72 (by decide) ?_
    obtain ⟨ho49, h⟩ := gd_some h
    obtain ⟨S48, hr47, h⟩ := Option.bind_eq_some_iff.mp h
    refine g_callV (rest := []) hC mi_X0_go (k_X0_go hr47) ck_X0.1 (by decide) ho49 tw_517 tw_519 ts_7 dX0_carry_73 rfl rfl ⟨by decide, by decide⟩ (Nat.le_of_ble_eq_true rfl) ⟨by decide, by decide⟩ ?_
    refine g_aload_n hC dX0_carry_76 rfl ?_
    refine g_aload_n hC dX0_carry_77 rfl ?_
    obtain ⟨ho50, h⟩ := gd_some h
    obtain ⟨q51, hq52, h⟩ := Option.bind_eq_some_iff.mp h
    refine g_getr (k := 2) (q := q51) hC ck_X0 (by decide) tw_103 rfl (by decide) dX0_carry_78 ho50 hq52 ?_
    refine g_iload_n hC dX0_carry_81 rfl ?_
    refine g_bipush (v := (8 : Int32)) hC dX0_carry_82 (by decide) ?_
    obtain ⟨ho55, h⟩ := gd_some h
    obtain ⟨r56, S54, hr53, h⟩ := bd2_some h
    refine g_callV (rest := [.ref a0]) hC mi_X8_at (k_X8_at hr53) ck_X8.1 (by decide) ho55 tw_492 tw_435 tw_436 dX0_carry_84 rfl rfl ⟨by decide, by decide⟩ (Nat.le_of_ble_eq_true rfl) ⟨by decide, by decide⟩ ?_
    refine g_aload_n hC dX0_carry_87 rfl ?_
    obtain ⟨ho57, h⟩ := gd_some h
    obtain ⟨q58, hq59, h⟩ := Option.bind_eq_some_iff.mp h
    refine g_getr (k := 2) (q := q58) hC ck_X0 (by decide) tw_103 rfl (by decide) dX0_carry_88 ho57 hq59 ?_
    refine g_iload_n hC dX0_carry_91 rfl ?_
    refine g_bipush (v := (9 : Int32)) hC dX0_carry_92 (by decide) ?_
    obtain ⟨ho62, h⟩ := gd_some h
    obtain ⟨r63, S61, hr60, h⟩ := bd2_some h
    refine g_callV (rest := [.int r56, .ref a0]) hC mi_X8_at (k_X8_at hr60) ck_X8.1 (by decide) ho62 tw_492 tw_435 tw_436 dX0_carry_94 rfl rfl ⟨by decide, by decide⟩ (Nat.le_of_ble_eq_true rfl) ⟨by decide, by decide⟩ ?_
    obtain ⟨ho66, h⟩ := gd_some h
    obtain ⟨S65, hr64, h⟩ := Option.bind_eq_some_iff.mp h
    refine g_callV (rest := []) hC mi_X0_dock (k_X0_dock hr64) ck_X0.1 (by decide) ho66 tw_527 tw_529 ts_9 dX0_carry_97 rfl rfl ⟨by decide, by decide⟩ (Nat.le_of_ble_eq_true rfl) ⟨by decide, by decide⟩ ?_
    cases h
    exact g_vret hC hR dX0_carry_100 (by decide) (by decide)
  · rw [if_pos hc1] at h
    cases h
    exact g_vret hC hR dX0_carry_5 (by decide) (by decide)

theorem mi_X0_run : MI yX0_run cX0_run 4 (some .int) 3 := ⟨tw_511, tw_6, by decide +kernel, by decide +kernel, by decide +kernel⟩
noncomputable def f_X0_run (S : Wd) (a0 : Nat) (a1 : Int32) (a2 : Int32) (a3 : Int32) : Option (Int32 × Wd) := gd (ob S a0 0) (Option.bind (wO S a0 0) (fun q2 => gd (ob S q2 10) (Option.bind (f_X10_measure S q2) (fun S5 => gd (ob S5 a0 0) (Option.bind (wO S5 a0 1) (fun q8 => gd (ob S5 q8 8) (bd2 (f_X8_at S5 q8 a1 (1 : Int32)) (fun r13 S11 => gd (ob S11 a0 0) (ltS (sI S11 a0 3 r13) (fun S15 => gd (ob S15 a0 0) (Option.bind (wO S15 a0 1) (fun q18 => gd (ob S15 q18 8) (bd2 (f_X8_at S15 q18 a1 (2 : Int32)) (fun r23 S21 => gd (ob S21 a0 0) (ltS (sI S21 a0 4 r23) (fun S25 => gd (ob S25 a0 0) (ltS (sI S25 a0 5 (0 : Int32)) (fun S28 => gd (ob S28 a0 0) (ltS (sI S28 a0 6 (0 : Int32)) (fun S31 => gd (ob S31 a0 0) (ltS (sI S31 a0 7 (0 : Int32)) (fun S34 => gd (ob S34 a0 0) (ltS (sI S34 a0 8 (0 : Int32)) (fun S37 => gd (ob S37 a0 0) (ltS (sI S37 a0 9 (0 : Int32)) (fun S40 => gd (ob S40 a0 0) (ltS (sI S40 a0 10 (0 : Int32)) (fun S43 => gd (ob S43 a0 0) (ltS (sI S43 a0 11 (0 : Int32)) (fun S46 => gd (ob S46 a0 0) (Option.bind (f_X0_carry S46 a0 a2) (fun S49 => gd (ob S49 a0 0) (Option.bind (f_X0_carry S49 a0 a3) (fun S52 => gd (ob S52 a0 0) (Option.bind (wO S52 a0 1) (fun q55 => gd (ob S52 q55 8) (bd2 (f_X8_at S52 q55 a1 (3 : Int32)) (fun r60 S58 => gd (ob S58 a0 0) (Option.bind (f_X0_go S58 a0 r60 (1 : Int32)) (fun S62 => gd (ob S62 a0 0) (if (wI S62 a0 11) = 0 then (gd (ob S62 a0 0) (gd (ob S62 a0 0) (Option.bind (wO S62 a0 1) (fun q69 => gd (ob S62 q69 8) (bd2 (f_X8_at S62 q69 a1 (4 : Int32)) (fun r74 S72 => if (wI S62 a0 4) ≤ r74 then (gd (ob S72 a0 0) (some ((wI S72 a0 11), S72))) else (gd (ob S72 a0 0) (ltS (sI S72 a0 11 (4 : Int32)) (fun S78 => gd (ob S78 a0 0) (some ((wI S78 a0 11), S78))))))))))) else (gd (ob S62 a0 0) (some ((wI S62 a0 11), S62))))))))))))))))))))))))))))))))))))))))))))
set_option maxRecDepth 100000 in
set_option maxHeartbeats 4000000 in
theorem k_X0_run {S : Wd} {a0 : Nat} {a1 : Int32} {a2 : Int32} {a3 : Int32} {r : Int32} {S' : Wd} (h : f_X0_run S a0 a1 a2 a3 = some (r, S')) : Sp yX0_run cX0_run 4 (some .int) 3 68 0 0 [.ref a0, .int a1, .int a2, .int a3] S (some (.int r)) S' := by
  unfold f_X0_run at h
  refine Sp.of (by decide +kernel) (Nat.le_of_ble_eq_true rfl) ?_
  intro b hC hin hR
  show G b 0 [(0, .ref a0), (1, .int a1), (2, .int a2), (3, .int a3)] [] S 0 0
  refine g_aload_n hC dX0_run_0 rfl ?_
  obtain ⟨ho1, h⟩ := gd_some h
  obtain ⟨q2, hq3, h⟩ := Option.bind_eq_some_iff.mp h
  refine g_getr (k := 0) (q := q2) hC ck_X0 (by decide) tw_101 rfl (by decide) dX0_run_1 ho1 hq3 ?_
  obtain ⟨ho6, h⟩ := gd_some h
  obtain ⟨S5, hr4, h⟩ := Option.bind_eq_some_iff.mp h
  refine g_callV (rest := []) hC mi_X10_measure (k_X10_measure hr4) ck_X10.1 (by decide) ho6 tw_512 tw_397 tw_398 dX0_run_4 rfl rfl ⟨by decide, by decide⟩ (Nat.le_of_ble_eq_true rfl) ⟨by decide, by decide⟩ ?_
  refine g_aload_n hC dX0_run_7 rfl ?_
  refine g_aload_n hC dX0_run_8 rfl ?_
  obtain ⟨ho7, h⟩ := gd_some h
  obtain ⟨q8, hq9, h⟩ := Option.bind_eq_some_iff.mp h
  refine g_getr (k := 1) (q := q8) hC ck_X0 (by decide) tw_102 rfl (by decide) dX0_run_9 ho7 hq9 ?_
  refine g_iload_n hC dX0_run_12 rfl ?_
  refine g_iconst (v := (1 : Int32)) hC dX0_run_13 (by decide) ?_
  obtain ⟨ho12, h⟩ := gd_some h
  obtain ⟨r13, S11, hr10, h⟩ := bd2_some h
  refine g_callV (rest := [.ref a0]) hC mi_X8_at (k_X8_at hr10) ck_X8.1 (by decide) ho12 tw_492 tw_435 tw_436 dX0_run_14 rfl rfl ⟨by decide, by decide⟩ (Nat.le_of_ble_eq_true rfl) ⟨by decide, by decide⟩ ?_
  obtain ⟨ho14, h⟩ := gd_some h
  refine g_puti (k := 3) hC ck_X0 (by decide) tw_104 rfl (by decide) rfl rfl dX0_run_17 ho14 ?_
  refine g_name (fun S15 eS16 => ?_)
  have h := ltS_use eS16 h
  refine g_aload_n hC dX0_run_20 rfl ?_
  refine g_aload_n hC dX0_run_21 rfl ?_
  obtain ⟨ho17, h⟩ := gd_some h
  obtain ⟨q18, hq19, h⟩ := Option.bind_eq_some_iff.mp h
  refine g_getr (k := 1) (q := q18) hC ck_X0 (by decide) tw_102 rfl (by decide) dX0_run_22 ho17 hq19 ?_
  refine g_iload_n hC dX0_run_25 rfl ?_
  refine g_iconst (v := (2 : Int32)) hC dX0_run_26 (by decide) ?_
  obtain ⟨ho22, h⟩ := gd_some h
  obtain ⟨r23, S21, hr20, h⟩ := bd2_some h
  refine g_callV (rest := [.ref a0]) hC mi_X8_at (k_X8_at hr20) ck_X8.1 (by decide) ho22 tw_492 tw_435 tw_436 dX0_run_27 rfl rfl ⟨by decide, by decide⟩ (Nat.le_of_ble_eq_true rfl) ⟨by decide, by decide⟩ ?_
  obtain ⟨ho24, h⟩ := gd_some h
  refine g_puti (k := 4) hC ck_X0 (by decide) tw_105 rfl (by decide) rfl rfl dX0_run_30 ho24 ?_
  refine g_name (fun S25 eS26 => ?_)
  have h := ltS_use eS26 h
  refine g_aload_n hC dX0_run_33 rfl ?_
  refine g_iconst (v := (0 : Int32)) hC dX0_run_34 (by decide) ?_
  obtain ⟨ho27, h⟩ := gd_some h
  refine g_puti (k := 5) hC ck_X0 (by decide) tw_106 rfl (by decide) rfl rfl dX0_run_35 ho27 ?_
  refine g_name (fun S28 eS29 => ?_)
  have h := ltS_use eS29 h
  refine g_aload_n hC dX0_run_38 rfl ?_
  refine g_iconst (v := (0 : Int32)) hC dX0_run_39 (by decide) ?_
  obtain ⟨ho30, h⟩ := gd_some h
  refine g_puti (k := 6) hC ck_X0 (by decide) tw_107 rfl (by decide) rfl rfl dX0_run_40 ho30 ?_
  refine g_name (fun S31 eS32 => ?_)
  have h := ltS_use eS32 h
  refine g_aload_n hC dX0_run_43 rfl ?_
  refine g_iconst (v := (0 : Int32)) hC dX0_run_44 (by decide) ?_
  obtain ⟨ho33, h⟩ := gd_some h
  refine g_puti (k := 7) hC ck_X0 (by decide) tw_108 rfl (by decide) rfl rfl dX0_run_45 ho33 ?_
  refine g_name (fun S34 eS35 => ?_)
  have h := ltS_use eS35 h
  refine g_aload_n hC dX0_run_48 rfl ?_
  refine g_iconst (v := (0 : Int32)) hC dX0_run_49 (by decide) ?_
  obtain ⟨ho36, h⟩ := gd_some h
  refine g_puti (k := 8) hC ck_X0 (by decide) tw_109 rfl (by decide) rfl rfl dX0_run_50 ho36 ?_
  refine g_name (fun S37 eS38 => ?_)
  have h := ltS_use eS38 h
  refine g_aload_n hC dX0_run_53 rfl ?_
  refine g_iconst (v := (0 : Int32)) hC dX0_run_54 (by decide) ?_
  obtain ⟨ho39, h⟩ := gd_some h
  refine g_puti (k := 9) hC ck_X0 (by decide) tw_110 rfl (by decide) rfl rfl dX0_run_55 ho39 ?_
  refine g_name (fun S40 eS41 => ?_)
  have h := ltS_use eS41 h
  refine g_aload_n hC dX0_run_58 rfl ?_
  refine g_iconst (v := (0 : Int32)) hC dX0_run_59 (by decide) ?_
  obtain ⟨ho42, h⟩ := gd_some h
  refine g_puti (k := 10) hC ck_X0 (by decide) tw_111 rfl (by decide) rfl rfl dX0_run_60 ho42 ?_
  refine g_name (fun S43 eS44 => ?_)
  have h := ltS_use eS44 h
  refine g_aload_n hC dX0_run_63 rfl ?_
  refine g_iconst (v := (0 : Int32)) hC dX0_run_64 (by decide) ?_
  obtain ⟨ho45, h⟩ := gd_some h
  refine g_puti (k := 11) hC ck_X0 (by decide) tw_112 rfl (by decide) rfl rfl dX0_run_65 ho45 ?_
  refine g_name (fun S46 eS47 => ?_)
  have h := ltS_use eS47 h
  refine g_aload_n hC dX0_run_68 rfl ?_
  refine g_iload_n hC dX0_run_69 rfl ?_
  obtain ⟨ho50, h⟩ := gd_some h
  obtain ⟨S49, hr48, h⟩ := Option.bind_eq_some_iff.mp h
  refine g_callV (rest := []) hC mi_X0_carry (k_X0_carry hr48) ck_X0.1 (by decide) ho50 tw_513 tw_515 ts_6 dX0_run_70 rfl rfl ⟨by decide, by decide⟩ (Nat.le_of_ble_eq_true rfl) ⟨by decide, by decide⟩ ?_
  refine g_aload_n hC dX0_run_73 rfl ?_
  refine g_iload_n hC dX0_run_74 rfl ?_
  obtain ⟨ho53, h⟩ := gd_some h
  obtain ⟨S52, hr51, h⟩ := Option.bind_eq_some_iff.mp h
  refine g_callV (rest := []) hC mi_X0_carry (k_X0_carry hr51) ck_X0.1 (by decide) ho53 tw_513 tw_515 ts_6 dX0_run_75 rfl rfl ⟨by decide, by decide⟩ (Nat.le_of_ble_eq_true rfl) ⟨by decide, by decide⟩ ?_
  refine g_aload_n hC dX0_run_78 rfl ?_
  refine g_aload_n hC dX0_run_79 rfl ?_
  obtain ⟨ho54, h⟩ := gd_some h
  obtain ⟨q55, hq56, h⟩ := Option.bind_eq_some_iff.mp h
  refine g_getr (k := 1) (q := q55) hC ck_X0 (by decide) tw_102 rfl (by decide) dX0_run_80 ho54 hq56 ?_
  refine g_iload_n hC dX0_run_83 rfl ?_
  refine g_iconst (v := (3 : Int32)) hC dX0_run_84 (by decide) ?_
  obtain ⟨ho59, h⟩ := gd_some h
  obtain ⟨r60, S58, hr57, h⟩ := bd2_some h
  refine g_callV (rest := [.ref a0]) hC mi_X8_at (k_X8_at hr57) ck_X8.1 (by decide) ho59 tw_492 tw_435 tw_436 dX0_run_85 rfl rfl ⟨by decide, by decide⟩ (Nat.le_of_ble_eq_true rfl) ⟨by decide, by decide⟩ ?_
  refine g_iconst (v := (1 : Int32)) hC dX0_run_88 (by decide) ?_
  obtain ⟨ho63, h⟩ := gd_some h
  obtain ⟨S62, hr61, h⟩ := Option.bind_eq_some_iff.mp h
  refine g_callV (rest := []) hC mi_X0_go (k_X0_go hr61) ck_X0.1 (by decide) ho63 tw_517 tw_519 ts_7 dX0_run_89 rfl rfl ⟨by decide, by decide⟩ (Nat.le_of_ble_eq_true rfl) ⟨by decide, by decide⟩ ?_
  refine g_aload_n hC dX0_run_92 rfl ?_
  obtain ⟨ho64, h⟩ := gd_some h
  refine g_geti (k := 11) hC ck_X0 (by decide) tw_112 rfl (by decide) dX0_run_93 ho64 ?_
  refine g_if_ne (tgt := 120) hC dX0_run_96 (by decide) (fun hc65 => ?_) (fun hc65 => ?_)
  · rw [if_neg hc65] at h
    refine g_aload_n hC dX0_run_120 rfl ?_
    obtain ⟨ho66, h⟩ := gd_some h
    refine g_geti (k := 11) hC ck_X0 (by decide) tw_112 rfl (by decide) dX0_run_121 ho66 ?_
    cases h
    exact g_iret hC hR dX0_run_124 (by decide) (by decide)
  · rw [if_pos hc65] at h
    refine g_aload_n hC dX0_run_99 rfl ?_
    obtain ⟨ho67, h⟩ := gd_some h
    refine g_geti (k := 4) hC ck_X0 (by decide) tw_105 rfl (by decide) dX0_run_100 ho67 ?_
    refine g_aload_n hC dX0_run_103 rfl ?_
    obtain ⟨ho68, h⟩ := gd_some h
    obtain ⟨q69, hq70, h⟩ := Option.bind_eq_some_iff.mp h
    refine g_getr (k := 1) (q := q69) hC ck_X0 (by decide) tw_102 rfl (by decide) dX0_run_104 ho68 hq70 ?_
    refine g_iload_n hC dX0_run_107 rfl ?_
    refine g_iconst (v := (4 : Int32)) hC dX0_run_108 (by decide) ?_
    obtain ⟨ho73, h⟩ := gd_some h
    obtain ⟨r74, S72, hr71, h⟩ := bd2_some h
    refine g_callV (rest := [.int (wI S62 a0 4)]) hC mi_X8_at (k_X8_at hr71) ck_X8.1 (by decide) ho73 tw_492 tw_435 tw_436 dX0_run_109 rfl rfl ⟨by decide, by decide⟩ (Nat.le_of_ble_eq_true rfl) ⟨by decide, by decide⟩ ?_
    refine g_icmp_le (tgt := 120) hC dX0_run_112 (by decide) (fun hc75 => ?_) (fun hc75 => ?_)
    · rw [if_pos hc75] at h
      refine g_aload_n hC dX0_run_120 rfl ?_
      obtain ⟨ho76, h⟩ := gd_some h
      refine g_geti (k := 11) hC ck_X0 (by decide) tw_112 rfl (by decide) dX0_run_121 ho76 ?_
      cases h
      exact g_iret hC hR dX0_run_124 (by decide) (by decide)
    · rw [if_neg hc75] at h
      refine g_aload_n hC dX0_run_115 rfl ?_
      refine g_iconst (v := (4 : Int32)) hC dX0_run_116 (by decide) ?_
      obtain ⟨ho77, h⟩ := gd_some h
      refine g_puti (k := 11) hC ck_X0 (by decide) tw_112 rfl (by decide) rfl rfl dX0_run_117 ho77 ?_
      refine g_name (fun S78 eS79 => ?_)
      have h := ltS_use eS79 h
      refine g_aload_n hC dX0_run_120 rfl ?_
      obtain ⟨ho80, h⟩ := gd_some h
      refine g_geti (k := 11) hC ck_X0 (by decide) tw_112 rfl (by decide) dX0_run_121 ho80 ?_
      cases h
      exact g_iret hC hR dX0_run_124 (by decide) (by decide)

theorem mi_X11_why : MI yX11_why cX11_why 5 (some .int) 3 := ⟨tw_499, tw_1, by decide +kernel, by decide +kernel, by decide +kernel⟩
noncomputable def f_X11_why (S : Wd) (a0 : Nat) (a1 : Int32) (a2 : Int32) (a3 : Int32) : Option (Int32 × Wd) := gd (ob S a0 11) (bd2 (f_X11_findingOfRow S a0 a1 a2 a3) (fun r4 S2 => if r4 = 0 then (gd (ob S2 a0 11) (Option.bind (wO S2 a0 4) (fun q7 => gd (ob S2 q7 0) (bd2 (f_X0_run S2 q7 a1 a2 a3) (fun r12 S10 => gd (ob S10 a0 11) (bd2 (f_X11_told S10 a0 r12) (fun r16 S14 => some (r16, S14)))))))) else (gd (ob S2 a0 11) (bd2 (f_X11_told S2 a0 r4) (fun r20 S18 => some (r20, S18))))))
set_option maxRecDepth 100000 in
set_option maxHeartbeats 4000000 in
theorem k_X11_why {S : Wd} {a0 : Nat} {a1 : Int32} {a2 : Int32} {a3 : Int32} {r : Int32} {S' : Wd} (h : f_X11_why S a0 a1 a2 a3 = some (r, S')) : Sp yX11_why cX11_why 5 (some .int) 4 91 0 0 [.ref a0, .int a1, .int a2, .int a3] S (some (.int r)) S' := by
  unfold f_X11_why at h
  refine Sp.of (by decide +kernel) (Nat.le_of_ble_eq_true rfl) ?_
  intro b hC hin hR
  show G b 0 [(0, .ref a0), (1, .int a1), (2, .int a2), (3, .int a3)] [] S 0 0
  refine g_aload_n hC dX11_why_0 rfl ?_
  refine g_iload_n hC dX11_why_1 rfl ?_
  refine g_iload_n hC dX11_why_2 rfl ?_
  refine g_iload_n hC dX11_why_3 rfl ?_
  obtain ⟨ho3, h⟩ := gd_some h
  obtain ⟨r4, S2, hr1, h⟩ := bd2_some h
  refine g_callV (rest := []) hC mi_X11_findingOfRow (k_X11_findingOfRow hr1) ck_X11.1 (by decide) ho3 tw_500 tw_502 ts_4 dX11_why_4 rfl rfl ⟨by decide, by decide⟩ (Nat.le_of_ble_eq_true rfl) ⟨by decide, by decide⟩ ?_
  refine g_istore (L' := [(4, .int r4), (0, .ref a0), (1, .int a1), (2, .int a2), (3, .int a3)]) hC dX11_why_7 (by decide) rfl ?_
  refine g_aload_n hC dX11_why_9 rfl ?_
  refine g_iload hC dX11_why_10 rfl ?_
  refine g_if_eq (tgt := 20) hC dX11_why_12 (by decide) (fun hc5 => ?_) (fun hc5 => ?_)
  · rw [if_pos hc5] at h
    refine g_aload_n hC dX11_why_20 rfl ?_
    obtain ⟨ho6, h⟩ := gd_some h
    obtain ⟨q7, hq8, h⟩ := Option.bind_eq_some_iff.mp h
    refine g_getr (k := 4) (q := q7) hC ck_X11 (by decide) tw_306 rfl (by decide) dX11_why_21 ho6 hq8 ?_
    refine g_iload_n hC dX11_why_24 rfl ?_
    refine g_iload_n hC dX11_why_25 rfl ?_
    refine g_iload_n hC dX11_why_26 rfl ?_
    obtain ⟨ho11, h⟩ := gd_some h
    obtain ⟨r12, S10, hr9, h⟩ := bd2_some h
    refine g_callV (rest := [.ref a0]) hC mi_X0_run (k_X0_run hr9) ck_X0.1 (by decide) ho11 tw_508 tw_509 tw_510 dX11_why_27 rfl rfl ⟨by decide, by decide⟩ (Nat.le_of_ble_eq_true rfl) ⟨by decide, by decide⟩ ?_
    obtain ⟨ho15, h⟩ := gd_some h
    obtain ⟨r16, S14, hr13, h⟩ := bd2_some h
    refine g_callV (rest := []) hC mi_X11_told (k_X11_told hr13) ck_X11.1 (by decide) ho15 tw_353 tw_355 ts_0 dX11_why_30 rfl rfl ⟨by decide, by decide⟩ (Nat.le_of_ble_eq_true rfl) ⟨by decide, by decide⟩ ?_
    cases h
    exact g_iret hC hR dX11_why_33 (by decide) (by decide)
  · rw [if_neg hc5] at h
    refine g_iload hC dX11_why_15 rfl ?_
    refine g_goto (tgt := 30) hC dX11_why_17 (by decide) ?_
    obtain ⟨ho19, h⟩ := gd_some h
    obtain ⟨r20, S18, hr17, h⟩ := bd2_some h
    refine g_callV (rest := []) hC mi_X11_told (k_X11_told hr17) ck_X11.1 (by decide) ho19 tw_353 tw_355 ts_0 dX11_why_30 rfl rfl ⟨by decide, by decide⟩ (Nat.le_of_ble_eq_true rfl) ⟨by decide, by decide⟩ ?_
    cases h
    exact g_iret hC hR dX11_why_33 (by decide) (by decide)

theorem mi_X0_value : MI yX0_value cX0_value 1 (some .int) 0 := ⟨tw_543, tw_6, by decide +kernel, by decide +kernel, by decide +kernel⟩
noncomputable def f_X0_value (S : Wd) (a0 : Nat) : Option (Int32 × Wd) := gd (ob S a0 0) (gd (ob S a0 0) (some (((wI S a0 10) - (wI S a0 7)), S)))
set_option maxRecDepth 100000 in
set_option maxHeartbeats 4000000 in
theorem k_X0_value {S : Wd} {a0 : Nat} {r : Int32} {S' : Wd} (h : f_X0_value S a0 = some (r, S')) : Sp yX0_value cX0_value 1 (some .int) 0 0 0 0 [.ref a0] S (some (.int r)) S' := by
  unfold f_X0_value at h
  refine Sp.of (by decide +kernel) (Nat.le_of_ble_eq_true rfl) ?_
  intro b hC hin hR
  show G b 0 [(0, .ref a0)] [] S 0 0
  refine g_aload_n hC dX0_value_0 rfl ?_
  obtain ⟨ho1, h⟩ := gd_some h
  refine g_geti (k := 10) hC ck_X0 (by decide) tw_111 rfl (by decide) dX0_value_1 ho1 ?_
  refine g_aload_n hC dX0_value_4 rfl ?_
  obtain ⟨ho2, h⟩ := gd_some h
  refine g_geti (k := 7) hC ck_X0 (by decide) tw_108 rfl (by decide) dX0_value_5 ho2 ?_
  refine g_isub hC dX0_value_8 ?_
  cases h
  exact g_iret hC hR dX0_value_9 (by decide) (by decide)

theorem mi_X0_tells : MI yX0_tells cX0_tells 2 (some .int) 1 := ⟨tw_539, tw_6, by decide +kernel, by decide +kernel, by decide +kernel⟩
noncomputable def f_X0_tells (S : Wd) (a0 : Nat) (a1 : Int32) : Option (Int32 × Wd) := if a1 = (0 : Int32) then (gd (ob S a0 0) (some ((wI S a0 4), S))) else (if a1 = (1 : Int32) then (gd (ob S a0 0) (some ((wI S a0 6), S))) else (if a1 = (2 : Int32) then (gd (ob S a0 0) (some ((wI S a0 7), S))) else (if a1 = (3 : Int32) then (gd (ob S a0 0) (some ((wI S a0 8), S))) else (if a1 = (4 : Int32) then (gd (ob S a0 0) (bd2 (f_X0_value S a0) (fun r13 S11 => some (r13, S11)))) else (gd (ob S a0 0) (some ((wI S a0 9), S)))))))
set_option maxRecDepth 100000 in
set_option maxHeartbeats 4000000 in
theorem k_X0_tells {S : Wd} {a0 : Nat} {a1 : Int32} {r : Int32} {S' : Wd} (h : f_X0_tells S a0 a1 = some (r, S')) : Sp yX0_tells cX0_tells 2 (some .int) 1 20 0 0 [.ref a0, .int a1] S (some (.int r)) S' := by
  unfold f_X0_tells at h
  refine Sp.of (by decide +kernel) (Nat.le_of_ble_eq_true rfl) ?_
  intro b hC hin hR
  show G b 0 [(0, .ref a0), (1, .int a1)] [] S 0 0
  refine g_iload_n hC dX0_tells_0 rfl ?_
  by_cases hc1 : a1 = (0 : Int32)
  · rw [if_pos hc1] at h
    refine g_tin (off := 35) (tgt := 36) hC dX0_tells_1 hc1 (by decide) (by decide) (by decide) (by decide) ?_
    refine g_aload_n hC dX0_tells_36 rfl ?_
    obtain ⟨ho2, h⟩ := gd_some h
    refine g_geti (k := 4) hC ck_X0 (by decide) tw_105 rfl (by decide) dX0_tells_37 ho2 ?_
    cases h
    exact g_iret hC hR dX0_tells_40 (by decide) (by decide)
  rw [if_neg hc1] at h
  by_cases hc3 : a1 = (1 : Int32)
  · rw [if_pos hc3] at h
    refine g_tin (off := 40) (tgt := 41) hC dX0_tells_1 hc3 (by decide) (by decide) (by decide) (by decide) ?_
    refine g_aload_n hC dX0_tells_41 rfl ?_
    obtain ⟨ho4, h⟩ := gd_some h
    refine g_geti (k := 6) hC ck_X0 (by decide) tw_107 rfl (by decide) dX0_tells_42 ho4 ?_
    cases h
    exact g_iret hC hR dX0_tells_45 (by decide) (by decide)
  rw [if_neg hc3] at h
  by_cases hc5 : a1 = (2 : Int32)
  · rw [if_pos hc5] at h
    refine g_tin (off := 45) (tgt := 46) hC dX0_tells_1 hc5 (by decide) (by decide) (by decide) (by decide) ?_
    refine g_aload_n hC dX0_tells_46 rfl ?_
    obtain ⟨ho6, h⟩ := gd_some h
    refine g_geti (k := 7) hC ck_X0 (by decide) tw_108 rfl (by decide) dX0_tells_47 ho6 ?_
    cases h
    exact g_iret hC hR dX0_tells_50 (by decide) (by decide)
  rw [if_neg hc5] at h
  by_cases hc7 : a1 = (3 : Int32)
  · rw [if_pos hc7] at h
    refine g_tin (off := 50) (tgt := 51) hC dX0_tells_1 hc7 (by decide) (by decide) (by decide) (by decide) ?_
    refine g_aload_n hC dX0_tells_51 rfl ?_
    obtain ⟨ho8, h⟩ := gd_some h
    refine g_geti (k := 8) hC ck_X0 (by decide) tw_109 rfl (by decide) dX0_tells_52 ho8 ?_
    cases h
    exact g_iret hC hR dX0_tells_55 (by decide) (by decide)
  rw [if_neg hc7] at h
  by_cases hc9 : a1 = (4 : Int32)
  · rw [if_pos hc9] at h
    refine g_tin (off := 55) (tgt := 56) hC dX0_tells_1 hc9 (by decide) (by decide) (by decide) (by decide) ?_
    refine g_aload_n hC dX0_tells_56 rfl ?_
    obtain ⟨ho12, h⟩ := gd_some h
    obtain ⟨r13, S11, hr10, h⟩ := bd2_some h
    refine g_callV (rest := []) hC mi_X0_value (k_X0_value hr10) ck_X0.1 (by decide) ho12 tw_540 tw_541 tw_542 dX0_tells_57 rfl rfl ⟨by decide, by decide⟩ (Nat.le_of_ble_eq_true rfl) ⟨by decide, by decide⟩ ?_
    cases h
    exact g_iret hC hR dX0_tells_60 (by decide) (by decide)
  rw [if_neg hc9] at h
  refine g_tout (tgt := 61) hC dX0_tells_1 (tout_of [(0 : Int32), (1 : Int32), (2 : Int32), (3 : Int32), (4 : Int32)] (by intro v hv; simp only [List.mem_cons, List.not_mem_nil, or_false] at hv; rcases hv with rfl | rfl | rfl | rfl | rfl <;> assumption) (by decide +kernel)) (by decide) ?_
  refine g_aload_n hC dX0_tells_61 rfl ?_
  obtain ⟨ho14, h⟩ := gd_some h
  refine g_geti (k := 9) hC ck_X0 (by decide) tw_110 rfl (by decide) dX0_tells_62 ho14 ?_
  cases h
  exact g_iret hC hR dX0_tells_65 (by decide) (by decide)

theorem mi_X11_drive : MI yX11_drive cX11_drive 7 (some .int) 4 := ⟨tw_535, tw_1, by decide +kernel, by decide +kernel, by decide +kernel⟩
noncomputable def f_X11_drive (S : Wd) (a0 : Nat) (a1 : Int32) (a2 : Int32) (a3 : Int32) (a4 : Int32) : Option (Int32 × Wd) := gd (ob S a0 11) (bd2 (f_X11_findingOfRow S a0 a1 a2 a3) (fun r4 S2 => if r4 = 0 then (bd2 (f_X11_within S2 a4 (0 : Int32) (5 : Int32)) (fun r8 S7 => if r8 = 0 then (gd (ob S7 a0 11) (bd2 (f_X11_told S7 a0 (-100001 : Int32)) (fun r38 S36 => some (r38, S36)))) else (gd (ob S7 a0 11) (Option.bind (wO S7 a0 4) (fun q11 => gd (ob S7 q11 0) (bd2 (f_X0_run S7 q11 a1 a2 a3) (fun r16 S14 => if r16 = 0 then (if (1 : Int32) = 0 then (none) else (gd (ob S14 a0 11) (Option.bind (wO S14 a0 4) (fun q25 => gd (ob S14 q25 0) (bd2 (f_X0_tells S14 q25 a4) (fun r30 S28 => gd (ob S28 a0 11) (bd2 (f_X11_told S28 a0 r30) (fun r34 S32 => some (r34, S32))))))))) else (if (0 : Int32) = 0 then (gd (ob S14 a0 11) (bd2 (f_X11_told S14 a0 (-100006 : Int32)) (fun r22 S20 => some (r22, S20)))) else (none))))))))) else (gd (ob S2 a0 11) (bd2 (f_X11_told S2 a0 r4) (fun r42 S40 => some (r42, S40))))))
set_option maxRecDepth 100000 in
set_option maxHeartbeats 4000000 in
theorem k_X11_drive {S : Wd} {a0 : Nat} {a1 : Int32} {a2 : Int32} {a3 : Int32} {a4 : Int32} {r : Int32} {S' : Wd} (h : f_X11_drive S a0 a1 a2 a3 a4 = some (r, S')) : Sp yX11_drive cX11_drive 7 (some .int) 4 91 0 0 [.ref a0, .int a1, .int a2, .int a3, .int a4] S (some (.int r)) S' := by
  unfold f_X11_drive at h
  refine Sp.of (by decide +kernel) (Nat.le_of_ble_eq_true rfl) ?_
  intro b hC hin hR
  show G b 0 [(0, .ref a0), (1, .int a1), (2, .int a2), (3, .int a3), (4, .int a4)] [] S 0 0
  refine g_aload_n hC dX11_drive_0 rfl ?_
  refine g_iload_n hC dX11_drive_1 rfl ?_
  refine g_iload_n hC dX11_drive_2 rfl ?_
  refine g_iload_n hC dX11_drive_3 rfl ?_
  obtain ⟨ho3, h⟩ := gd_some h
  obtain ⟨r4, S2, hr1, h⟩ := bd2_some h
  refine g_callV (rest := []) hC mi_X11_findingOfRow (k_X11_findingOfRow hr1) ck_X11.1 (by decide) ho3 tw_500 tw_502 ts_4 dX11_drive_4 rfl rfl ⟨by decide, by decide⟩ (Nat.le_of_ble_eq_true rfl) ⟨by decide, by decide⟩ ?_
  refine g_istore (L' := [(5, .int r4), (0, .ref a0), (1, .int a1), (2, .int a2), (3, .int a3), (4, .int a4)]) hC dX11_drive_7 (by decide) rfl ?_
  refine g_iload hC dX11_drive_9 rfl ?_
  refine g_if_eq (tgt := 21) hC dX11_drive_11 (by decide) (fun hc5 => ?_) (fun hc5 => ?_)
  · rw [if_pos hc5] at h
    refine g_iload hC dX11_drive_21 rfl ?_
    refine g_iconst (v := (0 : Int32)) hC dX11_drive_23 (by decide) ?_
    refine g_iconst (v := (5 : Int32)) hC dX11_drive_24 (by decide) ?_
    obtain ⟨r8, S7, hr6, h⟩ := bd2_some h
    refine g_callS (rest := []) hC mi_X11_within (k_X11_within hr6) tw_349 tw_350 dX11_drive_25 rfl rfl ⟨by decide, by decide⟩ (Nat.le_of_ble_eq_true rfl) ⟨by decide, by decide⟩ ?_
    refine g_if_ne (tgt := 38) hC dX11_drive_28 (by decide) (fun hc9 => ?_) (fun hc9 => ?_)
    · rw [if_neg hc9] at h
      refine g_aload_n hC dX11_drive_38 rfl ?_
      obtain ⟨ho10, h⟩ := gd_some h
      obtain ⟨q11, hq12, h⟩ := Option.bind_eq_some_iff.mp h
      refine g_getr (k := 4) (q := q11) hC ck_X11 (by decide) tw_306 rfl (by decide) dX11_drive_39 ho10 hq12 ?_
      refine g_iload_n hC dX11_drive_42 rfl ?_
      refine g_iload_n hC dX11_drive_43 rfl ?_
      refine g_iload_n hC dX11_drive_44 rfl ?_
      obtain ⟨ho15, h⟩ := gd_some h
      obtain ⟨r16, S14, hr13, h⟩ := bd2_some h
      refine g_callV (rest := []) hC mi_X0_run (k_X0_run hr13) ck_X0.1 (by decide) ho15 tw_508 tw_509 tw_510 dX11_drive_45 rfl rfl ⟨by decide, by decide⟩ (Nat.le_of_ble_eq_true rfl) ⟨by decide, by decide⟩ ?_
      refine g_if_ne (tgt := 55) hC dX11_drive_48 (by decide) (fun hc17 => ?_) (fun hc17 => ?_)
      · rw [if_neg hc17] at h
        refine g_iconst (v := (0 : Int32)) hC dX11_drive_55 (by decide) ?_
        refine g_istore (L' := [(6, .int (0 : Int32)), (5, .int r4), (0, .ref a0), (1, .int a1), (2, .int a2), (3, .int a3), (4, .int a4)]) hC dX11_drive_56 (by decide) rfl ?_
        refine g_aload_n hC dX11_drive_58 rfl ?_
        refine g_iload hC dX11_drive_59 rfl ?_
        refine g_if_eq (tgt := 76) hC dX11_drive_61 (by decide) (fun hc18 => ?_) (fun hc18 => ?_)
        · rw [if_pos hc18] at h
          refine g_ldc hC tw_414 dX11_drive_76 ?_
          obtain ⟨ho21, h⟩ := gd_some h
          obtain ⟨r22, S20, hr19, h⟩ := bd2_some h
          refine g_callV (rest := []) hC mi_X11_told (k_X11_told hr19) ck_X11.1 (by decide) ho21 tw_353 tw_355 ts_0 dX11_drive_78 rfl rfl ⟨by decide, by decide⟩ (Nat.le_of_ble_eq_true rfl) ⟨by decide, by decide⟩ ?_
          cases h
          exact g_iret hC hR dX11_drive_81 (by decide) (by decide)
        · rw [if_neg hc18] at h
          cases h
      · rw [if_pos hc17] at h
        refine g_iconst (v := (1 : Int32)) hC dX11_drive_51 (by decide) ?_
        refine g_goto (tgt := 56) hC dX11_drive_52 (by decide) ?_
        refine g_istore (L' := [(6, .int (1 : Int32)), (5, .int r4), (0, .ref a0), (1, .int a1), (2, .int a2), (3, .int a3), (4, .int a4)]) hC dX11_drive_56 (by decide) rfl ?_
        refine g_aload_n hC dX11_drive_58 rfl ?_
        refine g_iload hC dX11_drive_59 rfl ?_
        refine g_if_eq (tgt := 76) hC dX11_drive_61 (by decide) (fun hc23 => ?_) (fun hc23 => ?_)
        · rw [if_pos hc23] at h
          cases h
        · rw [if_neg hc23] at h
          refine g_aload_n hC dX11_drive_64 rfl ?_
          obtain ⟨ho24, h⟩ := gd_some h
          obtain ⟨q25, hq26, h⟩ := Option.bind_eq_some_iff.mp h
          refine g_getr (k := 4) (q := q25) hC ck_X11 (by decide) tw_306 rfl (by decide) dX11_drive_65 ho24 hq26 ?_
          refine g_iload hC dX11_drive_68 rfl ?_
          obtain ⟨ho29, h⟩ := gd_some h
          obtain ⟨r30, S28, hr27, h⟩ := bd2_some h
          refine g_callV (rest := [.ref a0]) hC mi_X0_tells (k_X0_tells hr27) ck_X0.1 (by decide) ho29 tw_536 tw_537 tw_538 dX11_drive_70 rfl rfl ⟨by decide, by decide⟩ (Nat.le_of_ble_eq_true rfl) ⟨by decide, by decide⟩ ?_
          refine g_goto (tgt := 78) hC dX11_drive_73 (by decide) ?_
          obtain ⟨ho33, h⟩ := gd_some h
          obtain ⟨r34, S32, hr31, h⟩ := bd2_some h
          refine g_callV (rest := []) hC mi_X11_told (k_X11_told hr31) ck_X11.1 (by decide) ho33 tw_353 tw_355 ts_0 dX11_drive_78 rfl rfl ⟨by decide, by decide⟩ (Nat.le_of_ble_eq_true rfl) ⟨by decide, by decide⟩ ?_
          cases h
          exact g_iret hC hR dX11_drive_81 (by decide) (by decide)
    · rw [if_pos hc9] at h
      refine g_aload_n hC dX11_drive_31 rfl ?_
      refine g_ldc hC tw_352 dX11_drive_32 ?_
      obtain ⟨ho37, h⟩ := gd_some h
      obtain ⟨r38, S36, hr35, h⟩ := bd2_some h
      refine g_callV (rest := []) hC mi_X11_told (k_X11_told hr35) ck_X11.1 (by decide) ho37 tw_353 tw_355 ts_0 dX11_drive_34 rfl rfl ⟨by decide, by decide⟩ (Nat.le_of_ble_eq_true rfl) ⟨by decide, by decide⟩ ?_
      cases h
      exact g_iret hC hR dX11_drive_37 (by decide) (by decide)
  · rw [if_neg hc5] at h
    refine g_aload_n hC dX11_drive_14 rfl ?_
    refine g_iload hC dX11_drive_15 rfl ?_
    obtain ⟨ho41, h⟩ := gd_some h
    obtain ⟨r42, S40, hr39, h⟩ := bd2_some h
    refine g_callV (rest := []) hC mi_X11_told (k_X11_told hr39) ck_X11.1 (by decide) ho41 tw_353 tw_355 ts_0 dX11_drive_17 rfl rfl ⟨by decide, by decide⟩ (Nat.le_of_ble_eq_true rfl) ⟨by decide, by decide⟩ ?_
    cases h
    exact g_iret hC hR dX11_drive_20 (by decide) (by decide)

theorem mi_X2_bitOf : MI yX2_bitOf cX2_bitOf 1 (some .int) 1 := ⟨tw_557, tw_7, by decide +kernel, by decide +kernel, by decide +kernel⟩
noncomputable def f_X2_bitOf (S : Wd) (a0 : Int32) : Option (Int32 × Wd) := if a0 < 0 then (some ((0 : Int32), S)) else (if (8 : Int32) ≤ a0 then (some ((0 : Int32), S)) else (some (((1 : Int32) <<< (a0 &&& 31)), S)))
set_option maxRecDepth 100000 in
set_option maxHeartbeats 4000000 in
theorem k_X2_bitOf {S : Wd} {a0 : Int32} {r : Int32} {S' : Wd} (h : f_X2_bitOf S a0 = some (r, S')) : Sp yX2_bitOf cX2_bitOf 1 (some .int) 0 0 0 0 [.int a0] S (some (.int r)) S' := by
  unfold f_X2_bitOf at h
  refine Sp.of (by decide +kernel) (Nat.le_of_ble_eq_true rfl) ?_
  intro b hC hin hR
  show G b 0 [(0, .int a0)] [] S 0 0
  refine g_iload_n hC dX2_bitOf_0 rfl ?_
  refine g_if_lt (tgt := 16) hC dX2_bitOf_1 (by decide) (fun hc1 => ?_) (fun hc1 => ?_)
  · rw [if_pos hc1] at h
    refine g_iconst (v := (0 : Int32)) hC dX2_bitOf_16 (by decide) ?_
    cases h
    exact g_iret hC hR dX2_bitOf_17 (by decide) (by decide)
  · rw [if_neg hc1] at h
    refine g_iload_n hC dX2_bitOf_4 rfl ?_
    refine g_bipush (v := (8 : Int32)) hC dX2_bitOf_5 (by decide) ?_
    refine g_icmp_ge (tgt := 16) hC dX2_bitOf_7 (by decide) (fun hc2 => ?_) (fun hc2 => ?_)
    · rw [if_pos hc2] at h
      refine g_iconst (v := (0 : Int32)) hC dX2_bitOf_16 (by decide) ?_
      cases h
      exact g_iret hC hR dX2_bitOf_17 (by decide) (by decide)
    · rw [if_neg hc2] at h
      refine g_iconst (v := (1 : Int32)) hC dX2_bitOf_10 (by decide) ?_
      refine g_iload_n hC dX2_bitOf_11 rfl ?_
      refine g_ishl hC dX2_bitOf_12 ?_
      refine g_goto (tgt := 17) hC dX2_bitOf_13 (by decide) ?_
      cases h
      exact g_iret hC hR dX2_bitOf_17 (by decide) (by decide)

theorem mi_X2_firstOf : MI yX2_firstOf cX2_firstOf 1 (some .int) 1 := ⟨tw_579, tw_7, by decide +kernel, by decide +kernel, by decide +kernel⟩
noncomputable def f_X2_firstOf (S : Wd) (a0 : Int32) : Option (Int32 × Wd) := some (((a0 / (100 : Int32)) - (1 : Int32)), S)
set_option maxRecDepth 100000 in
set_option maxHeartbeats 4000000 in
theorem k_X2_firstOf {S : Wd} {a0 : Int32} {r : Int32} {S' : Wd} (h : f_X2_firstOf S a0 = some (r, S')) : Sp yX2_firstOf cX2_firstOf 1 (some .int) 0 0 0 0 [.int a0] S (some (.int r)) S' := by
  unfold f_X2_firstOf at h
  refine Sp.of (by decide +kernel) (Nat.le_of_ble_eq_true rfl) ?_
  intro b hC hin hR
  show G b 0 [(0, .int a0)] [] S 0 0
  refine g_iload_n hC dX2_firstOf_0 rfl ?_
  refine g_bipush (v := (100 : Int32)) hC dX2_firstOf_1 (by decide) ?_
  refine g_idiv hC dX2_firstOf_3 (by decide) ?_
  refine g_iconst (v := (1 : Int32)) hC dX2_firstOf_4 (by decide) ?_
  refine g_isub hC dX2_firstOf_5 ?_
  cases h
  exact g_iret hC hR dX2_firstOf_6 (by decide) (by decide)

theorem mi_X2_secondOf : MI yX2_secondOf cX2_secondOf 1 (some .int) 1 := ⟨tw_582, tw_7, by decide +kernel, by decide +kernel, by decide +kernel⟩
noncomputable def f_X2_secondOf (S : Wd) (a0 : Int32) : Option (Int32 × Wd) := some (((irm a0 (100 : Int32)) - (1 : Int32)), S)
set_option maxRecDepth 100000 in
set_option maxHeartbeats 4000000 in
theorem k_X2_secondOf {S : Wd} {a0 : Int32} {r : Int32} {S' : Wd} (h : f_X2_secondOf S a0 = some (r, S')) : Sp yX2_secondOf cX2_secondOf 1 (some .int) 0 0 0 0 [.int a0] S (some (.int r)) S' := by
  unfold f_X2_secondOf at h
  refine Sp.of (by decide +kernel) (Nat.le_of_ble_eq_true rfl) ?_
  intro b hC hin hR
  show G b 0 [(0, .int a0)] [] S 0 0
  refine g_iload_n hC dX2_secondOf_0 rfl ?_
  refine g_bipush (v := (100 : Int32)) hC dX2_secondOf_1 (by decide) ?_
  refine g_irm hC dX2_secondOf_3 (by decide) ?_
  refine g_iconst (v := (1 : Int32)) hC dX2_secondOf_4 (by decide) ?_
  refine g_isub hC dX2_secondOf_5 ?_
  cases h
  exact g_iret hC hR dX2_secondOf_6 (by decide) (by decide)

theorem mi_X2_loadsOf : MI yX2_loadsOf cX2_loadsOf 1 (some .int) 1 := ⟨tw_576, tw_7, by decide +kernel, by decide +kernel, by decide +kernel⟩
noncomputable def f_X2_loadsOf (S : Wd) (a0 : Int32) : Option (Int32 × Wd) := bd2 (f_X2_firstOf S a0) (fun r3 S2 => bd2 (f_X2_bitOf S2 r3) (fun r6 S5 => bd2 (f_X2_secondOf S5 a0) (fun r9 S8 => bd2 (f_X2_bitOf S8 r9) (fun r12 S11 => some ((r6 ||| r12), S11)))))
set_option maxRecDepth 100000 in
set_option maxHeartbeats 4000000 in
theorem k_X2_loadsOf {S : Wd} {a0 : Int32} {r : Int32} {S' : Wd} (h : f_X2_loadsOf S a0 = some (r, S')) : Sp yX2_loadsOf cX2_loadsOf 1 (some .int) 1 20 0 0 [.int a0] S (some (.int r)) S' := by
  unfold f_X2_loadsOf at h
  refine Sp.of (by decide +kernel) (Nat.le_of_ble_eq_true rfl) ?_
  intro b hC hin hR
  show G b 0 [(0, .int a0)] [] S 0 0
  refine g_iload_n hC dX2_loadsOf_0 rfl ?_
  obtain ⟨r3, S2, hr1, h⟩ := bd2_some h
  refine g_callS (rest := []) hC mi_X2_firstOf (k_X2_firstOf hr1) tw_577 tw_578 dX2_loadsOf_1 rfl rfl ⟨by decide, by decide⟩ (Nat.le_of_ble_eq_true rfl) ⟨by decide, by decide⟩ ?_
  obtain ⟨r6, S5, hr4, h⟩ := bd2_some h
  refine g_callS (rest := []) hC mi_X2_bitOf (k_X2_bitOf hr4) tw_555 tw_556 dX2_loadsOf_4 rfl rfl ⟨by decide, by decide⟩ (Nat.le_of_ble_eq_true rfl) ⟨by decide, by decide⟩ ?_
  refine g_iload_n hC dX2_loadsOf_7 rfl ?_
  obtain ⟨r9, S8, hr7, h⟩ := bd2_some h
  refine g_callS (rest := [.int r6]) hC mi_X2_secondOf (k_X2_secondOf hr7) tw_580 tw_581 dX2_loadsOf_8 rfl rfl ⟨by decide, by decide⟩ (Nat.le_of_ble_eq_true rfl) ⟨by decide, by decide⟩ ?_
  obtain ⟨r12, S11, hr10, h⟩ := bd2_some h
  refine g_callS (rest := [.int r6]) hC mi_X2_bitOf (k_X2_bitOf hr10) tw_555 tw_556 dX2_loadsOf_11 rfl rfl ⟨by decide, by decide⟩ (Nat.le_of_ble_eq_true rfl) ⟨by decide, by decide⟩ ?_
  refine g_ior hC dX2_loadsOf_14 ?_
  cases h
  exact g_iret hC hR dX2_loadsOf_15 (by decide) (by decide)

theorem mi_X2_handOut : MI yX2_handOut cX2_handOut 4 none 1 := ⟨tw_599, tw_7, by decide +kernel, by decide +kernel, by decide +kernel⟩
noncomputable def B_X2_handOut_0 (S : Wd) (a0 : Nat) (a1 : Int32) : Option ((Wd) ⊕ Cs) := gd (ob S a0 2) (some (.inr (1, [a0], [a1, (wI S a0 11), (0 : Int32)], S)))
noncomputable def B_X2_handOut_1 (S : Wd) (x0 : Nat) (x1 : Int32) (x2 : Int32) (x3 : Int32) : Option ((Wd) ⊕ Cs) := if x1 ≤ x3 then (some (.inl S)) else (gd (ob S x0 2) (Option.bind (wO S x0 6) (fun q4 => gd (ob S x0 2) (Option.bind (wO S x0 5) (fun q7 => gd (ix S q7 100 ((x3 * (256 : Int32)) + x2)) (gd (ix S q4 100 x3) (ltS (sI S q4 x3.toNatClampNeg (wI S q7 ((x3 * (256 : Int32)) + x2).toNatClampNeg)) (fun S11 => gd (ob S11 x0 2) (Option.bind (wO S11 x0 6) (fun q14 => gd (ix S11 q14 100 x3) (bd2 (f_X2_loadsOf S11 (wI S11 q14 x3.toNatClampNeg)) (fun r19 S18 => some (.inr (1, [x0], [x1, (x2 &&& (r19 ^^^ (-1 : Int32))), (x3 + (1 : Int32))], S18))))))))))))))
noncomputable def B_X2_handOut : Cs → Option ((Wd) ⊕ Cs)
  | (0, [a0], [a1], S) => B_X2_handOut_0 S a0 a1
  | (1, [x0], [x1, x2, x3], S) => B_X2_handOut_1 S x0 x1 x2 x3
  | _ => none
def P_X2_handOut : Cs → Option (Nat × List (Nat × Value) × Wd × Nat × Nat)
  | (0, [a0], [a1], S) => some (0, [(0, .ref a0), (1, .int a1)], S, 0, 0)
  | (1, [x0], [x1, x2, x3], S) => some (7, [(0, .ref x0), (1, .int x1), (2, .int x2), (3, .int x3)], S, 0, 0)
  | _ => none
noncomputable def f_X2_handOut (S : Wd) (a0 : Nat) (a1 : Int32) : Option (Wd) := ru B_X2_handOut (0, [a0], [a1], S)
abbrev N_X2_handOut (b : Bd) (r : Wd) (c : (Wd) ⊕ Cs) : Prop := match c with
  | .inl r' => r' = r
  | .inr s' => ∀ pc L S kc ks, P_X2_handOut s' = some (pc, L, S, kc, ks) → G b pc L [] S kc ks
set_option maxRecDepth 100000 in
set_option maxHeartbeats 4000000 in
theorem w_X2_handOut_0 {b : Bd} {r : Wd} (hC : CX b yX2_handOut.cls cX2_handOut 4 { frames := 2, cells := 0, slots := 0, locals := 40 }) (hin : yX2_handOut.name = "<init>" → b.2.2.2.2.2.2.2.2.1.name = "<init>") (hR : RT b none none r 0 0) {S : Wd} {a0 : Nat} {a1 : Int32} {c : (Wd) ⊕ Cs} (h : B_X2_handOut_0 S a0 a1 = some c) (hk : N_X2_handOut b r c) : G b 0 [(0, .ref a0), (1, .int a1)] [] S 0 0 := by
  unfold B_X2_handOut_0 at h
  refine g_aload_n hC dX2_handOut_0 rfl ?_
  obtain ⟨ho1, h⟩ := gd_some h
  refine g_geti (k := 11) hC ck_X2 (by decide) tw_155 rfl (by decide) dX2_handOut_1 ho1 ?_
  refine g_istore_n (L' := [(2, .int (wI S a0 11)), (0, .ref a0), (1, .int a1)]) hC dX2_handOut_4 (by decide) rfl ?_
  refine g_iconst (v := (0 : Int32)) hC dX2_handOut_5 (by decide) ?_
  refine g_istore_n (L' := [(3, .int (0 : Int32)), (2, .int (wI S a0 11)), (0, .ref a0), (1, .int a1)]) hC dX2_handOut_6 (by decide) rfl ?_
  cases h
  refine g_pick (L' := [(0, .ref a0), (1, .int a1), (2, .int (wI S a0 11)), (3, .int (0 : Int32))]) [2, 3, 1, 0] rfl ?_
  exact hk _ _ _ _ _ rfl
set_option maxRecDepth 100000 in
set_option maxHeartbeats 4000000 in
theorem w_X2_handOut_1 {b : Bd} {r : Wd} (hC : CX b yX2_handOut.cls cX2_handOut 4 { frames := 2, cells := 0, slots := 0, locals := 40 }) (hin : yX2_handOut.name = "<init>" → b.2.2.2.2.2.2.2.2.1.name = "<init>") (hR : RT b none none r 0 0) {S : Wd} {x0 : Nat} {x1 : Int32} {x2 : Int32} {x3 : Int32} {c : (Wd) ⊕ Cs} (h : B_X2_handOut_1 S x0 x1 x2 x3 = some c) (hk : N_X2_handOut b r c) : G b 7 [(0, .ref x0), (1, .int x1), (2, .int x2), (3, .int x3)] [] S 0 0 := by
  unfold B_X2_handOut_1 at h
  refine g_iload_n hC dX2_handOut_7 rfl ?_
  refine g_iload_n hC dX2_handOut_8 rfl ?_
  refine g_icmp_ge (tgt := 50) hC dX2_handOut_9 (by decide) (fun hc2 => ?_) (fun hc2 => ?_)
  · rw [if_pos hc2] at h
    cases h
    subst hk
    exact g_vret hC hR dX2_handOut_50 (by decide) (by decide)
  · rw [if_neg hc2] at h
    refine g_aload_n hC dX2_handOut_12 rfl ?_
    obtain ⟨ho3, h⟩ := gd_some h
    obtain ⟨q4, hq5, h⟩ := Option.bind_eq_some_iff.mp h
    refine g_getr (k := 6) (q := q4) hC ck_X2 (by decide) tw_150 rfl (by decide) dX2_handOut_13 ho3 hq5 ?_
    refine g_iload_n hC dX2_handOut_16 rfl ?_
    refine g_aload_n hC dX2_handOut_17 rfl ?_
    obtain ⟨ho6, h⟩ := gd_some h
    obtain ⟨q7, hq8, h⟩ := Option.bind_eq_some_iff.mp h
    refine g_getr (k := 5) (q := q7) hC ck_X2 (by decide) tw_149 rfl (by decide) dX2_handOut_18 ho6 hq8 ?_
    refine g_iload_n hC dX2_handOut_21 rfl ?_
    refine g_sipush (v := (256 : Int32)) hC dX2_handOut_22 (by decide) ?_
    refine g_imul hC dX2_handOut_25 ?_
    refine g_iload_n hC dX2_handOut_26 rfl ?_
    refine g_iadd hC dX2_handOut_27 ?_
    obtain ⟨hx9, h⟩ := gd_some h
    refine g_iald hC dX2_handOut_28 hx9.1 hx9.2 ?_
    obtain ⟨hx10, h⟩ := gd_some h
    refine g_iast hC dX2_handOut_29 hx10.1 hx10.2 ?_
    refine g_name (fun S11 eS12 => ?_)
    have h := ltS_use eS12 h
    refine g_iload_n hC dX2_handOut_30 rfl ?_
    refine g_aload_n hC dX2_handOut_31 rfl ?_
    obtain ⟨ho13, h⟩ := gd_some h
    obtain ⟨q14, hq15, h⟩ := Option.bind_eq_some_iff.mp h
    refine g_getr (k := 6) (q := q14) hC ck_X2 (by decide) tw_150 rfl (by decide) dX2_handOut_32 ho13 hq15 ?_
    refine g_iload_n hC dX2_handOut_35 rfl ?_
    obtain ⟨hx16, h⟩ := gd_some h
    refine g_iald hC dX2_handOut_36 hx16.1 hx16.2 ?_
    obtain ⟨r19, S18, hr17, h⟩ := bd2_some h
    refine g_callS (rest := [.int x2]) hC mi_X2_loadsOf (k_X2_loadsOf hr17) tw_574 tw_575 dX2_handOut_37 rfl rfl ⟨by decide, by decide⟩ (Nat.le_of_ble_eq_true rfl) ⟨by decide, by decide⟩ ?_
    refine g_iconst (v := (-1 : Int32)) hC dX2_handOut_40 (by decide) ?_
    refine g_ixor hC dX2_handOut_41 ?_
    refine g_iand hC dX2_handOut_42 ?_
    refine g_istore_n (L' := [(2, .int (x2 &&& (r19 ^^^ (-1 : Int32)))), (0, .ref x0), (1, .int x1), (3, .int x3)]) hC dX2_handOut_43 (by decide) rfl ?_
    refine g_iinc (v := (1 : Int32)) (L' := [(3, .int (x3 + (1 : Int32))), (2, .int (x2 &&& (r19 ^^^ (-1 : Int32)))), (0, .ref x0), (1, .int x1)]) hC dX2_handOut_44 rfl (by decide) (by decide) rfl ?_
    refine g_goto (tgt := 7) hC dX2_handOut_47 (by decide) ?_
    cases h
    refine g_pick (L' := [(0, .ref x0), (1, .int x1), (2, .int (x2 &&& (r19 ^^^ (-1 : Int32)))), (3, .int (x3 + (1 : Int32)))]) [2, 3, 1, 0] rfl ?_
    exact hk _ _ _ _ _ rfl
theorem w_X2_handOut {b : Bd} {r : Wd} (hC : CX b yX2_handOut.cls cX2_handOut 4 { frames := 2, cells := 0, slots := 0, locals := 40 }) (hin : yX2_handOut.name = "<init>" → b.2.2.2.2.2.2.2.2.1.name = "<init>") (hR : RT b none none r 0 0) {s : Cs} {c : (Wd) ⊕ Cs} (h : B_X2_handOut s = some c) (hk : N_X2_handOut b r c) : ∀ pc L S kc ks, P_X2_handOut s = some (pc, L, S, kc, ks) → G b pc L [] S kc ks := by
  intro pc L S kc ks hp
  unfold B_X2_handOut at h
  split at h
  · cases hp
    exact w_X2_handOut_0 hC hin hR h hk
  · cases hp
    exact w_X2_handOut_1 hC hin hR h hk
  · cases h
theorem k_X2_handOut {S : Wd} {a0 : Nat} {a1 : Int32} {S' : Wd} (h : f_X2_handOut S a0 a1 = some S') : Sp yX2_handOut cX2_handOut 4 none 2 40 0 0 [.ref a0, .int a1] S none S' := by
  unfold f_X2_handOut at h
  refine Sp.of (by decide +kernel) (Nat.le_of_ble_eq_true rfl) ?_
  intro b hC hin hR
  exact ru_ind (P := fun s q0 => q0 = S' → ∀ pc L S kc ks, P_X2_handOut s = some (pc, L, S, kc, ks) → G b pc L [] S kc ks) (fun s q0 hB e => w_X2_handOut (r := S') hC hin hR hB e) (fun s s' q0 hB ih e => w_X2_handOut (r := S') hC hin hR hB (ih e)) h rfl _ _ _ _ _ rfl

theorem mi_X2_fitting : MI yX2_fitting cX2_fitting 4 (some .int) 1 := ⟨tw_566, tw_7, by decide +kernel, by decide +kernel, by decide +kernel⟩
noncomputable def B_X2_fitting_0 (S : Wd) (a0 : Nat) (a1 : Int32) : Option ((Int32 × Wd) ⊕ Cs) := some (.inr (1, [a0], [a1, (0 : Int32), (0 : Int32)], S))
noncomputable def B_X2_fitting_1 (S : Wd) (x0 : Nat) (x1 : Int32) (x2 : Int32) (x3 : Int32) : Option ((Int32 × Wd) ⊕ Cs) := gd (ob S x0 2) (Option.bind (wO S x0 2) (fun q2 => gd (ob S q2 8) (bd2 (f_X8_count S q2) (fun r7 S5 => if r7 ≤ x3 then (gd (ob S5 x0 2) (some (.inl ((x2 &&& (wI S5 x0 11)), S5)))) else (gd (ob S5 x0 2) (Option.bind (wO S5 x0 3) (fun q11 => gd (ob S5 q11 0) (bd2 (f_X0_fits S5 q11 x1 x3) (fun r16 S14 => if r16 = 0 then (some (.inr (1, [x0], [x1, x2, (x3 + (1 : Int32))], S14))) else (bd2 (f_X2_bitOf S14 x3) (fun r20 S19 => some (.inr (1, [x0], [x1, (x2 ||| r20), (x3 + (1 : Int32))], S19)))))))))))))
noncomputable def B_X2_fitting : Cs → Option ((Int32 × Wd) ⊕ Cs)
  | (0, [a0], [a1], S) => B_X2_fitting_0 S a0 a1
  | (1, [x0], [x1, x2, x3], S) => B_X2_fitting_1 S x0 x1 x2 x3
  | _ => none
def P_X2_fitting : Cs → Option (Nat × List (Nat × Value) × Wd × Nat × Nat)
  | (0, [a0], [a1], S) => some (0, [(0, .ref a0), (1, .int a1)], S, 0, 0)
  | (1, [x0], [x1, x2, x3], S) => some (4, [(0, .ref x0), (1, .int x1), (2, .int x2), (3, .int x3)], S, 0, 0)
  | _ => none
noncomputable def f_X2_fitting (S : Wd) (a0 : Nat) (a1 : Int32) : Option (Int32 × Wd) := ru B_X2_fitting (0, [a0], [a1], S)
abbrev N_X2_fitting (b : Bd) (r : Int32 × Wd) (c : (Int32 × Wd) ⊕ Cs) : Prop := match c with
  | .inl r' => r' = r
  | .inr s' => ∀ pc L S kc ks, P_X2_fitting s' = some (pc, L, S, kc, ks) → G b pc L [] S kc ks
set_option maxRecDepth 100000 in
set_option maxHeartbeats 4000000 in
theorem w_X2_fitting_0 {b : Bd} {r : Int32 × Wd} (hC : CX b yX2_fitting.cls cX2_fitting 4 { frames := 3, cells := 0, slots := 0, locals := 66 }) (hin : yX2_fitting.name = "<init>" → b.2.2.2.2.2.2.2.2.1.name = "<init>") (hR : RT b (some .int) (some (.int r.1)) r.2 0 0) {S : Wd} {a0 : Nat} {a1 : Int32} {c : (Int32 × Wd) ⊕ Cs} (h : B_X2_fitting_0 S a0 a1 = some c) (hk : N_X2_fitting b r c) : G b 0 [(0, .ref a0), (1, .int a1)] [] S 0 0 := by
  unfold B_X2_fitting_0 at h
  refine g_iconst (v := (0 : Int32)) hC dX2_fitting_0 (by decide) ?_
  refine g_istore_n (L' := [(2, .int (0 : Int32)), (0, .ref a0), (1, .int a1)]) hC dX2_fitting_1 (by decide) rfl ?_
  refine g_iconst (v := (0 : Int32)) hC dX2_fitting_2 (by decide) ?_
  refine g_istore_n (L' := [(3, .int (0 : Int32)), (2, .int (0 : Int32)), (0, .ref a0), (1, .int a1)]) hC dX2_fitting_3 (by decide) rfl ?_
  cases h
  refine g_pick (L' := [(0, .ref a0), (1, .int a1), (2, .int (0 : Int32)), (3, .int (0 : Int32))]) [2, 3, 1, 0] rfl ?_
  exact hk _ _ _ _ _ rfl
set_option maxRecDepth 100000 in
set_option maxHeartbeats 4000000 in
theorem w_X2_fitting_1 {b : Bd} {r : Int32 × Wd} (hC : CX b yX2_fitting.cls cX2_fitting 4 { frames := 3, cells := 0, slots := 0, locals := 66 }) (hin : yX2_fitting.name = "<init>" → b.2.2.2.2.2.2.2.2.1.name = "<init>") (hR : RT b (some .int) (some (.int r.1)) r.2 0 0) {S : Wd} {x0 : Nat} {x1 : Int32} {x2 : Int32} {x3 : Int32} {c : (Int32 × Wd) ⊕ Cs} (h : B_X2_fitting_1 S x0 x1 x2 x3 = some c) (hk : N_X2_fitting b r c) : G b 4 [(0, .ref x0), (1, .int x1), (2, .int x2), (3, .int x3)] [] S 0 0 := by
  unfold B_X2_fitting_1 at h
  refine g_iload_n hC dX2_fitting_4 rfl ?_
  refine g_aload_n hC dX2_fitting_5 rfl ?_
  obtain ⟨ho1, h⟩ := gd_some h
  obtain ⟨q2, hq3, h⟩ := Option.bind_eq_some_iff.mp h
  refine g_getr (k := 2) (q := q2) hC ck_X2 (by decide) tw_146 rfl (by decide) dX2_fitting_6 ho1 hq3 ?_
  obtain ⟨ho6, h⟩ := gd_some h
  obtain ⟨r7, S5, hr4, h⟩ := bd2_some h
  refine g_callV (rest := [.int x3]) hC mi_X8_count (k_X8_count hr4) ck_X8.1 (by decide) ho6 tw_553 tw_452 tw_453 dX2_fitting_9 rfl rfl ⟨by decide, by decide⟩ (Nat.le_of_ble_eq_true rfl) ⟨by decide, by decide⟩ ?_
  refine g_icmp_ge (tgt := 40) hC dX2_fitting_12 (by decide) (fun hc8 => ?_) (fun hc8 => ?_)
  · rw [if_pos hc8] at h
    refine g_iload_n hC dX2_fitting_40 rfl ?_
    refine g_aload_n hC dX2_fitting_41 rfl ?_
    obtain ⟨ho9, h⟩ := gd_some h
    refine g_geti (k := 11) hC ck_X2 (by decide) tw_155 rfl (by decide) dX2_fitting_42 ho9 ?_
    refine g_iand hC dX2_fitting_45 ?_
    cases h
    subst hk
    exact g_iret hC hR dX2_fitting_46 (by decide) (by decide)
  · rw [if_neg hc8] at h
    refine g_aload_n hC dX2_fitting_15 rfl ?_
    obtain ⟨ho10, h⟩ := gd_some h
    obtain ⟨q11, hq12, h⟩ := Option.bind_eq_some_iff.mp h
    refine g_getr (k := 3) (q := q11) hC ck_X2 (by decide) tw_147 rfl (by decide) dX2_fitting_16 ho10 hq12 ?_
    refine g_iload_n hC dX2_fitting_19 rfl ?_
    refine g_iload_n hC dX2_fitting_20 rfl ?_
    obtain ⟨ho15, h⟩ := gd_some h
    obtain ⟨r16, S14, hr13, h⟩ := bd2_some h
    refine g_callV (rest := []) hC mi_X0_fits (k_X0_fits hr13) ck_X0.1 (by decide) ho15 tw_567 tw_489 tw_490 dX2_fitting_21 rfl rfl ⟨by decide, by decide⟩ (Nat.le_of_ble_eq_true rfl) ⟨by decide, by decide⟩ ?_
    refine g_if_eq (tgt := 34) hC dX2_fitting_24 (by decide) (fun hc17 => ?_) (fun hc17 => ?_)
    · rw [if_pos hc17] at h
      refine g_iinc (v := (1 : Int32)) (L' := [(3, .int (x3 + (1 : Int32))), (0, .ref x0), (1, .int x1), (2, .int x2)]) hC dX2_fitting_34 rfl (by decide) (by decide) rfl ?_
      refine g_goto (tgt := 4) hC dX2_fitting_37 (by decide) ?_
      cases h
      refine g_pick (L' := [(0, .ref x0), (1, .int x1), (2, .int x2), (3, .int (x3 + (1 : Int32)))]) [1, 2, 3, 0] rfl ?_
      exact hk _ _ _ _ _ rfl
    · rw [if_neg hc17] at h
      refine g_iload_n hC dX2_fitting_27 rfl ?_
      refine g_iload_n hC dX2_fitting_28 rfl ?_
      obtain ⟨r20, S19, hr18, h⟩ := bd2_some h
      refine g_callS (rest := [.int x2]) hC mi_X2_bitOf (k_X2_bitOf hr18) tw_555 tw_556 dX2_fitting_29 rfl rfl ⟨by decide, by decide⟩ (Nat.le_of_ble_eq_true rfl) ⟨by decide, by decide⟩ ?_
      refine g_ior hC dX2_fitting_32 ?_
      refine g_istore_n (L' := [(2, .int (x2 ||| r20)), (0, .ref x0), (1, .int x1), (3, .int x3)]) hC dX2_fitting_33 (by decide) rfl ?_
      refine g_iinc (v := (1 : Int32)) (L' := [(3, .int (x3 + (1 : Int32))), (2, .int (x2 ||| r20)), (0, .ref x0), (1, .int x1)]) hC dX2_fitting_34 rfl (by decide) (by decide) rfl ?_
      refine g_goto (tgt := 4) hC dX2_fitting_37 (by decide) ?_
      cases h
      refine g_pick (L' := [(0, .ref x0), (1, .int x1), (2, .int (x2 ||| r20)), (3, .int (x3 + (1 : Int32)))]) [2, 3, 1, 0] rfl ?_
      exact hk _ _ _ _ _ rfl
theorem w_X2_fitting {b : Bd} {r : Int32 × Wd} (hC : CX b yX2_fitting.cls cX2_fitting 4 { frames := 3, cells := 0, slots := 0, locals := 66 }) (hin : yX2_fitting.name = "<init>" → b.2.2.2.2.2.2.2.2.1.name = "<init>") (hR : RT b (some .int) (some (.int r.1)) r.2 0 0) {s : Cs} {c : (Int32 × Wd) ⊕ Cs} (h : B_X2_fitting s = some c) (hk : N_X2_fitting b r c) : ∀ pc L S kc ks, P_X2_fitting s = some (pc, L, S, kc, ks) → G b pc L [] S kc ks := by
  intro pc L S kc ks hp
  unfold B_X2_fitting at h
  split at h
  · cases hp
    exact w_X2_fitting_0 hC hin hR h hk
  · cases hp
    exact w_X2_fitting_1 hC hin hR h hk
  · cases h
theorem k_X2_fitting {S : Wd} {a0 : Nat} {a1 : Int32} {r : Int32} {S' : Wd} (h : f_X2_fitting S a0 a1 = some (r, S')) : Sp yX2_fitting cX2_fitting 4 (some .int) 3 66 0 0 [.ref a0, .int a1] S (some (.int r)) S' := by
  unfold f_X2_fitting at h
  refine Sp.of (by decide +kernel) (Nat.le_of_ble_eq_true rfl) ?_
  intro b hC hin hR
  exact ru_ind (P := fun s q0 => q0 = (r, S') → ∀ pc L S kc ks, P_X2_fitting s = some (pc, L, S, kc, ks) → G b pc L [] S kc ks) (fun s q0 hB e => w_X2_fitting (r := (r, S')) hC hin hR hB e) (fun s s' q0 hB ih e => w_X2_fitting (r := (r, S')) hC hin hR hB (ih e)) h rfl _ _ _ _ _ rfl

theorem mi_X2_addRow : MI yX2_addRow cX2_addRow 3 none 2 := ⟨tw_573, tw_7, by decide +kernel, by decide +kernel, by decide +kernel⟩
noncomputable def f_X2_addRow (S : Wd) (a0 : Nat) (a1 : Int32) (a2 : Int32) : Option (Wd) := gd (ob S a0 2) (if (65 : Int32) ≤ (wI S a0 10) then (some S) else (gd (ob S a0 2) (Option.bind (wO S a0 7) (fun q4 => gd (ob S a0 2) (gd (ix S q4 100 (wI S a0 10)) (ltS (sI S q4 (wI S a0 10).toNatClampNeg a1) (fun S8 => gd (ob S8 a0 2) (Option.bind (wO S8 a0 8) (fun q11 => gd (ob S8 a0 2) (bd2 (f_X2_loadsOf S8 a1) (fun r16 S15 => gd (ix S15 q11 100 (wI S8 a0 10)) (ltS (sI S15 q11 (wI S8 a0 10).toNatClampNeg r16) (fun S18 => gd (ob S18 a0 2) (Option.bind (wO S18 a0 9) (fun q21 => gd (ob S18 a0 2) (gd (ix S18 q21 100 (wI S18 a0 10)) (ltS (sI S18 q21 (wI S18 a0 10).toNatClampNeg a2) (fun S25 => gd (ob S25 a0 2) (gd (ob S25 a0 2) (ltS (sI S25 a0 10 ((wI S25 a0 10) + (1 : Int32))) (fun S29 => some S29)))))))))))))))))))))
set_option maxRecDepth 100000 in
set_option maxHeartbeats 4000000 in
theorem k_X2_addRow {S : Wd} {a0 : Nat} {a1 : Int32} {a2 : Int32} {S' : Wd} (h : f_X2_addRow S a0 a1 a2 = some S') : Sp yX2_addRow cX2_addRow 3 none 2 40 0 0 [.ref a0, .int a1, .int a2] S none S' := by
  unfold f_X2_addRow at h
  refine Sp.of (by decide +kernel) (Nat.le_of_ble_eq_true rfl) ?_
  intro b hC hin hR
  show G b 0 [(0, .ref a0), (1, .int a1), (2, .int a2)] [] S 0 0
  refine g_aload_n hC dX2_addRow_0 rfl ?_
  obtain ⟨ho1, h⟩ := gd_some h
  refine g_geti (k := 10) hC ck_X2 (by decide) tw_154 rfl (by decide) dX2_addRow_1 ho1 ?_
  refine g_bipush (v := (65 : Int32)) hC dX2_addRow_4 (by decide) ?_
  refine g_icmp_ge (tgt := 52) hC dX2_addRow_6 (by decide) (fun hc2 => ?_) (fun hc2 => ?_)
  · rw [if_pos hc2] at h
    cases h
    exact g_vret hC hR dX2_addRow_52 (by decide) (by decide)
  · rw [if_neg hc2] at h
    refine g_aload_n hC dX2_addRow_9 rfl ?_
    obtain ⟨ho3, h⟩ := gd_some h
    obtain ⟨q4, hq5, h⟩ := Option.bind_eq_some_iff.mp h
    refine g_getr (k := 7) (q := q4) hC ck_X2 (by decide) tw_151 rfl (by decide) dX2_addRow_10 ho3 hq5 ?_
    refine g_aload_n hC dX2_addRow_13 rfl ?_
    obtain ⟨ho6, h⟩ := gd_some h
    refine g_geti (k := 10) hC ck_X2 (by decide) tw_154 rfl (by decide) dX2_addRow_14 ho6 ?_
    refine g_iload_n hC dX2_addRow_17 rfl ?_
    obtain ⟨hx7, h⟩ := gd_some h
    refine g_iast hC dX2_addRow_18 hx7.1 hx7.2 ?_
    refine g_name (fun S8 eS9 => ?_)
    have h := ltS_use eS9 h
    refine g_aload_n hC dX2_addRow_19 rfl ?_
    obtain ⟨ho10, h⟩ := gd_some h
    obtain ⟨q11, hq12, h⟩ := Option.bind_eq_some_iff.mp h
    refine g_getr (k := 8) (q := q11) hC ck_X2 (by decide) tw_152 rfl (by decide) dX2_addRow_20 ho10 hq12 ?_
    refine g_aload_n hC dX2_addRow_23 rfl ?_
    obtain ⟨ho13, h⟩ := gd_some h
    refine g_geti (k := 10) hC ck_X2 (by decide) tw_154 rfl (by decide) dX2_addRow_24 ho13 ?_
    refine g_iload_n hC dX2_addRow_27 rfl ?_
    obtain ⟨r16, S15, hr14, h⟩ := bd2_some h
    refine g_callS (rest := [.int (wI S8 a0 10), .ref q11]) hC mi_X2_loadsOf (k_X2_loadsOf hr14) tw_574 tw_575 dX2_addRow_28 rfl rfl ⟨by decide, by decide⟩ (Nat.le_of_ble_eq_true rfl) ⟨by decide, by decide⟩ ?_
    obtain ⟨hx17, h⟩ := gd_some h
    refine g_iast hC dX2_addRow_31 hx17.1 hx17.2 ?_
    refine g_name (fun S18 eS19 => ?_)
    have h := ltS_use eS19 h
    refine g_aload_n hC dX2_addRow_32 rfl ?_
    obtain ⟨ho20, h⟩ := gd_some h
    obtain ⟨q21, hq22, h⟩ := Option.bind_eq_some_iff.mp h
    refine g_getr (k := 9) (q := q21) hC ck_X2 (by decide) tw_153 rfl (by decide) dX2_addRow_33 ho20 hq22 ?_
    refine g_aload_n hC dX2_addRow_36 rfl ?_
    obtain ⟨ho23, h⟩ := gd_some h
    refine g_geti (k := 10) hC ck_X2 (by decide) tw_154 rfl (by decide) dX2_addRow_37 ho23 ?_
    refine g_iload_n hC dX2_addRow_40 rfl ?_
    obtain ⟨hx24, h⟩ := gd_some h
    refine g_iast hC dX2_addRow_41 hx24.1 hx24.2 ?_
    refine g_name (fun S25 eS26 => ?_)
    have h := ltS_use eS26 h
    refine g_aload_n hC dX2_addRow_42 rfl ?_
    refine g_dup hC dX2_addRow_43 rfl ?_
    obtain ⟨ho27, h⟩ := gd_some h
    refine g_geti (k := 10) hC ck_X2 (by decide) tw_154 rfl (by decide) dX2_addRow_44 ho27 ?_
    refine g_iconst (v := (1 : Int32)) hC dX2_addRow_47 (by decide) ?_
    refine g_iadd hC dX2_addRow_48 ?_
    obtain ⟨ho28, h⟩ := gd_some h
    refine g_puti (k := 10) hC ck_X2 (by decide) tw_154 rfl (by decide) rfl rfl dX2_addRow_49 ho28 ?_
    refine g_name (fun S29 eS30 => ?_)
    have h := ltS_use eS30 h
    cases h
    exact g_vret hC hR dX2_addRow_52 (by decide) (by decide)

theorem mi_X2_rowBy : MI yX2_rowBy cX2_rowBy 2 (some .int) 2 := ⟨tw_585, tw_7, by decide +kernel, by decide +kernel, by decide +kernel⟩
noncomputable def f_X2_rowBy (S : Wd) (a0 : Int32) (a1 : Int32) : Option (Int32 × Wd) := some (((((100 : Int32) * (a0 + (1 : Int32))) + a1) + (1 : Int32)), S)
set_option maxRecDepth 100000 in
set_option maxHeartbeats 4000000 in
theorem k_X2_rowBy {S : Wd} {a0 : Int32} {a1 : Int32} {r : Int32} {S' : Wd} (h : f_X2_rowBy S a0 a1 = some (r, S')) : Sp yX2_rowBy cX2_rowBy 2 (some .int) 0 0 0 0 [.int a0, .int a1] S (some (.int r)) S' := by
  unfold f_X2_rowBy at h
  refine Sp.of (by decide +kernel) (Nat.le_of_ble_eq_true rfl) ?_
  intro b hC hin hR
  show G b 0 [(0, .int a0), (1, .int a1)] [] S 0 0
  refine g_bipush (v := (100 : Int32)) hC dX2_rowBy_0 (by decide) ?_
  refine g_iload_n hC dX2_rowBy_2 rfl ?_
  refine g_iconst (v := (1 : Int32)) hC dX2_rowBy_3 (by decide) ?_
  refine g_iadd hC dX2_rowBy_4 ?_
  refine g_imul hC dX2_rowBy_5 ?_
  refine g_iload_n hC dX2_rowBy_6 rfl ?_
  refine g_iadd hC dX2_rowBy_7 ?_
  refine g_iconst (v := (1 : Int32)) hC dX2_rowBy_8 (by decide) ?_
  refine g_iadd hC dX2_rowBy_9 ?_
  cases h
  exact g_iret hC hR dX2_rowBy_10 (by decide) (by decide)

theorem mi_X2_gatherRows : MI yX2_gatherRows cX2_gatherRows 6 none 1 := ⟨tw_562, tw_7, by decide +kernel, by decide +kernel, by decide +kernel⟩
noncomputable def B_X2_gatherRows_0 (S : Wd) (a0 : Nat) (a1 : Int32) : Option ((Wd) ⊕ Cs) := gd (ob S a0 2) (bd2 (f_X2_fitting S a0 a1) (fun r4 S2 => gd (ob S2 a0 2) (Option.bind (wO S2 a0 3) (fun q6 => gd (ob S2 q6 0) (bd2 (f_X0_run S2 q6 a1 (-1 : Int32) (-1 : Int32)) (fun r11 S9 => if r11 = 0 then (gd (ob S9 a0 2) (Option.bind (wO S9 a0 3) (fun q20 => gd (ob S9 q20 0) (bd2 (f_X0_value S9 q20) (fun r25 S23 => gd (ob S23 a0 2) (ltS (sI S23 a0 10 (0 : Int32)) (fun S27 => gd (ob S27 a0 2) (Option.bind (f_X2_addRow S27 a0 (0 : Int32) r25) (fun S30 => some (.inr (1, [a0], [a1, r4, r25, (0 : Int32)], S30))))))))))) else (gd (ob S9 a0 2) (ltS (sI S9 a0 10 (0 : Int32)) (fun S14 => gd (ob S14 a0 2) (Option.bind (f_X2_addRow S14 a0 (0 : Int32) (0 : Int32)) (fun S17 => some (.inr (1, [a0], [a1, r4, (0 : Int32), (0 : Int32)], S17)))))))))))))
noncomputable def B_X2_gatherRows_1 (S : Wd) (x0 : Nat) (x1 : Int32) (x2 : Int32) (x3 : Int32) (x4 : Int32) : Option ((Wd) ⊕ Cs) := gd (ob S x0 2) (Option.bind (wO S x0 2) (fun q33 => gd (ob S q33 8) (bd2 (f_X8_count S q33) (fun r38 S36 => if r38 ≤ x4 then (some (.inl S36)) else (some (.inr (2, [x0], [x1, x2, x3, x4, (-1 : Int32)], S36)))))))
noncomputable def B_X2_gatherRows_2 (S : Wd) (x0 : Nat) (x1 : Int32) (x2 : Int32) (x3 : Int32) (x4 : Int32) (x5 : Int32) : Option ((Wd) ⊕ Cs) := gd (ob S x0 2) (Option.bind (wO S x0 2) (fun q41 => gd (ob S q41 8) (bd2 (f_X8_count S q41) (fun r46 S44 => if r46 ≤ x5 then (some (.inr (1, [x0], [x1, x2, x3, (x4 + (1 : Int32))], S44))) else (if x4 = x5 then (some (.inr (2, [x0], [x1, x2, x3, x4, (x5 + (1 : Int32))], S44))) else (bd2 (f_X2_bitOf S44 x4) (fun r51 S50 => if (r51 &&& x2) = 0 then (some (.inr (2, [x0], [x1, x2, x3, x4, (x5 + (1 : Int32))], S50))) else (bd2 (f_X2_bitOf S50 x5) (fun r55 S54 => if (r55 &&& (x2 ^^^ (-1 : Int32))) = 0 then (gd (ob S54 x0 2) (Option.bind (wO S54 x0 3) (fun q58 => gd (ob S54 q58 0) (bd2 (f_X0_run S54 q58 x1 x4 x5) (fun r63 S61 => if r63 = 0 then (gd (ob S61 x0 2) (Option.bind (wO S61 x0 3) (fun q66 => gd (ob S61 q66 0) (bd2 (f_X0_value S61 q66) (fun r71 S69 => if r71 ≤ x3 then (some (.inr (2, [x0], [x1, x2, x3, x4, (x5 + (1 : Int32))], S69))) else (bd2 (f_X2_rowBy S69 x4 x5) (fun r75 S74 => gd (ob S74 x0 2) (Option.bind (wO S74 x0 3) (fun q77 => gd (ob S74 q77 0) (bd2 (f_X0_value S74 q77) (fun r82 S80 => gd (ob S80 x0 2) (Option.bind (f_X2_addRow S80 x0 r75 r82) (fun S84 => some (.inr (2, [x0], [x1, x2, x3, x4, (x5 + (1 : Int32))], S84))))))))))))))) else (some (.inr (2, [x0], [x1, x2, x3, x4, (x5 + (1 : Int32))], S61)))))))) else (some (.inr (2, [x0], [x1, x2, x3, x4, (x5 + (1 : Int32))], S54))))))))))))
noncomputable def B_X2_gatherRows : Cs → Option ((Wd) ⊕ Cs)
  | (0, [a0], [a1], S) => B_X2_gatherRows_0 S a0 a1
  | (1, [x0], [x1, x2, x3, x4], S) => B_X2_gatherRows_1 S x0 x1 x2 x3 x4
  | (2, [x0], [x1, x2, x3, x4, x5], S) => B_X2_gatherRows_2 S x0 x1 x2 x3 x4 x5
  | _ => none
def P_X2_gatherRows : Cs → Option (Nat × List (Nat × Value) × Wd × Nat × Nat)
  | (0, [a0], [a1], S) => some (0, [(0, .ref a0), (1, .int a1)], S, 0, 0)
  | (1, [x0], [x1, x2, x3, x4], S) => some (45, [(0, .ref x0), (1, .int x1), (2, .int x2), (3, .int x3), (4, .int x4)], S, 0, 0)
  | (2, [x0], [x1, x2, x3, x4, x5], S) => some (60, [(0, .ref x0), (1, .int x1), (2, .int x2), (3, .int x3), (4, .int x4), (5, .int x5)], S, 0, 0)
  | _ => none
noncomputable def f_X2_gatherRows (S : Wd) (a0 : Nat) (a1 : Int32) : Option (Wd) := ru B_X2_gatherRows (0, [a0], [a1], S)
abbrev N_X2_gatherRows (b : Bd) (r : Wd) (c : (Wd) ⊕ Cs) : Prop := match c with
  | .inl r' => r' = r
  | .inr s' => ∀ pc L S kc ks, P_X2_gatherRows s' = some (pc, L, S, kc, ks) → G b pc L [] S kc ks
set_option maxRecDepth 100000 in
set_option maxHeartbeats 4000000 in
theorem w_X2_gatherRows_0 {b : Bd} {r : Wd} (hC : CX b yX2_gatherRows.cls cX2_gatherRows 6 { frames := 4, cells := 0, slots := 0, locals := 91 }) (hin : yX2_gatherRows.name = "<init>" → b.2.2.2.2.2.2.2.2.1.name = "<init>") (hR : RT b none none r 0 0) {S : Wd} {a0 : Nat} {a1 : Int32} {c : (Wd) ⊕ Cs} (h : B_X2_gatherRows_0 S a0 a1 = some c) (hk : N_X2_gatherRows b r c) : G b 0 [(0, .ref a0), (1, .int a1)] [] S 0 0 := by
  unfold B_X2_gatherRows_0 at h
  refine g_aload_n hC dX2_gatherRows_0 rfl ?_
  refine g_iload_n hC dX2_gatherRows_1 rfl ?_
  obtain ⟨ho3, h⟩ := gd_some h
  obtain ⟨r4, S2, hr1, h⟩ := bd2_some h
  refine g_callV (rest := []) hC mi_X2_fitting (k_X2_fitting hr1) ck_X2.1 (by decide) ho3 tw_563 tw_565 ts_11 dX2_gatherRows_2 rfl rfl ⟨by decide, by decide⟩ (Nat.le_of_ble_eq_true rfl) ⟨by decide, by decide⟩ ?_
  refine g_istore_n (L' := [(2, .int r4), (0, .ref a0), (1, .int a1)]) hC dX2_gatherRows_5 (by decide) rfl ?_
  refine g_aload_n hC dX2_gatherRows_6 rfl ?_
  obtain ⟨ho5, h⟩ := gd_some h
  obtain ⟨q6, hq7, h⟩ := Option.bind_eq_some_iff.mp h
  refine g_getr (k := 3) (q := q6) hC ck_X2 (by decide) tw_147 rfl (by decide) dX2_gatherRows_7 ho5 hq7 ?_
  refine g_iload_n hC dX2_gatherRows_10 rfl ?_
  refine g_iconst (v := (-1 : Int32)) hC dX2_gatherRows_11 (by decide) ?_
  refine g_iconst (v := (-1 : Int32)) hC dX2_gatherRows_12 (by decide) ?_
  obtain ⟨ho10, h⟩ := gd_some h
  obtain ⟨r11, S9, hr8, h⟩ := bd2_some h
  refine g_callV (rest := []) hC mi_X0_run (k_X0_run hr8) ck_X0.1 (by decide) ho10 tw_568 tw_509 tw_510 dX2_gatherRows_13 rfl rfl ⟨by decide, by decide⟩ (Nat.le_of_ble_eq_true rfl) ⟨by decide, by decide⟩ ?_
  refine g_if_ne (tgt := 29) hC dX2_gatherRows_16 (by decide) (fun hc12 => ?_) (fun hc12 => ?_)
  · rw [if_neg hc12] at h
    refine g_iconst (v := (0 : Int32)) hC dX2_gatherRows_29 (by decide) ?_
    refine g_istore_n (L' := [(3, .int (0 : Int32)), (2, .int r4), (0, .ref a0), (1, .int a1)]) hC dX2_gatherRows_30 (by decide) rfl ?_
    refine g_aload_n hC dX2_gatherRows_31 rfl ?_
    refine g_iconst (v := (0 : Int32)) hC dX2_gatherRows_32 (by decide) ?_
    obtain ⟨ho13, h⟩ := gd_some h
    refine g_puti (k := 10) hC ck_X2 (by decide) tw_154 rfl (by decide) rfl rfl dX2_gatherRows_33 ho13 ?_
    refine g_name (fun S14 eS15 => ?_)
    have h := ltS_use eS15 h
    refine g_aload_n hC dX2_gatherRows_36 rfl ?_
    refine g_iconst (v := (0 : Int32)) hC dX2_gatherRows_37 (by decide) ?_
    refine g_iload_n hC dX2_gatherRows_38 rfl ?_
    obtain ⟨ho18, h⟩ := gd_some h
    obtain ⟨S17, hr16, h⟩ := Option.bind_eq_some_iff.mp h
    refine g_callV (rest := []) hC mi_X2_addRow (k_X2_addRow hr16) ck_X2.1 (by decide) ho18 tw_570 tw_572 ts_12 dX2_gatherRows_39 rfl rfl ⟨by decide, by decide⟩ (Nat.le_of_ble_eq_true rfl) ⟨by decide, by decide⟩ ?_
    refine g_iconst (v := (0 : Int32)) hC dX2_gatherRows_42 (by decide) ?_
    refine g_istore (L' := [(4, .int (0 : Int32)), (3, .int (0 : Int32)), (2, .int r4), (0, .ref a0), (1, .int a1)]) hC dX2_gatherRows_43 (by decide) rfl ?_
    cases h
    refine g_pick (L' := [(0, .ref a0), (1, .int a1), (2, .int r4), (3, .int (0 : Int32)), (4, .int (0 : Int32))]) [3, 4, 2, 1, 0] rfl ?_
    exact hk _ _ _ _ _ rfl
  · rw [if_pos hc12] at h
    refine g_aload_n hC dX2_gatherRows_19 rfl ?_
    obtain ⟨ho19, h⟩ := gd_some h
    obtain ⟨q20, hq21, h⟩ := Option.bind_eq_some_iff.mp h
    refine g_getr (k := 3) (q := q20) hC ck_X2 (by decide) tw_147 rfl (by decide) dX2_gatherRows_20 ho19 hq21 ?_
    obtain ⟨ho24, h⟩ := gd_some h
    obtain ⟨r25, S23, hr22, h⟩ := bd2_some h
    refine g_callV (rest := []) hC mi_X0_value (k_X0_value hr22) ck_X0.1 (by decide) ho24 tw_569 tw_541 tw_542 dX2_gatherRows_23 rfl rfl ⟨by decide, by decide⟩ (Nat.le_of_ble_eq_true rfl) ⟨by decide, by decide⟩ ?_
    refine g_goto (tgt := 30) hC dX2_gatherRows_26 (by decide) ?_
    refine g_istore_n (L' := [(3, .int r25), (2, .int r4), (0, .ref a0), (1, .int a1)]) hC dX2_gatherRows_30 (by decide) rfl ?_
    refine g_aload_n hC dX2_gatherRows_31 rfl ?_
    refine g_iconst (v := (0 : Int32)) hC dX2_gatherRows_32 (by decide) ?_
    obtain ⟨ho26, h⟩ := gd_some h
    refine g_puti (k := 10) hC ck_X2 (by decide) tw_154 rfl (by decide) rfl rfl dX2_gatherRows_33 ho26 ?_
    refine g_name (fun S27 eS28 => ?_)
    have h := ltS_use eS28 h
    refine g_aload_n hC dX2_gatherRows_36 rfl ?_
    refine g_iconst (v := (0 : Int32)) hC dX2_gatherRows_37 (by decide) ?_
    refine g_iload_n hC dX2_gatherRows_38 rfl ?_
    obtain ⟨ho31, h⟩ := gd_some h
    obtain ⟨S30, hr29, h⟩ := Option.bind_eq_some_iff.mp h
    refine g_callV (rest := []) hC mi_X2_addRow (k_X2_addRow hr29) ck_X2.1 (by decide) ho31 tw_570 tw_572 ts_12 dX2_gatherRows_39 rfl rfl ⟨by decide, by decide⟩ (Nat.le_of_ble_eq_true rfl) ⟨by decide, by decide⟩ ?_
    refine g_iconst (v := (0 : Int32)) hC dX2_gatherRows_42 (by decide) ?_
    refine g_istore (L' := [(4, .int (0 : Int32)), (3, .int r25), (2, .int r4), (0, .ref a0), (1, .int a1)]) hC dX2_gatherRows_43 (by decide) rfl ?_
    cases h
    refine g_pick (L' := [(0, .ref a0), (1, .int a1), (2, .int r4), (3, .int r25), (4, .int (0 : Int32))]) [3, 4, 2, 1, 0] rfl ?_
    exact hk _ _ _ _ _ rfl
set_option maxRecDepth 100000 in
set_option maxHeartbeats 4000000 in
theorem w_X2_gatherRows_1 {b : Bd} {r : Wd} (hC : CX b yX2_gatherRows.cls cX2_gatherRows 6 { frames := 4, cells := 0, slots := 0, locals := 91 }) (hin : yX2_gatherRows.name = "<init>" → b.2.2.2.2.2.2.2.2.1.name = "<init>") (hR : RT b none none r 0 0) {S : Wd} {x0 : Nat} {x1 : Int32} {x2 : Int32} {x3 : Int32} {x4 : Int32} {c : (Wd) ⊕ Cs} (h : B_X2_gatherRows_1 S x0 x1 x2 x3 x4 = some c) (hk : N_X2_gatherRows b r c) : G b 45 [(0, .ref x0), (1, .int x1), (2, .int x2), (3, .int x3), (4, .int x4)] [] S 0 0 := by
  unfold B_X2_gatherRows_1 at h
  refine g_iload hC dX2_gatherRows_45 rfl ?_
  refine g_aload_n hC dX2_gatherRows_47 rfl ?_
  obtain ⟨ho32, h⟩ := gd_some h
  obtain ⟨q33, hq34, h⟩ := Option.bind_eq_some_iff.mp h
  refine g_getr (k := 2) (q := q33) hC ck_X2 (by decide) tw_146 rfl (by decide) dX2_gatherRows_48 ho32 hq34 ?_
  obtain ⟨ho37, h⟩ := gd_some h
  obtain ⟨r38, S36, hr35, h⟩ := bd2_some h
  refine g_callV (rest := [.int x4]) hC mi_X8_count (k_X8_count hr35) ck_X8.1 (by decide) ho37 tw_553 tw_452 tw_453 dX2_gatherRows_51 rfl rfl ⟨by decide, by decide⟩ (Nat.le_of_ble_eq_true rfl) ⟨by decide, by decide⟩ ?_
  refine g_icmp_ge (tgt := 160) hC dX2_gatherRows_54 (by decide) (fun hc39 => ?_) (fun hc39 => ?_)
  · rw [if_pos hc39] at h
    cases h
    subst hk
    exact g_vret hC hR dX2_gatherRows_160 (by decide) (by decide)
  · rw [if_neg hc39] at h
    refine g_iconst (v := (-1 : Int32)) hC dX2_gatherRows_57 (by decide) ?_
    refine g_istore (L' := [(5, .int (-1 : Int32)), (0, .ref x0), (1, .int x1), (2, .int x2), (3, .int x3), (4, .int x4)]) hC dX2_gatherRows_58 (by decide) rfl ?_
    cases h
    refine g_pick (L' := [(0, .ref x0), (1, .int x1), (2, .int x2), (3, .int x3), (4, .int x4), (5, .int (-1 : Int32))]) [1, 2, 3, 4, 5, 0] rfl ?_
    exact hk _ _ _ _ _ rfl
set_option maxRecDepth 100000 in
set_option maxHeartbeats 4000000 in
theorem w_X2_gatherRows_2 {b : Bd} {r : Wd} (hC : CX b yX2_gatherRows.cls cX2_gatherRows 6 { frames := 4, cells := 0, slots := 0, locals := 91 }) (hin : yX2_gatherRows.name = "<init>" → b.2.2.2.2.2.2.2.2.1.name = "<init>") (hR : RT b none none r 0 0) {S : Wd} {x0 : Nat} {x1 : Int32} {x2 : Int32} {x3 : Int32} {x4 : Int32} {x5 : Int32} {c : (Wd) ⊕ Cs} (h : B_X2_gatherRows_2 S x0 x1 x2 x3 x4 x5 = some c) (hk : N_X2_gatherRows b r c) : G b 60 [(0, .ref x0), (1, .int x1), (2, .int x2), (3, .int x3), (4, .int x4), (5, .int x5)] [] S 0 0 := by
  unfold B_X2_gatherRows_2 at h
  refine g_iload hC dX2_gatherRows_60 rfl ?_
  refine g_aload_n hC dX2_gatherRows_62 rfl ?_
  obtain ⟨ho40, h⟩ := gd_some h
  obtain ⟨q41, hq42, h⟩ := Option.bind_eq_some_iff.mp h
  refine g_getr (k := 2) (q := q41) hC ck_X2 (by decide) tw_146 rfl (by decide) dX2_gatherRows_63 ho40 hq42 ?_
  obtain ⟨ho45, h⟩ := gd_some h
  obtain ⟨r46, S44, hr43, h⟩ := bd2_some h
  refine g_callV (rest := [.int x5]) hC mi_X8_count (k_X8_count hr43) ck_X8.1 (by decide) ho45 tw_553 tw_452 tw_453 dX2_gatherRows_66 rfl rfl ⟨by decide, by decide⟩ (Nat.le_of_ble_eq_true rfl) ⟨by decide, by decide⟩ ?_
  refine g_icmp_ge (tgt := 154) hC dX2_gatherRows_69 (by decide) (fun hc47 => ?_) (fun hc47 => ?_)
  · rw [if_pos hc47] at h
    refine g_iinc (v := (1 : Int32)) (L' := [(4, .int (x4 + (1 : Int32))), (0, .ref x0), (1, .int x1), (2, .int x2), (3, .int x3), (5, .int x5)]) hC dX2_gatherRows_154 rfl (by decide) (by decide) rfl ?_
    refine g_goto (tgt := 45) hC dX2_gatherRows_157 (by decide) ?_
    cases h
    refine g_pick (L' := [(0, .ref x0), (1, .int x1), (2, .int x2), (3, .int x3), (4, .int (x4 + (1 : Int32)))]) [1, 2, 3, 4, 0] rfl ?_
    exact hk _ _ _ _ _ rfl
  · rw [if_neg hc47] at h
    refine g_iload hC dX2_gatherRows_72 rfl ?_
    refine g_iload hC dX2_gatherRows_74 rfl ?_
    refine g_icmp_eq (tgt := 148) hC dX2_gatherRows_76 (by decide) (fun hc48 => ?_) (fun hc48 => ?_)
    · rw [if_pos hc48] at h
      refine g_iinc (v := (1 : Int32)) (L' := [(5, .int (x5 + (1 : Int32))), (0, .ref x0), (1, .int x1), (2, .int x2), (3, .int x3), (4, .int x4)]) hC dX2_gatherRows_148 rfl (by decide) (by decide) rfl ?_
      refine g_goto (tgt := 60) hC dX2_gatherRows_151 (by decide) ?_
      cases h
      refine g_pick (L' := [(0, .ref x0), (1, .int x1), (2, .int x2), (3, .int x3), (4, .int x4), (5, .int (x5 + (1 : Int32)))]) [1, 2, 3, 4, 5, 0] rfl ?_
      exact hk _ _ _ _ _ rfl
    · rw [if_neg hc48] at h
      refine g_iload hC dX2_gatherRows_79 rfl ?_
      obtain ⟨r51, S50, hr49, h⟩ := bd2_some h
      refine g_callS (rest := []) hC mi_X2_bitOf (k_X2_bitOf hr49) tw_555 tw_556 dX2_gatherRows_81 rfl rfl ⟨by decide, by decide⟩ (Nat.le_of_ble_eq_true rfl) ⟨by decide, by decide⟩ ?_
      refine g_iload_n hC dX2_gatherRows_84 rfl ?_
      refine g_iand hC dX2_gatherRows_85 ?_
      refine g_if_eq (tgt := 148) hC dX2_gatherRows_86 (by decide) (fun hc52 => ?_) (fun hc52 => ?_)
      · rw [if_pos hc52] at h
        refine g_iinc (v := (1 : Int32)) (L' := [(5, .int (x5 + (1 : Int32))), (0, .ref x0), (1, .int x1), (2, .int x2), (3, .int x3), (4, .int x4)]) hC dX2_gatherRows_148 rfl (by decide) (by decide) rfl ?_
        refine g_goto (tgt := 60) hC dX2_gatherRows_151 (by decide) ?_
        cases h
        refine g_pick (L' := [(0, .ref x0), (1, .int x1), (2, .int x2), (3, .int x3), (4, .int x4), (5, .int (x5 + (1 : Int32)))]) [1, 2, 3, 4, 5, 0] rfl ?_
        exact hk _ _ _ _ _ rfl
      · rw [if_neg hc52] at h
        refine g_iload hC dX2_gatherRows_89 rfl ?_
        obtain ⟨r55, S54, hr53, h⟩ := bd2_some h
        refine g_callS (rest := []) hC mi_X2_bitOf (k_X2_bitOf hr53) tw_555 tw_556 dX2_gatherRows_91 rfl rfl ⟨by decide, by decide⟩ (Nat.le_of_ble_eq_true rfl) ⟨by decide, by decide⟩ ?_
        refine g_iload_n hC dX2_gatherRows_94 rfl ?_
        refine g_iconst (v := (-1 : Int32)) hC dX2_gatherRows_95 (by decide) ?_
        refine g_ixor hC dX2_gatherRows_96 ?_
        refine g_iand hC dX2_gatherRows_97 ?_
        refine g_if_eq (tgt := 104) hC dX2_gatherRows_98 (by decide) (fun hc56 => ?_) (fun hc56 => ?_)
        · rw [if_pos hc56] at h
          refine g_aload_n hC dX2_gatherRows_104 rfl ?_
          obtain ⟨ho57, h⟩ := gd_some h
          obtain ⟨q58, hq59, h⟩ := Option.bind_eq_some_iff.mp h
          refine g_getr (k := 3) (q := q58) hC ck_X2 (by decide) tw_147 rfl (by decide) dX2_gatherRows_105 ho57 hq59 ?_
          refine g_iload_n hC dX2_gatherRows_108 rfl ?_
          refine g_iload hC dX2_gatherRows_109 rfl ?_
          refine g_iload hC dX2_gatherRows_111 rfl ?_
          obtain ⟨ho62, h⟩ := gd_some h
          obtain ⟨r63, S61, hr60, h⟩ := bd2_some h
          refine g_callV (rest := []) hC mi_X0_run (k_X0_run hr60) ck_X0.1 (by decide) ho62 tw_568 tw_509 tw_510 dX2_gatherRows_113 rfl rfl ⟨by decide, by decide⟩ (Nat.le_of_ble_eq_true rfl) ⟨by decide, by decide⟩ ?_
          refine g_if_ne (tgt := 148) hC dX2_gatherRows_116 (by decide) (fun hc64 => ?_) (fun hc64 => ?_)
          · rw [if_neg hc64] at h
            refine g_iinc (v := (1 : Int32)) (L' := [(5, .int (x5 + (1 : Int32))), (0, .ref x0), (1, .int x1), (2, .int x2), (3, .int x3), (4, .int x4)]) hC dX2_gatherRows_148 rfl (by decide) (by decide) rfl ?_
            refine g_goto (tgt := 60) hC dX2_gatherRows_151 (by decide) ?_
            cases h
            refine g_pick (L' := [(0, .ref x0), (1, .int x1), (2, .int x2), (3, .int x3), (4, .int x4), (5, .int (x5 + (1 : Int32)))]) [1, 2, 3, 4, 5, 0] rfl ?_
            exact hk _ _ _ _ _ rfl
          · rw [if_pos hc64] at h
            refine g_aload_n hC dX2_gatherRows_119 rfl ?_
            obtain ⟨ho65, h⟩ := gd_some h
            obtain ⟨q66, hq67, h⟩ := Option.bind_eq_some_iff.mp h
            refine g_getr (k := 3) (q := q66) hC ck_X2 (by decide) tw_147 rfl (by decide) dX2_gatherRows_120 ho65 hq67 ?_
            obtain ⟨ho70, h⟩ := gd_some h
            obtain ⟨r71, S69, hr68, h⟩ := bd2_some h
            refine g_callV (rest := []) hC mi_X0_value (k_X0_value hr68) ck_X0.1 (by decide) ho70 tw_569 tw_541 tw_542 dX2_gatherRows_123 rfl rfl ⟨by decide, by decide⟩ (Nat.le_of_ble_eq_true rfl) ⟨by decide, by decide⟩ ?_
            refine g_iload_n hC dX2_gatherRows_126 rfl ?_
            refine g_icmp_le (tgt := 148) hC dX2_gatherRows_127 (by decide) (fun hc72 => ?_) (fun hc72 => ?_)
            · rw [if_pos hc72] at h
              refine g_iinc (v := (1 : Int32)) (L' := [(5, .int (x5 + (1 : Int32))), (0, .ref x0), (1, .int x1), (2, .int x2), (3, .int x3), (4, .int x4)]) hC dX2_gatherRows_148 rfl (by decide) (by decide) rfl ?_
              refine g_goto (tgt := 60) hC dX2_gatherRows_151 (by decide) ?_
              cases h
              refine g_pick (L' := [(0, .ref x0), (1, .int x1), (2, .int x2), (3, .int x3), (4, .int x4), (5, .int (x5 + (1 : Int32)))]) [1, 2, 3, 4, 5, 0] rfl ?_
              exact hk _ _ _ _ _ rfl
            · rw [if_neg hc72] at h
              refine g_aload_n hC dX2_gatherRows_130 rfl ?_
              refine g_iload hC dX2_gatherRows_131 rfl ?_
              refine g_iload hC dX2_gatherRows_133 rfl ?_
              obtain ⟨r75, S74, hr73, h⟩ := bd2_some h
              refine g_callS (rest := [.ref x0]) hC mi_X2_rowBy (k_X2_rowBy hr73) tw_583 tw_584 dX2_gatherRows_135 rfl rfl ⟨by decide, by decide⟩ (Nat.le_of_ble_eq_true rfl) ⟨by decide, by decide⟩ ?_
              refine g_aload_n hC dX2_gatherRows_138 rfl ?_
              obtain ⟨ho76, h⟩ := gd_some h
              obtain ⟨q77, hq78, h⟩ := Option.bind_eq_some_iff.mp h
              refine g_getr (k := 3) (q := q77) hC ck_X2 (by decide) tw_147 rfl (by decide) dX2_gatherRows_139 ho76 hq78 ?_
              obtain ⟨ho81, h⟩ := gd_some h
              obtain ⟨r82, S80, hr79, h⟩ := bd2_some h
              refine g_callV (rest := [.int r75, .ref x0]) hC mi_X0_value (k_X0_value hr79) ck_X0.1 (by decide) ho81 tw_569 tw_541 tw_542 dX2_gatherRows_142 rfl rfl ⟨by decide, by decide⟩ (Nat.le_of_ble_eq_true rfl) ⟨by decide, by decide⟩ ?_
              obtain ⟨ho85, h⟩ := gd_some h
              obtain ⟨S84, hr83, h⟩ := Option.bind_eq_some_iff.mp h
              refine g_callV (rest := []) hC mi_X2_addRow (k_X2_addRow hr83) ck_X2.1 (by decide) ho85 tw_570 tw_572 ts_12 dX2_gatherRows_145 rfl rfl ⟨by decide, by decide⟩ (Nat.le_of_ble_eq_true rfl) ⟨by decide, by decide⟩ ?_
              refine g_iinc (v := (1 : Int32)) (L' := [(5, .int (x5 + (1 : Int32))), (0, .ref x0), (1, .int x1), (2, .int x2), (3, .int x3), (4, .int x4)]) hC dX2_gatherRows_148 rfl (by decide) (by decide) rfl ?_
              refine g_goto (tgt := 60) hC dX2_gatherRows_151 (by decide) ?_
              cases h
              refine g_pick (L' := [(0, .ref x0), (1, .int x1), (2, .int x2), (3, .int x3), (4, .int x4), (5, .int (x5 + (1 : Int32)))]) [1, 2, 3, 4, 5, 0] rfl ?_
              exact hk _ _ _ _ _ rfl
        · rw [if_neg hc56] at h
          refine g_goto (tgt := 148) hC dX2_gatherRows_101 (by decide) ?_
          refine g_iinc (v := (1 : Int32)) (L' := [(5, .int (x5 + (1 : Int32))), (0, .ref x0), (1, .int x1), (2, .int x2), (3, .int x3), (4, .int x4)]) hC dX2_gatherRows_148 rfl (by decide) (by decide) rfl ?_
          refine g_goto (tgt := 60) hC dX2_gatherRows_151 (by decide) ?_
          cases h
          refine g_pick (L' := [(0, .ref x0), (1, .int x1), (2, .int x2), (3, .int x3), (4, .int x4), (5, .int (x5 + (1 : Int32)))]) [1, 2, 3, 4, 5, 0] rfl ?_
          exact hk _ _ _ _ _ rfl
theorem w_X2_gatherRows {b : Bd} {r : Wd} (hC : CX b yX2_gatherRows.cls cX2_gatherRows 6 { frames := 4, cells := 0, slots := 0, locals := 91 }) (hin : yX2_gatherRows.name = "<init>" → b.2.2.2.2.2.2.2.2.1.name = "<init>") (hR : RT b none none r 0 0) {s : Cs} {c : (Wd) ⊕ Cs} (h : B_X2_gatherRows s = some c) (hk : N_X2_gatherRows b r c) : ∀ pc L S kc ks, P_X2_gatherRows s = some (pc, L, S, kc, ks) → G b pc L [] S kc ks := by
  intro pc L S kc ks hp
  unfold B_X2_gatherRows at h
  split at h
  · cases hp
    exact w_X2_gatherRows_0 hC hin hR h hk
  · cases hp
    exact w_X2_gatherRows_1 hC hin hR h hk
  · cases hp
    exact w_X2_gatherRows_2 hC hin hR h hk
  · cases h
theorem k_X2_gatherRows {S : Wd} {a0 : Nat} {a1 : Int32} {S' : Wd} (h : f_X2_gatherRows S a0 a1 = some S') : Sp yX2_gatherRows cX2_gatherRows 6 none 4 91 0 0 [.ref a0, .int a1] S none S' := by
  unfold f_X2_gatherRows at h
  refine Sp.of (by decide +kernel) (Nat.le_of_ble_eq_true rfl) ?_
  intro b hC hin hR
  exact ru_ind (P := fun s q0 => q0 = S' → ∀ pc L S kc ks, P_X2_gatherRows s = some (pc, L, S, kc, ks) → G b pc L [] S kc ks) (fun s q0 hB e => w_X2_gatherRows (r := S') hC hin hR hB e) (fun s s' q0 hB ih e => w_X2_gatherRows (r := S') hC hin hR hB (ih e)) h rfl _ _ _ _ _ rfl

theorem mi_J6_bitCount_0f7a4 : MI yJ6_bitCount_0f7a4 cJ6_bitCount_0f7a4 1 (some .int) 1 := ⟨tw_588, tw_17, by decide +kernel, by decide +kernel, by decide +kernel⟩
noncomputable def f_J6_bitCount_0f7a4 (S : Wd) (a0 : Int32) : Option (Int32 × Wd) := some (((((((((a0 - ((((a0).toUInt32 >>> (((1 : Int32)).toUInt32 &&& Int32.toUInt32 31)).toInt32) &&& (1431655765 : Int32))) &&& (858993459 : Int32)) + (((((a0 - ((((a0).toUInt32 >>> (((1 : Int32)).toUInt32 &&& Int32.toUInt32 31)).toInt32) &&& (1431655765 : Int32)))).toUInt32 >>> (((2 : Int32)).toUInt32 &&& Int32.toUInt32 31)).toInt32) &&& (858993459 : Int32))) + ((((((a0 - ((((a0).toUInt32 >>> (((1 : Int32)).toUInt32 &&& Int32.toUInt32 31)).toInt32) &&& (1431655765 : Int32))) &&& (858993459 : Int32)) + (((((a0 - ((((a0).toUInt32 >>> (((1 : Int32)).toUInt32 &&& Int32.toUInt32 31)).toInt32) &&& (1431655765 : Int32)))).toUInt32 >>> (((2 : Int32)).toUInt32 &&& Int32.toUInt32 31)).toInt32) &&& (858993459 : Int32)))).toUInt32 >>> (((4 : Int32)).toUInt32 &&& Int32.toUInt32 31)).toInt32)) &&& (252645135 : Int32)) + ((((((((a0 - ((((a0).toUInt32 >>> (((1 : Int32)).toUInt32 &&& Int32.toUInt32 31)).toInt32) &&& (1431655765 : Int32))) &&& (858993459 : Int32)) + (((((a0 - ((((a0).toUInt32 >>> (((1 : Int32)).toUInt32 &&& Int32.toUInt32 31)).toInt32) &&& (1431655765 : Int32)))).toUInt32 >>> (((2 : Int32)).toUInt32 &&& Int32.toUInt32 31)).toInt32) &&& (858993459 : Int32))) + ((((((a0 - ((((a0).toUInt32 >>> (((1 : Int32)).toUInt32 &&& Int32.toUInt32 31)).toInt32) &&& (1431655765 : Int32))) &&& (858993459 : Int32)) + (((((a0 - ((((a0).toUInt32 >>> (((1 : Int32)).toUInt32 &&& Int32.toUInt32 31)).toInt32) &&& (1431655765 : Int32)))).toUInt32 >>> (((2 : Int32)).toUInt32 &&& Int32.toUInt32 31)).toInt32) &&& (858993459 : Int32)))).toUInt32 >>> (((4 : Int32)).toUInt32 &&& Int32.toUInt32 31)).toInt32)) &&& (252645135 : Int32))).toUInt32 >>> (((8 : Int32)).toUInt32 &&& Int32.toUInt32 31)).toInt32)) + (((((((((a0 - ((((a0).toUInt32 >>> (((1 : Int32)).toUInt32 &&& Int32.toUInt32 31)).toInt32) &&& (1431655765 : Int32))) &&& (858993459 : Int32)) + (((((a0 - ((((a0).toUInt32 >>> (((1 : Int32)).toUInt32 &&& Int32.toUInt32 31)).toInt32) &&& (1431655765 : Int32)))).toUInt32 >>> (((2 : Int32)).toUInt32 &&& Int32.toUInt32 31)).toInt32) &&& (858993459 : Int32))) + ((((((a0 - ((((a0).toUInt32 >>> (((1 : Int32)).toUInt32 &&& Int32.toUInt32 31)).toInt32) &&& (1431655765 : Int32))) &&& (858993459 : Int32)) + (((((a0 - ((((a0).toUInt32 >>> (((1 : Int32)).toUInt32 &&& Int32.toUInt32 31)).toInt32) &&& (1431655765 : Int32)))).toUInt32 >>> (((2 : Int32)).toUInt32 &&& Int32.toUInt32 31)).toInt32) &&& (858993459 : Int32)))).toUInt32 >>> (((4 : Int32)).toUInt32 &&& Int32.toUInt32 31)).toInt32)) &&& (252645135 : Int32)) + ((((((((a0 - ((((a0).toUInt32 >>> (((1 : Int32)).toUInt32 &&& Int32.toUInt32 31)).toInt32) &&& (1431655765 : Int32))) &&& (858993459 : Int32)) + (((((a0 - ((((a0).toUInt32 >>> (((1 : Int32)).toUInt32 &&& Int32.toUInt32 31)).toInt32) &&& (1431655765 : Int32)))).toUInt32 >>> (((2 : Int32)).toUInt32 &&& Int32.toUInt32 31)).toInt32) &&& (858993459 : Int32))) + ((((((a0 - ((((a0).toUInt32 >>> (((1 : Int32)).toUInt32 &&& Int32.toUInt32 31)).toInt32) &&& (1431655765 : Int32))) &&& (858993459 : Int32)) + (((((a0 - ((((a0).toUInt32 >>> (((1 : Int32)).toUInt32 &&& Int32.toUInt32 31)).toInt32) &&& (1431655765 : Int32)))).toUInt32 >>> (((2 : Int32)).toUInt32 &&& Int32.toUInt32 31)).toInt32) &&& (858993459 : Int32)))).toUInt32 >>> (((4 : Int32)).toUInt32 &&& Int32.toUInt32 31)).toInt32)) &&& (252645135 : Int32))).toUInt32 >>> (((8 : Int32)).toUInt32 &&& Int32.toUInt32 31)).toInt32))).toUInt32 >>> (((16 : Int32)).toUInt32 &&& Int32.toUInt32 31)).toInt32)) &&& (63 : Int32)), S)
set_option maxRecDepth 100000 in
set_option maxHeartbeats 4000000 in
theorem k_J6_bitCount_0f7a4 {S : Wd} {a0 : Int32} {r : Int32} {S' : Wd} (h : f_J6_bitCount_0f7a4 S a0 = some (r, S')) : Sp yJ6_bitCount_0f7a4 cJ6_bitCount_0f7a4 1 (some .int) 0 0 0 0 [.int a0] S (some (.int r)) S' := by
  unfold f_J6_bitCount_0f7a4 at h
  refine Sp.of (by decide +kernel) (Nat.le_of_ble_eq_true rfl) ?_
  intro b hC hin hR
  show G b 0 [(0, .int a0)] [] S 0 0
  refine g_iload_n hC dJ6_bitCount_0f7a4_0 rfl ?_
  refine g_iload_n hC dJ6_bitCount_0f7a4_1 rfl ?_
  refine g_iconst (v := (1 : Int32)) hC dJ6_bitCount_0f7a4_2 (by decide) ?_
  refine g_iushr hC dJ6_bitCount_0f7a4_3 ?_
  refine g_ldcw hC tw_589 dJ6_bitCount_0f7a4_4 ?_
  refine g_iand hC dJ6_bitCount_0f7a4_7 ?_
  refine g_isub hC dJ6_bitCount_0f7a4_8 ?_
  refine g_istore_n (L' := [(0, .int (a0 - ((((a0).toUInt32 >>> (((1 : Int32)).toUInt32 &&& Int32.toUInt32 31)).toInt32) &&& (1431655765 : Int32))))]) hC dJ6_bitCount_0f7a4_9 (by decide) rfl ?_
  refine g_iload_n hC dJ6_bitCount_0f7a4_10 rfl ?_
  refine g_ldcw hC tw_590 dJ6_bitCount_0f7a4_11 ?_
  refine g_iand hC dJ6_bitCount_0f7a4_14 ?_
  refine g_iload_n hC dJ6_bitCount_0f7a4_15 rfl ?_
  refine g_iconst (v := (2 : Int32)) hC dJ6_bitCount_0f7a4_16 (by decide) ?_
  refine g_iushr hC dJ6_bitCount_0f7a4_17 ?_
  refine g_ldcw hC tw_590 dJ6_bitCount_0f7a4_18 ?_
  refine g_iand hC dJ6_bitCount_0f7a4_21 ?_
  refine g_iadd hC dJ6_bitCount_0f7a4_22 ?_
  refine g_istore_n (L' := [(0, .int (((a0 - ((((a0).toUInt32 >>> (((1 : Int32)).toUInt32 &&& Int32.toUInt32 31)).toInt32) &&& (1431655765 : Int32))) &&& (858993459 : Int32)) + (((((a0 - ((((a0).toUInt32 >>> (((1 : Int32)).toUInt32 &&& Int32.toUInt32 31)).toInt32) &&& (1431655765 : Int32)))).toUInt32 >>> (((2 : Int32)).toUInt32 &&& Int32.toUInt32 31)).toInt32) &&& (858993459 : Int32))))]) hC dJ6_bitCount_0f7a4_23 (by decide) rfl ?_
  refine g_iload_n hC dJ6_bitCount_0f7a4_24 rfl ?_
  refine g_iload_n hC dJ6_bitCount_0f7a4_25 rfl ?_
  refine g_iconst (v := (4 : Int32)) hC dJ6_bitCount_0f7a4_26 (by decide) ?_
  refine g_iushr hC dJ6_bitCount_0f7a4_27 ?_
  refine g_iadd hC dJ6_bitCount_0f7a4_28 ?_
  refine g_ldcw hC tw_591 dJ6_bitCount_0f7a4_29 ?_
  refine g_iand hC dJ6_bitCount_0f7a4_32 ?_
  refine g_istore_n (L' := [(0, .int (((((a0 - ((((a0).toUInt32 >>> (((1 : Int32)).toUInt32 &&& Int32.toUInt32 31)).toInt32) &&& (1431655765 : Int32))) &&& (858993459 : Int32)) + (((((a0 - ((((a0).toUInt32 >>> (((1 : Int32)).toUInt32 &&& Int32.toUInt32 31)).toInt32) &&& (1431655765 : Int32)))).toUInt32 >>> (((2 : Int32)).toUInt32 &&& Int32.toUInt32 31)).toInt32) &&& (858993459 : Int32))) + ((((((a0 - ((((a0).toUInt32 >>> (((1 : Int32)).toUInt32 &&& Int32.toUInt32 31)).toInt32) &&& (1431655765 : Int32))) &&& (858993459 : Int32)) + (((((a0 - ((((a0).toUInt32 >>> (((1 : Int32)).toUInt32 &&& Int32.toUInt32 31)).toInt32) &&& (1431655765 : Int32)))).toUInt32 >>> (((2 : Int32)).toUInt32 &&& Int32.toUInt32 31)).toInt32) &&& (858993459 : Int32)))).toUInt32 >>> (((4 : Int32)).toUInt32 &&& Int32.toUInt32 31)).toInt32)) &&& (252645135 : Int32)))]) hC dJ6_bitCount_0f7a4_33 (by decide) rfl ?_
  refine g_iload_n hC dJ6_bitCount_0f7a4_34 rfl ?_
  refine g_iload_n hC dJ6_bitCount_0f7a4_35 rfl ?_
  refine g_bipush (v := (8 : Int32)) hC dJ6_bitCount_0f7a4_36 (by decide) ?_
  refine g_iushr hC dJ6_bitCount_0f7a4_38 ?_
  refine g_iadd hC dJ6_bitCount_0f7a4_39 ?_
  refine g_istore_n (L' := [(0, .int ((((((a0 - ((((a0).toUInt32 >>> (((1 : Int32)).toUInt32 &&& Int32.toUInt32 31)).toInt32) &&& (1431655765 : Int32))) &&& (858993459 : Int32)) + (((((a0 - ((((a0).toUInt32 >>> (((1 : Int32)).toUInt32 &&& Int32.toUInt32 31)).toInt32) &&& (1431655765 : Int32)))).toUInt32 >>> (((2 : Int32)).toUInt32 &&& Int32.toUInt32 31)).toInt32) &&& (858993459 : Int32))) + ((((((a0 - ((((a0).toUInt32 >>> (((1 : Int32)).toUInt32 &&& Int32.toUInt32 31)).toInt32) &&& (1431655765 : Int32))) &&& (858993459 : Int32)) + (((((a0 - ((((a0).toUInt32 >>> (((1 : Int32)).toUInt32 &&& Int32.toUInt32 31)).toInt32) &&& (1431655765 : Int32)))).toUInt32 >>> (((2 : Int32)).toUInt32 &&& Int32.toUInt32 31)).toInt32) &&& (858993459 : Int32)))).toUInt32 >>> (((4 : Int32)).toUInt32 &&& Int32.toUInt32 31)).toInt32)) &&& (252645135 : Int32)) + ((((((((a0 - ((((a0).toUInt32 >>> (((1 : Int32)).toUInt32 &&& Int32.toUInt32 31)).toInt32) &&& (1431655765 : Int32))) &&& (858993459 : Int32)) + (((((a0 - ((((a0).toUInt32 >>> (((1 : Int32)).toUInt32 &&& Int32.toUInt32 31)).toInt32) &&& (1431655765 : Int32)))).toUInt32 >>> (((2 : Int32)).toUInt32 &&& Int32.toUInt32 31)).toInt32) &&& (858993459 : Int32))) + ((((((a0 - ((((a0).toUInt32 >>> (((1 : Int32)).toUInt32 &&& Int32.toUInt32 31)).toInt32) &&& (1431655765 : Int32))) &&& (858993459 : Int32)) + (((((a0 - ((((a0).toUInt32 >>> (((1 : Int32)).toUInt32 &&& Int32.toUInt32 31)).toInt32) &&& (1431655765 : Int32)))).toUInt32 >>> (((2 : Int32)).toUInt32 &&& Int32.toUInt32 31)).toInt32) &&& (858993459 : Int32)))).toUInt32 >>> (((4 : Int32)).toUInt32 &&& Int32.toUInt32 31)).toInt32)) &&& (252645135 : Int32))).toUInt32 >>> (((8 : Int32)).toUInt32 &&& Int32.toUInt32 31)).toInt32)))]) hC dJ6_bitCount_0f7a4_40 (by decide) rfl ?_
  refine g_iload_n hC dJ6_bitCount_0f7a4_41 rfl ?_
  refine g_iload_n hC dJ6_bitCount_0f7a4_42 rfl ?_
  refine g_bipush (v := (16 : Int32)) hC dJ6_bitCount_0f7a4_43 (by decide) ?_
  refine g_iushr hC dJ6_bitCount_0f7a4_45 ?_
  refine g_iadd hC dJ6_bitCount_0f7a4_46 ?_
  refine g_istore_n (L' := [(0, .int (((((((a0 - ((((a0).toUInt32 >>> (((1 : Int32)).toUInt32 &&& Int32.toUInt32 31)).toInt32) &&& (1431655765 : Int32))) &&& (858993459 : Int32)) + (((((a0 - ((((a0).toUInt32 >>> (((1 : Int32)).toUInt32 &&& Int32.toUInt32 31)).toInt32) &&& (1431655765 : Int32)))).toUInt32 >>> (((2 : Int32)).toUInt32 &&& Int32.toUInt32 31)).toInt32) &&& (858993459 : Int32))) + ((((((a0 - ((((a0).toUInt32 >>> (((1 : Int32)).toUInt32 &&& Int32.toUInt32 31)).toInt32) &&& (1431655765 : Int32))) &&& (858993459 : Int32)) + (((((a0 - ((((a0).toUInt32 >>> (((1 : Int32)).toUInt32 &&& Int32.toUInt32 31)).toInt32) &&& (1431655765 : Int32)))).toUInt32 >>> (((2 : Int32)).toUInt32 &&& Int32.toUInt32 31)).toInt32) &&& (858993459 : Int32)))).toUInt32 >>> (((4 : Int32)).toUInt32 &&& Int32.toUInt32 31)).toInt32)) &&& (252645135 : Int32)) + ((((((((a0 - ((((a0).toUInt32 >>> (((1 : Int32)).toUInt32 &&& Int32.toUInt32 31)).toInt32) &&& (1431655765 : Int32))) &&& (858993459 : Int32)) + (((((a0 - ((((a0).toUInt32 >>> (((1 : Int32)).toUInt32 &&& Int32.toUInt32 31)).toInt32) &&& (1431655765 : Int32)))).toUInt32 >>> (((2 : Int32)).toUInt32 &&& Int32.toUInt32 31)).toInt32) &&& (858993459 : Int32))) + ((((((a0 - ((((a0).toUInt32 >>> (((1 : Int32)).toUInt32 &&& Int32.toUInt32 31)).toInt32) &&& (1431655765 : Int32))) &&& (858993459 : Int32)) + (((((a0 - ((((a0).toUInt32 >>> (((1 : Int32)).toUInt32 &&& Int32.toUInt32 31)).toInt32) &&& (1431655765 : Int32)))).toUInt32 >>> (((2 : Int32)).toUInt32 &&& Int32.toUInt32 31)).toInt32) &&& (858993459 : Int32)))).toUInt32 >>> (((4 : Int32)).toUInt32 &&& Int32.toUInt32 31)).toInt32)) &&& (252645135 : Int32))).toUInt32 >>> (((8 : Int32)).toUInt32 &&& Int32.toUInt32 31)).toInt32)) + (((((((((a0 - ((((a0).toUInt32 >>> (((1 : Int32)).toUInt32 &&& Int32.toUInt32 31)).toInt32) &&& (1431655765 : Int32))) &&& (858993459 : Int32)) + (((((a0 - ((((a0).toUInt32 >>> (((1 : Int32)).toUInt32 &&& Int32.toUInt32 31)).toInt32) &&& (1431655765 : Int32)))).toUInt32 >>> (((2 : Int32)).toUInt32 &&& Int32.toUInt32 31)).toInt32) &&& (858993459 : Int32))) + ((((((a0 - ((((a0).toUInt32 >>> (((1 : Int32)).toUInt32 &&& Int32.toUInt32 31)).toInt32) &&& (1431655765 : Int32))) &&& (858993459 : Int32)) + (((((a0 - ((((a0).toUInt32 >>> (((1 : Int32)).toUInt32 &&& Int32.toUInt32 31)).toInt32) &&& (1431655765 : Int32)))).toUInt32 >>> (((2 : Int32)).toUInt32 &&& Int32.toUInt32 31)).toInt32) &&& (858993459 : Int32)))).toUInt32 >>> (((4 : Int32)).toUInt32 &&& Int32.toUInt32 31)).toInt32)) &&& (252645135 : Int32)) + ((((((((a0 - ((((a0).toUInt32 >>> (((1 : Int32)).toUInt32 &&& Int32.toUInt32 31)).toInt32) &&& (1431655765 : Int32))) &&& (858993459 : Int32)) + (((((a0 - ((((a0).toUInt32 >>> (((1 : Int32)).toUInt32 &&& Int32.toUInt32 31)).toInt32) &&& (1431655765 : Int32)))).toUInt32 >>> (((2 : Int32)).toUInt32 &&& Int32.toUInt32 31)).toInt32) &&& (858993459 : Int32))) + ((((((a0 - ((((a0).toUInt32 >>> (((1 : Int32)).toUInt32 &&& Int32.toUInt32 31)).toInt32) &&& (1431655765 : Int32))) &&& (858993459 : Int32)) + (((((a0 - ((((a0).toUInt32 >>> (((1 : Int32)).toUInt32 &&& Int32.toUInt32 31)).toInt32) &&& (1431655765 : Int32)))).toUInt32 >>> (((2 : Int32)).toUInt32 &&& Int32.toUInt32 31)).toInt32) &&& (858993459 : Int32)))).toUInt32 >>> (((4 : Int32)).toUInt32 &&& Int32.toUInt32 31)).toInt32)) &&& (252645135 : Int32))).toUInt32 >>> (((8 : Int32)).toUInt32 &&& Int32.toUInt32 31)).toInt32))).toUInt32 >>> (((16 : Int32)).toUInt32 &&& Int32.toUInt32 31)).toInt32)))]) hC dJ6_bitCount_0f7a4_47 (by decide) rfl ?_
  refine g_iload_n hC dJ6_bitCount_0f7a4_48 rfl ?_
  refine g_bipush (v := (63 : Int32)) hC dJ6_bitCount_0f7a4_49 (by decide) ?_
  refine g_iand hC dJ6_bitCount_0f7a4_51 ?_
  cases h
  exact g_iret hC hR dJ6_bitCount_0f7a4_52 (by decide) (by decide)
