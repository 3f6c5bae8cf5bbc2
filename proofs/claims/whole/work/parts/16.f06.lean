theorem mi_X11_proves : MI yX11_proves cX11_proves 2 (some .int) 1 := ⟨tw_901, tw_1, by decide +kernel, by decide +kernel, by decide +kernel⟩
noncomputable def f_X11_proves (S : Wd) (a0 : Nat) (a1 : Int32) : Option (Int32 × Wd) := bd2 (f_X11_isSheet S a1) (fun r3 S2 => if r3 = 0 then (gd (ob S2 a0 11) (bd2 (f_X11_told S2 a0 (-100001 : Int32)) (fun r64 S62 => some (r64, S62)))) else (gd (ob S2 a0 11) (Option.bind (wO S2 a0 11) (fun q6 => gd (ix S2 q6 102 a1) (Option.bind (wO S2 q6 a1.toNatClampNeg) (fun q9 => gd (ob S2 q9 7) (bd2 (f_X7_isMissing S2 q9) (fun r14 S12 => if r14 = 0 then (gd (ob S12 a0 11) (Option.bind (wO S12 a0 11) (fun q17 => gd (ix S12 q17 102 a1) (Option.bind (wO S12 q17 a1.toNatClampNeg) (fun q20 => gd (ob S12 q20 7) (bd2 (f_X7_count S12 q20) (fun r25 S23 => gd (ob S23 a0 11) (Option.bind (wO S23 a0 2) (fun q27 => gd (ob S23 q27 8) (bd2 (f_X8_count S23 q27) (fun r32 S30 => if r25 = r32 then (gd (ob S30 a0 11) (Option.bind (wO S30 a0 5) (fun q35 => gd (ob S30 q35 2) (Option.bind (f_X2_work S30 q35) (fun S38 => gd (ob S38 a0 11) (Option.bind (wO S38 a0 5) (fun q41 => gd (ob S38 a0 11) (Option.bind (wO S38 a0 11) (fun q44 => gd (ix S38 q44 102 a1) (Option.bind (wO S38 q44 a1.toNatClampNeg) (fun q47 => gd (ob S38 q41 2) (bd2 (f_X2_firstDoubt S38 q41 q47) (fun r52 S50 => some (r52, S50)))))))))))))) else (gd (ob S30 a0 11) (bd2 (f_X11_told S30 a0 (-100003 : Int32)) (fun r56 S54 => some (r56, S54))))))))))))))) else (gd (ob S12 a0 11) (bd2 (f_X11_told S12 a0 (-100002 : Int32)) (fun r60 S58 => some (r60, S58))))))))))))
set_option maxRecDepth 100000 in
set_option maxHeartbeats 4000000 in
theorem k_X11_proves {S : Wd} {a0 : Nat} {a1 : Int32} {r : Int32} {S' : Wd} (h : f_X11_proves S a0 a1 = some (r, S')) : Sp yX11_proves cX11_proves 2 (some .int) 6 140 0 0 [.ref a0, .int a1] S (some (.int r)) S' := by
  unfold f_X11_proves at h
  refine Sp.of (by decide +kernel) (Nat.le_of_ble_eq_true rfl) ?_
  intro b hC hin hR
  show G b 0 [(0, .ref a0), (1, .int a1)] [] S 0 0
  refine g_iload_n hC dX11_proves_0 rfl ?_
  obtain ⟨r3, S2, hr1, h⟩ := bd2_some h
  refine g_callS (rest := []) hC mi_X11_isSheet (k_X11_isSheet hr1) tw_832 tw_833 dX11_proves_1 rfl rfl ⟨by decide, by decide⟩ (Nat.le_of_ble_eq_true rfl) ⟨by decide, by decide⟩ ?_
  refine g_if_ne (tgt := 14) hC dX11_proves_4 (by decide) (fun hc4 => ?_) (fun hc4 => ?_)
  · rw [if_neg hc4] at h
    refine g_aload_n hC dX11_proves_14 rfl ?_
    obtain ⟨ho5, h⟩ := gd_some h
    obtain ⟨q6, hq7, h⟩ := Option.bind_eq_some_iff.mp h
    refine g_getr (k := 11) (q := q6) hC ck_X11 (by decide) tw_313 rfl (by decide) dX11_proves_15 ho5 hq7 ?_
    refine g_iload_n hC dX11_proves_18 rfl ?_
    obtain ⟨hx8, h⟩ := gd_some h
    obtain ⟨q9, hq10, h⟩ := Option.bind_eq_some_iff.mp h
    refine g_aald2 hC dX11_proves_19 hx8.1 hx8.2 hq10 ?_
    obtain ⟨ho13, h⟩ := gd_some h
    obtain ⟨r14, S12, hr11, h⟩ := bd2_some h
    refine g_callV (rest := []) hC mi_X7_isMissing (k_X7_isMissing hr11) ck_X7.1 (by decide) ho13 tw_835 tw_836 tw_837 dX11_proves_20 rfl rfl ⟨by decide, by decide⟩ (Nat.le_of_ble_eq_true rfl) ⟨by decide, by decide⟩ ?_
    refine g_if_eq (tgt := 33) hC dX11_proves_23 (by decide) (fun hc15 => ?_) (fun hc15 => ?_)
    · rw [if_pos hc15] at h
      refine g_aload_n hC dX11_proves_33 rfl ?_
      obtain ⟨ho16, h⟩ := gd_some h
      obtain ⟨q17, hq18, h⟩ := Option.bind_eq_some_iff.mp h
      refine g_getr (k := 11) (q := q17) hC ck_X11 (by decide) tw_313 rfl (by decide) dX11_proves_34 ho16 hq18 ?_
      refine g_iload_n hC dX11_proves_37 rfl ?_
      obtain ⟨hx19, h⟩ := gd_some h
      obtain ⟨q20, hq21, h⟩ := Option.bind_eq_some_iff.mp h
      refine g_aald2 hC dX11_proves_38 hx19.1 hx19.2 hq21 ?_
      obtain ⟨ho24, h⟩ := gd_some h
      obtain ⟨r25, S23, hr22, h⟩ := bd2_some h
      refine g_callV (rest := []) hC mi_X7_count (k_X7_count hr22) ck_X7.1 (by decide) ho24 tw_902 tw_845 tw_846 dX11_proves_39 rfl rfl ⟨by decide, by decide⟩ (Nat.le_of_ble_eq_true rfl) ⟨by decide, by decide⟩ ?_
      refine g_aload_n hC dX11_proves_42 rfl ?_
      obtain ⟨ho26, h⟩ := gd_some h
      obtain ⟨q27, hq28, h⟩ := Option.bind_eq_some_iff.mp h
      refine g_getr (k := 2) (q := q27) hC ck_X11 (by decide) tw_304 rfl (by decide) dX11_proves_43 ho26 hq28 ?_
      obtain ⟨ho31, h⟩ := gd_some h
      obtain ⟨r32, S30, hr29, h⟩ := bd2_some h
      refine g_callV (rest := [.int r25]) hC mi_X8_count (k_X8_count hr29) ck_X8.1 (by decide) ho31 tw_451 tw_452 tw_453 dX11_proves_46 rfl rfl ⟨by decide, by decide⟩ (Nat.le_of_ble_eq_true rfl) ⟨by decide, by decide⟩ ?_
      refine g_icmp_eq (tgt := 59) hC dX11_proves_49 (by decide) (fun hc33 => ?_) (fun hc33 => ?_)
      · rw [if_pos hc33] at h
        refine g_aload_n hC dX11_proves_59 rfl ?_
        obtain ⟨ho34, h⟩ := gd_some h
        obtain ⟨q35, hq36, h⟩ := Option.bind_eq_some_iff.mp h
        refine g_getr (k := 5) (q := q35) hC ck_X11 (by decide) tw_307 rfl (by decide) dX11_proves_60 ho34 hq36 ?_
        obtain ⟨ho39, h⟩ := gd_some h
        obtain ⟨S38, hr37, h⟩ := Option.bind_eq_some_iff.mp h
        refine g_callV (rest := []) hC mi_X2_work (k_X2_work hr37) ck_X2.1 (by decide) ho39 tw_548 tw_549 tw_550 dX11_proves_63 rfl rfl ⟨by decide, by decide⟩ (Nat.le_of_ble_eq_true rfl) ⟨by decide, by decide⟩ ?_
        refine g_aload_n hC dX11_proves_66 rfl ?_
        obtain ⟨ho40, h⟩ := gd_some h
        obtain ⟨q41, hq42, h⟩ := Option.bind_eq_some_iff.mp h
        refine g_getr (k := 5) (q := q41) hC ck_X11 (by decide) tw_307 rfl (by decide) dX11_proves_67 ho40 hq42 ?_
        refine g_aload_n hC dX11_proves_70 rfl ?_
        obtain ⟨ho43, h⟩ := gd_some h
        obtain ⟨q44, hq45, h⟩ := Option.bind_eq_some_iff.mp h
        refine g_getr (k := 11) (q := q44) hC ck_X11 (by decide) tw_313 rfl (by decide) dX11_proves_71 ho43 hq45 ?_
        refine g_iload_n hC dX11_proves_74 rfl ?_
        obtain ⟨hx46, h⟩ := gd_some h
        obtain ⟨q47, hq48, h⟩ := Option.bind_eq_some_iff.mp h
        refine g_aald2 hC dX11_proves_75 hx46.1 hx46.2 hq48 ?_
        obtain ⟨ho51, h⟩ := gd_some h
        obtain ⟨r52, S50, hr49, h⟩ := bd2_some h
        refine g_callV (rest := []) hC mi_X2_firstDoubt (k_X2_firstDoubt hr49) ck_X2.1 (by decide) ho51 tw_903 tw_904 tw_905 dX11_proves_76 rfl rfl ⟨by decide, by decide⟩ (Nat.le_of_ble_eq_true rfl) ⟨by decide, by decide⟩ ?_
        cases h
        exact g_iret hC hR dX11_proves_79 (by decide) (by decide)
      · rw [if_neg hc33] at h
        refine g_aload_n hC dX11_proves_52 rfl ?_
        refine g_ldc hC tw_462 dX11_proves_53 ?_
        obtain ⟨ho55, h⟩ := gd_some h
        obtain ⟨r56, S54, hr53, h⟩ := bd2_some h
        refine g_callV (rest := []) hC mi_X11_told (k_X11_told hr53) ck_X11.1 (by decide) ho55 tw_353 tw_355 ts_0 dX11_proves_55 rfl rfl ⟨by decide, by decide⟩ (Nat.le_of_ble_eq_true rfl) ⟨by decide, by decide⟩ ?_
        cases h
        exact g_iret hC hR dX11_proves_58 (by decide) (by decide)
    · rw [if_neg hc15] at h
      refine g_aload_n hC dX11_proves_26 rfl ?_
      refine g_ldc hC tw_839 dX11_proves_27 ?_
      obtain ⟨ho59, h⟩ := gd_some h
      obtain ⟨r60, S58, hr57, h⟩ := bd2_some h
      refine g_callV (rest := []) hC mi_X11_told (k_X11_told hr57) ck_X11.1 (by decide) ho59 tw_353 tw_355 ts_0 dX11_proves_29 rfl rfl ⟨by decide, by decide⟩ (Nat.le_of_ble_eq_true rfl) ⟨by decide, by decide⟩ ?_
      cases h
      exact g_iret hC hR dX11_proves_32 (by decide) (by decide)
  · rw [if_pos hc4] at h
    refine g_aload_n hC dX11_proves_7 rfl ?_
    refine g_ldc hC tw_352 dX11_proves_8 ?_
    obtain ⟨ho63, h⟩ := gd_some h
    obtain ⟨r64, S62, hr61, h⟩ := bd2_some h
    refine g_callV (rest := []) hC mi_X11_told (k_X11_told hr61) ck_X11.1 (by decide) ho63 tw_353 tw_355 ts_0 dX11_proves_10 rfl rfl ⟨by decide, by decide⟩ (Nat.le_of_ble_eq_true rfl) ⟨by decide, by decide⟩ ?_
    cases h
    exact g_iret hC hR dX11_proves_13 (by decide) (by decide)

theorem mi_X7_begin : MI yX7_begin cX7_begin 3 none 2 := ⟨tw_919, tw_13, by decide +kernel, by decide +kernel, by decide +kernel⟩
noncomputable def f_X7_begin (S : Wd) (a0 : Nat) (a1 : Int32) (a2 : Int32) : Option (Wd) := gd (ob S a0 7) (ltS (sI S a0 1 a1) (fun S2 => gd (ob S2 a0 7) (ltS (sI S2 a0 2 (mMin (mMax a2 (0 : Int32)) (20 : Int32))) (fun S5 => gd (ob S5 a0 7) (Option.bind (wO S5 a0 0) (fun q8 => Option.bind (f_J7_fill_53178 S5 q8 (0 : Int32)) (fun S11 => some S11)))))))
set_option maxRecDepth 100000 in
set_option maxHeartbeats 4000000 in
theorem k_X7_begin {S : Wd} {a0 : Nat} {a1 : Int32} {a2 : Int32} {S' : Wd} (h : f_X7_begin S a0 a1 a2 = some S') : Sp yX7_begin cX7_begin 3 none 1 23 0 0 [.ref a0, .int a1, .int a2] S none S' := by
  unfold f_X7_begin at h
  refine Sp.of (by decide +kernel) (Nat.le_of_ble_eq_true rfl) ?_
  intro b hC hin hR
  show G b 0 [(0, .ref a0), (1, .int a1), (2, .int a2)] [] S 0 0
  refine g_aload_n hC dX7_begin_0 rfl ?_
  refine g_iload_n hC dX7_begin_1 rfl ?_
  obtain ⟨ho1, h⟩ := gd_some h
  refine g_puti (k := 1) hC ck_X7 (by decide) tw_293 rfl (by decide) rfl rfl dX7_begin_2 ho1 ?_
  refine g_name (fun S2 eS3 => ?_)
  have h := ltS_use eS3 h
  refine g_aload_n hC dX7_begin_5 rfl ?_
  refine g_iload_n hC dX7_begin_6 rfl ?_
  refine g_iconst (v := (0 : Int32)) hC dX7_begin_7 (by decide) ?_
  refine g_mmax (st := [.ref a0]) hC tw_920 tw_80 tw_5 tw_81 dX7_begin_8 (by decide) (Nat.le_of_ble_eq_true rfl) (by decide) (by decide) ?_
  refine g_bipush (v := (20 : Int32)) hC dX7_begin_11 (by decide) ?_
  refine g_mmin (st := [.ref a0]) hC tw_921 tw_364 tw_5 tw_365 dX7_begin_13 (by decide) (Nat.le_of_ble_eq_true rfl) (by decide) (by decide) ?_
  obtain ⟨ho4, h⟩ := gd_some h
  refine g_puti (k := 2) hC ck_X7 (by decide) tw_294 rfl (by decide) rfl rfl dX7_begin_16 ho4 ?_
  refine g_name (fun S5 eS6 => ?_)
  have h := ltS_use eS6 h
  refine g_aload_n hC dX7_begin_19 rfl ?_
  obtain ⟨ho7, h⟩ := gd_some h
  obtain ⟨q8, hq9, h⟩ := Option.bind_eq_some_iff.mp h
  refine g_getr (k := 0) (q := q8) hC ck_X7 (by decide) tw_292 rfl (by decide) dX7_begin_20 ho7 hq9 ?_
  refine g_iconst (v := (0 : Int32)) hC dX7_begin_23 (by decide) ?_
  obtain ⟨S11, hr10, h⟩ := Option.bind_eq_some_iff.mp h
  refine g_callS (rest := []) hC mi_J7_fill_53178 (k_J7_fill_53178 hr10) tw_922 tw_826 dX7_begin_24 rfl rfl ⟨by decide, by decide⟩ (Nat.le_of_ble_eq_true rfl) ⟨by decide, by decide⟩ ?_
  cases h
  exact g_vret hC hR dX7_begin_27 (by decide) (by decide)

theorem mi_X11_sheet : MI yX11_sheet cX11_sheet 6 (some .int) 3 := ⟨tw_915, tw_1, by decide +kernel, by decide +kernel, by decide +kernel⟩
noncomputable def f_X11_sheet (S : Wd) (a0 : Nat) (a1 : Int32) (a2 : Int32) (a3 : Int32) : Option (Int32 × Wd) := bd2 (f_X11_isSheet S a1) (fun r3 S2 => if r3 = 0 then (if (0 : Int32) = 0 then (gd (ob S2 a0 11) (bd2 (f_X11_told S2 a0 (-100001 : Int32)) (fun r9 S7 => some (r9, S7)))) else (none)) else (if a2 = 0 then (if (1 : Int32) = 0 then (none) else (if 0 ≤ a3 then (if a3 ≤ (20 : Int32) then (if a2 = 0 then (gd (ob S2 a0 11) (Option.bind (wO S2 a0 11) (fun q25 => gd (ix S2 q25 102 a1) (Option.bind (wO S2 q25 a1.toNatClampNeg) (fun q28 => gd (ob S2 q28 7) (Option.bind (f_X7_begin S2 q28 a2 (0 : Int32)) (fun S31 => some ((0 : Int32), S31)))))))) else (gd (ob S2 a0 11) (Option.bind (wO S2 a0 11) (fun q16 => gd (ix S2 q16 102 a1) (Option.bind (wO S2 q16 a1.toNatClampNeg) (fun q19 => gd (ob S2 q19 7) (Option.bind (f_X7_begin S2 q19 a2 a3) (fun S22 => some (a3, S22))))))))) else (gd (ob S2 a0 11) (bd2 (f_X11_told S2 a0 (-100001 : Int32)) (fun r36 S34 => some (r36, S34))))) else (gd (ob S2 a0 11) (bd2 (f_X11_told S2 a0 (-100003 : Int32)) (fun r40 S38 => some (r40, S38)))))) else (if a2 = (8 : Int32) then (if (1 : Int32) = 0 then (none) else (if 0 ≤ a3 then (if a3 ≤ (20 : Int32) then (if a2 = 0 then (gd (ob S2 a0 11) (Option.bind (wO S2 a0 11) (fun q56 => gd (ix S2 q56 102 a1) (Option.bind (wO S2 q56 a1.toNatClampNeg) (fun q59 => gd (ob S2 q59 7) (Option.bind (f_X7_begin S2 q59 a2 (0 : Int32)) (fun S62 => some ((0 : Int32), S62)))))))) else (gd (ob S2 a0 11) (Option.bind (wO S2 a0 11) (fun q47 => gd (ix S2 q47 102 a1) (Option.bind (wO S2 q47 a1.toNatClampNeg) (fun q50 => gd (ob S2 q50 7) (Option.bind (f_X7_begin S2 q50 a2 a3) (fun S53 => some (a3, S53))))))))) else (gd (ob S2 a0 11) (bd2 (f_X11_told S2 a0 (-100001 : Int32)) (fun r67 S65 => some (r67, S65))))) else (gd (ob S2 a0 11) (bd2 (f_X11_told S2 a0 (-100003 : Int32)) (fun r71 S69 => some (r71, S69)))))) else (if a2 = (16 : Int32) then (if (1 : Int32) = 0 then (none) else (if 0 ≤ a3 then (if a3 ≤ (20 : Int32) then (if a2 = 0 then (gd (ob S2 a0 11) (Option.bind (wO S2 a0 11) (fun q87 => gd (ix S2 q87 102 a1) (Option.bind (wO S2 q87 a1.toNatClampNeg) (fun q90 => gd (ob S2 q90 7) (Option.bind (f_X7_begin S2 q90 a2 (0 : Int32)) (fun S93 => some ((0 : Int32), S93)))))))) else (gd (ob S2 a0 11) (Option.bind (wO S2 a0 11) (fun q78 => gd (ix S2 q78 102 a1) (Option.bind (wO S2 q78 a1.toNatClampNeg) (fun q81 => gd (ob S2 q81 7) (Option.bind (f_X7_begin S2 q81 a2 a3) (fun S84 => some (a3, S84))))))))) else (gd (ob S2 a0 11) (bd2 (f_X11_told S2 a0 (-100001 : Int32)) (fun r98 S96 => some (r98, S96))))) else (gd (ob S2 a0 11) (bd2 (f_X11_told S2 a0 (-100003 : Int32)) (fun r102 S100 => some (r102, S100)))))) else (if a2 = (32 : Int32) then (if (1 : Int32) = 0 then (none) else (if 0 ≤ a3 then (if a3 ≤ (20 : Int32) then (if a2 = 0 then (gd (ob S2 a0 11) (Option.bind (wO S2 a0 11) (fun q123 => gd (ix S2 q123 102 a1) (Option.bind (wO S2 q123 a1.toNatClampNeg) (fun q126 => gd (ob S2 q126 7) (Option.bind (f_X7_begin S2 q126 a2 (0 : Int32)) (fun S129 => some ((0 : Int32), S129)))))))) else (gd (ob S2 a0 11) (Option.bind (wO S2 a0 11) (fun q114 => gd (ix S2 q114 102 a1) (Option.bind (wO S2 q114 a1.toNatClampNeg) (fun q117 => gd (ob S2 q117 7) (Option.bind (f_X7_begin S2 q117 a2 a3) (fun S120 => some (a3, S120))))))))) else (gd (ob S2 a0 11) (bd2 (f_X11_told S2 a0 (-100001 : Int32)) (fun r134 S132 => some (r134, S132))))) else (gd (ob S2 a0 11) (bd2 (f_X11_told S2 a0 (-100003 : Int32)) (fun r138 S136 => some (r138, S136)))))) else (if (0 : Int32) = 0 then (gd (ob S2 a0 11) (bd2 (f_X11_told S2 a0 (-100001 : Int32)) (fun r108 S106 => some (r108, S106)))) else (none)))))))
set_option maxRecDepth 100000 in
set_option maxHeartbeats 4000000 in
theorem k_X11_sheet {S : Wd} {a0 : Nat} {a1 : Int32} {a2 : Int32} {a3 : Int32} {r : Int32} {S' : Wd} (h : f_X11_sheet S a0 a1 a2 a3 = some (r, S')) : Sp yX11_sheet cX11_sheet 6 (some .int) 2 45 0 0 [.ref a0, .int a1, .int a2, .int a3] S (some (.int r)) S' := by
  unfold f_X11_sheet at h
  refine Sp.of (by decide +kernel) (Nat.le_of_ble_eq_true rfl) ?_
  intro b hC hin hR
  show G b 0 [(0, .ref a0), (1, .int a1), (2, .int a2), (3, .int a3)] [] S 0 0
  refine g_iload_n hC dX11_sheet_0 rfl ?_
  obtain ⟨r3, S2, hr1, h⟩ := bd2_some h
  refine g_callS (rest := []) hC mi_X11_isSheet (k_X11_isSheet hr1) tw_832 tw_833 dX11_sheet_1 rfl rfl ⟨by decide, by decide⟩ (Nat.le_of_ble_eq_true rfl) ⟨by decide, by decide⟩ ?_
  refine g_if_eq (tgt := 33) hC dX11_sheet_4 (by decide) (fun hc4 => ?_) (fun hc4 => ?_)
  · rw [if_pos hc4] at h
    refine g_iconst (v := (0 : Int32)) hC dX11_sheet_33 (by decide) ?_
    refine g_istore (L' := [(4, .int (0 : Int32)), (0, .ref a0), (1, .int a1), (2, .int a2), (3, .int a3)]) hC dX11_sheet_34 (by decide) rfl ?_
    refine g_iload hC dX11_sheet_36 rfl ?_
    refine g_if_ne (tgt := 48) hC dX11_sheet_38 (by decide) (fun hc5 => ?_) (fun hc5 => ?_)
    · rw [if_neg hc5] at h
      cases h
    · rw [if_pos hc5] at h
      refine g_aload_n hC dX11_sheet_41 rfl ?_
      refine g_ldc hC tw_352 dX11_sheet_42 ?_
      obtain ⟨ho8, h⟩ := gd_some h
      obtain ⟨r9, S7, hr6, h⟩ := bd2_some h
      refine g_callV (rest := []) hC mi_X11_told (k_X11_told hr6) ck_X11.1 (by decide) ho8 tw_353 tw_355 ts_0 dX11_sheet_44 rfl rfl ⟨by decide, by decide⟩ (Nat.le_of_ble_eq_true rfl) ⟨by decide, by decide⟩ ?_
      cases h
      exact g_iret hC hR dX11_sheet_47 (by decide) (by decide)
  · rw [if_neg hc4] at h
    refine g_iload_n hC dX11_sheet_7 rfl ?_
    refine g_if_eq (tgt := 29) hC dX11_sheet_8 (by decide) (fun hc10 => ?_) (fun hc10 => ?_)
    · rw [if_pos hc10] at h
      refine g_iconst (v := (1 : Int32)) hC dX11_sheet_29 (by decide) ?_
      refine g_goto (tgt := 34) hC dX11_sheet_30 (by decide) ?_
      refine g_istore (L' := [(4, .int (1 : Int32)), (0, .ref a0), (1, .int a1), (2, .int a2), (3, .int a3)]) hC dX11_sheet_34 (by decide) rfl ?_
      refine g_iload hC dX11_sheet_36 rfl ?_
      refine g_if_ne (tgt := 48) hC dX11_sheet_38 (by decide) (fun hc11 => ?_) (fun hc11 => ?_)
      · rw [if_neg hc11] at h
        refine g_iload_n hC dX11_sheet_48 rfl ?_
        refine g_if_ge (tgt := 59) hC dX11_sheet_49 (by decide) (fun hc12 => ?_) (fun hc12 => ?_)
        · rw [if_pos hc12] at h
          refine g_iload_n hC dX11_sheet_59 rfl ?_
          refine g_bipush (v := (20 : Int32)) hC dX11_sheet_60 (by decide) ?_
          refine g_icmp_le (tgt := 72) hC dX11_sheet_62 (by decide) (fun hc13 => ?_) (fun hc13 => ?_)
          · rw [if_pos hc13] at h
            refine g_iload_n hC dX11_sheet_72 rfl ?_
            refine g_if_ne (tgt := 80) hC dX11_sheet_73 (by decide) (fun hc14 => ?_) (fun hc14 => ?_)
            · rw [if_neg hc14] at h
              refine g_iload_n hC dX11_sheet_80 rfl ?_
              refine g_istore (L' := [(5, .int a3), (4, .int (1 : Int32)), (0, .ref a0), (1, .int a1), (2, .int a2), (3, .int a3)]) hC dX11_sheet_81 (by decide) rfl ?_
              refine g_aload_n hC dX11_sheet_83 rfl ?_
              obtain ⟨ho15, h⟩ := gd_some h
              obtain ⟨q16, hq17, h⟩ := Option.bind_eq_some_iff.mp h
              refine g_getr (k := 11) (q := q16) hC ck_X11 (by decide) tw_313 rfl (by decide) dX11_sheet_84 ho15 hq17 ?_
              refine g_iload_n hC dX11_sheet_87 rfl ?_
              obtain ⟨hx18, h⟩ := gd_some h
              obtain ⟨q19, hq20, h⟩ := Option.bind_eq_some_iff.mp h
              refine g_aald2 hC dX11_sheet_88 hx18.1 hx18.2 hq20 ?_
              refine g_iload_n hC dX11_sheet_89 rfl ?_
              refine g_iload hC dX11_sheet_90 rfl ?_
              obtain ⟨ho23, h⟩ := gd_some h
              obtain ⟨S22, hr21, h⟩ := Option.bind_eq_some_iff.mp h
              refine g_callV (rest := []) hC mi_X7_begin (k_X7_begin hr21) ck_X7.1 (by decide) ho23 tw_916 tw_917 tw_918 dX11_sheet_92 rfl rfl ⟨by decide, by decide⟩ (Nat.le_of_ble_eq_true rfl) ⟨by decide, by decide⟩ ?_
              refine g_iload hC dX11_sheet_95 rfl ?_
              cases h
              exact g_iret hC hR dX11_sheet_97 (by decide) (by decide)
            · rw [if_pos hc14] at h
              refine g_iconst (v := (0 : Int32)) hC dX11_sheet_76 (by decide) ?_
              refine g_goto (tgt := 81) hC dX11_sheet_77 (by decide) ?_
              refine g_istore (L' := [(5, .int (0 : Int32)), (4, .int (1 : Int32)), (0, .ref a0), (1, .int a1), (2, .int a2), (3, .int a3)]) hC dX11_sheet_81 (by decide) rfl ?_
              refine g_aload_n hC dX11_sheet_83 rfl ?_
              obtain ⟨ho24, h⟩ := gd_some h
              obtain ⟨q25, hq26, h⟩ := Option.bind_eq_some_iff.mp h
              refine g_getr (k := 11) (q := q25) hC ck_X11 (by decide) tw_313 rfl (by decide) dX11_sheet_84 ho24 hq26 ?_
              refine g_iload_n hC dX11_sheet_87 rfl ?_
              obtain ⟨hx27, h⟩ := gd_some h
              obtain ⟨q28, hq29, h⟩ := Option.bind_eq_some_iff.mp h
              refine g_aald2 hC dX11_sheet_88 hx27.1 hx27.2 hq29 ?_
              refine g_iload_n hC dX11_sheet_89 rfl ?_
              refine g_iload hC dX11_sheet_90 rfl ?_
              obtain ⟨ho32, h⟩ := gd_some h
              obtain ⟨S31, hr30, h⟩ := Option.bind_eq_some_iff.mp h
              refine g_callV (rest := []) hC mi_X7_begin (k_X7_begin hr30) ck_X7.1 (by decide) ho32 tw_916 tw_917 tw_918 dX11_sheet_92 rfl rfl ⟨by decide, by decide⟩ (Nat.le_of_ble_eq_true rfl) ⟨by decide, by decide⟩ ?_
              refine g_iload hC dX11_sheet_95 rfl ?_
              cases h
              exact g_iret hC hR dX11_sheet_97 (by decide) (by decide)
          · rw [if_neg hc13] at h
            refine g_aload_n hC dX11_sheet_65 rfl ?_
            refine g_ldc hC tw_352 dX11_sheet_66 ?_
            obtain ⟨ho35, h⟩ := gd_some h
            obtain ⟨r36, S34, hr33, h⟩ := bd2_some h
            refine g_callV (rest := []) hC mi_X11_told (k_X11_told hr33) ck_X11.1 (by decide) ho35 tw_353 tw_355 ts_0 dX11_sheet_68 rfl rfl ⟨by decide, by decide⟩ (Nat.le_of_ble_eq_true rfl) ⟨by decide, by decide⟩ ?_
            cases h
            exact g_iret hC hR dX11_sheet_71 (by decide) (by decide)
        · rw [if_neg hc12] at h
          refine g_aload_n hC dX11_sheet_52 rfl ?_
          refine g_ldc hC tw_462 dX11_sheet_53 ?_
          obtain ⟨ho39, h⟩ := gd_some h
          obtain ⟨r40, S38, hr37, h⟩ := bd2_some h
          refine g_callV (rest := []) hC mi_X11_told (k_X11_told hr37) ck_X11.1 (by decide) ho39 tw_353 tw_355 ts_0 dX11_sheet_55 rfl rfl ⟨by decide, by decide⟩ (Nat.le_of_ble_eq_true rfl) ⟨by decide, by decide⟩ ?_
          cases h
          exact g_iret hC hR dX11_sheet_58 (by decide) (by decide)
      · rw [if_pos hc11] at h
        cases h
    · rw [if_neg hc10] at h
      refine g_iload_n hC dX11_sheet_11 rfl ?_
      refine g_bipush (v := (8 : Int32)) hC dX11_sheet_12 (by decide) ?_
      refine g_icmp_eq (tgt := 29) hC dX11_sheet_14 (by decide) (fun hc41 => ?_) (fun hc41 => ?_)
      · rw [if_pos hc41] at h
        refine g_iconst (v := (1 : Int32)) hC dX11_sheet_29 (by decide) ?_
        refine g_goto (tgt := 34) hC dX11_sheet_30 (by decide) ?_
        refine g_istore (L' := [(4, .int (1 : Int32)), (0, .ref a0), (1, .int a1), (2, .int a2), (3, .int a3)]) hC dX11_sheet_34 (by decide) rfl ?_
        refine g_iload hC dX11_sheet_36 rfl ?_
        refine g_if_ne (tgt := 48) hC dX11_sheet_38 (by decide) (fun hc42 => ?_) (fun hc42 => ?_)
        · rw [if_neg hc42] at h
          refine g_iload_n hC dX11_sheet_48 rfl ?_
          refine g_if_ge (tgt := 59) hC dX11_sheet_49 (by decide) (fun hc43 => ?_) (fun hc43 => ?_)
          · rw [if_pos hc43] at h
            refine g_iload_n hC dX11_sheet_59 rfl ?_
            refine g_bipush (v := (20 : Int32)) hC dX11_sheet_60 (by decide) ?_
            refine g_icmp_le (tgt := 72) hC dX11_sheet_62 (by decide) (fun hc44 => ?_) (fun hc44 => ?_)
            · rw [if_pos hc44] at h
              refine g_iload_n hC dX11_sheet_72 rfl ?_
              refine g_if_ne (tgt := 80) hC dX11_sheet_73 (by decide) (fun hc45 => ?_) (fun hc45 => ?_)
              · rw [if_neg hc45] at h
                refine g_iload_n hC dX11_sheet_80 rfl ?_
                refine g_istore (L' := [(5, .int a3), (4, .int (1 : Int32)), (0, .ref a0), (1, .int a1), (2, .int a2), (3, .int a3)]) hC dX11_sheet_81 (by decide) rfl ?_
                refine g_aload_n hC dX11_sheet_83 rfl ?_
                obtain ⟨ho46, h⟩ := gd_some h
                obtain ⟨q47, hq48, h⟩ := Option.bind_eq_some_iff.mp h
                refine g_getr (k := 11) (q := q47) hC ck_X11 (by decide) tw_313 rfl (by decide) dX11_sheet_84 ho46 hq48 ?_
                refine g_iload_n hC dX11_sheet_87 rfl ?_
                obtain ⟨hx49, h⟩ := gd_some h
                obtain ⟨q50, hq51, h⟩ := Option.bind_eq_some_iff.mp h
                refine g_aald2 hC dX11_sheet_88 hx49.1 hx49.2 hq51 ?_
                refine g_iload_n hC dX11_sheet_89 rfl ?_
                refine g_iload hC dX11_sheet_90 rfl ?_
                obtain ⟨ho54, h⟩ := gd_some h
                obtain ⟨S53, hr52, h⟩ := Option.bind_eq_some_iff.mp h
                refine g_callV (rest := []) hC mi_X7_begin (k_X7_begin hr52) ck_X7.1 (by decide) ho54 tw_916 tw_917 tw_918 dX11_sheet_92 rfl rfl ⟨by decide, by decide⟩ (Nat.le_of_ble_eq_true rfl) ⟨by decide, by decide⟩ ?_
                refine g_iload hC dX11_sheet_95 rfl ?_
                cases h
                exact g_iret hC hR dX11_sheet_97 (by decide) (by decide)
              · rw [if_pos hc45] at h
                refine g_iconst (v := (0 : Int32)) hC dX11_sheet_76 (by decide) ?_
                refine g_goto (tgt := 81) hC dX11_sheet_77 (by decide) ?_
                refine g_istore (L' := [(5, .int (0 : Int32)), (4, .int (1 : Int32)), (0, .ref a0), (1, .int a1), (2, .int a2), (3, .int a3)]) hC dX11_sheet_81 (by decide) rfl ?_
                refine g_aload_n hC dX11_sheet_83 rfl ?_
                obtain ⟨ho55, h⟩ := gd_some h
                obtain ⟨q56, hq57, h⟩ := Option.bind_eq_some_iff.mp h
                refine g_getr (k := 11) (q := q56) hC ck_X11 (by decide) tw_313 rfl (by decide) dX11_sheet_84 ho55 hq57 ?_
                refine g_iload_n hC dX11_sheet_87 rfl ?_
                obtain ⟨hx58, h⟩ := gd_some h
                obtain ⟨q59, hq60, h⟩ := Option.bind_eq_some_iff.mp h
                refine g_aald2 hC dX11_sheet_88 hx58.1 hx58.2 hq60 ?_
                refine g_iload_n hC dX11_sheet_89 rfl ?_
                refine g_iload hC dX11_sheet_90 rfl ?_
                obtain ⟨ho63, h⟩ := gd_some h
                obtain ⟨S62, hr61, h⟩ := Option.bind_eq_some_iff.mp h
                refine g_callV (rest := []) hC mi_X7_begin (k_X7_begin hr61) ck_X7.1 (by decide) ho63 tw_916 tw_917 tw_918 dX11_sheet_92 rfl rfl ⟨by decide, by decide⟩ (Nat.le_of_ble_eq_true rfl) ⟨by decide, by decide⟩ ?_
                refine g_iload hC dX11_sheet_95 rfl ?_
                cases h
                exact g_iret hC hR dX11_sheet_97 (by decide) (by decide)
            · rw [if_neg hc44] at h
              refine g_aload_n hC dX11_sheet_65 rfl ?_
              refine g_ldc hC tw_352 dX11_sheet_66 ?_
              obtain ⟨ho66, h⟩ := gd_some h
              obtain ⟨r67, S65, hr64, h⟩ := bd2_some h
              refine g_callV (rest := []) hC mi_X11_told (k_X11_told hr64) ck_X11.1 (by decide) ho66 tw_353 tw_355 ts_0 dX11_sheet_68 rfl rfl ⟨by decide, by decide⟩ (Nat.le_of_ble_eq_true rfl) ⟨by decide, by decide⟩ ?_
              cases h
              exact g_iret hC hR dX11_sheet_71 (by decide) (by decide)
          · rw [if_neg hc43] at h
            refine g_aload_n hC dX11_sheet_52 rfl ?_
            refine g_ldc hC tw_462 dX11_sheet_53 ?_
            obtain ⟨ho70, h⟩ := gd_some h
            obtain ⟨r71, S69, hr68, h⟩ := bd2_some h
            refine g_callV (rest := []) hC mi_X11_told (k_X11_told hr68) ck_X11.1 (by decide) ho70 tw_353 tw_355 ts_0 dX11_sheet_55 rfl rfl ⟨by decide, by decide⟩ (Nat.le_of_ble_eq_true rfl) ⟨by decide, by decide⟩ ?_
            cases h
            exact g_iret hC hR dX11_sheet_58 (by decide) (by decide)
        · rw [if_pos hc42] at h
          cases h
      · rw [if_neg hc41] at h
        refine g_iload_n hC dX11_sheet_17 rfl ?_
        refine g_bipush (v := (16 : Int32)) hC dX11_sheet_18 (by decide) ?_
        refine g_icmp_eq (tgt := 29) hC dX11_sheet_20 (by decide) (fun hc72 => ?_) (fun hc72 => ?_)
        · rw [if_pos hc72] at h
          refine g_iconst (v := (1 : Int32)) hC dX11_sheet_29 (by decide) ?_
          refine g_goto (tgt := 34) hC dX11_sheet_30 (by decide) ?_
          refine g_istore (L' := [(4, .int (1 : Int32)), (0, .ref a0), (1, .int a1), (2, .int a2), (3, .int a3)]) hC dX11_sheet_34 (by decide) rfl ?_
          refine g_iload hC dX11_sheet_36 rfl ?_
          refine g_if_ne (tgt := 48) hC dX11_sheet_38 (by decide) (fun hc73 => ?_) (fun hc73 => ?_)
          · rw [if_neg hc73] at h
            refine g_iload_n hC dX11_sheet_48 rfl ?_
            refine g_if_ge (tgt := 59) hC dX11_sheet_49 (by decide) (fun hc74 => ?_) (fun hc74 => ?_)
            · rw [if_pos hc74] at h
              refine g_iload_n hC dX11_sheet_59 rfl ?_
              refine g_bipush (v := (20 : Int32)) hC dX11_sheet_60 (by decide) ?_
              refine g_icmp_le (tgt := 72) hC dX11_sheet_62 (by decide) (fun hc75 => ?_) (fun hc75 => ?_)
              · rw [if_pos hc75] at h
                refine g_iload_n hC dX11_sheet_72 rfl ?_
                refine g_if_ne (tgt := 80) hC dX11_sheet_73 (by decide) (fun hc76 => ?_) (fun hc76 => ?_)
                · rw [if_neg hc76] at h
                  refine g_iload_n hC dX11_sheet_80 rfl ?_
                  refine g_istore (L' := [(5, .int a3), (4, .int (1 : Int32)), (0, .ref a0), (1, .int a1), (2, .int a2), (3, .int a3)]) hC dX11_sheet_81 (by decide) rfl ?_
                  refine g_aload_n hC dX11_sheet_83 rfl ?_
                  obtain ⟨ho77, h⟩ := gd_some h
                  obtain ⟨q78, hq79, h⟩ := Option.bind_eq_some_iff.mp h
                  refine g_getr (k := 11) (q := q78) hC ck_X11 (by decide) tw_313 rfl (by decide) dX11_sheet_84 ho77 hq79 ?_
                  refine g_iload_n hC dX11_sheet_87 rfl ?_
                  obtain ⟨hx80, h⟩ := gd_some h
                  obtain ⟨q81, hq82, h⟩ := Option.bind_eq_some_iff.mp h
                  refine g_aald2 hC dX11_sheet_88 hx80.1 hx80.2 hq82 ?_
                  refine g_iload_n hC dX11_sheet_89 rfl ?_
                  refine g_iload hC dX11_sheet_90 rfl ?_
                  obtain ⟨ho85, h⟩ := gd_some h
                  obtain ⟨S84, hr83, h⟩ := Option.bind_eq_some_iff.mp h
                  refine g_callV (rest := []) hC mi_X7_begin (k_X7_begin hr83) ck_X7.1 (by decide) ho85 tw_916 tw_917 tw_918 dX11_sheet_92 rfl rfl ⟨by decide, by decide⟩ (Nat.le_of_ble_eq_true rfl) ⟨by decide, by decide⟩ ?_
                  refine g_iload hC dX11_sheet_95 rfl ?_
                  cases h
                  exact g_iret hC hR dX11_sheet_97 (by decide) (by decide)
                · rw [if_pos hc76] at h
                  refine g_iconst (v := (0 : Int32)) hC dX11_sheet_76 (by decide) ?_
                  refine g_goto (tgt := 81) hC dX11_sheet_77 (by decide) ?_
                  refine g_istore (L' := [(5, .int (0 : Int32)), (4, .int (1 : Int32)), (0, .ref a0), (1, .int a1), (2, .int a2), (3, .int a3)]) hC dX11_sheet_81 (by decide) rfl ?_
                  refine g_aload_n hC dX11_sheet_83 rfl ?_
                  obtain ⟨ho86, h⟩ := gd_some h
                  obtain ⟨q87, hq88, h⟩ := Option.bind_eq_some_iff.mp h
                  refine g_getr (k := 11) (q := q87) hC ck_X11 (by decide) tw_313 rfl (by decide) dX11_sheet_84 ho86 hq88 ?_
                  refine g_iload_n hC dX11_sheet_87 rfl ?_
                  obtain ⟨hx89, h⟩ := gd_some h
                  obtain ⟨q90, hq91, h⟩ := Option.bind_eq_some_iff.mp h
                  refine g_aald2 hC dX11_sheet_88 hx89.1 hx89.2 hq91 ?_
                  refine g_iload_n hC dX11_sheet_89 rfl ?_
                  refine g_iload hC dX11_sheet_90 rfl ?_
                  obtain ⟨ho94, h⟩ := gd_some h
                  obtain ⟨S93, hr92, h⟩ := Option.bind_eq_some_iff.mp h
                  refine g_callV (rest := []) hC mi_X7_begin (k_X7_begin hr92) ck_X7.1 (by decide) ho94 tw_916 tw_917 tw_918 dX11_sheet_92 rfl rfl ⟨by decide, by decide⟩ (Nat.le_of_ble_eq_true rfl) ⟨by decide, by decide⟩ ?_
                  refine g_iload hC dX11_sheet_95 rfl ?_
                  cases h
                  exact g_iret hC hR dX11_sheet_97 (by decide) (by decide)
              · rw [if_neg hc75] at h
                refine g_aload_n hC dX11_sheet_65 rfl ?_
                refine g_ldc hC tw_352 dX11_sheet_66 ?_
                obtain ⟨ho97, h⟩ := gd_some h
                obtain ⟨r98, S96, hr95, h⟩ := bd2_some h
                refine g_callV (rest := []) hC mi_X11_told (k_X11_told hr95) ck_X11.1 (by decide) ho97 tw_353 tw_355 ts_0 dX11_sheet_68 rfl rfl ⟨by decide, by decide⟩ (Nat.le_of_ble_eq_true rfl) ⟨by decide, by decide⟩ ?_
                cases h
                exact g_iret hC hR dX11_sheet_71 (by decide) (by decide)
            · rw [if_neg hc74] at h
              refine g_aload_n hC dX11_sheet_52 rfl ?_
              refine g_ldc hC tw_462 dX11_sheet_53 ?_
              obtain ⟨ho101, h⟩ := gd_some h
              obtain ⟨r102, S100, hr99, h⟩ := bd2_some h
              refine g_callV (rest := []) hC mi_X11_told (k_X11_told hr99) ck_X11.1 (by decide) ho101 tw_353 tw_355 ts_0 dX11_sheet_55 rfl rfl ⟨by decide, by decide⟩ (Nat.le_of_ble_eq_true rfl) ⟨by decide, by decide⟩ ?_
              cases h
              exact g_iret hC hR dX11_sheet_58 (by decide) (by decide)
          · rw [if_pos hc73] at h
            cases h
        · rw [if_neg hc72] at h
          refine g_iload_n hC dX11_sheet_23 rfl ?_
          refine g_bipush (v := (32 : Int32)) hC dX11_sheet_24 (by decide) ?_
          refine g_icmp_ne (tgt := 33) hC dX11_sheet_26 (by decide) (fun hc103 => ?_) (fun hc103 => ?_)
          · rw [if_neg hc103] at h
            refine g_iconst (v := (0 : Int32)) hC dX11_sheet_33 (by decide) ?_
            refine g_istore (L' := [(4, .int (0 : Int32)), (0, .ref a0), (1, .int a1), (2, .int a2), (3, .int a3)]) hC dX11_sheet_34 (by decide) rfl ?_
            refine g_iload hC dX11_sheet_36 rfl ?_
            refine g_if_ne (tgt := 48) hC dX11_sheet_38 (by decide) (fun hc104 => ?_) (fun hc104 => ?_)
            · rw [if_neg hc104] at h
              cases h
            · rw [if_pos hc104] at h
              refine g_aload_n hC dX11_sheet_41 rfl ?_
              refine g_ldc hC tw_352 dX11_sheet_42 ?_
              obtain ⟨ho107, h⟩ := gd_some h
              obtain ⟨r108, S106, hr105, h⟩ := bd2_some h
              refine g_callV (rest := []) hC mi_X11_told (k_X11_told hr105) ck_X11.1 (by decide) ho107 tw_353 tw_355 ts_0 dX11_sheet_44 rfl rfl ⟨by decide, by decide⟩ (Nat.le_of_ble_eq_true rfl) ⟨by decide, by decide⟩ ?_
              cases h
              exact g_iret hC hR dX11_sheet_47 (by decide) (by decide)
          · rw [if_pos hc103] at h
            refine g_iconst (v := (1 : Int32)) hC dX11_sheet_29 (by decide) ?_
            refine g_goto (tgt := 34) hC dX11_sheet_30 (by decide) ?_
            refine g_istore (L' := [(4, .int (1 : Int32)), (0, .ref a0), (1, .int a1), (2, .int a2), (3, .int a3)]) hC dX11_sheet_34 (by decide) rfl ?_
            refine g_iload hC dX11_sheet_36 rfl ?_
            refine g_if_ne (tgt := 48) hC dX11_sheet_38 (by decide) (fun hc109 => ?_) (fun hc109 => ?_)
            · rw [if_neg hc109] at h
              refine g_iload_n hC dX11_sheet_48 rfl ?_
              refine g_if_ge (tgt := 59) hC dX11_sheet_49 (by decide) (fun hc110 => ?_) (fun hc110 => ?_)
              · rw [if_pos hc110] at h
                refine g_iload_n hC dX11_sheet_59 rfl ?_
                refine g_bipush (v := (20 : Int32)) hC dX11_sheet_60 (by decide) ?_
                refine g_icmp_le (tgt := 72) hC dX11_sheet_62 (by decide) (fun hc111 => ?_) (fun hc111 => ?_)
                · rw [if_pos hc111] at h
                  refine g_iload_n hC dX11_sheet_72 rfl ?_
                  refine g_if_ne (tgt := 80) hC dX11_sheet_73 (by decide) (fun hc112 => ?_) (fun hc112 => ?_)
                  · rw [if_neg hc112] at h
                    refine g_iload_n hC dX11_sheet_80 rfl ?_
                    refine g_istore (L' := [(5, .int a3), (4, .int (1 : Int32)), (0, .ref a0), (1, .int a1), (2, .int a2), (3, .int a3)]) hC dX11_sheet_81 (by decide) rfl ?_
                    refine g_aload_n hC dX11_sheet_83 rfl ?_
                    obtain ⟨ho113, h⟩ := gd_some h
                    obtain ⟨q114, hq115, h⟩ := Option.bind_eq_some_iff.mp h
                    refine g_getr (k := 11) (q := q114) hC ck_X11 (by decide) tw_313 rfl (by decide) dX11_sheet_84 ho113 hq115 ?_
                    refine g_iload_n hC dX11_sheet_87 rfl ?_
                    obtain ⟨hx116, h⟩ := gd_some h
                    obtain ⟨q117, hq118, h⟩ := Option.bind_eq_some_iff.mp h
                    refine g_aald2 hC dX11_sheet_88 hx116.1 hx116.2 hq118 ?_
                    refine g_iload_n hC dX11_sheet_89 rfl ?_
                    refine g_iload hC dX11_sheet_90 rfl ?_
                    obtain ⟨ho121, h⟩ := gd_some h
                    obtain ⟨S120, hr119, h⟩ := Option.bind_eq_some_iff.mp h
                    refine g_callV (rest := []) hC mi_X7_begin (k_X7_begin hr119) ck_X7.1 (by decide) ho121 tw_916 tw_917 tw_918 dX11_sheet_92 rfl rfl ⟨by decide, by decide⟩ (Nat.le_of_ble_eq_true rfl) ⟨by decide, by decide⟩ ?_
                    refine g_iload hC dX11_sheet_95 rfl ?_
                    cases h
                    exact g_iret hC hR dX11_sheet_97 (by decide) (by decide)
                  · rw [if_pos hc112] at h
                    refine g_iconst (v := (0 : Int32)) hC dX11_sheet_76 (by decide) ?_
                    refine g_goto (tgt := 81) hC dX11_sheet_77 (by decide) ?_
                    refine g_istore (L' := [(5, .int (0 : Int32)), (4, .int (1 : Int32)), (0, .ref a0), (1, .int a1), (2, .int a2), (3, .int a3)]) hC dX11_sheet_81 (by decide) rfl ?_
                    refine g_aload_n hC dX11_sheet_83 rfl ?_
                    obtain ⟨ho122, h⟩ := gd_some h
                    obtain ⟨q123, hq124, h⟩ := Option.bind_eq_some_iff.mp h
                    refine g_getr (k := 11) (q := q123) hC ck_X11 (by decide) tw_313 rfl (by decide) dX11_sheet_84 ho122 hq124 ?_
                    refine g_iload_n hC dX11_sheet_87 rfl ?_
                    obtain ⟨hx125, h⟩ := gd_some h
                    obtain ⟨q126, hq127, h⟩ := Option.bind_eq_some_iff.mp h
                    refine g_aald2 hC dX11_sheet_88 hx125.1 hx125.2 hq127 ?_
                    refine g_iload_n hC dX11_sheet_89 rfl ?_
                    refine g_iload hC dX11_sheet_90 rfl ?_
                    obtain ⟨ho130, h⟩ := gd_some h
                    obtain ⟨S129, hr128, h⟩ := Option.bind_eq_some_iff.mp h
                    refine g_callV (rest := []) hC mi_X7_begin (k_X7_begin hr128) ck_X7.1 (by decide) ho130 tw_916 tw_917 tw_918 dX11_sheet_92 rfl rfl ⟨by decide, by decide⟩ (Nat.le_of_ble_eq_true rfl) ⟨by decide, by decide⟩ ?_
                    refine g_iload hC dX11_sheet_95 rfl ?_
                    cases h
                    exact g_iret hC hR dX11_sheet_97 (by decide) (by decide)
                · rw [if_neg hc111] at h
                  refine g_aload_n hC dX11_sheet_65 rfl ?_
                  refine g_ldc hC tw_352 dX11_sheet_66 ?_
                  obtain ⟨ho133, h⟩ := gd_some h
                  obtain ⟨r134, S132, hr131, h⟩ := bd2_some h
                  refine g_callV (rest := []) hC mi_X11_told (k_X11_told hr131) ck_X11.1 (by decide) ho133 tw_353 tw_355 ts_0 dX11_sheet_68 rfl rfl ⟨by decide, by decide⟩ (Nat.le_of_ble_eq_true rfl) ⟨by decide, by decide⟩ ?_
                  cases h
                  exact g_iret hC hR dX11_sheet_71 (by decide) (by decide)
              · rw [if_neg hc110] at h
                refine g_aload_n hC dX11_sheet_52 rfl ?_
                refine g_ldc hC tw_462 dX11_sheet_53 ?_
                obtain ⟨ho137, h⟩ := gd_some h
                obtain ⟨r138, S136, hr135, h⟩ := bd2_some h
                refine g_callV (rest := []) hC mi_X11_told (k_X11_told hr135) ck_X11.1 (by decide) ho137 tw_353 tw_355 ts_0 dX11_sheet_55 rfl rfl ⟨by decide, by decide⟩ (Nat.le_of_ble_eq_true rfl) ⟨by decide, by decide⟩ ?_
                cases h
                exact g_iret hC hR dX11_sheet_58 (by decide) (by decide)
            · rw [if_pos hc109] at h
              cases h

theorem mi_X7_reaches : MI yX7_reaches cX7_reaches 3 (some .boolean) 2 := ⟨tw_930, tw_13, by decide +kernel, by decide +kernel, by decide +kernel⟩
noncomputable def f_X7_reaches (S : Wd) (a0 : Nat) (a1 : Int32) (a2 : Int32) : Option (Int32 × Wd) := if a1 < 0 then (some ((0 : Int32), S)) else (if a2 < 0 then (some ((0 : Int32), S)) else (gd (ob S a0 7) (if (wI S a0 2) < a2 then (some ((0 : Int32), S)) else (gd (ob S a0 7) (if ((wI S a0 2) - a2) < a1 then (some ((0 : Int32), S)) else (some ((1 : Int32), S)))))))
set_option maxRecDepth 100000 in
set_option maxHeartbeats 4000000 in
theorem k_X7_reaches {S : Wd} {a0 : Nat} {a1 : Int32} {a2 : Int32} {r : Int32} {S' : Wd} (h : f_X7_reaches S a0 a1 a2 = some (r, S')) : Sp yX7_reaches cX7_reaches 3 (some .boolean) 0 0 0 0 [.ref a0, .int a1, .int a2] S (some (.int r)) S' := by
  unfold f_X7_reaches at h
  refine Sp.of (by decide +kernel) (Nat.le_of_ble_eq_true rfl) ?_
  intro b hC hin hR
  show G b 0 [(0, .ref a0), (1, .int a1), (2, .int a2)] [] S 0 0
  refine g_iload_n hC dX7_reaches_0 rfl ?_
  refine g_if_lt (tgt := 30) hC dX7_reaches_1 (by decide) (fun hc1 => ?_) (fun hc1 => ?_)
  · rw [if_pos hc1] at h
    refine g_iconst (v := (0 : Int32)) hC dX7_reaches_30 (by decide) ?_
    cases h
    exact g_zret hC hR rfl dX7_reaches_31 (by decide) (by decide)
  · rw [if_neg hc1] at h
    refine g_iload_n hC dX7_reaches_4 rfl ?_
    refine g_if_lt (tgt := 30) hC dX7_reaches_5 (by decide) (fun hc2 => ?_) (fun hc2 => ?_)
    · rw [if_pos hc2] at h
      refine g_iconst (v := (0 : Int32)) hC dX7_reaches_30 (by decide) ?_
      cases h
      exact g_zret hC hR rfl dX7_reaches_31 (by decide) (by decide)
    · rw [if_neg hc2] at h
      refine g_iload_n hC dX7_reaches_8 rfl ?_
      refine g_aload_n hC dX7_reaches_9 rfl ?_
      obtain ⟨ho3, h⟩ := gd_some h
      refine g_geti (k := 2) hC ck_X7 (by decide) tw_294 rfl (by decide) dX7_reaches_10 ho3 ?_
      refine g_icmp_gt (tgt := 30) hC dX7_reaches_13 (by decide) (fun hc4 => ?_) (fun hc4 => ?_)
      · rw [if_pos hc4] at h
        refine g_iconst (v := (0 : Int32)) hC dX7_reaches_30 (by decide) ?_
        cases h
        exact g_zret hC hR rfl dX7_reaches_31 (by decide) (by decide)
      · rw [if_neg hc4] at h
        refine g_iload_n hC dX7_reaches_16 rfl ?_
        refine g_aload_n hC dX7_reaches_17 rfl ?_
        obtain ⟨ho5, h⟩ := gd_some h
        refine g_geti (k := 2) hC ck_X7 (by decide) tw_294 rfl (by decide) dX7_reaches_18 ho5 ?_
        refine g_iload_n hC dX7_reaches_21 rfl ?_
        refine g_isub hC dX7_reaches_22 ?_
        refine g_icmp_gt (tgt := 30) hC dX7_reaches_23 (by decide) (fun hc6 => ?_) (fun hc6 => ?_)
        · rw [if_pos hc6] at h
          refine g_iconst (v := (0 : Int32)) hC dX7_reaches_30 (by decide) ?_
          cases h
          exact g_zret hC hR rfl dX7_reaches_31 (by decide) (by decide)
        · rw [if_neg hc6] at h
          refine g_iconst (v := (1 : Int32)) hC dX7_reaches_26 (by decide) ?_
          refine g_goto (tgt := 31) hC dX7_reaches_27 (by decide) ?_
          cases h
          exact g_zret hC hR rfl dX7_reaches_31 (by decide) (by decide)

theorem mi_X7_write : MI yX7_write cX7_write 3 none 2 := ⟨tw_934, tw_13, by decide +kernel, by decide +kernel, by decide +kernel⟩
noncomputable def f_X7_write (S : Wd) (a0 : Nat) (a1 : Int32) (a2 : Int32) : Option (Wd) := if a1 < 0 then (some S) else (gd (ob S a0 7) (if (wI S a0 2) ≤ a1 then (some S) else (if (20 : Int32) ≤ a1 then (some S) else (gd (ob S a0 7) (Option.bind (wO S a0 0) (fun q6 => gd (ob S a0 7) (if (wI S a0 1) = (8 : Int32) then (gd (ix S q6 100 a1) (ltS (sI S q6 a1.toNatClampNeg a2.toInt8.toInt32) (fun S19 => some S19))) else (gd (ob S a0 7) (if (wI S a0 1) = (16 : Int32) then (gd (ix S q6 100 a1) (ltS (sI S q6 a1.toNatClampNeg a2.toInt16.toInt32) (fun S16 => some S16))) else (gd (ix S q6 100 a1) (ltS (sI S q6 a1.toNatClampNeg a2) (fun S13 => some S13))))))))))))
set_option maxRecDepth 100000 in
set_option maxHeartbeats 4000000 in
theorem k_X7_write {S : Wd} {a0 : Nat} {a1 : Int32} {a2 : Int32} {S' : Wd} (h : f_X7_write S a0 a1 a2 = some S') : Sp yX7_write cX7_write 3 none 0 0 0 0 [.ref a0, .int a1, .int a2] S none S' := by
  unfold f_X7_write at h
  refine Sp.of (by decide +kernel) (Nat.le_of_ble_eq_true rfl) ?_
  intro b hC hin hR
  show G b 0 [(0, .ref a0), (1, .int a1), (2, .int a2)] [] S 0 0
  refine g_iload_n hC dX7_write_0 rfl ?_
  refine g_if_lt (tgt := 53) hC dX7_write_1 (by decide) (fun hc1 => ?_) (fun hc1 => ?_)
  · rw [if_pos hc1] at h
    cases h
    exact g_vret hC hR dX7_write_53 (by decide) (by decide)
  · rw [if_neg hc1] at h
    refine g_iload_n hC dX7_write_4 rfl ?_
    refine g_aload_n hC dX7_write_5 rfl ?_
    obtain ⟨ho2, h⟩ := gd_some h
    refine g_geti (k := 2) hC ck_X7 (by decide) tw_294 rfl (by decide) dX7_write_6 ho2 ?_
    refine g_icmp_ge (tgt := 53) hC dX7_write_9 (by decide) (fun hc3 => ?_) (fun hc3 => ?_)
    · rw [if_pos hc3] at h
      cases h
      exact g_vret hC hR dX7_write_53 (by decide) (by decide)
    · rw [if_neg hc3] at h
      refine g_iload_n hC dX7_write_12 rfl ?_
      refine g_bipush (v := (20 : Int32)) hC dX7_write_13 (by decide) ?_
      refine g_icmp_ge (tgt := 53) hC dX7_write_15 (by decide) (fun hc4 => ?_) (fun hc4 => ?_)
      · rw [if_pos hc4] at h
        cases h
        exact g_vret hC hR dX7_write_53 (by decide) (by decide)
      · rw [if_neg hc4] at h
        refine g_aload_n hC dX7_write_18 rfl ?_
        obtain ⟨ho5, h⟩ := gd_some h
        obtain ⟨q6, hq7, h⟩ := Option.bind_eq_some_iff.mp h
        refine g_getr (k := 0) (q := q6) hC ck_X7 (by decide) tw_292 rfl (by decide) dX7_write_19 ho5 hq7 ?_
        refine g_iload_n hC dX7_write_22 rfl ?_
        refine g_aload_n hC dX7_write_23 rfl ?_
        obtain ⟨ho8, h⟩ := gd_some h
        refine g_geti (k := 1) hC ck_X7 (by decide) tw_293 rfl (by decide) dX7_write_24 ho8 ?_
        refine g_bipush (v := (8 : Int32)) hC dX7_write_27 (by decide) ?_
        refine g_icmp_ne (tgt := 37) hC dX7_write_29 (by decide) (fun hc9 => ?_) (fun hc9 => ?_)
        · rw [if_neg hc9] at h
          refine g_aload_n hC dX7_write_37 rfl ?_
          obtain ⟨ho10, h⟩ := gd_some h
          refine g_geti (k := 1) hC ck_X7 (by decide) tw_293 rfl (by decide) dX7_write_38 ho10 ?_
          refine g_bipush (v := (16 : Int32)) hC dX7_write_41 (by decide) ?_
          refine g_icmp_ne (tgt := 51) hC dX7_write_43 (by decide) (fun hc11 => ?_) (fun hc11 => ?_)
          · rw [if_neg hc11] at h
            refine g_iload_n hC dX7_write_51 rfl ?_
            obtain ⟨hx12, h⟩ := gd_some h
            refine g_iast hC dX7_write_52 hx12.1 hx12.2 ?_
            refine g_name (fun S13 eS14 => ?_)
            have h := ltS_use eS14 h
            cases h
            exact g_vret hC hR dX7_write_53 (by decide) (by decide)
          · rw [if_pos hc11] at h
            refine g_iload_n hC dX7_write_46 rfl ?_
            refine g_i2s hC dX7_write_47 ?_
            refine g_goto (tgt := 52) hC dX7_write_48 (by decide) ?_
            obtain ⟨hx15, h⟩ := gd_some h
            refine g_iast hC dX7_write_52 hx15.1 hx15.2 ?_
            refine g_name (fun S16 eS17 => ?_)
            have h := ltS_use eS17 h
            cases h
            exact g_vret hC hR dX7_write_53 (by decide) (by decide)
        · rw [if_pos hc9] at h
          refine g_iload_n hC dX7_write_32 rfl ?_
          refine g_i2b hC dX7_write_33 ?_
          refine g_goto (tgt := 52) hC dX7_write_34 (by decide) ?_
          obtain ⟨hx18, h⟩ := gd_some h
          refine g_iast hC dX7_write_52 hx18.1 hx18.2 ?_
          refine g_name (fun S19 eS20 => ?_)
          have h := ltS_use eS20 h
          cases h
          exact g_vret hC hR dX7_write_53 (by decide) (by decide)

theorem mi_X11_put : MI yX11_put cX11_put 4 (some .int) 3 := ⟨tw_926, tw_1, by decide +kernel, by decide +kernel, by decide +kernel⟩
noncomputable def f_X11_put (S : Wd) (a0 : Nat) (a1 : Int32) (a2 : Int32) (a3 : Int32) : Option (Int32 × Wd) := bd2 (f_X11_isSheet S a1) (fun r3 S2 => if r3 = 0 then (gd (ob S2 a0 11) (bd2 (f_X11_told S2 a0 (-100001 : Int32)) (fun r47 S45 => some (r47, S45)))) else (gd (ob S2 a0 11) (Option.bind (wO S2 a0 11) (fun q6 => gd (ix S2 q6 102 a1) (Option.bind (wO S2 q6 a1.toNatClampNeg) (fun q9 => gd (ob S2 q9 7) (bd2 (f_X7_isMissing S2 q9) (fun r14 S12 => if r14 = 0 then (gd (ob S12 a0 11) (Option.bind (wO S12 a0 11) (fun q17 => gd (ix S12 q17 102 a1) (Option.bind (wO S12 q17 a1.toNatClampNeg) (fun q20 => gd (ob S12 q20 7) (bd2 (f_X7_reaches S12 q20 a2 (1 : Int32)) (fun r25 S23 => if r25 = 0 then (gd (ob S23 a0 11) (bd2 (f_X11_told S23 a0 (-100001 : Int32)) (fun r39 S37 => some (r39, S37)))) else (gd (ob S23 a0 11) (Option.bind (wO S23 a0 11) (fun q28 => gd (ix S23 q28 102 a1) (Option.bind (wO S23 q28 a1.toNatClampNeg) (fun q31 => gd (ob S23 q31 7) (Option.bind (f_X7_write S23 q31 a2 a3) (fun S34 => some ((0 : Int32), S34))))))))))))))) else (gd (ob S12 a0 11) (bd2 (f_X11_told S12 a0 (-100002 : Int32)) (fun r43 S41 => some (r43, S41))))))))))))
set_option maxRecDepth 100000 in
set_option maxHeartbeats 4000000 in
theorem k_X11_put {S : Wd} {a0 : Nat} {a1 : Int32} {a2 : Int32} {a3 : Int32} {r : Int32} {S' : Wd} (h : f_X11_put S a0 a1 a2 a3 = some (r, S')) : Sp yX11_put cX11_put 4 (some .int) 2 42 0 0 [.ref a0, .int a1, .int a2, .int a3] S (some (.int r)) S' := by
  unfold f_X11_put at h
  refine Sp.of (by decide +kernel) (Nat.le_of_ble_eq_true rfl) ?_
  intro b hC hin hR
  show G b 0 [(0, .ref a0), (1, .int a1), (2, .int a2), (3, .int a3)] [] S 0 0
  refine g_iload_n hC dX11_put_0 rfl ?_
  obtain ⟨r3, S2, hr1, h⟩ := bd2_some h
  refine g_callS (rest := []) hC mi_X11_isSheet (k_X11_isSheet hr1) tw_832 tw_833 dX11_put_1 rfl rfl ⟨by decide, by decide⟩ (Nat.le_of_ble_eq_true rfl) ⟨by decide, by decide⟩ ?_
  refine g_if_ne (tgt := 14) hC dX11_put_4 (by decide) (fun hc4 => ?_) (fun hc4 => ?_)
  · rw [if_neg hc4] at h
    refine g_aload_n hC dX11_put_14 rfl ?_
    obtain ⟨ho5, h⟩ := gd_some h
    obtain ⟨q6, hq7, h⟩ := Option.bind_eq_some_iff.mp h
    refine g_getr (k := 11) (q := q6) hC ck_X11 (by decide) tw_313 rfl (by decide) dX11_put_15 ho5 hq7 ?_
    refine g_iload_n hC dX11_put_18 rfl ?_
    obtain ⟨hx8, h⟩ := gd_some h
    obtain ⟨q9, hq10, h⟩ := Option.bind_eq_some_iff.mp h
    refine g_aald2 hC dX11_put_19 hx8.1 hx8.2 hq10 ?_
    obtain ⟨ho13, h⟩ := gd_some h
    obtain ⟨r14, S12, hr11, h⟩ := bd2_some h
    refine g_callV (rest := []) hC mi_X7_isMissing (k_X7_isMissing hr11) ck_X7.1 (by decide) ho13 tw_835 tw_836 tw_837 dX11_put_20 rfl rfl ⟨by decide, by decide⟩ (Nat.le_of_ble_eq_true rfl) ⟨by decide, by decide⟩ ?_
    refine g_if_eq (tgt := 33) hC dX11_put_23 (by decide) (fun hc15 => ?_) (fun hc15 => ?_)
    · rw [if_pos hc15] at h
      refine g_aload_n hC dX11_put_33 rfl ?_
      obtain ⟨ho16, h⟩ := gd_some h
      obtain ⟨q17, hq18, h⟩ := Option.bind_eq_some_iff.mp h
      refine g_getr (k := 11) (q := q17) hC ck_X11 (by decide) tw_313 rfl (by decide) dX11_put_34 ho16 hq18 ?_
      refine g_iload_n hC dX11_put_37 rfl ?_
      obtain ⟨hx19, h⟩ := gd_some h
      obtain ⟨q20, hq21, h⟩ := Option.bind_eq_some_iff.mp h
      refine g_aald2 hC dX11_put_38 hx19.1 hx19.2 hq21 ?_
      refine g_iload_n hC dX11_put_39 rfl ?_
      refine g_iconst (v := (1 : Int32)) hC dX11_put_40 (by decide) ?_
      obtain ⟨ho24, h⟩ := gd_some h
      obtain ⟨r25, S23, hr22, h⟩ := bd2_some h
      refine g_callV (rest := []) hC mi_X7_reaches (k_X7_reaches hr22) ck_X7.1 (by decide) ho24 tw_927 tw_928 tw_929 dX11_put_41 rfl rfl ⟨by decide, by decide⟩ (Nat.le_of_ble_eq_true rfl) ⟨by decide, by decide⟩ ?_
      refine g_if_ne (tgt := 54) hC dX11_put_44 (by decide) (fun hc26 => ?_) (fun hc26 => ?_)
      · rw [if_neg hc26] at h
        refine g_aload_n hC dX11_put_54 rfl ?_
        obtain ⟨ho27, h⟩ := gd_some h
        obtain ⟨q28, hq29, h⟩ := Option.bind_eq_some_iff.mp h
        refine g_getr (k := 11) (q := q28) hC ck_X11 (by decide) tw_313 rfl (by decide) dX11_put_55 ho27 hq29 ?_
        refine g_iload_n hC dX11_put_58 rfl ?_
        obtain ⟨hx30, h⟩ := gd_some h
        obtain ⟨q31, hq32, h⟩ := Option.bind_eq_some_iff.mp h
        refine g_aald2 hC dX11_put_59 hx30.1 hx30.2 hq32 ?_
        refine g_iload_n hC dX11_put_60 rfl ?_
        refine g_iload_n hC dX11_put_61 rfl ?_
        obtain ⟨ho35, h⟩ := gd_some h
        obtain ⟨S34, hr33, h⟩ := Option.bind_eq_some_iff.mp h
        refine g_callV (rest := []) hC mi_X7_write (k_X7_write hr33) ck_X7.1 (by decide) ho35 tw_931 tw_932 tw_933 dX11_put_62 rfl rfl ⟨by decide, by decide⟩ (Nat.le_of_ble_eq_true rfl) ⟨by decide, by decide⟩ ?_
        refine g_iconst (v := (0 : Int32)) hC dX11_put_65 (by decide) ?_
        cases h
        exact g_iret hC hR dX11_put_66 (by decide) (by decide)
      · rw [if_pos hc26] at h
        refine g_aload_n hC dX11_put_47 rfl ?_
        refine g_ldc hC tw_352 dX11_put_48 ?_
        obtain ⟨ho38, h⟩ := gd_some h
        obtain ⟨r39, S37, hr36, h⟩ := bd2_some h
        refine g_callV (rest := []) hC mi_X11_told (k_X11_told hr36) ck_X11.1 (by decide) ho38 tw_353 tw_355 ts_0 dX11_put_50 rfl rfl ⟨by decide, by decide⟩ (Nat.le_of_ble_eq_true rfl) ⟨by decide, by decide⟩ ?_
        cases h
        exact g_iret hC hR dX11_put_53 (by decide) (by decide)
    · rw [if_neg hc15] at h
      refine g_aload_n hC dX11_put_26 rfl ?_
      refine g_ldc hC tw_839 dX11_put_27 ?_
      obtain ⟨ho42, h⟩ := gd_some h
      obtain ⟨r43, S41, hr40, h⟩ := bd2_some h
      refine g_callV (rest := []) hC mi_X11_told (k_X11_told hr40) ck_X11.1 (by decide) ho42 tw_353 tw_355 ts_0 dX11_put_29 rfl rfl ⟨by decide, by decide⟩ (Nat.le_of_ble_eq_true rfl) ⟨by decide, by decide⟩ ?_
      cases h
      exact g_iret hC hR dX11_put_32 (by decide) (by decide)
  · rw [if_pos hc4] at h
    refine g_aload_n hC dX11_put_7 rfl ?_
    refine g_ldc hC tw_352 dX11_put_8 ?_
    obtain ⟨ho46, h⟩ := gd_some h
    obtain ⟨r47, S45, hr44, h⟩ := bd2_some h
    refine g_callV (rest := []) hC mi_X11_told (k_X11_told hr44) ck_X11.1 (by decide) ho46 tw_353 tw_355 ts_0 dX11_put_10 rfl rfl ⟨by decide, by decide⟩ (Nat.le_of_ble_eq_true rfl) ⟨by decide, by decide⟩ ?_
    cases h
    exact g_iret hC hR dX11_put_13 (by decide) (by decide)

theorem mi_X7_isAsWideAs : MI yX7_isAsWideAs cX7_isAsWideAs 2 (some .boolean) 1 := ⟨tw_942, tw_13, by decide +kernel, by decide +kernel, by decide +kernel⟩
noncomputable def f_X7_isAsWideAs (S : Wd) (a0 : Nat) (a1 : Nat) : Option (Int32 × Wd) := gd (ob S a0 7) (gd (ob S a1 7) (if (wI S a0 1) = (wI S a1 1) then (some ((1 : Int32), S)) else (some ((0 : Int32), S))))
set_option maxRecDepth 100000 in
set_option maxHeartbeats 4000000 in
theorem k_X7_isAsWideAs {S : Wd} {a0 : Nat} {a1 : Nat} {r : Int32} {S' : Wd} (h : f_X7_isAsWideAs S a0 a1 = some (r, S')) : Sp yX7_isAsWideAs cX7_isAsWideAs 2 (some .boolean) 0 0 0 0 [.ref a0, .ref a1] S (some (.int r)) S' := by
  unfold f_X7_isAsWideAs at h
  refine Sp.of (by decide +kernel) (Nat.le_of_ble_eq_true rfl) ?_
  intro b hC hin hR
  show G b 0 [(0, .ref a0), (1, .ref a1)] [] S 0 0
  refine g_aload_n hC dX7_isAsWideAs_0 rfl ?_
  obtain ⟨ho1, h⟩ := gd_some h
  refine g_geti (k := 1) hC ck_X7 (by decide) tw_293 rfl (by decide) dX7_isAsWideAs_1 ho1 ?_
  refine g_aload_n hC dX7_isAsWideAs_4 rfl ?_
  obtain ⟨ho2, h⟩ := gd_some h
  refine g_geti (k := 1) hC ck_X7 (by decide) tw_293 rfl (by decide) dX7_isAsWideAs_5 ho2 ?_
  refine g_icmp_ne (tgt := 15) hC dX7_isAsWideAs_8 (by decide) (fun hc3 => ?_) (fun hc3 => ?_)
  · rw [if_neg hc3] at h
    refine g_iconst (v := (0 : Int32)) hC dX7_isAsWideAs_15 (by decide) ?_
    cases h
    exact g_zret hC hR rfl dX7_isAsWideAs_16 (by decide) (by decide)
  · rw [if_pos hc3] at h
    refine g_iconst (v := (1 : Int32)) hC dX7_isAsWideAs_11 (by decide) ?_
    refine g_goto (tgt := 16) hC dX7_isAsWideAs_12 (by decide) ?_
    cases h
    exact g_zret hC hR rfl dX7_isAsWideAs_16 (by decide) (by decide)

theorem mi_X7_take : MI yX7_take cX7_take 5 none 4 := ⟨tw_946, tw_13, by decide +kernel, by decide +kernel, by decide +kernel⟩
noncomputable def f_X7_take (S : Wd) (a0 : Nat) (a1 : Nat) (a2 : Int32) (a3 : Int32) (a4 : Int32) : Option (Wd) := gd (ob S a1 7) (bd2 (f_X7_reaches S a1 a2 a4) (fun r4 S2 => if r4 = 0 then (some S2) else (gd (ob S2 a0 7) (bd2 (f_X7_reaches S2 a0 a3 a4) (fun r9 S7 => if r9 = 0 then (some S7) else (gd (ob S7 a1 7) (Option.bind (wO S7 a1 0) (fun q12 => gd (ob S7 a0 7) (Option.bind (wO S7 a0 0) (fun q15 => gd (ob S7 q12 100) (gd (ob S7 q15 100) (gd (¬ a2 < 0 ∧ ¬ a3 < 0 ∧ ¬ a4 < 0 ∧ a2.toNatClampNeg + a4.toNatClampNeg ≤ wlen S7 q12 ∧ a3.toNatClampNeg + a4.toNatClampNeg ≤ wlen S7 q15) (ltS (sA S7 q15 (va_cpy (wI S7 q12) (wI S7 q15) a2.toNatClampNeg a3.toNatClampNeg a4.toNatClampNeg)) (fun S20 => some S20))))))))))))))
set_option maxRecDepth 100000 in
set_option maxHeartbeats 4000000 in
theorem k_X7_take {S : Wd} {a0 : Nat} {a1 : Nat} {a2 : Int32} {a3 : Int32} {a4 : Int32} {S' : Wd} (h : f_X7_take S a0 a1 a2 a3 a4 = some S') : Sp yX7_take cX7_take 5 none 1 30 0 0 [.ref a0, .ref a1, .int a2, .int a3, .int a4] S none S' := by
  unfold f_X7_take at h
  refine Sp.of (by decide +kernel) (Nat.le_of_ble_eq_true rfl) ?_
  intro b hC hin hR
  show G b 0 [(0, .ref a0), (1, .ref a1), (2, .int a2), (3, .int a3), (4, .int a4)] [] S 0 0
  refine g_aload_n hC dX7_take_0 rfl ?_
  refine g_iload_n hC dX7_take_1 rfl ?_
  refine g_iload hC dX7_take_2 rfl ?_
  obtain ⟨ho3, h⟩ := gd_some h
  obtain ⟨r4, S2, hr1, h⟩ := bd2_some h
  refine g_callV (rest := []) hC mi_X7_reaches (k_X7_reaches hr1) ck_X7.1 (by decide) ho3 tw_947 tw_928 tw_929 dX7_take_4 rfl rfl ⟨by decide, by decide⟩ (Nat.le_of_ble_eq_true rfl) ⟨by decide, by decide⟩ ?_
  refine g_if_eq (tgt := 35) hC dX7_take_7 (by decide) (fun hc5 => ?_) (fun hc5 => ?_)
  · rw [if_pos hc5] at h
    cases h
    exact g_vret hC hR dX7_take_35 (by decide) (by decide)
  · rw [if_neg hc5] at h
    refine g_aload_n hC dX7_take_10 rfl ?_
    refine g_iload_n hC dX7_take_11 rfl ?_
    refine g_iload hC dX7_take_12 rfl ?_
    obtain ⟨ho8, h⟩ := gd_some h
    obtain ⟨r9, S7, hr6, h⟩ := bd2_some h
    refine g_callV (rest := []) hC mi_X7_reaches (k_X7_reaches hr6) ck_X7.1 (by decide) ho8 tw_947 tw_928 tw_929 dX7_take_14 rfl rfl ⟨by decide, by decide⟩ (Nat.le_of_ble_eq_true rfl) ⟨by decide, by decide⟩ ?_
    refine g_if_eq (tgt := 35) hC dX7_take_17 (by decide) (fun hc10 => ?_) (fun hc10 => ?_)
    · rw [if_pos hc10] at h
      cases h
      exact g_vret hC hR dX7_take_35 (by decide) (by decide)
    · rw [if_neg hc10] at h
      refine g_aload_n hC dX7_take_20 rfl ?_
      obtain ⟨ho11, h⟩ := gd_some h
      obtain ⟨q12, hq13, h⟩ := Option.bind_eq_some_iff.mp h
      refine g_getr (k := 0) (q := q12) hC ck_X7 (by decide) tw_292 rfl (by decide) dX7_take_21 ho11 hq13 ?_
      refine g_iload_n hC dX7_take_24 rfl ?_
      refine g_aload_n hC dX7_take_25 rfl ?_
      obtain ⟨ho14, h⟩ := gd_some h
      obtain ⟨q15, hq16, h⟩ := Option.bind_eq_some_iff.mp h
      refine g_getr (k := 0) (q := q15) hC ck_X7 (by decide) tw_292 rfl (by decide) dX7_take_26 ho14 hq16 ?_
      refine g_iload_n hC dX7_take_29 rfl ?_
      refine g_iload hC dX7_take_30 rfl ?_
      obtain ⟨ho17, h⟩ := gd_some h
      obtain ⟨ho18, h⟩ := gd_some h
      obtain ⟨hn19, h⟩ := gd_some h
      refine g_copy hC tw_948 tw_383 tw_382 tw_16 dX7_take_32 ho17 ho18 hn19.1 hn19.2.1 hn19.2.2.1 hn19.2.2.2.1 hn19.2.2.2.2 (by decide) (Nat.le_of_ble_eq_true rfl) ?_
      refine g_name (fun S20 eS21 => ?_)
      have h := ltS_use eS21 h
      cases h
      exact g_vret hC hR dX7_take_35 (by decide) (by decide)

theorem mi_X11_copy : MI yX11_copy cX11_copy 6 (some .int) 5 := ⟨tw_938, tw_1, by decide +kernel, by decide +kernel, by decide +kernel⟩
noncomputable def f_X11_copy (S : Wd) (a0 : Nat) (a1 : Int32) (a2 : Int32) (a3 : Int32) (a4 : Int32) (a5 : Int32) : Option (Int32 × Wd) := bd2 (f_X11_isSheet S a1) (fun r3 S2 => if r3 = 0 then (gd (ob S2 a0 11) (bd2 (f_X11_told S2 a0 (-100001 : Int32)) (fun r8 S6 => some (r8, S6)))) else (bd2 (f_X11_isSheet S2 a3) (fun r11 S10 => if r11 = 0 then (gd (ob S10 a0 11) (bd2 (f_X11_told S10 a0 (-100001 : Int32)) (fun r112 S110 => some (r112, S110)))) else (gd (ob S10 a0 11) (Option.bind (wO S10 a0 11) (fun q14 => gd (ix S10 q14 102 a1) (Option.bind (wO S10 q14 a1.toNatClampNeg) (fun q17 => gd (ob S10 q17 7) (bd2 (f_X7_isMissing S10 q17) (fun r22 S20 => if r22 = 0 then (gd (ob S20 a0 11) (Option.bind (wO S20 a0 11) (fun q29 => gd (ix S20 q29 102 a3) (Option.bind (wO S20 q29 a3.toNatClampNeg) (fun q32 => gd (ob S20 q32 7) (bd2 (f_X7_isMissing S20 q32) (fun r37 S35 => if r37 = 0 then (gd (ob S35 a0 11) (Option.bind (wO S35 a0 11) (fun q40 => gd (ix S35 q40 102 a1) (Option.bind (wO S35 q40 a1.toNatClampNeg) (fun q43 => gd (ob S35 a0 11) (Option.bind (wO S35 a0 11) (fun q46 => gd (ix S35 q46 102 a3) (Option.bind (wO S35 q46 a3.toNatClampNeg) (fun q49 => gd (ob S35 q43 7) (bd2 (f_X7_isAsWideAs S35 q43 q49) (fun r54 S52 => if r54 = 0 then (gd (ob S52 a0 11) (bd2 (f_X11_told S52 a0 (-100004 : Int32)) (fun r104 S102 => some (r104, S102)))) else (gd (ob S52 a0 11) (Option.bind (wO S52 a0 11) (fun q57 => gd (ix S52 q57 102 a1) (Option.bind (wO S52 q57 a1.toNatClampNeg) (fun q60 => gd (ob S52 q60 7) (bd2 (f_X7_reaches S52 q60 a2 a5) (fun r65 S63 => if r65 = 0 then (gd (ob S63 a0 11) (bd2 (f_X11_told S63 a0 (-100001 : Int32)) (fun r70 S68 => some (r70, S68)))) else (gd (ob S63 a0 11) (Option.bind (wO S63 a0 11) (fun q72 => gd (ix S63 q72 102 a3) (Option.bind (wO S63 q72 a3.toNatClampNeg) (fun q75 => gd (ob S63 q75 7) (bd2 (f_X7_reaches S63 q75 a4 a5) (fun r80 S78 => if r80 = 0 then (gd (ob S78 a0 11) (bd2 (f_X11_told S78 a0 (-100001 : Int32)) (fun r100 S98 => some (r100, S98)))) else (gd (ob S78 a0 11) (Option.bind (wO S78 a0 11) (fun q83 => gd (ix S78 q83 102 a3) (Option.bind (wO S78 q83 a3.toNatClampNeg) (fun q86 => gd (ob S78 a0 11) (Option.bind (wO S78 a0 11) (fun q89 => gd (ix S78 q89 102 a1) (Option.bind (wO S78 q89 a1.toNatClampNeg) (fun q92 => gd (ob S78 q86 7) (Option.bind (f_X7_take S78 q86 q92 a2 a4 a5) (fun S95 => some (a5, S95))))))))))))))))))))))))))))))))))))) else (gd (ob S35 a0 11) (bd2 (f_X11_told S35 a0 (-100002 : Int32)) (fun r108 S106 => some (r108, S106))))))))))) else (gd (ob S20 a0 11) (bd2 (f_X11_told S20 a0 (-100002 : Int32)) (fun r27 S25 => some (r27, S25))))))))))))))
set_option maxRecDepth 100000 in
set_option maxHeartbeats 4000000 in
theorem k_X11_copy {S : Wd} {a0 : Nat} {a1 : Int32} {a2 : Int32} {a3 : Int32} {a4 : Int32} {a5 : Int32} {r : Int32} {S' : Wd} (h : f_X11_copy S a0 a1 a2 a3 a4 a5 = some (r, S')) : Sp yX11_copy cX11_copy 6 (some .int) 2 54 0 0 [.ref a0, .int a1, .int a2, .int a3, .int a4, .int a5] S (some (.int r)) S' := by
  unfold f_X11_copy at h
  refine Sp.of (by decide +kernel) (Nat.le_of_ble_eq_true rfl) ?_
  intro b hC hin hR
  show G b 0 [(0, .ref a0), (1, .int a1), (2, .int a2), (3, .int a3), (4, .int a4), (5, .int a5)] [] S 0 0
  refine g_iload_n hC dX11_copy_0 rfl ?_
  obtain ⟨r3, S2, hr1, h⟩ := bd2_some h
  refine g_callS (rest := []) hC mi_X11_isSheet (k_X11_isSheet hr1) tw_832 tw_833 dX11_copy_1 rfl rfl ⟨by decide, by decide⟩ (Nat.le_of_ble_eq_true rfl) ⟨by decide, by decide⟩ ?_
  refine g_if_eq (tgt := 14) hC dX11_copy_4 (by decide) (fun hc4 => ?_) (fun hc4 => ?_)
  · rw [if_pos hc4] at h
    refine g_aload_n hC dX11_copy_14 rfl ?_
    refine g_ldc hC tw_352 dX11_copy_15 ?_
    obtain ⟨ho7, h⟩ := gd_some h
    obtain ⟨r8, S6, hr5, h⟩ := bd2_some h
    refine g_callV (rest := []) hC mi_X11_told (k_X11_told hr5) ck_X11.1 (by decide) ho7 tw_353 tw_355 ts_0 dX11_copy_17 rfl rfl ⟨by decide, by decide⟩ (Nat.le_of_ble_eq_true rfl) ⟨by decide, by decide⟩ ?_
    cases h
    exact g_iret hC hR dX11_copy_20 (by decide) (by decide)
  · rw [if_neg hc4] at h
    refine g_iload_n hC dX11_copy_7 rfl ?_
    obtain ⟨r11, S10, hr9, h⟩ := bd2_some h
    refine g_callS (rest := []) hC mi_X11_isSheet (k_X11_isSheet hr9) tw_832 tw_833 dX11_copy_8 rfl rfl ⟨by decide, by decide⟩ (Nat.le_of_ble_eq_true rfl) ⟨by decide, by decide⟩ ?_
    refine g_if_ne (tgt := 21) hC dX11_copy_11 (by decide) (fun hc12 => ?_) (fun hc12 => ?_)
    · rw [if_neg hc12] at h
      refine g_aload_n hC dX11_copy_21 rfl ?_
      obtain ⟨ho13, h⟩ := gd_some h
      obtain ⟨q14, hq15, h⟩ := Option.bind_eq_some_iff.mp h
      refine g_getr (k := 11) (q := q14) hC ck_X11 (by decide) tw_313 rfl (by decide) dX11_copy_22 ho13 hq15 ?_
      refine g_iload_n hC dX11_copy_25 rfl ?_
      obtain ⟨hx16, h⟩ := gd_some h
      obtain ⟨q17, hq18, h⟩ := Option.bind_eq_some_iff.mp h
      refine g_aald2 hC dX11_copy_26 hx16.1 hx16.2 hq18 ?_
      obtain ⟨ho21, h⟩ := gd_some h
      obtain ⟨r22, S20, hr19, h⟩ := bd2_some h
      refine g_callV (rest := []) hC mi_X7_isMissing (k_X7_isMissing hr19) ck_X7.1 (by decide) ho21 tw_835 tw_836 tw_837 dX11_copy_27 rfl rfl ⟨by decide, by decide⟩ (Nat.le_of_ble_eq_true rfl) ⟨by decide, by decide⟩ ?_
      refine g_if_ne (tgt := 45) hC dX11_copy_30 (by decide) (fun hc23 => ?_) (fun hc23 => ?_)
      · rw [if_neg hc23] at h
        refine g_aload_n hC dX11_copy_45 rfl ?_
        refine g_ldc hC tw_839 dX11_copy_46 ?_
        obtain ⟨ho26, h⟩ := gd_some h
        obtain ⟨r27, S25, hr24, h⟩ := bd2_some h
        refine g_callV (rest := []) hC mi_X11_told (k_X11_told hr24) ck_X11.1 (by decide) ho26 tw_353 tw_355 ts_0 dX11_copy_48 rfl rfl ⟨by decide, by decide⟩ (Nat.le_of_ble_eq_true rfl) ⟨by decide, by decide⟩ ?_
        cases h
        exact g_iret hC hR dX11_copy_51 (by decide) (by decide)
      · rw [if_pos hc23] at h
        refine g_aload_n hC dX11_copy_33 rfl ?_
        obtain ⟨ho28, h⟩ := gd_some h
        obtain ⟨q29, hq30, h⟩ := Option.bind_eq_some_iff.mp h
        refine g_getr (k := 11) (q := q29) hC ck_X11 (by decide) tw_313 rfl (by decide) dX11_copy_34 ho28 hq30 ?_
        refine g_iload_n hC dX11_copy_37 rfl ?_
        obtain ⟨hx31, h⟩ := gd_some h
        obtain ⟨q32, hq33, h⟩ := Option.bind_eq_some_iff.mp h
        refine g_aald2 hC dX11_copy_38 hx31.1 hx31.2 hq33 ?_
        obtain ⟨ho36, h⟩ := gd_some h
        obtain ⟨r37, S35, hr34, h⟩ := bd2_some h
        refine g_callV (rest := []) hC mi_X7_isMissing (k_X7_isMissing hr34) ck_X7.1 (by decide) ho36 tw_835 tw_836 tw_837 dX11_copy_39 rfl rfl ⟨by decide, by decide⟩ (Nat.le_of_ble_eq_true rfl) ⟨by decide, by decide⟩ ?_
        refine g_if_eq (tgt := 52) hC dX11_copy_42 (by decide) (fun hc38 => ?_) (fun hc38 => ?_)
        · rw [if_pos hc38] at h
          refine g_aload_n hC dX11_copy_52 rfl ?_
          obtain ⟨ho39, h⟩ := gd_some h
          obtain ⟨q40, hq41, h⟩ := Option.bind_eq_some_iff.mp h
          refine g_getr (k := 11) (q := q40) hC ck_X11 (by decide) tw_313 rfl (by decide) dX11_copy_53 ho39 hq41 ?_
          refine g_iload_n hC dX11_copy_56 rfl ?_
          obtain ⟨hx42, h⟩ := gd_some h
          obtain ⟨q43, hq44, h⟩ := Option.bind_eq_some_iff.mp h
          refine g_aald2 hC dX11_copy_57 hx42.1 hx42.2 hq44 ?_
          refine g_aload_n hC dX11_copy_58 rfl ?_
          obtain ⟨ho45, h⟩ := gd_some h
          obtain ⟨q46, hq47, h⟩ := Option.bind_eq_some_iff.mp h
          refine g_getr (k := 11) (q := q46) hC ck_X11 (by decide) tw_313 rfl (by decide) dX11_copy_59 ho45 hq47 ?_
          refine g_iload_n hC dX11_copy_62 rfl ?_
          obtain ⟨hx48, h⟩ := gd_some h
          obtain ⟨q49, hq50, h⟩ := Option.bind_eq_some_iff.mp h
          refine g_aald2 hC dX11_copy_63 hx48.1 hx48.2 hq50 ?_
          obtain ⟨ho53, h⟩ := gd_some h
          obtain ⟨r54, S52, hr51, h⟩ := bd2_some h
          refine g_callV (rest := []) hC mi_X7_isAsWideAs (k_X7_isAsWideAs hr51) ck_X7.1 (by decide) ho53 tw_939 tw_940 tw_941 dX11_copy_64 rfl rfl ⟨by decide, by decide⟩ (Nat.le_of_ble_eq_true rfl) ⟨by decide, by decide⟩ ?_
          refine g_if_ne (tgt := 77) hC dX11_copy_67 (by decide) (fun hc55 => ?_) (fun hc55 => ?_)
          · rw [if_neg hc55] at h
            refine g_aload_n hC dX11_copy_77 rfl ?_
            obtain ⟨ho56, h⟩ := gd_some h
            obtain ⟨q57, hq58, h⟩ := Option.bind_eq_some_iff.mp h
            refine g_getr (k := 11) (q := q57) hC ck_X11 (by decide) tw_313 rfl (by decide) dX11_copy_78 ho56 hq58 ?_
            refine g_iload_n hC dX11_copy_81 rfl ?_
            obtain ⟨hx59, h⟩ := gd_some h
            obtain ⟨q60, hq61, h⟩ := Option.bind_eq_some_iff.mp h
            refine g_aald2 hC dX11_copy_82 hx59.1 hx59.2 hq61 ?_
            refine g_iload_n hC dX11_copy_83 rfl ?_
            refine g_iload hC dX11_copy_84 rfl ?_
            obtain ⟨ho64, h⟩ := gd_some h
            obtain ⟨r65, S63, hr62, h⟩ := bd2_some h
            refine g_callV (rest := []) hC mi_X7_reaches (k_X7_reaches hr62) ck_X7.1 (by decide) ho64 tw_927 tw_928 tw_929 dX11_copy_86 rfl rfl ⟨by decide, by decide⟩ (Nat.le_of_ble_eq_true rfl) ⟨by decide, by decide⟩ ?_
            refine g_if_eq (tgt := 108) hC dX11_copy_89 (by decide) (fun hc66 => ?_) (fun hc66 => ?_)
            · rw [if_pos hc66] at h
              refine g_aload_n hC dX11_copy_108 rfl ?_
              refine g_ldc hC tw_352 dX11_copy_109 ?_
              obtain ⟨ho69, h⟩ := gd_some h
              obtain ⟨r70, S68, hr67, h⟩ := bd2_some h
              refine g_callV (rest := []) hC mi_X11_told (k_X11_told hr67) ck_X11.1 (by decide) ho69 tw_353 tw_355 ts_0 dX11_copy_111 rfl rfl ⟨by decide, by decide⟩ (Nat.le_of_ble_eq_true rfl) ⟨by decide, by decide⟩ ?_
              cases h
              exact g_iret hC hR dX11_copy_114 (by decide) (by decide)
            · rw [if_neg hc66] at h
              refine g_aload_n hC dX11_copy_92 rfl ?_
              obtain ⟨ho71, h⟩ := gd_some h
              obtain ⟨q72, hq73, h⟩ := Option.bind_eq_some_iff.mp h
              refine g_getr (k := 11) (q := q72) hC ck_X11 (by decide) tw_313 rfl (by decide) dX11_copy_93 ho71 hq73 ?_
              refine g_iload_n hC dX11_copy_96 rfl ?_
              obtain ⟨hx74, h⟩ := gd_some h
              obtain ⟨q75, hq76, h⟩ := Option.bind_eq_some_iff.mp h
              refine g_aald2 hC dX11_copy_97 hx74.1 hx74.2 hq76 ?_
              refine g_iload hC dX11_copy_98 rfl ?_
              refine g_iload hC dX11_copy_100 rfl ?_
              obtain ⟨ho79, h⟩ := gd_some h
              obtain ⟨r80, S78, hr77, h⟩ := bd2_some h
              refine g_callV (rest := []) hC mi_X7_reaches (k_X7_reaches hr77) ck_X7.1 (by decide) ho79 tw_927 tw_928 tw_929 dX11_copy_102 rfl rfl ⟨by decide, by decide⟩ (Nat.le_of_ble_eq_true rfl) ⟨by decide, by decide⟩ ?_
              refine g_if_ne (tgt := 115) hC dX11_copy_105 (by decide) (fun hc81 => ?_) (fun hc81 => ?_)
              · rw [if_neg hc81] at h
                refine g_aload_n hC dX11_copy_115 rfl ?_
                obtain ⟨ho82, h⟩ := gd_some h
                obtain ⟨q83, hq84, h⟩ := Option.bind_eq_some_iff.mp h
                refine g_getr (k := 11) (q := q83) hC ck_X11 (by decide) tw_313 rfl (by decide) dX11_copy_116 ho82 hq84 ?_
                refine g_iload_n hC dX11_copy_119 rfl ?_
                obtain ⟨hx85, h⟩ := gd_some h
                obtain ⟨q86, hq87, h⟩ := Option.bind_eq_some_iff.mp h
                refine g_aald2 hC dX11_copy_120 hx85.1 hx85.2 hq87 ?_
                refine g_aload_n hC dX11_copy_121 rfl ?_
                obtain ⟨ho88, h⟩ := gd_some h
                obtain ⟨q89, hq90, h⟩ := Option.bind_eq_some_iff.mp h
                refine g_getr (k := 11) (q := q89) hC ck_X11 (by decide) tw_313 rfl (by decide) dX11_copy_122 ho88 hq90 ?_
                refine g_iload_n hC dX11_copy_125 rfl ?_
                obtain ⟨hx91, h⟩ := gd_some h
                obtain ⟨q92, hq93, h⟩ := Option.bind_eq_some_iff.mp h
                refine g_aald2 hC dX11_copy_126 hx91.1 hx91.2 hq93 ?_
                refine g_iload_n hC dX11_copy_127 rfl ?_
                refine g_iload hC dX11_copy_128 rfl ?_
                refine g_iload hC dX11_copy_130 rfl ?_
                obtain ⟨ho96, h⟩ := gd_some h
                obtain ⟨S95, hr94, h⟩ := Option.bind_eq_some_iff.mp h
                refine g_callV (rest := []) hC mi_X7_take (k_X7_take hr94) ck_X7.1 (by decide) ho96 tw_943 tw_944 tw_945 dX11_copy_132 rfl rfl ⟨by decide, by decide⟩ (Nat.le_of_ble_eq_true rfl) ⟨by decide, by decide⟩ ?_
                refine g_iload hC dX11_copy_135 rfl ?_
                cases h
                exact g_iret hC hR dX11_copy_137 (by decide) (by decide)
              · rw [if_pos hc81] at h
                refine g_aload_n hC dX11_copy_108 rfl ?_
                refine g_ldc hC tw_352 dX11_copy_109 ?_
                obtain ⟨ho99, h⟩ := gd_some h
                obtain ⟨r100, S98, hr97, h⟩ := bd2_some h
                refine g_callV (rest := []) hC mi_X11_told (k_X11_told hr97) ck_X11.1 (by decide) ho99 tw_353 tw_355 ts_0 dX11_copy_111 rfl rfl ⟨by decide, by decide⟩ (Nat.le_of_ble_eq_true rfl) ⟨by decide, by decide⟩ ?_
                cases h
                exact g_iret hC hR dX11_copy_114 (by decide) (by decide)
          · rw [if_pos hc55] at h
            refine g_aload_n hC dX11_copy_70 rfl ?_
            refine g_ldc hC tw_442 dX11_copy_71 ?_
            obtain ⟨ho103, h⟩ := gd_some h
            obtain ⟨r104, S102, hr101, h⟩ := bd2_some h
            refine g_callV (rest := []) hC mi_X11_told (k_X11_told hr101) ck_X11.1 (by decide) ho103 tw_353 tw_355 ts_0 dX11_copy_73 rfl rfl ⟨by decide, by decide⟩ (Nat.le_of_ble_eq_true rfl) ⟨by decide, by decide⟩ ?_
            cases h
            exact g_iret hC hR dX11_copy_76 (by decide) (by decide)
        · rw [if_neg hc38] at h
          refine g_aload_n hC dX11_copy_45 rfl ?_
          refine g_ldc hC tw_839 dX11_copy_46 ?_
          obtain ⟨ho107, h⟩ := gd_some h
          obtain ⟨r108, S106, hr105, h⟩ := bd2_some h
          refine g_callV (rest := []) hC mi_X11_told (k_X11_told hr105) ck_X11.1 (by decide) ho107 tw_353 tw_355 ts_0 dX11_copy_48 rfl rfl ⟨by decide, by decide⟩ (Nat.le_of_ble_eq_true rfl) ⟨by decide, by decide⟩ ?_
          cases h
          exact g_iret hC hR dX11_copy_51 (by decide) (by decide)
    · rw [if_pos hc12] at h
      refine g_aload_n hC dX11_copy_14 rfl ?_
      refine g_ldc hC tw_352 dX11_copy_15 ?_
      obtain ⟨ho111, h⟩ := gd_some h
      obtain ⟨r112, S110, hr109, h⟩ := bd2_some h
      refine g_callV (rest := []) hC mi_X11_told (k_X11_told hr109) ck_X11.1 (by decide) ho111 tw_353 tw_355 ts_0 dX11_copy_17 rfl rfl ⟨by decide, by decide⟩ (Nat.le_of_ble_eq_true rfl) ⟨by decide, by decide⟩ ?_
      cases h
      exact g_iret hC hR dX11_copy_20 (by decide) (by decide)

theorem mi_X3_writeAgain : MI yX3_writeAgain cX3_writeAgain 3 none 3 := ⟨tw_960, tw_2, by decide +kernel, by decide +kernel, by decide +kernel⟩
noncomputable def f_X3_writeAgain (S : Wd) (a0 : Nat) (a1 : Nat) (a2 : Int32) : Option (Wd) := if a2 < 0 then (some S) else (gd (ob S a0 100) (gd (ob S a1 100) (if ((Int32.ofNat (wlen S a0)) - (Int32.ofNat (wlen S a1))) < a2 then (some S) else (gd (ob S a1 100) (gd (ob S a1 100) (gd (ob S a0 100) (gd (¬ (0 : Int32) < 0 ∧ ¬ a2 < 0 ∧ ¬ (Int32.ofNat (wlen S a1)) < 0 ∧ (0 : Int32).toNatClampNeg + (Int32.ofNat (wlen S a1)).toNatClampNeg ≤ wlen S a1 ∧ a2.toNatClampNeg + (Int32.ofNat (wlen S a1)).toNatClampNeg ≤ wlen S a0) (ltS (sA S a0 (va_cpy (wI S a1) (wI S a0) (0 : Int32).toNatClampNeg a2.toNatClampNeg (Int32.ofNat (wlen S a1)).toNatClampNeg)) (fun S9 => some S9)))))))))
set_option maxRecDepth 100000 in
set_option maxHeartbeats 4000000 in
theorem k_X3_writeAgain {S : Wd} {a0 : Nat} {a1 : Nat} {a2 : Int32} {S' : Wd} (h : f_X3_writeAgain S a0 a1 a2 = some S') : Sp yX3_writeAgain cX3_writeAgain 3 none 1 30 0 0 [.ref a0, .ref a1, .int a2] S none S' := by
  unfold f_X3_writeAgain at h
  refine Sp.of (by decide +kernel) (Nat.le_of_ble_eq_true rfl) ?_
  intro b hC hin hR
  show G b 0 [(0, .ref a0), (1, .ref a1), (2, .int a2)] [] S 0 0
  refine g_aload_n hC dX3_writeAgain_0 rfl ?_
  refine g_ifnull hC dX3_writeAgain_1 ?_
  refine g_aload_n hC dX3_writeAgain_4 rfl ?_
  refine g_ifnull hC dX3_writeAgain_5 ?_
  refine g_iload_n hC dX3_writeAgain_8 rfl ?_
  refine g_if_lt (tgt := 30) hC dX3_writeAgain_9 (by decide) (fun hc1 => ?_) (fun hc1 => ?_)
  · rw [if_pos hc1] at h
    cases h
    exact g_vret hC hR dX3_writeAgain_30 (by decide) (by decide)
  · rw [if_neg hc1] at h
    refine g_iload_n hC dX3_writeAgain_12 rfl ?_
    refine g_aload_n hC dX3_writeAgain_13 rfl ?_
    obtain ⟨ho2, h⟩ := gd_some h
    refine g_alen hC dX3_writeAgain_14 ho2 ?_
    refine g_aload_n hC dX3_writeAgain_15 rfl ?_
    obtain ⟨ho3, h⟩ := gd_some h
    refine g_alen hC dX3_writeAgain_16 ho3 ?_
    refine g_isub hC dX3_writeAgain_17 ?_
    refine g_icmp_gt (tgt := 30) hC dX3_writeAgain_18 (by decide) (fun hc4 => ?_) (fun hc4 => ?_)
    · rw [if_pos hc4] at h
      cases h
      exact g_vret hC hR dX3_writeAgain_30 (by decide) (by decide)
    · rw [if_neg hc4] at h
      refine g_aload_n hC dX3_writeAgain_21 rfl ?_
      refine g_iconst (v := (0 : Int32)) hC dX3_writeAgain_22 (by decide) ?_
      refine g_aload_n hC dX3_writeAgain_23 rfl ?_
      refine g_iload_n hC dX3_writeAgain_24 rfl ?_
      refine g_aload_n hC dX3_writeAgain_25 rfl ?_
      obtain ⟨ho5, h⟩ := gd_some h
      refine g_alen hC dX3_writeAgain_26 ho5 ?_
      obtain ⟨ho6, h⟩ := gd_some h
      obtain ⟨ho7, h⟩ := gd_some h
      obtain ⟨hn8, h⟩ := gd_some h
      refine g_copy hC tw_961 tw_383 tw_382 tw_16 dX3_writeAgain_27 ho6 ho7 hn8.1 hn8.2.1 hn8.2.2.1 hn8.2.2.2.1 hn8.2.2.2.2 (by decide) (Nat.le_of_ble_eq_true rfl) ?_
      refine g_name (fun S9 eS10 => ?_)
      have h := ltS_use eS10 h
      cases h
      exact g_vret hC hR dX3_writeAgain_30 (by decide) (by decide)

theorem mi_X3_takeBack : MI yX3_takeBack cX3_takeBack 1 (some .int) 0 := ⟨tw_956, tw_2, by decide +kernel, by decide +kernel, by decide +kernel⟩
noncomputable def f_X3_takeBack (S : Wd) (a0 : Nat) : Option (Int32 × Wd) := gd (ob S a0 3) (if (wI S a0 3) = 0 then (some ((-100006 : Int32), S)) else (gd (ob S a0 3) (gd (ob S a0 3) (ltS (sI S a0 3 ((wI S a0 3) - (1 : Int32))) (fun S5 => gd (ob S5 a0 3) (gd (ob S5 a0 3) (ltS (sI S5 a0 4 (irm (((wI S5 a0 4) + (16 : Int32)) - (1 : Int32)) (16 : Int32))) (fun S9 => gd (ob S9 a0 3) (Option.bind (wO S9 a0 0) (fun q12 => gd (ob S9 a0 3) (gd (ix S9 q12 103 (wI S9 a0 4)) (Option.bind (wO S9 q12 (wI S9 a0 4).toNatClampNeg) (fun q16 => gd (ob S9 a0 3) (Option.bind (wO S9 a0 1) (fun q19 => gd (ob S9 a0 3) (gd (ix S9 q19 103 (wI S9 a0 4)) (Option.bind (wO S9 q19 (wI S9 a0 4).toNatClampNeg) (fun q23 => gd (ob S9 a0 3) (Option.bind (wO S9 a0 2) (fun q26 => gd (ob S9 a0 3) (gd (ix S9 q26 100 (wI S9 a0 4)) (Option.bind (f_X3_writeAgain S9 q16 q23 (wI S9 q26 (wI S9 a0 4).toNatClampNeg)) (fun S31 => gd (ob S31 a0 3) (gd (ob S31 a0 3) (ltS (sI S31 a0 5 ((wI S31 a0 5) + (1 : Int32))) (fun S34 => gd (ob S34 a0 3) (some ((wI S34 a0 3), S34))))))))))))))))))))))))))))
set_option maxRecDepth 100000 in
set_option maxHeartbeats 4000000 in
theorem k_X3_takeBack {S : Wd} {a0 : Nat} {r : Int32} {S' : Wd} (h : f_X3_takeBack S a0 = some (r, S')) : Sp yX3_takeBack cX3_takeBack 1 (some .int) 2 52 0 0 [.ref a0] S (some (.int r)) S' := by
  unfold f_X3_takeBack at h
  refine Sp.of (by decide +kernel) (Nat.le_of_ble_eq_true rfl) ?_
  intro b hC hin hR
  show G b 0 [(0, .ref a0)] [] S 0 0
  refine g_aload_n hC dX3_takeBack_0 rfl ?_
  obtain ⟨ho1, h⟩ := gd_some h
  refine g_geti (k := 3) hC ck_X3 (by decide) tw_37 rfl (by decide) dX3_takeBack_1 ho1 ?_
  refine g_if_ne (tgt := 10) hC dX3_takeBack_4 (by decide) (fun hc2 => ?_) (fun hc2 => ?_)
  · rw [if_neg hc2] at h
    refine g_aload_n hC dX3_takeBack_10 rfl ?_
    refine g_dup hC dX3_takeBack_11 rfl ?_
    obtain ⟨ho3, h⟩ := gd_some h
    refine g_geti (k := 3) hC ck_X3 (by decide) tw_37 rfl (by decide) dX3_takeBack_12 ho3 ?_
    refine g_iconst (v := (1 : Int32)) hC dX3_takeBack_15 (by decide) ?_
    refine g_isub hC dX3_takeBack_16 ?_
    obtain ⟨ho4, h⟩ := gd_some h
    refine g_puti (k := 3) hC ck_X3 (by decide) tw_37 rfl (by decide) rfl rfl dX3_takeBack_17 ho4 ?_
    refine g_name (fun S5 eS6 => ?_)
    have h := ltS_use eS6 h
    refine g_aload_n hC dX3_takeBack_20 rfl ?_
    refine g_aload_n hC dX3_takeBack_21 rfl ?_
    obtain ⟨ho7, h⟩ := gd_some h
    refine g_geti (k := 4) hC ck_X3 (by decide) tw_38 rfl (by decide) dX3_takeBack_22 ho7 ?_
    refine g_bipush (v := (16 : Int32)) hC dX3_takeBack_25 (by decide) ?_
    refine g_iadd hC dX3_takeBack_27 ?_
    refine g_iconst (v := (1 : Int32)) hC dX3_takeBack_28 (by decide) ?_
    refine g_isub hC dX3_takeBack_29 ?_
    refine g_bipush (v := (16 : Int32)) hC dX3_takeBack_30 (by decide) ?_
    refine g_irm hC dX3_takeBack_32 (by decide) ?_
    obtain ⟨ho8, h⟩ := gd_some h
    refine g_puti (k := 4) hC ck_X3 (by decide) tw_38 rfl (by decide) rfl rfl dX3_takeBack_33 ho8 ?_
    refine g_name (fun S9 eS10 => ?_)
    have h := ltS_use eS10 h
    refine g_aload_n hC dX3_takeBack_36 rfl ?_
    obtain ⟨ho11, h⟩ := gd_some h
    obtain ⟨q12, hq13, h⟩ := Option.bind_eq_some_iff.mp h
    refine g_getr (k := 0) (q := q12) hC ck_X3 (by decide) tw_34 rfl (by decide) dX3_takeBack_37 ho11 hq13 ?_
    refine g_aload_n hC dX3_takeBack_40 rfl ?_
    obtain ⟨ho14, h⟩ := gd_some h
    refine g_geti (k := 4) hC ck_X3 (by decide) tw_38 rfl (by decide) dX3_takeBack_41 ho14 ?_
    obtain ⟨hx15, h⟩ := gd_some h
    obtain ⟨q16, hq17, h⟩ := Option.bind_eq_some_iff.mp h
    refine g_aald3 hC dX3_takeBack_44 hx15.1 hx15.2 hq17 ?_
    refine g_aload_n hC dX3_takeBack_45 rfl ?_
    obtain ⟨ho18, h⟩ := gd_some h
    obtain ⟨q19, hq20, h⟩ := Option.bind_eq_some_iff.mp h
    refine g_getr (k := 1) (q := q19) hC ck_X3 (by decide) tw_35 rfl (by decide) dX3_takeBack_46 ho18 hq20 ?_
    refine g_aload_n hC dX3_takeBack_49 rfl ?_
    obtain ⟨ho21, h⟩ := gd_some h
    refine g_geti (k := 4) hC ck_X3 (by decide) tw_38 rfl (by decide) dX3_takeBack_50 ho21 ?_
    obtain ⟨hx22, h⟩ := gd_some h
    obtain ⟨q23, hq24, h⟩ := Option.bind_eq_some_iff.mp h
    refine g_aald3 hC dX3_takeBack_53 hx22.1 hx22.2 hq24 ?_
    refine g_aload_n hC dX3_takeBack_54 rfl ?_
    obtain ⟨ho25, h⟩ := gd_some h
    obtain ⟨q26, hq27, h⟩ := Option.bind_eq_some_iff.mp h
    refine g_getr (k := 2) (q := q26) hC ck_X3 (by decide) tw_36 rfl (by decide) dX3_takeBack_55 ho25 hq27 ?_
    refine g_aload_n hC dX3_takeBack_58 rfl ?_
    obtain ⟨ho28, h⟩ := gd_some h
    refine g_geti (k := 4) hC ck_X3 (by decide) tw_38 rfl (by decide) dX3_takeBack_59 ho28 ?_
    obtain ⟨hx29, h⟩ := gd_some h
    refine g_iald hC dX3_takeBack_62 hx29.1 hx29.2 ?_
    obtain ⟨S31, hr30, h⟩ := Option.bind_eq_some_iff.mp h
    refine g_callS (rest := []) hC mi_X3_writeAgain (k_X3_writeAgain hr30) tw_958 tw_959 dX3_takeBack_63 rfl rfl ⟨by decide, by decide⟩ (Nat.le_of_ble_eq_true rfl) ⟨by decide, by decide⟩ ?_
    refine g_aload_n hC dX3_takeBack_66 rfl ?_
    refine g_dup hC dX3_takeBack_67 rfl ?_
    obtain ⟨ho32, h⟩ := gd_some h
    refine g_geti (k := 5) hC ck_X3 (by decide) tw_39 rfl (by decide) dX3_takeBack_68 ho32 ?_
    refine g_iconst (v := (1 : Int32)) hC dX3_takeBack_71 (by decide) ?_
    refine g_iadd hC dX3_takeBack_72 ?_
    obtain ⟨ho33, h⟩ := gd_some h
    refine g_puti (k := 5) hC ck_X3 (by decide) tw_39 rfl (by decide) rfl rfl dX3_takeBack_73 ho33 ?_
    refine g_name (fun S34 eS35 => ?_)
    have h := ltS_use eS35 h
    refine g_aload_n hC dX3_takeBack_76 rfl ?_
    obtain ⟨ho36, h⟩ := gd_some h
    refine g_geti (k := 3) hC ck_X3 (by decide) tw_37 rfl (by decide) dX3_takeBack_77 ho36 ?_
    cases h
    exact g_iret hC hR dX3_takeBack_80 (by decide) (by decide)
  · rw [if_pos hc2] at h
    refine g_ldc hC tw_957 dX3_takeBack_7 ?_
    cases h
    exact g_iret hC hR dX3_takeBack_9 (by decide) (by decide)

theorem mi_X11_undo : MI yX11_undo cX11_undo 1 (some .int) 0 := ⟨tw_952, tw_1, by decide +kernel, by decide +kernel, by decide +kernel⟩
noncomputable def f_X11_undo (S : Wd) (a0 : Nat) : Option (Int32 × Wd) := gd (ob S a0 11) (Option.bind (wO S a0 0) (fun q2 => gd (ob S q2 3) (bd2 (f_X3_takeBack S q2) (fun r7 S5 => gd (ob S5 a0 11) (bd2 (f_X11_told S5 a0 r7) (fun r11 S9 => some (r11, S9)))))))
set_option maxRecDepth 100000 in
set_option maxHeartbeats 4000000 in
theorem k_X11_undo {S : Wd} {a0 : Nat} {r : Int32} {S' : Wd} (h : f_X11_undo S a0 = some (r, S')) : Sp yX11_undo cX11_undo 1 (some .int) 3 72 0 0 [.ref a0] S (some (.int r)) S' := by
  unfold f_X11_undo at h
  refine Sp.of (by decide +kernel) (Nat.le_of_ble_eq_true rfl) ?_
  intro b hC hin hR
  show G b 0 [(0, .ref a0)] [] S 0 0
  refine g_aload_n hC dX11_undo_0 rfl ?_
  refine g_aload_n hC dX11_undo_1 rfl ?_
  obtain ⟨ho1, h⟩ := gd_some h
  obtain ⟨q2, hq3, h⟩ := Option.bind_eq_some_iff.mp h
  refine g_getr (k := 0) (q := q2) hC ck_X11 (by decide) tw_302 rfl (by decide) dX11_undo_2 ho1 hq3 ?_
  obtain ⟨ho6, h⟩ := gd_some h
  obtain ⟨r7, S5, hr4, h⟩ := bd2_some h
  refine g_callV (rest := [.ref a0]) hC mi_X3_takeBack (k_X3_takeBack hr4) ck_X3.1 (by decide) ho6 tw_953 tw_954 tw_955 dX11_undo_5 rfl rfl ⟨by decide, by decide⟩ (Nat.le_of_ble_eq_true rfl) ⟨by decide, by decide⟩ ?_
  obtain ⟨ho10, h⟩ := gd_some h
  obtain ⟨r11, S9, hr8, h⟩ := bd2_some h
  refine g_callV (rest := []) hC mi_X11_told (k_X11_told hr8) ck_X11.1 (by decide) ho10 tw_353 tw_355 ts_0 dX11_undo_8 rfl rfl ⟨by decide, by decide⟩ (Nat.le_of_ble_eq_true rfl) ⟨by decide, by decide⟩ ?_
  cases h
  exact g_iret hC hR dX11_undo_11 (by decide) (by decide)

theorem mi_X5_count : MI yX5_count cX5_count 1 (some .int) 0 := ⟨tw_969, tw_8, by decide +kernel, by decide +kernel, by decide +kernel⟩
noncomputable def f_X5_count (S : Wd) (a0 : Nat) : Option (Int32 × Wd) := gd (ob S a0 5) (Option.bind (wO S a0 0) (fun q2 => gd (ob S q2 8) (bd2 (f_X8_count S q2) (fun r7 S5 => some (r7, S5)))))
set_option maxRecDepth 100000 in
set_option maxHeartbeats 4000000 in
theorem k_X5_count {S : Wd} {a0 : Nat} {r : Int32} {S' : Wd} (h : f_X5_count S a0 = some (r, S')) : Sp yX5_count cX5_count 1 (some .int) 1 20 0 0 [.ref a0] S (some (.int r)) S' := by
  unfold f_X5_count at h
  refine Sp.of (by decide +kernel) (Nat.le_of_ble_eq_true rfl) ?_
  intro b hC hin hR
  show G b 0 [(0, .ref a0)] [] S 0 0
  refine g_aload_n hC dX5_count_0 rfl ?_
  obtain ⟨ho1, h⟩ := gd_some h
  obtain ⟨q2, hq3, h⟩ := Option.bind_eq_some_iff.mp h
  refine g_getr (k := 0) (q := q2) hC ck_X5 (by decide) tw_192 rfl (by decide) dX5_count_1 ho1 hq3 ?_
  obtain ⟨ho6, h⟩ := gd_some h
  obtain ⟨r7, S5, hr4, h⟩ := bd2_some h
  refine g_callV (rest := []) hC mi_X8_count (k_X8_count hr4) ck_X8.1 (by decide) ho6 tw_656 tw_452 tw_453 dX5_count_4 rfl rfl ⟨by decide, by decide⟩ (Nat.le_of_ble_eq_true rfl) ⟨by decide, by decide⟩ ?_
  cases h
  exact g_iret hC hR dX5_count_7 (by decide) (by decide)

theorem mi_X1_contracts : MI yX1_contracts cX1_contracts 1 (some .int) 0 := ⟨tw_973, tw_9, by decide +kernel, by decide +kernel, by decide +kernel⟩
noncomputable def f_X1_contracts (S : Wd) (a0 : Nat) : Option (Int32 × Wd) := gd (ob S a0 1) (Option.bind (wO S a0 1) (fun q2 => gd (ob S q2 8) (bd2 (f_X8_count S q2) (fun r7 S5 => some (r7, S5)))))
set_option maxRecDepth 100000 in
set_option maxHeartbeats 4000000 in
theorem k_X1_contracts {S : Wd} {a0 : Nat} {r : Int32} {S' : Wd} (h : f_X1_contracts S a0 = some (r, S')) : Sp yX1_contracts cX1_contracts 1 (some .int) 1 20 0 0 [.ref a0] S (some (.int r)) S' := by
  unfold f_X1_contracts at h
  refine Sp.of (by decide +kernel) (Nat.le_of_ble_eq_true rfl) ?_
  intro b hC hin hR
  show G b 0 [(0, .ref a0)] [] S 0 0
  refine g_aload_n hC dX1_contracts_0 rfl ?_
  obtain ⟨ho1, h⟩ := gd_some h
  obtain ⟨q2, hq3, h⟩ := Option.bind_eq_some_iff.mp h
  refine g_getr (k := 1) (q := q2) hC ck_X1 (by decide) tw_208 rfl (by decide) dX1_contracts_1 ho1 hq3 ?_
  obtain ⟨ho6, h⟩ := gd_some h
  obtain ⟨r7, S5, hr4, h⟩ := bd2_some h
  refine g_callV (rest := []) hC mi_X8_count (k_X8_count hr4) ck_X8.1 (by decide) ho6 tw_687 tw_452 tw_453 dX1_contracts_4 rfl rfl ⟨by decide, by decide⟩ (Nat.le_of_ble_eq_true rfl) ⟨by decide, by decide⟩ ?_
  cases h
  exact g_iret hC hR dX1_contracts_7 (by decide) (by decide)

theorem mi_X6_count : MI yX6_count cX6_count 1 (some .int) 0 := ⟨tw_977, tw_10, by decide +kernel, by decide +kernel, by decide +kernel⟩
noncomputable def f_X6_count (S : Wd) (a0 : Nat) : Option (Int32 × Wd) := gd (ob S a0 6) (Option.bind (wO S a0 1) (fun q2 => gd (ob S q2 8) (bd2 (f_X8_count S q2) (fun r7 S5 => some (r7, S5)))))
set_option maxRecDepth 100000 in
set_option maxHeartbeats 4000000 in
theorem k_X6_count {S : Wd} {a0 : Nat} {r : Int32} {S' : Wd} (h : f_X6_count S a0 = some (r, S')) : Sp yX6_count cX6_count 1 (some .int) 1 20 0 0 [.ref a0] S (some (.int r)) S' := by
  unfold f_X6_count at h
  refine Sp.of (by decide +kernel) (Nat.le_of_ble_eq_true rfl) ?_
  intro b hC hin hR
  show G b 0 [(0, .ref a0)] [] S 0 0
  refine g_aload_n hC dX6_count_0 rfl ?_
  obtain ⟨ho1, h⟩ := gd_some h
  obtain ⟨q2, hq3, h⟩ := Option.bind_eq_some_iff.mp h
  refine g_getr (k := 1) (q := q2) hC ck_X6 (by decide) tw_232 rfl (by decide) dX6_count_1 ho1 hq3 ?_
  obtain ⟨ho6, h⟩ := gd_some h
  obtain ⟨r7, S5, hr4, h⟩ := bd2_some h
  refine g_callV (rest := []) hC mi_X8_count (k_X8_count hr4) ck_X8.1 (by decide) ho6 tw_725 tw_452 tw_453 dX6_count_4 rfl rfl ⟨by decide, by decide⟩ (Nat.le_of_ble_eq_true rfl) ⟨by decide, by decide⟩ ?_
  cases h
  exact g_iret hC hR dX6_count_7 (by decide) (by decide)

theorem mi_X11_all : MI yX11_all cX11_all 2 (some .int) 1 := ⟨tw_965, tw_1, by decide +kernel, by decide +kernel, by decide +kernel⟩
noncomputable def f_X11_all (S : Wd) (a0 : Nat) (a1 : Int32) : Option (Int32 × Wd) := if a1 = (0 : Int32) then (gd (ob S a0 11) (Option.bind (wO S a0 2) (fun q3 => gd (ob S q3 8) (bd2 (f_X8_count S q3) (fun r8 S6 => some (r8, S6)))))) else (if a1 = (1 : Int32) then (gd (ob S a0 11) (Option.bind (wO S a0 3) (fun q11 => gd (ob S q11 8) (bd2 (f_X8_count S q11) (fun r16 S14 => some (r16, S14)))))) else (if a1 = (2 : Int32) then (gd (ob S a0 11) (Option.bind (wO S a0 6) (fun q19 => gd (ob S q19 5) (bd2 (f_X5_count S q19) (fun r24 S22 => some (r24, S22)))))) else (if a1 = (3 : Int32) then (gd (ob S a0 11) (Option.bind (wO S a0 7) (fun q27 => gd (ob S q27 1) (bd2 (f_X1_contracts S q27) (fun r32 S30 => some (r32, S30)))))) else (if a1 = (4 : Int32) then (gd (ob S a0 11) (Option.bind (wO S a0 8) (fun q35 => gd (ob S q35 6) (bd2 (f_X6_count S q35) (fun r40 S38 => some (r40, S38)))))) else (if a1 = (5 : Int32) then (gd (ob S a0 11) (some ((wI S a0 12), S))) else (gd (ob S a0 11) (bd2 (f_X11_told S a0 (-100001 : Int32)) (fun r46 S44 => some (r46, S44)))))))))
set_option maxRecDepth 100000 in
set_option maxHeartbeats 4000000 in
theorem k_X11_all {S : Wd} {a0 : Nat} {a1 : Int32} {r : Int32} {S' : Wd} (h : f_X11_all S a0 a1 = some (r, S')) : Sp yX11_all cX11_all 2 (some .int) 2 40 0 0 [.ref a0, .int a1] S (some (.int r)) S' := by
  unfold f_X11_all at h
  refine Sp.of (by decide +kernel) (Nat.le_of_ble_eq_true rfl) ?_
  intro b hC hin hR
  show G b 0 [(0, .ref a0), (1, .int a1)] [] S 0 0
  refine g_iload_n hC dX11_all_0 rfl ?_
  by_cases hc1 : a1 = (0 : Int32)
  · rw [if_pos hc1] at h
    refine g_tin (off := 39) (tgt := 40) hC dX11_all_1 hc1 (by decide) (by decide) (by decide) (by decide) ?_
    refine g_aload_n hC dX11_all_40 rfl ?_
    obtain ⟨ho2, h⟩ := gd_some h
    obtain ⟨q3, hq4, h⟩ := Option.bind_eq_some_iff.mp h
    refine g_getr (k := 2) (q := q3) hC ck_X11 (by decide) tw_304 rfl (by decide) dX11_all_41 ho2 hq4 ?_
    obtain ⟨ho7, h⟩ := gd_some h
    obtain ⟨r8, S6, hr5, h⟩ := bd2_some h
    refine g_callV (rest := []) hC mi_X8_count (k_X8_count hr5) ck_X8.1 (by decide) ho7 tw_451 tw_452 tw_453 dX11_all_44 rfl rfl ⟨by decide, by decide⟩ (Nat.le_of_ble_eq_true rfl) ⟨by decide, by decide⟩ ?_
    cases h
    exact g_iret hC hR dX11_all_47 (by decide) (by decide)
  rw [if_neg hc1] at h
  by_cases hc9 : a1 = (1 : Int32)
  · rw [if_pos hc9] at h
    refine g_tin (off := 47) (tgt := 48) hC dX11_all_1 hc9 (by decide) (by decide) (by decide) (by decide) ?_
    refine g_aload_n hC dX11_all_48 rfl ?_
    obtain ⟨ho10, h⟩ := gd_some h
    obtain ⟨q11, hq12, h⟩ := Option.bind_eq_some_iff.mp h
    refine g_getr (k := 3) (q := q11) hC ck_X11 (by decide) tw_305 rfl (by decide) dX11_all_49 ho10 hq12 ?_
    obtain ⟨ho15, h⟩ := gd_some h
    obtain ⟨r16, S14, hr13, h⟩ := bd2_some h
    refine g_callV (rest := []) hC mi_X8_count (k_X8_count hr13) ck_X8.1 (by decide) ho15 tw_451 tw_452 tw_453 dX11_all_52 rfl rfl ⟨by decide, by decide⟩ (Nat.le_of_ble_eq_true rfl) ⟨by decide, by decide⟩ ?_
    cases h
    exact g_iret hC hR dX11_all_55 (by decide) (by decide)
  rw [if_neg hc9] at h
  by_cases hc17 : a1 = (2 : Int32)
  · rw [if_pos hc17] at h
    refine g_tin (off := 55) (tgt := 56) hC dX11_all_1 hc17 (by decide) (by decide) (by decide) (by decide) ?_
    refine g_aload_n hC dX11_all_56 rfl ?_
    obtain ⟨ho18, h⟩ := gd_some h
    obtain ⟨q19, hq20, h⟩ := Option.bind_eq_some_iff.mp h
    refine g_getr (k := 6) (q := q19) hC ck_X11 (by decide) tw_308 rfl (by decide) dX11_all_57 ho18 hq20 ?_
    obtain ⟨ho23, h⟩ := gd_some h
    obtain ⟨r24, S22, hr21, h⟩ := bd2_some h
    refine g_callV (rest := []) hC mi_X5_count (k_X5_count hr21) ck_X5.1 (by decide) ho23 tw_966 tw_967 tw_968 dX11_all_60 rfl rfl ⟨by decide, by decide⟩ (Nat.le_of_ble_eq_true rfl) ⟨by decide, by decide⟩ ?_
    cases h
    exact g_iret hC hR dX11_all_63 (by decide) (by decide)
  rw [if_neg hc17] at h
  by_cases hc25 : a1 = (3 : Int32)
  · rw [if_pos hc25] at h
    refine g_tin (off := 63) (tgt := 64) hC dX11_all_1 hc25 (by decide) (by decide) (by decide) (by decide) ?_
    refine g_aload_n hC dX11_all_64 rfl ?_
    obtain ⟨ho26, h⟩ := gd_some h
    obtain ⟨q27, hq28, h⟩ := Option.bind_eq_some_iff.mp h
    refine g_getr (k := 7) (q := q27) hC ck_X11 (by decide) tw_309 rfl (by decide) dX11_all_65 ho26 hq28 ?_
    obtain ⟨ho31, h⟩ := gd_some h
    obtain ⟨r32, S30, hr29, h⟩ := bd2_some h
    refine g_callV (rest := []) hC mi_X1_contracts (k_X1_contracts hr29) ck_X1.1 (by decide) ho31 tw_970 tw_971 tw_972 dX11_all_68 rfl rfl ⟨by decide, by decide⟩ (Nat.le_of_ble_eq_true rfl) ⟨by decide, by decide⟩ ?_
    cases h
    exact g_iret hC hR dX11_all_71 (by decide) (by decide)
  rw [if_neg hc25] at h
  by_cases hc33 : a1 = (4 : Int32)
  · rw [if_pos hc33] at h
    refine g_tin (off := 71) (tgt := 72) hC dX11_all_1 hc33 (by decide) (by decide) (by decide) (by decide) ?_
    refine g_aload_n hC dX11_all_72 rfl ?_
    obtain ⟨ho34, h⟩ := gd_some h
    obtain ⟨q35, hq36, h⟩ := Option.bind_eq_some_iff.mp h
    refine g_getr (k := 8) (q := q35) hC ck_X11 (by decide) tw_310 rfl (by decide) dX11_all_73 ho34 hq36 ?_
    obtain ⟨ho39, h⟩ := gd_some h
    obtain ⟨r40, S38, hr37, h⟩ := bd2_some h
    refine g_callV (rest := []) hC mi_X6_count (k_X6_count hr37) ck_X6.1 (by decide) ho39 tw_974 tw_975 tw_976 dX11_all_76 rfl rfl ⟨by decide, by decide⟩ (Nat.le_of_ble_eq_true rfl) ⟨by decide, by decide⟩ ?_
    cases h
    exact g_iret hC hR dX11_all_79 (by decide) (by decide)
  rw [if_neg hc33] at h
  by_cases hc41 : a1 = (5 : Int32)
  · rw [if_pos hc41] at h
    refine g_tin (off := 79) (tgt := 80) hC dX11_all_1 hc41 (by decide) (by decide) (by decide) (by decide) ?_
    refine g_aload_n hC dX11_all_80 rfl ?_
    obtain ⟨ho42, h⟩ := gd_some h
    refine g_geti (k := 12) hC ck_X11 (by decide) tw_314 rfl (by decide) dX11_all_81 ho42 ?_
    cases h
    exact g_iret hC hR dX11_all_84 (by decide) (by decide)
  rw [if_neg hc41] at h
  refine g_tout (tgt := 85) hC dX11_all_1 (tout_of [(0 : Int32), (1 : Int32), (2 : Int32), (3 : Int32), (4 : Int32), (5 : Int32)] (by intro v hv; simp only [List.mem_cons, List.not_mem_nil, or_false] at hv; rcases hv with rfl | rfl | rfl | rfl | rfl | rfl <;> assumption) (by decide +kernel)) (by decide) ?_
  refine g_aload_n hC dX11_all_85 rfl ?_
  refine g_ldc hC tw_352 dX11_all_86 ?_
  obtain ⟨ho45, h⟩ := gd_some h
  obtain ⟨r46, S44, hr43, h⟩ := bd2_some h
  refine g_callV (rest := []) hC mi_X11_told (k_X11_told hr43) ck_X11.1 (by decide) ho45 tw_353 tw_355 ts_0 dX11_all_88 rfl rfl ⟨by decide, by decide⟩ (Nat.le_of_ble_eq_true rfl) ⟨by decide, by decide⟩ ?_
  cases h
  exact g_iret hC hR dX11_all_91 (by decide) (by decide)

theorem mi_X12_init : MI yX12_init cX12_init 1 none 0 := ⟨tw_982, tw_14, by decide +kernel, by decide +kernel, by decide +kernel⟩
noncomputable def f_X12_init (S : Wd) (a0 : Nat) : Option (Wd) := gd (nk S 100 (424 : Int32).toNatClampNeg) (ltS (sN S (424 : Int32).toNatClampNeg) (fun S2 => gd (ob S2 a0 12) (ltS (sO S2 a0 0 (some (wn S))) (fun S5 => gd (nk S5 100 (6784 : Int32).toNatClampNeg) (ltS (sN S5 (6784 : Int32).toNatClampNeg) (fun S8 => gd (ob S8 a0 12) (ltS (sO S8 a0 1 (some (wn S5))) (fun S11 => gd (nk S11 100 (4 : Int32).toNatClampNeg) (ltS (sN S11 (4 : Int32).toNatClampNeg) (fun S14 => gd (ob S14 a0 12) (ltS (sO S14 a0 4 (some (wn S11))) (fun S17 => gd (nk S17 100 (4 : Int32).toNatClampNeg) (ltS (sN S17 (4 : Int32).toNatClampNeg) (fun S20 => gd (ob S20 a0 12) (ltS (sO S20 a0 5 (some (wn S17))) (fun S23 => gd (nk S23 100 (80 : Int32).toNatClampNeg) (ltS (sN S23 (80 : Int32).toNatClampNeg) (fun S26 => gd (ob S26 a0 12) (ltS (sO S26 a0 6 (some (wn S23))) (fun S29 => gd (nk S29 100 (64 : Int32).toNatClampNeg) (ltS (sN S29 (64 : Int32).toNatClampNeg) (fun S32 => gd (ob S32 a0 12) (ltS (sO S32 a0 7 (some (wn S29))) (fun S35 => gd (nk S35 101 (486 : Int32).toNatClampNeg) (ltS (sN S35 (486 : Int32).toNatClampNeg) (fun S38 => gd (ob S38 a0 12) (ltS (sO S38 a0 15 (some (wn S35))) (fun S41 => gd (nk S41 100 (486 : Int32).toNatClampNeg) (ltS (sN S41 (486 : Int32).toNatClampNeg) (fun S44 => gd (ob S44 a0 12) (ltS (sO S44 a0 16 (some (wn S41))) (fun S47 => gd (nk S47 100 (486 : Int32).toNatClampNeg) (ltS (sN S47 (486 : Int32).toNatClampNeg) (fun S50 => gd (ob S50 a0 12) (ltS (sO S50 a0 17 (some (wn S47))) (fun S53 => gd (nk S53 100 (1792 : Int32).toNatClampNeg) (ltS (sN S53 (1792 : Int32).toNatClampNeg) (fun S56 => gd (ob S56 a0 12) (ltS (sO S56 a0 18 (some (wn S53))) (fun S59 => gd (nk S59 100 (6 : Int32).toNatClampNeg) (ltS (sN S59 (6 : Int32).toNatClampNeg) (fun S62 => gd (ob S62 a0 12) (ltS (sO S62 a0 19 (some (wn S59))) (fun S65 => gd (nk S65 100 (40 : Int32).toNatClampNeg) (ltS (sN S65 (40 : Int32).toNatClampNeg) (fun S68 => gd (ob S68 a0 12) (ltS (sO S68 a0 20 (some (wn S65))) (fun S71 => gd (nk S71 100 (10 : Int32).toNatClampNeg) (ltS (sN S71 (10 : Int32).toNatClampNeg) (fun S74 => gd (ob S74 a0 12) (ltS (sO S74 a0 22 (some (wn S71))) (fun S77 => gd (nk S77 100 (10 : Int32).toNatClampNeg) (ltS (sN S77 (10 : Int32).toNatClampNeg) (fun S80 => gd (ob S80 a0 12) (ltS (sO S80 a0 23 (some (wn S77))) (fun S83 => gd (nk S83 100 (5 : Int32).toNatClampNeg) (ltS (sN S83 (5 : Int32).toNatClampNeg) (fun S86 => gd (ob S86 a0 12) (ltS (sO S86 a0 24 (some (wn S83))) (fun S89 => gd (nk S89 100 (20 : Int32).toNatClampNeg) (ltS (sN S89 (20 : Int32).toNatClampNeg) (fun S92 => gd (ob S92 a0 12) (ltS (sO S92 a0 25 (some (wn S89))) (fun S95 => some S95))))))))))))))))))))))))))))))))))))))))))))))))))))))))))))))))
set_option maxRecDepth 100000 in
set_option maxHeartbeats 4000000 in
theorem k_X12_init {S : Wd} {a0 : Nat} {S' : Wd} (h : f_X12_init S a0 = some S') : Sp yX12_init cX12_init 1 none 1 12 16 10701 [.ref a0] S none S' := by
  unfold f_X12_init at h
  refine Sp.of (by decide +kernel) (Nat.le_of_ble_eq_true rfl) ?_
  intro b hC hin hR
  show G b 0 [(0, .ref a0)] [] S 0 0
  refine g_aload_n hC dX12_init_0 rfl ?_
  refine g_obj hC tw_983 tw_24 tw_25 dX12_init_1 (by decide) (Nat.le_of_ble_eq_true rfl) ?_
  refine g_aload_n hC dX12_init_4 rfl ?_
  refine g_sipush (v := (424 : Int32)) hC dX12_init_5 (by decide) ?_
  obtain ⟨hk1, h⟩ := gd_some h
  refine g_newi hC tw_53 dX12_init_8 (by decide) (by decide) hk1.1 hk1.2 (by decide) (by decide) ?_
  refine g_name (fun S2 eS3 => ?_)
  have h := ltS_use eS3 h
  obtain ⟨ho4, h⟩ := gd_some h
  refine g_putrF (k := 0) hC (hin rfl) ck_X12 (by decide) tw_984 rfl rfl (by decide) rfl (Or.inr ⟨_, rfl⟩) dX12_init_10 ho4 ?_
  refine g_name (fun S5 eS6 => ?_)
  have h := ltS_use eS6 h
  refine g_aload_n hC dX12_init_13 rfl ?_
  refine g_sipush (v := (6784 : Int32)) hC dX12_init_14 (by decide) ?_
  obtain ⟨hk7, h⟩ := gd_some h
  refine g_newi hC tw_53 dX12_init_17 (by decide) (by decide) hk7.1 hk7.2 (by decide) (by decide) ?_
  refine g_name (fun S8 eS9 => ?_)
  have h := ltS_use eS9 h
  obtain ⟨ho10, h⟩ := gd_some h
  refine g_putrF (k := 1) hC (hin rfl) ck_X12 (by decide) tw_985 rfl rfl (by decide) rfl (Or.inr ⟨_, rfl⟩) dX12_init_19 ho10 ?_
  refine g_name (fun S11 eS12 => ?_)
  have h := ltS_use eS12 h
  refine g_aload_n hC dX12_init_22 rfl ?_
  refine g_iconst (v := (4 : Int32)) hC dX12_init_23 (by decide) ?_
  obtain ⟨hk13, h⟩ := gd_some h
  refine g_newi hC tw_53 dX12_init_24 (by decide) (by decide) hk13.1 hk13.2 (by decide) (by decide) ?_
  refine g_name (fun S14 eS15 => ?_)
  have h := ltS_use eS15 h
  obtain ⟨ho16, h⟩ := gd_some h
  refine g_putrF (k := 4) hC (hin rfl) ck_X12 (by decide) tw_988 rfl rfl (by decide) rfl (Or.inr ⟨_, rfl⟩) dX12_init_26 ho16 ?_
  refine g_name (fun S17 eS18 => ?_)
  have h := ltS_use eS18 h
  refine g_aload_n hC dX12_init_29 rfl ?_
  refine g_iconst (v := (4 : Int32)) hC dX12_init_30 (by decide) ?_
  obtain ⟨hk19, h⟩ := gd_some h
  refine g_newi hC tw_53 dX12_init_31 (by decide) (by decide) hk19.1 hk19.2 (by decide) (by decide) ?_
  refine g_name (fun S20 eS21 => ?_)
  have h := ltS_use eS21 h
  obtain ⟨ho22, h⟩ := gd_some h
  refine g_putrF (k := 5) hC (hin rfl) ck_X12 (by decide) tw_989 rfl rfl (by decide) rfl (Or.inr ⟨_, rfl⟩) dX12_init_33 ho22 ?_
  refine g_name (fun S23 eS24 => ?_)
  have h := ltS_use eS24 h
  refine g_aload_n hC dX12_init_36 rfl ?_
  refine g_bipush (v := (80 : Int32)) hC dX12_init_37 (by decide) ?_
  obtain ⟨hk25, h⟩ := gd_some h
  refine g_newi hC tw_53 dX12_init_39 (by decide) (by decide) hk25.1 hk25.2 (by decide) (by decide) ?_
  refine g_name (fun S26 eS27 => ?_)
  have h := ltS_use eS27 h
  obtain ⟨ho28, h⟩ := gd_some h
  refine g_putrF (k := 6) hC (hin rfl) ck_X12 (by decide) tw_990 rfl rfl (by decide) rfl (Or.inr ⟨_, rfl⟩) dX12_init_41 ho28 ?_
  refine g_name (fun S29 eS30 => ?_)
  have h := ltS_use eS30 h
  refine g_aload_n hC dX12_init_44 rfl ?_
  refine g_bipush (v := (64 : Int32)) hC dX12_init_45 (by decide) ?_
  obtain ⟨hk31, h⟩ := gd_some h
  refine g_newi hC tw_53 dX12_init_47 (by decide) (by decide) hk31.1 hk31.2 (by decide) (by decide) ?_
  refine g_name (fun S32 eS33 => ?_)
  have h := ltS_use eS33 h
  obtain ⟨ho34, h⟩ := gd_some h
  refine g_putrF (k := 7) hC (hin rfl) ck_X12 (by decide) tw_991 rfl rfl (by decide) rfl (Or.inr ⟨_, rfl⟩) dX12_init_49 ho34 ?_
  refine g_name (fun S35 eS36 => ?_)
  have h := ltS_use eS36 h
  refine g_aload_n hC dX12_init_52 rfl ?_
  refine g_sipush (v := (486 : Int32)) hC dX12_init_53 (by decide) ?_
  obtain ⟨hk37, h⟩ := gd_some h
  refine g_newz hC tw_1063 dX12_init_56 (by decide) (by decide) hk37.1 hk37.2 (by decide) (by decide) ?_
  refine g_name (fun S38 eS39 => ?_)
  have h := ltS_use eS39 h
  obtain ⟨ho40, h⟩ := gd_some h
  refine g_putrF (k := 15) hC (hin rfl) ck_X12 (by decide) tw_999 rfl rfl (by decide) rfl (Or.inr ⟨_, rfl⟩) dX12_init_58 ho40 ?_
  refine g_name (fun S41 eS42 => ?_)
  have h := ltS_use eS42 h
  refine g_aload_n hC dX12_init_61 rfl ?_
  refine g_sipush (v := (486 : Int32)) hC dX12_init_62 (by decide) ?_
  obtain ⟨hk43, h⟩ := gd_some h
  refine g_newi hC tw_53 dX12_init_65 (by decide) (by decide) hk43.1 hk43.2 (by decide) (by decide) ?_
  refine g_name (fun S44 eS45 => ?_)
  have h := ltS_use eS45 h
  obtain ⟨ho46, h⟩ := gd_some h
  refine g_putrF (k := 16) hC (hin rfl) ck_X12 (by decide) tw_1000 rfl rfl (by decide) rfl (Or.inr ⟨_, rfl⟩) dX12_init_67 ho46 ?_
  refine g_name (fun S47 eS48 => ?_)
  have h := ltS_use eS48 h
  refine g_aload_n hC dX12_init_70 rfl ?_
  refine g_sipush (v := (486 : Int32)) hC dX12_init_71 (by decide) ?_
  obtain ⟨hk49, h⟩ := gd_some h
  refine g_newi hC tw_53 dX12_init_74 (by decide) (by decide) hk49.1 hk49.2 (by decide) (by decide) ?_
  refine g_name (fun S50 eS51 => ?_)
  have h := ltS_use eS51 h
  obtain ⟨ho52, h⟩ := gd_some h
  refine g_putrF (k := 17) hC (hin rfl) ck_X12 (by decide) tw_1001 rfl rfl (by decide) rfl (Or.inr ⟨_, rfl⟩) dX12_init_76 ho52 ?_
  refine g_name (fun S53 eS54 => ?_)
  have h := ltS_use eS54 h
  refine g_aload_n hC dX12_init_79 rfl ?_
  refine g_sipush (v := (1792 : Int32)) hC dX12_init_80 (by decide) ?_
  obtain ⟨hk55, h⟩ := gd_some h
  refine g_newi hC tw_53 dX12_init_83 (by decide) (by decide) hk55.1 hk55.2 (by decide) (by decide) ?_
  refine g_name (fun S56 eS57 => ?_)
  have h := ltS_use eS57 h
  obtain ⟨ho58, h⟩ := gd_some h
  refine g_putrF (k := 18) hC (hin rfl) ck_X12 (by decide) tw_1002 rfl rfl (by decide) rfl (Or.inr ⟨_, rfl⟩) dX12_init_85 ho58 ?_
  refine g_name (fun S59 eS60 => ?_)
  have h := ltS_use eS60 h
  refine g_aload_n hC dX12_init_88 rfl ?_
  refine g_bipush (v := (6 : Int32)) hC dX12_init_89 (by decide) ?_
  obtain ⟨hk61, h⟩ := gd_some h
  refine g_newi hC tw_53 dX12_init_91 (by decide) (by decide) hk61.1 hk61.2 (by decide) (by decide) ?_
  refine g_name (fun S62 eS63 => ?_)
  have h := ltS_use eS63 h
  obtain ⟨ho64, h⟩ := gd_some h
  refine g_putrF (k := 19) hC (hin rfl) ck_X12 (by decide) tw_1003 rfl rfl (by decide) rfl (Or.inr ⟨_, rfl⟩) dX12_init_93 ho64 ?_
  refine g_name (fun S65 eS66 => ?_)
  have h := ltS_use eS66 h
  refine g_aload_n hC dX12_init_96 rfl ?_
  refine g_bipush (v := (40 : Int32)) hC dX12_init_97 (by decide) ?_
  obtain ⟨hk67, h⟩ := gd_some h
  refine g_newi hC tw_53 dX12_init_99 (by decide) (by decide) hk67.1 hk67.2 (by decide) (by decide) ?_
  refine g_name (fun S68 eS69 => ?_)
  have h := ltS_use eS69 h
  obtain ⟨ho70, h⟩ := gd_some h
  refine g_putrF (k := 20) hC (hin rfl) ck_X12 (by decide) tw_1004 rfl rfl (by decide) rfl (Or.inr ⟨_, rfl⟩) dX12_init_101 ho70 ?_
  refine g_name (fun S71 eS72 => ?_)
  have h := ltS_use eS72 h
  refine g_aload_n hC dX12_init_104 rfl ?_
  refine g_bipush (v := (10 : Int32)) hC dX12_init_105 (by decide) ?_
  obtain ⟨hk73, h⟩ := gd_some h
  refine g_newi hC tw_53 dX12_init_107 (by decide) (by decide) hk73.1 hk73.2 (by decide) (by decide) ?_
  refine g_name (fun S74 eS75 => ?_)
  have h := ltS_use eS75 h
  obtain ⟨ho76, h⟩ := gd_some h
  refine g_putrF (k := 22) hC (hin rfl) ck_X12 (by decide) tw_1006 rfl rfl (by decide) rfl (Or.inr ⟨_, rfl⟩) dX12_init_109 ho76 ?_
  refine g_name (fun S77 eS78 => ?_)
  have h := ltS_use eS78 h
  refine g_aload_n hC dX12_init_112 rfl ?_
  refine g_bipush (v := (10 : Int32)) hC dX12_init_113 (by decide) ?_
  obtain ⟨hk79, h⟩ := gd_some h
  refine g_newi hC tw_53 dX12_init_115 (by decide) (by decide) hk79.1 hk79.2 (by decide) (by decide) ?_
  refine g_name (fun S80 eS81 => ?_)
  have h := ltS_use eS81 h
  obtain ⟨ho82, h⟩ := gd_some h
  refine g_putrF (k := 23) hC (hin rfl) ck_X12 (by decide) tw_1007 rfl rfl (by decide) rfl (Or.inr ⟨_, rfl⟩) dX12_init_117 ho82 ?_
  refine g_name (fun S83 eS84 => ?_)
  have h := ltS_use eS84 h
  refine g_aload_n hC dX12_init_120 rfl ?_
  refine g_iconst (v := (5 : Int32)) hC dX12_init_121 (by decide) ?_
  obtain ⟨hk85, h⟩ := gd_some h
  refine g_newi hC tw_53 dX12_init_122 (by decide) (by decide) hk85.1 hk85.2 (by decide) (by decide) ?_
  refine g_name (fun S86 eS87 => ?_)
  have h := ltS_use eS87 h
  obtain ⟨ho88, h⟩ := gd_some h
  refine g_putrF (k := 24) hC (hin rfl) ck_X12 (by decide) tw_1008 rfl rfl (by decide) rfl (Or.inr ⟨_, rfl⟩) dX12_init_124 ho88 ?_
  refine g_name (fun S89 eS90 => ?_)
  have h := ltS_use eS90 h
  refine g_aload_n hC dX12_init_127 rfl ?_
  refine g_bipush (v := (20 : Int32)) hC dX12_init_128 (by decide) ?_
  obtain ⟨hk91, h⟩ := gd_some h
  refine g_newi hC tw_53 dX12_init_130 (by decide) (by decide) hk91.1 hk91.2 (by decide) (by decide) ?_
  refine g_name (fun S92 eS93 => ?_)
  have h := ltS_use eS93 h
  obtain ⟨ho94, h⟩ := gd_some h
  refine g_putrF (k := 25) hC (hin rfl) ck_X12 (by decide) tw_1009 rfl rfl (by decide) rfl (Or.inr ⟨_, rfl⟩) dX12_init_132 ho94 ?_
  refine g_name (fun S95 eS96 => ?_)
  have h := ltS_use eS96 h
  cases h
  exact g_vret hC hR dX12_init_135 (by decide) (by decide)

theorem mi_X12_finding : MI yX12_finding cX12_finding 2 (some .int) 1 := ⟨tw_1072, tw_14, by decide +kernel, by decide +kernel, by decide +kernel⟩
noncomputable def f_X12_finding (S : Wd) (a0 : Nat) (a1 : Int32) : Option (Int32 × Wd) := gd (ob S a0 12) (gd (ob S a0 12) (ltS (sI S a0 3 ((wI S a0 3) + (1 : Int32))) (fun S3 => some (a1, S3))))
set_option maxRecDepth 100000 in
set_option maxHeartbeats 4000000 in
theorem k_X12_finding {S : Wd} {a0 : Nat} {a1 : Int32} {r : Int32} {S' : Wd} (h : f_X12_finding S a0 a1 = some (r, S')) : Sp yX12_finding cX12_finding 2 (some .int) 0 0 0 0 [.ref a0, .int a1] S (some (.int r)) S' := by
  unfold f_X12_finding at h
  refine Sp.of (by decide +kernel) (Nat.le_of_ble_eq_true rfl) ?_
  intro b hC hin hR
  show G b 0 [(0, .ref a0), (1, .int a1)] [] S 0 0
  refine g_aload_n hC dX12_finding_0 rfl ?_
  refine g_dup hC dX12_finding_1 rfl ?_
  obtain ⟨ho1, h⟩ := gd_some h
  refine g_geti (k := 3) hC ck_X12 (by decide) tw_987 rfl (by decide) dX12_finding_2 ho1 ?_
  refine g_iconst (v := (1 : Int32)) hC dX12_finding_5 (by decide) ?_
  refine g_iadd hC dX12_finding_6 ?_
  obtain ⟨ho2, h⟩ := gd_some h
  refine g_puti (k := 3) hC ck_X12 (by decide) tw_987 rfl (by decide) rfl rfl dX12_finding_7 ho2 ?_
  refine g_name (fun S3 eS4 => ?_)
  have h := ltS_use eS4 h
  refine g_iload_n hC dX12_finding_10 rfl ?_
  cases h
  exact g_iret hC hR dX12_finding_11 (by decide) (by decide)

theorem mi_X12_undo : MI yX12_undo cX12_undo 2 (some .int) 0 := ⟨tw_1067, tw_14, by decide +kernel, by decide +kernel, by decide +kernel⟩
noncomputable def B_X12_undo_0 (S : Wd) (a0 : Nat) : Option ((Int32 × Wd) ⊕ Cs) := gd (ob S a0 12) (if (wI S a0 2) = 0 then (gd (ob S a0 12) (bd2 (f_X12_finding S a0 (-100006 : Int32)) (fun r10 S8 => some (.inl (r10, S8))))) else (gd (ob S a0 12) (gd (ob S a0 12) (ltS (sI S a0 2 ((wI S a0 2) - (1 : Int32))) (fun S5 => some (.inr (1, [a0], [(0 : Int32)], S5)))))))
noncomputable def B_X12_undo_1 (S : Wd) (x0 : Nat) (x1 : Int32) : Option ((Int32 × Wd) ⊕ Cs) := if (424 : Int32) ≤ x1 then (gd (ob S x0 12) (some (.inl ((wI S x0 2), S)))) else (gd (ob S x0 12) (Option.bind (wO S x0 0) (fun q14 => gd (ob S x0 12) (Option.bind (wO S x0 1) (fun q17 => gd (ob S x0 12) (gd (ix S q17 100 (((wI S x0 2) * (424 : Int32)) + x1)) (gd (ix S q14 100 x1) (ltS (sI S q14 x1.toNatClampNeg (wI S q17 (((wI S x0 2) * (424 : Int32)) + x1).toNatClampNeg)) (fun S22 => some (.inr (1, [x0], [(x1 + (1 : Int32))], S22)))))))))))
noncomputable def B_X12_undo : Cs → Option ((Int32 × Wd) ⊕ Cs)
  | (0, [a0], [], S) => B_X12_undo_0 S a0
  | (1, [x0], [x1], S) => B_X12_undo_1 S x0 x1
  | _ => none
def P_X12_undo : Cs → Option (Nat × List (Nat × Value) × Wd × Nat × Nat)
  | (0, [a0], [], S) => some (0, [(0, .ref a0)], S, 0, 0)
  | (1, [x0], [x1], S) => some (26, [(0, .ref x0), (1, .int x1)], S, 0, 0)
  | _ => none
noncomputable def f_X12_undo (S : Wd) (a0 : Nat) : Option (Int32 × Wd) := ru B_X12_undo (0, [a0], [], S)
abbrev N_X12_undo (b : Bd) (r : Int32 × Wd) (c : (Int32 × Wd) ⊕ Cs) : Prop := match c with
  | .inl r' => r' = r
  | .inr s' => ∀ pc L S kc ks, P_X12_undo s' = some (pc, L, S, kc, ks) → G b pc L [] S kc ks
set_option maxRecDepth 100000 in
set_option maxHeartbeats 4000000 in
theorem w_X12_undo_0 {b : Bd} {r : Int32 × Wd} (hC : CX b yX12_undo.cls cX12_undo 2 { frames := 1, cells := 0, slots := 0, locals := 21 }) (hin : yX12_undo.name = "<init>" → b.2.2.2.2.2.2.2.2.1.name = "<init>") (hR : RT b (some .int) (some (.int r.1)) r.2 0 0) {S : Wd} {a0 : Nat} {c : (Int32 × Wd) ⊕ Cs} (h : B_X12_undo_0 S a0 = some c) (hk : N_X12_undo b r c) : G b 0 [(0, .ref a0)] [] S 0 0 := by
  unfold B_X12_undo_0 at h
  refine g_aload_n hC dX12_undo_0 rfl ?_
  obtain ⟨ho1, h⟩ := gd_some h
  refine g_geti (k := 2) hC ck_X12 (by decide) tw_986 rfl (by decide) dX12_undo_1 ho1 ?_
  refine g_if_ne (tgt := 14) hC dX12_undo_4 (by decide) (fun hc2 => ?_) (fun hc2 => ?_)
  · rw [if_neg hc2] at h
    refine g_aload_n hC dX12_undo_14 rfl ?_
    refine g_dup hC dX12_undo_15 rfl ?_
    obtain ⟨ho3, h⟩ := gd_some h
    refine g_geti (k := 2) hC ck_X12 (by decide) tw_986 rfl (by decide) dX12_undo_16 ho3 ?_
    refine g_iconst (v := (1 : Int32)) hC dX12_undo_19 (by decide) ?_
    refine g_isub hC dX12_undo_20 ?_
    obtain ⟨ho4, h⟩ := gd_some h
    refine g_puti (k := 2) hC ck_X12 (by decide) tw_986 rfl (by decide) rfl rfl dX12_undo_21 ho4 ?_
    refine g_name (fun S5 eS6 => ?_)
    have h := ltS_use eS6 h
    refine g_iconst (v := (0 : Int32)) hC dX12_undo_24 (by decide) ?_
    refine g_istore_n (L' := [(1, .int (0 : Int32)), (0, .ref a0)]) hC dX12_undo_25 (by decide) rfl ?_
    cases h
    refine g_pick (L' := [(0, .ref a0), (1, .int (0 : Int32))]) [1, 0] rfl ?_
    exact hk _ _ _ _ _ rfl
  · rw [if_pos hc2] at h
    refine g_aload_n hC dX12_undo_7 rfl ?_
    refine g_ldc hC tw_1068 dX12_undo_8 ?_
    obtain ⟨ho9, h⟩ := gd_some h
    obtain ⟨r10, S8, hr7, h⟩ := bd2_some h
    refine g_callV (rest := []) hC mi_X12_finding (k_X12_finding hr7) ck_X12.1 (by decide) ho9 tw_1069 tw_1071 ts_24 dX12_undo_10 rfl rfl ⟨by decide, by decide⟩ (Nat.le_of_ble_eq_true rfl) ⟨by decide, by decide⟩ ?_
    cases h
    subst hk
    exact g_iret hC hR dX12_undo_13 (by decide) (by decide)
set_option maxRecDepth 100000 in
set_option maxHeartbeats 4000000 in
theorem w_X12_undo_1 {b : Bd} {r : Int32 × Wd} (hC : CX b yX12_undo.cls cX12_undo 2 { frames := 1, cells := 0, slots := 0, locals := 21 }) (hin : yX12_undo.name = "<init>" → b.2.2.2.2.2.2.2.2.1.name = "<init>") (hR : RT b (some .int) (some (.int r.1)) r.2 0 0) {S : Wd} {x0 : Nat} {x1 : Int32} {c : (Int32 × Wd) ⊕ Cs} (h : B_X12_undo_1 S x0 x1 = some c) (hk : N_X12_undo b r c) : G b 26 [(0, .ref x0), (1, .int x1)] [] S 0 0 := by
  unfold B_X12_undo_1 at h
  refine g_iload_n hC dX12_undo_26 rfl ?_
  refine g_sipush (v := (424 : Int32)) hC dX12_undo_27 (by decide) ?_
  refine g_icmp_ge (tgt := 60) hC dX12_undo_30 (by decide) (fun hc11 => ?_) (fun hc11 => ?_)
  · rw [if_pos hc11] at h
    refine g_aload_n hC dX12_undo_60 rfl ?_
    obtain ⟨ho12, h⟩ := gd_some h
    refine g_geti (k := 2) hC ck_X12 (by decide) tw_986 rfl (by decide) dX12_undo_61 ho12 ?_
    cases h
    subst hk
    exact g_iret hC hR dX12_undo_64 (by decide) (by decide)
  · rw [if_neg hc11] at h
    refine g_aload_n hC dX12_undo_33 rfl ?_
    obtain ⟨ho13, h⟩ := gd_some h
    obtain ⟨q14, hq15, h⟩ := Option.bind_eq_some_iff.mp h
    refine g_getr (k := 0) (q := q14) hC ck_X12 (by decide) tw_984 rfl (by decide) dX12_undo_34 ho13 hq15 ?_
    refine g_iload_n hC dX12_undo_37 rfl ?_
    refine g_aload_n hC dX12_undo_38 rfl ?_
    obtain ⟨ho16, h⟩ := gd_some h
    obtain ⟨q17, hq18, h⟩ := Option.bind_eq_some_iff.mp h
    refine g_getr (k := 1) (q := q17) hC ck_X12 (by decide) tw_985 rfl (by decide) dX12_undo_39 ho16 hq18 ?_
    refine g_aload_n hC dX12_undo_42 rfl ?_
    obtain ⟨ho19, h⟩ := gd_some h
    refine g_geti (k := 2) hC ck_X12 (by decide) tw_986 rfl (by decide) dX12_undo_43 ho19 ?_
    refine g_sipush (v := (424 : Int32)) hC dX12_undo_46 (by decide) ?_
    refine g_imul hC dX12_undo_49 ?_
    refine g_iload_n hC dX12_undo_50 rfl ?_
    refine g_iadd hC dX12_undo_51 ?_
    obtain ⟨hx20, h⟩ := gd_some h
    refine g_iald hC dX12_undo_52 hx20.1 hx20.2 ?_
    obtain ⟨hx21, h⟩ := gd_some h
    refine g_iast hC dX12_undo_53 hx21.1 hx21.2 ?_
    refine g_name (fun S22 eS23 => ?_)
    have h := ltS_use eS23 h
    refine g_iinc (v := (1 : Int32)) (L' := [(1, .int (x1 + (1 : Int32))), (0, .ref x0)]) hC dX12_undo_54 rfl (by decide) (by decide) rfl ?_
    refine g_goto (tgt := 26) hC dX12_undo_57 (by decide) ?_
    cases h
    refine g_pick (L' := [(0, .ref x0), (1, .int (x1 + (1 : Int32)))]) [1, 0] rfl ?_
    exact hk _ _ _ _ _ rfl
theorem w_X12_undo {b : Bd} {r : Int32 × Wd} (hC : CX b yX12_undo.cls cX12_undo 2 { frames := 1, cells := 0, slots := 0, locals := 21 }) (hin : yX12_undo.name = "<init>" → b.2.2.2.2.2.2.2.2.1.name = "<init>") (hR : RT b (some .int) (some (.int r.1)) r.2 0 0) {s : Cs} {c : (Int32 × Wd) ⊕ Cs} (h : B_X12_undo s = some c) (hk : N_X12_undo b r c) : ∀ pc L S kc ks, P_X12_undo s = some (pc, L, S, kc, ks) → G b pc L [] S kc ks := by
  intro pc L S kc ks hp
  unfold B_X12_undo at h
  split at h
  · cases hp
    exact w_X12_undo_0 hC hin hR h hk
  · cases hp
    exact w_X12_undo_1 hC hin hR h hk
  · cases h
theorem k_X12_undo {S : Wd} {a0 : Nat} {r : Int32} {S' : Wd} (h : f_X12_undo S a0 = some (r, S')) : Sp yX12_undo cX12_undo 2 (some .int) 1 21 0 0 [.ref a0] S (some (.int r)) S' := by
  unfold f_X12_undo at h
  refine Sp.of (by decide +kernel) (Nat.le_of_ble_eq_true rfl) ?_
  intro b hC hin hR
  exact ru_ind (P := fun s q0 => q0 = (r, S') → ∀ pc L S kc ks, P_X12_undo s = some (pc, L, S, kc, ks) → G b pc L [] S kc ks) (fun s q0 hB e => w_X12_undo (r := (r, S')) hC hin hR hB e) (fun s s' q0 hB ih e => w_X12_undo (r := (r, S')) hC hin hR hB (ih e)) h rfl _ _ _ _ _ rfl

theorem mi_X12_within : MI yX12_within cX12_within 3 (some .boolean) 3 := ⟨tw_1082, tw_14, by decide +kernel, by decide +kernel, by decide +kernel⟩
noncomputable def f_X12_within (S : Wd) (a0 : Int32) (a1 : Int32) (a2 : Int32) : Option (Int32 × Wd) := if a0 < a1 then (some ((0 : Int32), S)) else (if a2 < a0 then (some ((0 : Int32), S)) else (some ((1 : Int32), S)))
set_option maxRecDepth 100000 in
set_option maxHeartbeats 4000000 in
theorem k_X12_within {S : Wd} {a0 : Int32} {a1 : Int32} {a2 : Int32} {r : Int32} {S' : Wd} (h : f_X12_within S a0 a1 a2 = some (r, S')) : Sp yX12_within cX12_within 3 (some .boolean) 0 0 0 0 [.int a0, .int a1, .int a2] S (some (.int r)) S' := by
  unfold f_X12_within at h
  refine Sp.of (by decide +kernel) (Nat.le_of_ble_eq_true rfl) ?_
  intro b hC hin hR
  show G b 0 [(0, .int a0), (1, .int a1), (2, .int a2)] [] S 0 0
  refine g_iload_n hC dX12_within_0 rfl ?_
  refine g_iload_n hC dX12_within_1 rfl ?_
  refine g_icmp_lt (tgt := 14) hC dX12_within_2 (by decide) (fun hc1 => ?_) (fun hc1 => ?_)
  · rw [if_pos hc1] at h
    refine g_iconst (v := (0 : Int32)) hC dX12_within_14 (by decide) ?_
    cases h
    exact g_zret hC hR rfl dX12_within_15 (by decide) (by decide)
  · rw [if_neg hc1] at h
    refine g_iload_n hC dX12_within_5 rfl ?_
    refine g_iload_n hC dX12_within_6 rfl ?_
    refine g_icmp_gt (tgt := 14) hC dX12_within_7 (by decide) (fun hc2 => ?_) (fun hc2 => ?_)
    · rw [if_pos hc2] at h
      refine g_iconst (v := (0 : Int32)) hC dX12_within_14 (by decide) ?_
      cases h
      exact g_zret hC hR rfl dX12_within_15 (by decide) (by decide)
    · rw [if_neg hc2] at h
      refine g_iconst (v := (1 : Int32)) hC dX12_within_10 (by decide) ?_
      refine g_goto (tgt := 15) hC dX12_within_11 (by decide) ?_
      cases h
      exact g_zret hC hR rfl dX12_within_15 (by decide) (by decide)

theorem mi_X12_isTown : MI yX12_isTown cX12_isTown 1 (some .boolean) 1 := ⟨tw_1079, tw_14, by decide +kernel, by decide +kernel, by decide +kernel⟩
noncomputable def f_X12_isTown (S : Wd) (a0 : Int32) : Option (Int32 × Wd) := bd2 (f_X12_within S a0 (0 : Int32) (7 : Int32)) (fun r3 S2 => gd (narrow .boolean (.int r3) = .int r3) (some (r3, S2)))
set_option maxRecDepth 100000 in
set_option maxHeartbeats 4000000 in
theorem k_X12_isTown {S : Wd} {a0 : Int32} {r : Int32} {S' : Wd} (h : f_X12_isTown S a0 = some (r, S')) : Sp yX12_isTown cX12_isTown 1 (some .boolean) 1 22 0 0 [.int a0] S (some (.int r)) S' := by
  unfold f_X12_isTown at h
  refine Sp.of (by decide +kernel) (Nat.le_of_ble_eq_true rfl) ?_
  intro b hC hin hR
  show G b 0 [(0, .int a0)] [] S 0 0
  refine g_iload_n hC dX12_isTown_0 rfl ?_
  refine g_iconst (v := (0 : Int32)) hC dX12_isTown_1 (by decide) ?_
  refine g_bipush (v := (7 : Int32)) hC dX12_isTown_2 (by decide) ?_
  obtain ⟨r3, S2, hr1, h⟩ := bd2_some h
  refine g_callS (rest := []) hC mi_X12_within (k_X12_within hr1) tw_1080 tw_1081 dX12_isTown_4 rfl rfl ⟨by decide, by decide⟩ (Nat.le_of_ble_eq_true rfl) ⟨by decide, by decide⟩ ?_
  obtain ⟨hv4, h⟩ := gd_some h
  cases h
  exact g_zret hC hR hv4 dX12_isTown_7 (by decide) (by decide)

theorem mi_X12_keep : MI yX12_keep cX12_keep 2 none 0 := ⟨tw_1087, tw_14, by decide +kernel, by decide +kernel, by decide +kernel⟩
noncomputable def B_X12_keep_0 (S : Wd) (a0 : Nat) : Option ((Wd) ⊕ Cs) := gd (ob S a0 12) (if (wI S a0 2) = (16 : Int32) then (some (.inr (1, [a0], [(0 : Int32)], S))) else (some (.inr (2, [a0], [(0 : Int32)], S))))
noncomputable def B_X12_keep_1 (S : Wd) (x0 : Nat) (x1 : Int32) : Option ((Wd) ⊕ Cs) := if (6360 : Int32) ≤ x1 then (gd (ob S x0 12) (gd (ob S x0 12) (ltS (sI S x0 2 ((wI S x0 2) - (1 : Int32))) (fun S6 => some (.inr (2, [x0], [(0 : Int32)], S6)))))) else (gd (ob S x0 12) (Option.bind (wO S x0 1) (fun q9 => gd (ob S x0 12) (Option.bind (wO S x0 1) (fun q12 => gd (ix S q12 100 (x1 + (424 : Int32))) (gd (ix S q9 100 x1) (ltS (sI S q9 x1.toNatClampNeg (wI S q12 (x1 + (424 : Int32)).toNatClampNeg)) (fun S16 => some (.inr (1, [x0], [(x1 + (1 : Int32))], S16))))))))))
noncomputable def B_X12_keep_2 (S : Wd) (x0 : Nat) (x1 : Int32) : Option ((Wd) ⊕ Cs) := if (424 : Int32) ≤ x1 then (gd (ob S x0 12) (gd (ob S x0 12) (ltS (sI S x0 2 ((wI S x0 2) + (1 : Int32))) (fun S21 => some (.inl S21))))) else (gd (ob S x0 12) (Option.bind (wO S x0 1) (fun q24 => gd (ob S x0 12) (gd (ob S x0 12) (Option.bind (wO S x0 0) (fun q28 => gd (ix S q28 100 x1) (gd (ix S q24 100 (((wI S x0 2) * (424 : Int32)) + x1)) (ltS (sI S q24 (((wI S x0 2) * (424 : Int32)) + x1).toNatClampNeg (wI S q28 x1.toNatClampNeg)) (fun S32 => some (.inr (2, [x0], [(x1 + (1 : Int32))], S32)))))))))))
noncomputable def B_X12_keep : Cs → Option ((Wd) ⊕ Cs)
  | (0, [a0], [], S) => B_X12_keep_0 S a0
  | (1, [x0], [x1], S) => B_X12_keep_1 S x0 x1
  | (2, [x0], [x1], S) => B_X12_keep_2 S x0 x1
  | _ => none
def P_X12_keep : Cs → Option (Nat × List (Nat × Value) × Wd × Nat × Nat)
  | (0, [a0], [], S) => some (0, [(0, .ref a0)], S, 0, 0)
  | (1, [x0], [x1], S) => some (11, [(0, .ref x0), (1, .int x1)], S, 0, 0)
  | (2, [x0], [x1], S) => some (52, [(0, .ref x0), (1, .int x1)], S, 0, 0)
  | _ => none
noncomputable def f_X12_keep (S : Wd) (a0 : Nat) : Option (Wd) := ru B_X12_keep (0, [a0], [], S)
abbrev N_X12_keep (b : Bd) (r : Wd) (c : (Wd) ⊕ Cs) : Prop := match c with
  | .inl r' => r' = r
  | .inr s' => ∀ pc L S kc ks, P_X12_keep s' = some (pc, L, S, kc, ks) → G b pc L [] S kc ks
set_option maxRecDepth 100000 in
set_option maxHeartbeats 4000000 in
theorem w_X12_keep_0 {b : Bd} {r : Wd} (hC : CX b yX12_keep.cls cX12_keep 2 { frames := 0, cells := 0, slots := 0, locals := 0 }) (hin : yX12_keep.name = "<init>" → b.2.2.2.2.2.2.2.2.1.name = "<init>") (hR : RT b none none r 0 0) {S : Wd} {a0 : Nat} {c : (Wd) ⊕ Cs} (h : B_X12_keep_0 S a0 = some c) (hk : N_X12_keep b r c) : G b 0 [(0, .ref a0)] [] S 0 0 := by
  unfold B_X12_keep_0 at h
  refine g_aload_n hC dX12_keep_0 rfl ?_
  obtain ⟨ho1, h⟩ := gd_some h
  refine g_geti (k := 2) hC ck_X12 (by decide) tw_986 rfl (by decide) dX12_keep_1 ho1 ?_
  refine g_bipush (v := (16 : Int32)) hC dX12_keep_4 (by decide) ?_
  refine g_icmp_ne (tgt := 50) hC dX12_keep_6 (by decide) (fun hc2 => ?_) (fun hc2 => ?_)
  · rw [if_neg hc2] at h
    refine g_iconst (v := (0 : Int32)) hC dX12_keep_50 (by decide) ?_
    refine g_istore_n (L' := [(1, .int (0 : Int32)), (0, .ref a0)]) hC dX12_keep_51 (by decide) rfl ?_
    cases h
    refine g_pick (L' := [(0, .ref a0), (1, .int (0 : Int32))]) [1, 0] rfl ?_
    exact hk _ _ _ _ _ rfl
  · rw [if_pos hc2] at h
    refine g_iconst (v := (0 : Int32)) hC dX12_keep_9 (by decide) ?_
    refine g_istore_n (L' := [(1, .int (0 : Int32)), (0, .ref a0)]) hC dX12_keep_10 (by decide) rfl ?_
    cases h
    refine g_pick (L' := [(0, .ref a0), (1, .int (0 : Int32))]) [1, 0] rfl ?_
    exact hk _ _ _ _ _ rfl
set_option maxRecDepth 100000 in
set_option maxHeartbeats 4000000 in
theorem w_X12_keep_1 {b : Bd} {r : Wd} (hC : CX b yX12_keep.cls cX12_keep 2 { frames := 0, cells := 0, slots := 0, locals := 0 }) (hin : yX12_keep.name = "<init>" → b.2.2.2.2.2.2.2.2.1.name = "<init>") (hR : RT b none none r 0 0) {S : Wd} {x0 : Nat} {x1 : Int32} {c : (Wd) ⊕ Cs} (h : B_X12_keep_1 S x0 x1 = some c) (hk : N_X12_keep b r c) : G b 11 [(0, .ref x0), (1, .int x1)] [] S 0 0 := by
  unfold B_X12_keep_1 at h
  refine g_iload_n hC dX12_keep_11 rfl ?_
  refine g_sipush (v := (6360 : Int32)) hC dX12_keep_12 (by decide) ?_
  refine g_icmp_ge (tgt := 40) hC dX12_keep_15 (by decide) (fun hc3 => ?_) (fun hc3 => ?_)
  · rw [if_pos hc3] at h
    refine g_aload_n hC dX12_keep_40 rfl ?_
    refine g_dup hC dX12_keep_41 rfl ?_
    obtain ⟨ho4, h⟩ := gd_some h
    refine g_geti (k := 2) hC ck_X12 (by decide) tw_986 rfl (by decide) dX12_keep_42 ho4 ?_
    refine g_iconst (v := (1 : Int32)) hC dX12_keep_45 (by decide) ?_
    refine g_isub hC dX12_keep_46 ?_
    obtain ⟨ho5, h⟩ := gd_some h
    refine g_puti (k := 2) hC ck_X12 (by decide) tw_986 rfl (by decide) rfl rfl dX12_keep_47 ho5 ?_
    refine g_name (fun S6 eS7 => ?_)
    have h := ltS_use eS7 h
    refine g_iconst (v := (0 : Int32)) hC dX12_keep_50 (by decide) ?_
    refine g_istore_n (L' := [(1, .int (0 : Int32)), (0, .ref x0)]) hC dX12_keep_51 (by decide) rfl ?_
    cases h
    refine g_pick (L' := [(0, .ref x0), (1, .int (0 : Int32))]) [1, 0] rfl ?_
    exact hk _ _ _ _ _ rfl
  · rw [if_neg hc3] at h
    refine g_aload_n hC dX12_keep_18 rfl ?_
    obtain ⟨ho8, h⟩ := gd_some h
    obtain ⟨q9, hq10, h⟩ := Option.bind_eq_some_iff.mp h
    refine g_getr (k := 1) (q := q9) hC ck_X12 (by decide) tw_985 rfl (by decide) dX12_keep_19 ho8 hq10 ?_
    refine g_iload_n hC dX12_keep_22 rfl ?_
    refine g_aload_n hC dX12_keep_23 rfl ?_
    obtain ⟨ho11, h⟩ := gd_some h
    obtain ⟨q12, hq13, h⟩ := Option.bind_eq_some_iff.mp h
    refine g_getr (k := 1) (q := q12) hC ck_X12 (by decide) tw_985 rfl (by decide) dX12_keep_24 ho11 hq13 ?_
    refine g_iload_n hC dX12_keep_27 rfl ?_
    refine g_sipush (v := (424 : Int32)) hC dX12_keep_28 (by decide) ?_
    refine g_iadd hC dX12_keep_31 ?_
    obtain ⟨hx14, h⟩ := gd_some h
    refine g_iald hC dX12_keep_32 hx14.1 hx14.2 ?_
    obtain ⟨hx15, h⟩ := gd_some h
    refine g_iast hC dX12_keep_33 hx15.1 hx15.2 ?_
    refine g_name (fun S16 eS17 => ?_)
    have h := ltS_use eS17 h
    refine g_iinc (v := (1 : Int32)) (L' := [(1, .int (x1 + (1 : Int32))), (0, .ref x0)]) hC dX12_keep_34 rfl (by decide) (by decide) rfl ?_
    refine g_goto (tgt := 11) hC dX12_keep_37 (by decide) ?_
    cases h
    refine g_pick (L' := [(0, .ref x0), (1, .int (x1 + (1 : Int32)))]) [1, 0] rfl ?_
    exact hk _ _ _ _ _ rfl
set_option maxRecDepth 100000 in
set_option maxHeartbeats 4000000 in
theorem w_X12_keep_2 {b : Bd} {r : Wd} (hC : CX b yX12_keep.cls cX12_keep 2 { frames := 0, cells := 0, slots := 0, locals := 0 }) (hin : yX12_keep.name = "<init>" → b.2.2.2.2.2.2.2.2.1.name = "<init>") (hR : RT b none none r 0 0) {S : Wd} {x0 : Nat} {x1 : Int32} {c : (Wd) ⊕ Cs} (h : B_X12_keep_2 S x0 x1 = some c) (hk : N_X12_keep b r c) : G b 52 [(0, .ref x0), (1, .int x1)] [] S 0 0 := by
  unfold B_X12_keep_2 at h
  refine g_iload_n hC dX12_keep_52 rfl ?_
  refine g_sipush (v := (424 : Int32)) hC dX12_keep_53 (by decide) ?_
  refine g_icmp_ge (tgt := 86) hC dX12_keep_56 (by decide) (fun hc18 => ?_) (fun hc18 => ?_)
  · rw [if_pos hc18] at h
    refine g_aload_n hC dX12_keep_86 rfl ?_
    refine g_dup hC dX12_keep_87 rfl ?_
    obtain ⟨ho19, h⟩ := gd_some h
    refine g_geti (k := 2) hC ck_X12 (by decide) tw_986 rfl (by decide) dX12_keep_88 ho19 ?_
    refine g_iconst (v := (1 : Int32)) hC dX12_keep_91 (by decide) ?_
    refine g_iadd hC dX12_keep_92 ?_
    obtain ⟨ho20, h⟩ := gd_some h
    refine g_puti (k := 2) hC ck_X12 (by decide) tw_986 rfl (by decide) rfl rfl dX12_keep_93 ho20 ?_
    refine g_name (fun S21 eS22 => ?_)
    have h := ltS_use eS22 h
    cases h
    subst hk
    exact g_vret hC hR dX12_keep_96 (by decide) (by decide)
  · rw [if_neg hc18] at h
    refine g_aload_n hC dX12_keep_59 rfl ?_
    obtain ⟨ho23, h⟩ := gd_some h
    obtain ⟨q24, hq25, h⟩ := Option.bind_eq_some_iff.mp h
    refine g_getr (k := 1) (q := q24) hC ck_X12 (by decide) tw_985 rfl (by decide) dX12_keep_60 ho23 hq25 ?_
    refine g_aload_n hC dX12_keep_63 rfl ?_
    obtain ⟨ho26, h⟩ := gd_some h
    refine g_geti (k := 2) hC ck_X12 (by decide) tw_986 rfl (by decide) dX12_keep_64 ho26 ?_
    refine g_sipush (v := (424 : Int32)) hC dX12_keep_67 (by decide) ?_
    refine g_imul hC dX12_keep_70 ?_
    refine g_iload_n hC dX12_keep_71 rfl ?_
    refine g_iadd hC dX12_keep_72 ?_
    refine g_aload_n hC dX12_keep_73 rfl ?_
    obtain ⟨ho27, h⟩ := gd_some h
    obtain ⟨q28, hq29, h⟩ := Option.bind_eq_some_iff.mp h
    refine g_getr (k := 0) (q := q28) hC ck_X12 (by decide) tw_984 rfl (by decide) dX12_keep_74 ho27 hq29 ?_
    refine g_iload_n hC dX12_keep_77 rfl ?_
    obtain ⟨hx30, h⟩ := gd_some h
    refine g_iald hC dX12_keep_78 hx30.1 hx30.2 ?_
    obtain ⟨hx31, h⟩ := gd_some h
    refine g_iast hC dX12_keep_79 hx31.1 hx31.2 ?_
    refine g_name (fun S32 eS33 => ?_)
    have h := ltS_use eS33 h
    refine g_iinc (v := (1 : Int32)) (L' := [(1, .int (x1 + (1 : Int32))), (0, .ref x0)]) hC dX12_keep_80 rfl (by decide) (by decide) rfl ?_
    refine g_goto (tgt := 52) hC dX12_keep_83 (by decide) ?_
    cases h
    refine g_pick (L' := [(0, .ref x0), (1, .int (x1 + (1 : Int32)))]) [1, 0] rfl ?_
    exact hk _ _ _ _ _ rfl
theorem w_X12_keep {b : Bd} {r : Wd} (hC : CX b yX12_keep.cls cX12_keep 2 { frames := 0, cells := 0, slots := 0, locals := 0 }) (hin : yX12_keep.name = "<init>" → b.2.2.2.2.2.2.2.2.1.name = "<init>") (hR : RT b none none r 0 0) {s : Cs} {c : (Wd) ⊕ Cs} (h : B_X12_keep s = some c) (hk : N_X12_keep b r c) : ∀ pc L S kc ks, P_X12_keep s = some (pc, L, S, kc, ks) → G b pc L [] S kc ks := by
  intro pc L S kc ks hp
  unfold B_X12_keep at h
  split at h
  · cases hp
    exact w_X12_keep_0 hC hin hR h hk
  · cases hp
    exact w_X12_keep_1 hC hin hR h hk
  · cases hp
    exact w_X12_keep_2 hC hin hR h hk
  · cases h
theorem k_X12_keep {S : Wd} {a0 : Nat} {S' : Wd} (h : f_X12_keep S a0 = some S') : Sp yX12_keep cX12_keep 2 none 0 0 0 0 [.ref a0] S none S' := by
  unfold f_X12_keep at h
  refine Sp.of (by decide +kernel) (Nat.le_of_ble_eq_true rfl) ?_
  intro b hC hin hR
  exact ru_ind (P := fun s q0 => q0 = S' → ∀ pc L S kc ks, P_X12_keep s = some (pc, L, S, kc, ks) → G b pc L [] S kc ks) (fun s q0 hB e => w_X12_keep (r := S') hC hin hR hB e) (fun s s' q0 hB ih e => w_X12_keep (r := S') hC hin hR hB (ih e)) h rfl _ _ _ _ _ rfl

theorem mi_X12_road : MI yX12_road cX12_road 5 (some .int) 3 := ⟨tw_1076, tw_14, by decide +kernel, by decide +kernel, by decide +kernel⟩
noncomputable def f_X12_road (S : Wd) (a0 : Nat) (a1 : Int32) (a2 : Int32) (a3 : Int32) : Option (Int32 × Wd) := bd2 (f_X12_isTown S a1) (fun r3 S2 => if r3 = 0 then (gd (ob S2 a0 12) (bd2 (f_X12_finding S2 a0 (-100001 : Int32)) (fun r8 S6 => some (r8, S6)))) else (bd2 (f_X12_isTown S2 a2) (fun r11 S10 => if r11 = 0 then (gd (ob S10 a0 12) (bd2 (f_X12_finding S10 a0 (-100001 : Int32)) (fun r16 S14 => some (r16, S14)))) else (if a1 = a2 then (gd (ob S10 a0 12) (bd2 (f_X12_finding S10 a0 (-100001 : Int32)) (fun r21 S19 => some (r21, S19)))) else (bd2 (f_X12_within S10 a3 (0 : Int32) (400 : Int32)) (fun r24 S23 => if r24 = 0 then (gd (ob S23 a0 12) (bd2 (f_X12_finding S23 a0 (-100001 : Int32)) (fun r48 S46 => some (r48, S46)))) else (gd (ob S23 a0 12) (Option.bind (f_X12_keep S23 a0) (fun S27 => gd (ob S27 a0 12) (Option.bind (wO S27 a0 0) (fun q30 => gd (ix S27 q30 100 (((0 : Int32) + ((8 : Int32) * a1)) + a2)) (gd (ob S27 a0 12) (Option.bind (wO S27 a0 0) (fun q34 => gd (ix S27 q34 100 (((0 : Int32) + ((8 : Int32) * a1)) + a2)) (ltS (sI S27 q34 (((0 : Int32) + ((8 : Int32) * a1)) + a2).toNatClampNeg a3) (fun S37 => gd (ob S37 a0 12) (Option.bind (wO S37 a0 0) (fun q40 => gd (ix S37 q40 100 (((0 : Int32) + ((8 : Int32) * a2)) + a1)) (ltS (sI S37 q40 (((0 : Int32) + ((8 : Int32) * a2)) + a1).toNatClampNeg a3) (fun S43 => some ((wI S27 q30 (((0 : Int32) + ((8 : Int32) * a1)) + a2).toNatClampNeg), S43)))))))))))))))))))))
set_option maxRecDepth 100000 in
set_option maxHeartbeats 4000000 in
theorem k_X12_road {S : Wd} {a0 : Nat} {a1 : Int32} {a2 : Int32} {a3 : Int32} {r : Int32} {S' : Wd} (h : f_X12_road S a0 a1 a2 a3 = some (r, S')) : Sp yX12_road cX12_road 5 (some .int) 2 42 0 0 [.ref a0, .int a1, .int a2, .int a3] S (some (.int r)) S' := by
  unfold f_X12_road at h
  refine Sp.of (by decide +kernel) (Nat.le_of_ble_eq_true rfl) ?_
  intro b hC hin hR
  show G b 0 [(0, .ref a0), (1, .int a1), (2, .int a2), (3, .int a3)] [] S 0 0
  refine g_iload_n hC dX12_road_0 rfl ?_
  obtain ⟨r3, S2, hr1, h⟩ := bd2_some h
  refine g_callS (rest := []) hC mi_X12_isTown (k_X12_isTown hr1) tw_1077 tw_1078 dX12_road_1 rfl rfl ⟨by decide, by decide⟩ (Nat.le_of_ble_eq_true rfl) ⟨by decide, by decide⟩ ?_
  refine g_if_eq (tgt := 30) hC dX12_road_4 (by decide) (fun hc4 => ?_) (fun hc4 => ?_)
  · rw [if_pos hc4] at h
    refine g_aload_n hC dX12_road_30 rfl ?_
    refine g_ldc hC tw_1083 dX12_road_31 ?_
    obtain ⟨ho7, h⟩ := gd_some h
    obtain ⟨r8, S6, hr5, h⟩ := bd2_some h
    refine g_callV (rest := []) hC mi_X12_finding (k_X12_finding hr5) ck_X12.1 (by decide) ho7 tw_1069 tw_1071 ts_24 dX12_road_33 rfl rfl ⟨by decide, by decide⟩ (Nat.le_of_ble_eq_true rfl) ⟨by decide, by decide⟩ ?_
    cases h
    exact g_iret hC hR dX12_road_36 (by decide) (by decide)
  · rw [if_neg hc4] at h
    refine g_iload_n hC dX12_road_7 rfl ?_
    obtain ⟨r11, S10, hr9, h⟩ := bd2_some h
    refine g_callS (rest := []) hC mi_X12_isTown (k_X12_isTown hr9) tw_1077 tw_1078 dX12_road_8 rfl rfl ⟨by decide, by decide⟩ (Nat.le_of_ble_eq_true rfl) ⟨by decide, by decide⟩ ?_
    refine g_if_eq (tgt := 30) hC dX12_road_11 (by decide) (fun hc12 => ?_) (fun hc12 => ?_)
    · rw [if_pos hc12] at h
      refine g_aload_n hC dX12_road_30 rfl ?_
      refine g_ldc hC tw_1083 dX12_road_31 ?_
      obtain ⟨ho15, h⟩ := gd_some h
      obtain ⟨r16, S14, hr13, h⟩ := bd2_some h
      refine g_callV (rest := []) hC mi_X12_finding (k_X12_finding hr13) ck_X12.1 (by decide) ho15 tw_1069 tw_1071 ts_24 dX12_road_33 rfl rfl ⟨by decide, by decide⟩ (Nat.le_of_ble_eq_true rfl) ⟨by decide, by decide⟩ ?_
      cases h
      exact g_iret hC hR dX12_road_36 (by decide) (by decide)
    · rw [if_neg hc12] at h
      refine g_iload_n hC dX12_road_14 rfl ?_
      refine g_iload_n hC dX12_road_15 rfl ?_
      refine g_icmp_eq (tgt := 30) hC dX12_road_16 (by decide) (fun hc17 => ?_) (fun hc17 => ?_)
      · rw [if_pos hc17] at h
        refine g_aload_n hC dX12_road_30 rfl ?_
        refine g_ldc hC tw_1083 dX12_road_31 ?_
        obtain ⟨ho20, h⟩ := gd_some h
        obtain ⟨r21, S19, hr18, h⟩ := bd2_some h
        refine g_callV (rest := []) hC mi_X12_finding (k_X12_finding hr18) ck_X12.1 (by decide) ho20 tw_1069 tw_1071 ts_24 dX12_road_33 rfl rfl ⟨by decide, by decide⟩ (Nat.le_of_ble_eq_true rfl) ⟨by decide, by decide⟩ ?_
        cases h
        exact g_iret hC hR dX12_road_36 (by decide) (by decide)
      · rw [if_neg hc17] at h
        refine g_iload_n hC dX12_road_19 rfl ?_
        refine g_iconst (v := (0 : Int32)) hC dX12_road_20 (by decide) ?_
        refine g_sipush (v := (400 : Int32)) hC dX12_road_21 (by decide) ?_
        obtain ⟨r24, S23, hr22, h⟩ := bd2_some h
        refine g_callS (rest := []) hC mi_X12_within (k_X12_within hr22) tw_1080 tw_1081 dX12_road_24 rfl rfl ⟨by decide, by decide⟩ (Nat.le_of_ble_eq_true rfl) ⟨by decide, by decide⟩ ?_
        refine g_if_ne (tgt := 37) hC dX12_road_27 (by decide) (fun hc25 => ?_) (fun hc25 => ?_)
        · rw [if_neg hc25] at h
          refine g_aload_n hC dX12_road_37 rfl ?_
          obtain ⟨ho28, h⟩ := gd_some h
          obtain ⟨S27, hr26, h⟩ := Option.bind_eq_some_iff.mp h
          refine g_callV (rest := []) hC mi_X12_keep (k_X12_keep hr26) ck_X12.1 (by decide) ho28 tw_1084 tw_1086 ts_25 dX12_road_38 rfl rfl ⟨by decide, by decide⟩ (Nat.le_of_ble_eq_true rfl) ⟨by decide, by decide⟩ ?_
          refine g_aload_n hC dX12_road_41 rfl ?_
          obtain ⟨ho29, h⟩ := gd_some h
          obtain ⟨q30, hq31, h⟩ := Option.bind_eq_some_iff.mp h
          refine g_getr (k := 0) (q := q30) hC ck_X12 (by decide) tw_984 rfl (by decide) dX12_road_42 ho29 hq31 ?_
          refine g_iconst (v := (0 : Int32)) hC dX12_road_45 (by decide) ?_
          refine g_bipush (v := (8 : Int32)) hC dX12_road_46 (by decide) ?_
          refine g_iload_n hC dX12_road_48 rfl ?_
          refine g_imul hC dX12_road_49 ?_
          refine g_iadd hC dX12_road_50 ?_
          refine g_iload_n hC dX12_road_51 rfl ?_
          refine g_iadd hC dX12_road_52 ?_
          obtain ⟨hx32, h⟩ := gd_some h
          refine g_iald hC dX12_road_53 hx32.1 hx32.2 ?_
          refine g_istore (L' := [(4, .int (wI S27 q30 (((0 : Int32) + ((8 : Int32) * a1)) + a2).toNatClampNeg)), (0, .ref a0), (1, .int a1), (2, .int a2), (3, .int a3)]) hC dX12_road_54 (by decide) rfl ?_
          refine g_aload_n hC dX12_road_56 rfl ?_
          obtain ⟨ho33, h⟩ := gd_some h
          obtain ⟨q34, hq35, h⟩ := Option.bind_eq_some_iff.mp h
          refine g_getr (k := 0) (q := q34) hC ck_X12 (by decide) tw_984 rfl (by decide) dX12_road_57 ho33 hq35 ?_
          refine g_iconst (v := (0 : Int32)) hC dX12_road_60 (by decide) ?_
          refine g_bipush (v := (8 : Int32)) hC dX12_road_61 (by decide) ?_
          refine g_iload_n hC dX12_road_63 rfl ?_
          refine g_imul hC dX12_road_64 ?_
          refine g_iadd hC dX12_road_65 ?_
          refine g_iload_n hC dX12_road_66 rfl ?_
          refine g_iadd hC dX12_road_67 ?_
          refine g_iload_n hC dX12_road_68 rfl ?_
          obtain ⟨hx36, h⟩ := gd_some h
          refine g_iast hC dX12_road_69 hx36.1 hx36.2 ?_
          refine g_name (fun S37 eS38 => ?_)
          have h := ltS_use eS38 h
          refine g_aload_n hC dX12_road_70 rfl ?_
          obtain ⟨ho39, h⟩ := gd_some h
          obtain ⟨q40, hq41, h⟩ := Option.bind_eq_some_iff.mp h
          refine g_getr (k := 0) (q := q40) hC ck_X12 (by decide) tw_984 rfl (by decide) dX12_road_71 ho39 hq41 ?_
          refine g_iconst (v := (0 : Int32)) hC dX12_road_74 (by decide) ?_
          refine g_bipush (v := (8 : Int32)) hC dX12_road_75 (by decide) ?_
          refine g_iload_n hC dX12_road_77 rfl ?_
          refine g_imul hC dX12_road_78 ?_
          refine g_iadd hC dX12_road_79 ?_
          refine g_iload_n hC dX12_road_80 rfl ?_
          refine g_iadd hC dX12_road_81 ?_
          refine g_iload_n hC dX12_road_82 rfl ?_
          obtain ⟨hx42, h⟩ := gd_some h
          refine g_iast hC dX12_road_83 hx42.1 hx42.2 ?_
          refine g_name (fun S43 eS44 => ?_)
          have h := ltS_use eS44 h
          refine g_iload hC dX12_road_84 rfl ?_
          cases h
          exact g_iret hC hR dX12_road_86 (by decide) (by decide)
        · rw [if_pos hc25] at h
          refine g_aload_n hC dX12_road_30 rfl ?_
          refine g_ldc hC tw_1083 dX12_road_31 ?_
          obtain ⟨ho47, h⟩ := gd_some h
          obtain ⟨r48, S46, hr45, h⟩ := bd2_some h
          refine g_callV (rest := []) hC mi_X12_finding (k_X12_finding hr45) ck_X12.1 (by decide) ho47 tw_1069 tw_1071 ts_24 dX12_road_33 rfl rfl ⟨by decide, by decide⟩ (Nat.le_of_ble_eq_true rfl) ⟨by decide, by decide⟩ ?_
          cases h
          exact g_iret hC hR dX12_road_36 (by decide) (by decide)
