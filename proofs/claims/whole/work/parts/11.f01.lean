theorem mi_X8_add : MI yX8_add cX8_add 3 (some .int) 1 := ⟨tw_422, tw_4, by decide +kernel, by decide +kernel, by decide +kernel⟩
noncomputable def f_X8_add (S : Wd) (a0 : Nat) (a1 : Nat) : Option (Int32 × Wd) := gd (ob S a0 8) (Option.bind (wO S a0 3) (fun q2 => gd (ix S q2 100 (0 : Int32)) (gd (ob S a0 8) (if (wI S a0 2) ≤ (wI S q2 (0 : Int32).toNatClampNeg) then (some ((-100005 : Int32), S)) else (gd (ob S a1 100) (gd (ob S a0 8) (if (Int32.ofNat (wlen S a1)) = (wI S a0 1) then (gd (ob S a0 8) (Option.bind (wO S a0 0) (fun q11 => gd (ob S a0 8) (Option.bind (wO S a0 3) (fun q14 => gd (ob S q11 3) (Option.bind (f_X3_keep S q11 q14 (0 : Int32) (1 : Int32)) (fun S17 => gd (ob S17 a0 8) (Option.bind (wO S17 a0 3) (fun q20 => gd (ob S17 a0 8) (gd (ob S17 a0 8) (gd (ob S17 a1 100) (gd (ob S17 q20 100) (gd (¬ (0 : Int32) < 0 ∧ ¬ ((1 : Int32) + ((wI S q2 (0 : Int32).toNatClampNeg) * (wI S17 a0 1))) < 0 ∧ ¬ (wI S17 a0 1) < 0 ∧ (0 : Int32).toNatClampNeg + (wI S17 a0 1).toNatClampNeg ≤ wlen S17 a1 ∧ ((1 : Int32) + ((wI S q2 (0 : Int32).toNatClampNeg) * (wI S17 a0 1))).toNatClampNeg + (wI S17 a0 1).toNatClampNeg ≤ wlen S17 q20) (ltS (sA S17 q20 (va_cpy (wI S17 a1) (wI S17 q20) (0 : Int32).toNatClampNeg ((1 : Int32) + ((wI S q2 (0 : Int32).toNatClampNeg) * (wI S17 a0 1))).toNatClampNeg (wI S17 a0 1).toNatClampNeg)) (fun S27 => gd (ob S27 a0 8) (Option.bind (wO S27 a0 3) (fun q30 => gd (ix S27 q30 100 (0 : Int32)) (ltS (sI S27 q30 (0 : Int32).toNatClampNeg ((wI S q2 (0 : Int32).toNatClampNeg) + (1 : Int32))) (fun S33 => some ((wI S q2 (0 : Int32).toNatClampNeg), S33)))))))))))))))))))) else (some ((-100005 : Int32), S)))))))))
set_option maxRecDepth 100000 in
set_option maxHeartbeats 4000000 in
theorem k_X8_add {S : Wd} {a0 : Nat} {a1 : Nat} {r : Int32} {S' : Wd} (h : f_X8_add S a0 a1 = some (r, S')) : Sp yX8_add cX8_add 3 (some .int) 4 99 1 200 [.ref a0, .ref a1] S (some (.int r)) S' := by
  unfold f_X8_add at h
  refine Sp.of (by decide +kernel) (Nat.le_of_ble_eq_true rfl) ?_
  intro b hC hin hR
  show G b 0 [(0, .ref a0), (1, .ref a1)] [] S 0 0
  refine g_aload_n hC dX8_add_0 rfl ?_
  obtain ⟨ho1, h⟩ := gd_some h
  obtain ⟨q2, hq3, h⟩ := Option.bind_eq_some_iff.mp h
  refine g_getr (k := 3) (q := q2) hC ck_X8 (by decide) tw_85 rfl (by decide) dX8_add_1 ho1 hq3 ?_
  refine g_iconst (v := (0 : Int32)) hC dX8_add_4 (by decide) ?_
  obtain ⟨hx4, h⟩ := gd_some h
  refine g_iald hC dX8_add_5 hx4.1 hx4.2 ?_
  refine g_istore_n (L' := [(2, .int (wI S q2 (0 : Int32).toNatClampNeg)), (0, .ref a0), (1, .ref a1)]) hC dX8_add_6 (by decide) rfl ?_
  refine g_iload_n hC dX8_add_7 rfl ?_
  refine g_aload_n hC dX8_add_8 rfl ?_
  obtain ⟨ho5, h⟩ := gd_some h
  refine g_geti (k := 2) hC ck_X8 (by decide) tw_84 rfl (by decide) dX8_add_9 ho5 ?_
  refine g_icmp_ge (tgt := 24) hC dX8_add_12 (by decide) (fun hc6 => ?_) (fun hc6 => ?_)
  · rw [if_pos hc6] at h
    refine g_ldc hC tw_423 dX8_add_24 ?_
    cases h
    exact g_iret hC hR dX8_add_26 (by decide) (by decide)
  · rw [if_neg hc6] at h
    refine g_aload_n hC dX8_add_15 rfl ?_
    obtain ⟨ho7, h⟩ := gd_some h
    refine g_alen hC dX8_add_16 ho7 ?_
    refine g_aload_n hC dX8_add_17 rfl ?_
    obtain ⟨ho8, h⟩ := gd_some h
    refine g_geti (k := 1) hC ck_X8 (by decide) tw_83 rfl (by decide) dX8_add_18 ho8 ?_
    refine g_icmp_eq (tgt := 27) hC dX8_add_21 (by decide) (fun hc9 => ?_) (fun hc9 => ?_)
    · rw [if_pos hc9] at h
      refine g_aload_n hC dX8_add_27 rfl ?_
      obtain ⟨ho10, h⟩ := gd_some h
      obtain ⟨q11, hq12, h⟩ := Option.bind_eq_some_iff.mp h
      refine g_getr (k := 0) (q := q11) hC ck_X8 (by decide) tw_82 rfl (by decide) dX8_add_28 ho10 hq12 ?_
      refine g_aload_n hC dX8_add_31 rfl ?_
      obtain ⟨ho13, h⟩ := gd_some h
      obtain ⟨q14, hq15, h⟩ := Option.bind_eq_some_iff.mp h
      refine g_getr (k := 3) (q := q14) hC ck_X8 (by decide) tw_85 rfl (by decide) dX8_add_32 ho13 hq15 ?_
      refine g_iconst (v := (0 : Int32)) hC dX8_add_35 (by decide) ?_
      refine g_iconst (v := (1 : Int32)) hC dX8_add_36 (by decide) ?_
      obtain ⟨ho18, h⟩ := gd_some h
      obtain ⟨S17, hr16, h⟩ := Option.bind_eq_some_iff.mp h
      refine g_callV (rest := []) hC mi_X3_keep (k_X3_keep hr16) ck_X3.1 (by decide) ho18 tw_424 tw_368 tw_369 dX8_add_37 rfl rfl ⟨by decide, by decide⟩ (Nat.le_of_ble_eq_true rfl) ⟨by decide, by decide⟩ ?_
      refine g_aload_n hC dX8_add_40 rfl ?_
      refine g_iconst (v := (0 : Int32)) hC dX8_add_41 (by decide) ?_
      refine g_aload_n hC dX8_add_42 rfl ?_
      obtain ⟨ho19, h⟩ := gd_some h
      obtain ⟨q20, hq21, h⟩ := Option.bind_eq_some_iff.mp h
      refine g_getr (k := 3) (q := q20) hC ck_X8 (by decide) tw_85 rfl (by decide) dX8_add_43 ho19 hq21 ?_
      refine g_iconst (v := (1 : Int32)) hC dX8_add_46 (by decide) ?_
      refine g_iload_n hC dX8_add_47 rfl ?_
      refine g_aload_n hC dX8_add_48 rfl ?_
      obtain ⟨ho22, h⟩ := gd_some h
      refine g_geti (k := 1) hC ck_X8 (by decide) tw_83 rfl (by decide) dX8_add_49 ho22 ?_
      refine g_imul hC dX8_add_52 ?_
      refine g_iadd hC dX8_add_53 ?_
      refine g_aload_n hC dX8_add_54 rfl ?_
      obtain ⟨ho23, h⟩ := gd_some h
      refine g_geti (k := 1) hC ck_X8 (by decide) tw_83 rfl (by decide) dX8_add_55 ho23 ?_
      obtain ⟨ho24, h⟩ := gd_some h
      obtain ⟨ho25, h⟩ := gd_some h
      obtain ⟨hn26, h⟩ := gd_some h
      refine g_copy hC tw_425 tw_383 tw_382 tw_16 dX8_add_58 ho24 ho25 hn26.1 hn26.2.1 hn26.2.2.1 hn26.2.2.2.1 hn26.2.2.2.2 (by decide) (Nat.le_of_ble_eq_true rfl) ?_
      refine g_name (fun S27 eS28 => ?_)
      have h := ltS_use eS28 h
      refine g_aload_n hC dX8_add_61 rfl ?_
      obtain ⟨ho29, h⟩ := gd_some h
      obtain ⟨q30, hq31, h⟩ := Option.bind_eq_some_iff.mp h
      refine g_getr (k := 3) (q := q30) hC ck_X8 (by decide) tw_85 rfl (by decide) dX8_add_62 ho29 hq31 ?_
      refine g_iconst (v := (0 : Int32)) hC dX8_add_65 (by decide) ?_
      refine g_iload_n hC dX8_add_66 rfl ?_
      refine g_iconst (v := (1 : Int32)) hC dX8_add_67 (by decide) ?_
      refine g_iadd hC dX8_add_68 ?_
      obtain ⟨hx32, h⟩ := gd_some h
      refine g_iast hC dX8_add_69 hx32.1 hx32.2 ?_
      refine g_name (fun S33 eS34 => ?_)
      have h := ltS_use eS34 h
      refine g_iload_n hC dX8_add_70 rfl ?_
      cases h
      exact g_iret hC hR dX8_add_71 (by decide) (by decide)
    · rw [if_neg hc9] at h
      refine g_ldc hC tw_423 dX8_add_24 ?_
      cases h
      exact g_iret hC hR dX8_add_26 (by decide) (by decide)

theorem mi_X11_lorry : MI yX11_lorry cX11_lorry 10 (some .int) 6 := ⟨tw_418, tw_1, by decide +kernel, by decide +kernel, by decide +kernel⟩
noncomputable def f_X11_lorry (S : Wd) (a0 : Nat) (a1 : Int32) (a2 : Int32) (a3 : Int32) (a4 : Int32) (a5 : Int32) (a6 : Int32) : Option (Int32 × Wd) := bd2 (f_X11_within S a1 (0 : Int32) (3 : Int32)) (fun r3 S2 => if r3 = 0 then (if (0 : Int32) = 0 then (gd (ob S2 a0 11) (bd2 (f_X11_told S2 a0 (-100001 : Int32)) (fun r9 S7 => some (r9, S7)))) else (none)) else (bd2 (f_X11_isTown S2 a2) (fun r12 S11 => if r12 = 0 then (if (0 : Int32) = 0 then (gd (ob S11 a0 11) (bd2 (f_X11_told S11 a0 (-100001 : Int32)) (fun r18 S16 => some (r18, S16)))) else (none)) else (bd2 (f_X11_within S11 a3 (0 : Int32) (2000 : Int32)) (fun r21 S20 => if r21 = 0 then (if (0 : Int32) = 0 then (gd (ob S20 a0 11) (bd2 (f_X11_told S20 a0 (-100001 : Int32)) (fun r27 S25 => some (r27, S25)))) else (none)) else (if a4 < 0 then (if (0 : Int32) = 0 then (gd (ob S20 a0 11) (bd2 (f_X11_told S20 a0 (-100001 : Int32)) (fun r33 S31 => some (r33, S31)))) else (none)) else (if (4000 : Int32) < (a4 / (10 : Int32)) then (if (0 : Int32) = 0 then (gd (ob S20 a0 11) (bd2 (f_X11_told S20 a0 (-100001 : Int32)) (fun r39 S37 => some (r39, S37)))) else (none)) else (bd2 (f_X11_isTown S20 (irm a4 (10 : Int32))) (fun r42 S41 => if r42 = 0 then (if (0 : Int32) = 0 then (gd (ob S41 a0 11) (bd2 (f_X11_told S41 a0 (-100001 : Int32)) (fun r48 S46 => some (r48, S46)))) else (none)) else (bd2 (f_X11_within S41 a5 (1 : Int32) (40 : Int32)) (fun r51 S50 => if r51 = 0 then (if (0 : Int32) = 0 then (gd (ob S50 a0 11) (bd2 (f_X11_told S50 a0 (-100001 : Int32)) (fun r57 S55 => some (r57, S55)))) else (none)) else (bd2 (f_X11_within S50 a6 (1 : Int32) (40 : Int32)) (fun r60 S59 => if r60 = 0 then (if (0 : Int32) = 0 then (gd (ob S59 a0 11) (bd2 (f_X11_told S59 a0 (-100001 : Int32)) (fun r66 S64 => some (r66, S64)))) else (none)) else (if (1 : Int32) = 0 then (none) else (if a1 = (2 : Int32) then (gd (nk S59 100 (7 : Int32).toNatClampNeg) (ltS (sN S59 (7 : Int32).toNatClampNeg) (fun S105 => gd (ix S105 (wn S59) 100 (0 : Int32)) (ltS (sI S105 (wn S59) (0 : Int32).toNatClampNeg a1) (fun S108 => gd (ix S108 (wn S59) 100 (1 : Int32)) (ltS (sI S108 (wn S59) (1 : Int32).toNatClampNeg a2) (fun S111 => gd (ix S111 (wn S59) 100 (2 : Int32)) (ltS (sI S111 (wn S59) (2 : Int32).toNatClampNeg a3) (fun S114 => gd (ix S114 (wn S59) 100 (3 : Int32)) (ltS (sI S114 (wn S59) (3 : Int32).toNatClampNeg (irm a4 (10 : Int32))) (fun S117 => gd (ix S117 (wn S59) 100 (4 : Int32)) (ltS (sI S117 (wn S59) (4 : Int32).toNatClampNeg (a4 / (10 : Int32))) (fun S120 => gd (ix S120 (wn S59) 100 (5 : Int32)) (ltS (sI S120 (wn S59) (5 : Int32).toNatClampNeg (a5 / (2 : Int32))) (fun S123 => gd (ix S123 (wn S59) 100 (6 : Int32)) (ltS (sI S123 (wn S59) (6 : Int32).toNatClampNeg a6) (fun S126 => gd (ob S126 a0 11) (Option.bind (wO S126 a0 2) (fun q129 => gd (ob S126 q129 8) (bd2 (f_X8_add S126 q129 (wn S59)) (fun r134 S132 => gd (ob S132 a0 11) (bd2 (f_X11_told S132 a0 r134) (fun r138 S136 => some (r138, S136)))))))))))))))))))))))) else (gd (nk S59 100 (7 : Int32).toNatClampNeg) (ltS (sN S59 (7 : Int32).toNatClampNeg) (fun S70 => gd (ix S70 (wn S59) 100 (0 : Int32)) (ltS (sI S70 (wn S59) (0 : Int32).toNatClampNeg a1) (fun S73 => gd (ix S73 (wn S59) 100 (1 : Int32)) (ltS (sI S73 (wn S59) (1 : Int32).toNatClampNeg a2) (fun S76 => gd (ix S76 (wn S59) 100 (2 : Int32)) (ltS (sI S76 (wn S59) (2 : Int32).toNatClampNeg a3) (fun S79 => gd (ix S79 (wn S59) 100 (3 : Int32)) (ltS (sI S79 (wn S59) (3 : Int32).toNatClampNeg (irm a4 (10 : Int32))) (fun S82 => gd (ix S82 (wn S59) 100 (4 : Int32)) (ltS (sI S82 (wn S59) (4 : Int32).toNatClampNeg (a4 / (10 : Int32))) (fun S85 => gd (ix S85 (wn S59) 100 (5 : Int32)) (ltS (sI S85 (wn S59) (5 : Int32).toNatClampNeg a5) (fun S88 => gd (ix S88 (wn S59) 100 (6 : Int32)) (ltS (sI S88 (wn S59) (6 : Int32).toNatClampNeg a6) (fun S91 => gd (ob S91 a0 11) (Option.bind (wO S91 a0 2) (fun q94 => gd (ob S91 q94 8) (bd2 (f_X8_add S91 q94 (wn S59)) (fun r99 S97 => gd (ob S97 a0 11) (bd2 (f_X11_told S97 a0 r99) (fun r103 S101 => some (r103, S101)))))))))))))))))))))))))))))))))))))))
set_option maxRecDepth 100000 in
set_option maxHeartbeats 4000000 in
theorem k_X11_lorry {S : Wd} {a0 : Nat} {a1 : Int32} {a2 : Int32} {a3 : Int32} {a4 : Int32} {a5 : Int32} {a6 : Int32} {r : Int32} {S' : Wd} (h : f_X11_lorry S a0 a1 a2 a3 a4 a5 a6 = some (r, S')) : Sp yX11_lorry cX11_lorry 10 (some .int) 5 121 2 207 [.ref a0, .int a1, .int a2, .int a3, .int a4, .int a5, .int a6] S (some (.int r)) S' := by
  unfold f_X11_lorry at h
  refine Sp.of (by decide +kernel) (Nat.le_of_ble_eq_true rfl) ?_
  intro b hC hin hR
  show G b 0 [(0, .ref a0), (1, .int a1), (2, .int a2), (3, .int a3), (4, .int a4), (5, .int a5), (6, .int a6)] [] S 0 0
  refine g_iload_n hC dX11_lorry_0 rfl ?_
  refine g_iconst (v := (0 : Int32)) hC dX11_lorry_1 (by decide) ?_
  refine g_iconst (v := (3 : Int32)) hC dX11_lorry_2 (by decide) ?_
  obtain ⟨r3, S2, hr1, h⟩ := bd2_some h
  refine g_callS (rest := []) hC mi_X11_within (k_X11_within hr1) tw_349 tw_350 dX11_lorry_3 rfl rfl ⟨by decide, by decide⟩ (Nat.le_of_ble_eq_true rfl) ⟨by decide, by decide⟩ ?_
  refine g_if_eq (tgt := 80) hC dX11_lorry_6 (by decide) (fun hc4 => ?_) (fun hc4 => ?_)
  · rw [if_pos hc4] at h
    refine g_iconst (v := (0 : Int32)) hC dX11_lorry_80 (by decide) ?_
    refine g_istore (L' := [(7, .int (0 : Int32)), (0, .ref a0), (1, .int a1), (2, .int a2), (3, .int a3), (4, .int a4), (5, .int a5), (6, .int a6)]) hC dX11_lorry_81 (by decide) rfl ?_
    refine g_iload hC dX11_lorry_83 rfl ?_
    refine g_if_ne (tgt := 95) hC dX11_lorry_85 (by decide) (fun hc5 => ?_) (fun hc5 => ?_)
    · rw [if_neg hc5] at h
      cases h
    · rw [if_pos hc5] at h
      refine g_aload_n hC dX11_lorry_88 rfl ?_
      refine g_ldc hC tw_352 dX11_lorry_89 ?_
      obtain ⟨ho8, h⟩ := gd_some h
      obtain ⟨r9, S7, hr6, h⟩ := bd2_some h
      refine g_callV (rest := []) hC mi_X11_told (k_X11_told hr6) ck_X11.1 (by decide) ho8 tw_353 tw_355 ts_0 dX11_lorry_91 rfl rfl ⟨by decide, by decide⟩ (Nat.le_of_ble_eq_true rfl) ⟨by decide, by decide⟩ ?_
      cases h
      exact g_iret hC hR dX11_lorry_94 (by decide) (by decide)
  · rw [if_neg hc4] at h
    refine g_iload_n hC dX11_lorry_9 rfl ?_
    obtain ⟨r12, S11, hr10, h⟩ := bd2_some h
    refine g_callS (rest := []) hC mi_X11_isTown (k_X11_isTown hr10) tw_346 tw_347 dX11_lorry_10 rfl rfl ⟨by decide, by decide⟩ (Nat.le_of_ble_eq_true rfl) ⟨by decide, by decide⟩ ?_
    refine g_if_eq (tgt := 80) hC dX11_lorry_13 (by decide) (fun hc13 => ?_) (fun hc13 => ?_)
    · rw [if_pos hc13] at h
      refine g_iconst (v := (0 : Int32)) hC dX11_lorry_80 (by decide) ?_
      refine g_istore (L' := [(7, .int (0 : Int32)), (0, .ref a0), (1, .int a1), (2, .int a2), (3, .int a3), (4, .int a4), (5, .int a5), (6, .int a6)]) hC dX11_lorry_81 (by decide) rfl ?_
      refine g_iload hC dX11_lorry_83 rfl ?_
      refine g_if_ne (tgt := 95) hC dX11_lorry_85 (by decide) (fun hc14 => ?_) (fun hc14 => ?_)
      · rw [if_neg hc14] at h
        cases h
      · rw [if_pos hc14] at h
        refine g_aload_n hC dX11_lorry_88 rfl ?_
        refine g_ldc hC tw_352 dX11_lorry_89 ?_
        obtain ⟨ho17, h⟩ := gd_some h
        obtain ⟨r18, S16, hr15, h⟩ := bd2_some h
        refine g_callV (rest := []) hC mi_X11_told (k_X11_told hr15) ck_X11.1 (by decide) ho17 tw_353 tw_355 ts_0 dX11_lorry_91 rfl rfl ⟨by decide, by decide⟩ (Nat.le_of_ble_eq_true rfl) ⟨by decide, by decide⟩ ?_
        cases h
        exact g_iret hC hR dX11_lorry_94 (by decide) (by decide)
    · rw [if_neg hc13] at h
      refine g_iload_n hC dX11_lorry_16 rfl ?_
      refine g_iconst (v := (0 : Int32)) hC dX11_lorry_17 (by decide) ?_
      refine g_sipush (v := (2000 : Int32)) hC dX11_lorry_18 (by decide) ?_
      obtain ⟨r21, S20, hr19, h⟩ := bd2_some h
      refine g_callS (rest := []) hC mi_X11_within (k_X11_within hr19) tw_349 tw_350 dX11_lorry_21 rfl rfl ⟨by decide, by decide⟩ (Nat.le_of_ble_eq_true rfl) ⟨by decide, by decide⟩ ?_
      refine g_if_eq (tgt := 80) hC dX11_lorry_24 (by decide) (fun hc22 => ?_) (fun hc22 => ?_)
      · rw [if_pos hc22] at h
        refine g_iconst (v := (0 : Int32)) hC dX11_lorry_80 (by decide) ?_
        refine g_istore (L' := [(7, .int (0 : Int32)), (0, .ref a0), (1, .int a1), (2, .int a2), (3, .int a3), (4, .int a4), (5, .int a5), (6, .int a6)]) hC dX11_lorry_81 (by decide) rfl ?_
        refine g_iload hC dX11_lorry_83 rfl ?_
        refine g_if_ne (tgt := 95) hC dX11_lorry_85 (by decide) (fun hc23 => ?_) (fun hc23 => ?_)
        · rw [if_neg hc23] at h
          cases h
        · rw [if_pos hc23] at h
          refine g_aload_n hC dX11_lorry_88 rfl ?_
          refine g_ldc hC tw_352 dX11_lorry_89 ?_
          obtain ⟨ho26, h⟩ := gd_some h
          obtain ⟨r27, S25, hr24, h⟩ := bd2_some h
          refine g_callV (rest := []) hC mi_X11_told (k_X11_told hr24) ck_X11.1 (by decide) ho26 tw_353 tw_355 ts_0 dX11_lorry_91 rfl rfl ⟨by decide, by decide⟩ (Nat.le_of_ble_eq_true rfl) ⟨by decide, by decide⟩ ?_
          cases h
          exact g_iret hC hR dX11_lorry_94 (by decide) (by decide)
      · rw [if_neg hc22] at h
        refine g_iload hC dX11_lorry_27 rfl ?_
        refine g_if_lt (tgt := 80) hC dX11_lorry_29 (by decide) (fun hc28 => ?_) (fun hc28 => ?_)
        · rw [if_pos hc28] at h
          refine g_iconst (v := (0 : Int32)) hC dX11_lorry_80 (by decide) ?_
          refine g_istore (L' := [(7, .int (0 : Int32)), (0, .ref a0), (1, .int a1), (2, .int a2), (3, .int a3), (4, .int a4), (5, .int a5), (6, .int a6)]) hC dX11_lorry_81 (by decide) rfl ?_
          refine g_iload hC dX11_lorry_83 rfl ?_
          refine g_if_ne (tgt := 95) hC dX11_lorry_85 (by decide) (fun hc29 => ?_) (fun hc29 => ?_)
          · rw [if_neg hc29] at h
            cases h
          · rw [if_pos hc29] at h
            refine g_aload_n hC dX11_lorry_88 rfl ?_
            refine g_ldc hC tw_352 dX11_lorry_89 ?_
            obtain ⟨ho32, h⟩ := gd_some h
            obtain ⟨r33, S31, hr30, h⟩ := bd2_some h
            refine g_callV (rest := []) hC mi_X11_told (k_X11_told hr30) ck_X11.1 (by decide) ho32 tw_353 tw_355 ts_0 dX11_lorry_91 rfl rfl ⟨by decide, by decide⟩ (Nat.le_of_ble_eq_true rfl) ⟨by decide, by decide⟩ ?_
            cases h
            exact g_iret hC hR dX11_lorry_94 (by decide) (by decide)
        · rw [if_neg hc28] at h
          refine g_iload hC dX11_lorry_32 rfl ?_
          refine g_bipush (v := (10 : Int32)) hC dX11_lorry_34 (by decide) ?_
          refine g_idiv hC dX11_lorry_36 (by decide) ?_
          refine g_sipush (v := (4000 : Int32)) hC dX11_lorry_37 (by decide) ?_
          refine g_icmp_gt (tgt := 80) hC dX11_lorry_40 (by decide) (fun hc34 => ?_) (fun hc34 => ?_)
          · rw [if_pos hc34] at h
            refine g_iconst (v := (0 : Int32)) hC dX11_lorry_80 (by decide) ?_
            refine g_istore (L' := [(7, .int (0 : Int32)), (0, .ref a0), (1, .int a1), (2, .int a2), (3, .int a3), (4, .int a4), (5, .int a5), (6, .int a6)]) hC dX11_lorry_81 (by decide) rfl ?_
            refine g_iload hC dX11_lorry_83 rfl ?_
            refine g_if_ne (tgt := 95) hC dX11_lorry_85 (by decide) (fun hc35 => ?_) (fun hc35 => ?_)
            · rw [if_neg hc35] at h
              cases h
            · rw [if_pos hc35] at h
              refine g_aload_n hC dX11_lorry_88 rfl ?_
              refine g_ldc hC tw_352 dX11_lorry_89 ?_
              obtain ⟨ho38, h⟩ := gd_some h
              obtain ⟨r39, S37, hr36, h⟩ := bd2_some h
              refine g_callV (rest := []) hC mi_X11_told (k_X11_told hr36) ck_X11.1 (by decide) ho38 tw_353 tw_355 ts_0 dX11_lorry_91 rfl rfl ⟨by decide, by decide⟩ (Nat.le_of_ble_eq_true rfl) ⟨by decide, by decide⟩ ?_
              cases h
              exact g_iret hC hR dX11_lorry_94 (by decide) (by decide)
          · rw [if_neg hc34] at h
            refine g_iload hC dX11_lorry_43 rfl ?_
            refine g_bipush (v := (10 : Int32)) hC dX11_lorry_45 (by decide) ?_
            refine g_irm hC dX11_lorry_47 (by decide) ?_
            obtain ⟨r42, S41, hr40, h⟩ := bd2_some h
            refine g_callS (rest := []) hC mi_X11_isTown (k_X11_isTown hr40) tw_346 tw_347 dX11_lorry_48 rfl rfl ⟨by decide, by decide⟩ (Nat.le_of_ble_eq_true rfl) ⟨by decide, by decide⟩ ?_
            refine g_if_eq (tgt := 80) hC dX11_lorry_51 (by decide) (fun hc43 => ?_) (fun hc43 => ?_)
            · rw [if_pos hc43] at h
              refine g_iconst (v := (0 : Int32)) hC dX11_lorry_80 (by decide) ?_
              refine g_istore (L' := [(7, .int (0 : Int32)), (0, .ref a0), (1, .int a1), (2, .int a2), (3, .int a3), (4, .int a4), (5, .int a5), (6, .int a6)]) hC dX11_lorry_81 (by decide) rfl ?_
              refine g_iload hC dX11_lorry_83 rfl ?_
              refine g_if_ne (tgt := 95) hC dX11_lorry_85 (by decide) (fun hc44 => ?_) (fun hc44 => ?_)
              · rw [if_neg hc44] at h
                cases h
              · rw [if_pos hc44] at h
                refine g_aload_n hC dX11_lorry_88 rfl ?_
                refine g_ldc hC tw_352 dX11_lorry_89 ?_
                obtain ⟨ho47, h⟩ := gd_some h
                obtain ⟨r48, S46, hr45, h⟩ := bd2_some h
                refine g_callV (rest := []) hC mi_X11_told (k_X11_told hr45) ck_X11.1 (by decide) ho47 tw_353 tw_355 ts_0 dX11_lorry_91 rfl rfl ⟨by decide, by decide⟩ (Nat.le_of_ble_eq_true rfl) ⟨by decide, by decide⟩ ?_
                cases h
                exact g_iret hC hR dX11_lorry_94 (by decide) (by decide)
            · rw [if_neg hc43] at h
              refine g_iload hC dX11_lorry_54 rfl ?_
              refine g_iconst (v := (1 : Int32)) hC dX11_lorry_56 (by decide) ?_
              refine g_bipush (v := (40 : Int32)) hC dX11_lorry_57 (by decide) ?_
              obtain ⟨r51, S50, hr49, h⟩ := bd2_some h
              refine g_callS (rest := []) hC mi_X11_within (k_X11_within hr49) tw_349 tw_350 dX11_lorry_59 rfl rfl ⟨by decide, by decide⟩ (Nat.le_of_ble_eq_true rfl) ⟨by decide, by decide⟩ ?_
              refine g_if_eq (tgt := 80) hC dX11_lorry_62 (by decide) (fun hc52 => ?_) (fun hc52 => ?_)
              · rw [if_pos hc52] at h
                refine g_iconst (v := (0 : Int32)) hC dX11_lorry_80 (by decide) ?_
                refine g_istore (L' := [(7, .int (0 : Int32)), (0, .ref a0), (1, .int a1), (2, .int a2), (3, .int a3), (4, .int a4), (5, .int a5), (6, .int a6)]) hC dX11_lorry_81 (by decide) rfl ?_
                refine g_iload hC dX11_lorry_83 rfl ?_
                refine g_if_ne (tgt := 95) hC dX11_lorry_85 (by decide) (fun hc53 => ?_) (fun hc53 => ?_)
                · rw [if_neg hc53] at h
                  cases h
                · rw [if_pos hc53] at h
                  refine g_aload_n hC dX11_lorry_88 rfl ?_
                  refine g_ldc hC tw_352 dX11_lorry_89 ?_
                  obtain ⟨ho56, h⟩ := gd_some h
                  obtain ⟨r57, S55, hr54, h⟩ := bd2_some h
                  refine g_callV (rest := []) hC mi_X11_told (k_X11_told hr54) ck_X11.1 (by decide) ho56 tw_353 tw_355 ts_0 dX11_lorry_91 rfl rfl ⟨by decide, by decide⟩ (Nat.le_of_ble_eq_true rfl) ⟨by decide, by decide⟩ ?_
                  cases h
                  exact g_iret hC hR dX11_lorry_94 (by decide) (by decide)
              · rw [if_neg hc52] at h
                refine g_iload hC dX11_lorry_65 rfl ?_
                refine g_iconst (v := (1 : Int32)) hC dX11_lorry_67 (by decide) ?_
                refine g_bipush (v := (40 : Int32)) hC dX11_lorry_68 (by decide) ?_
                obtain ⟨r60, S59, hr58, h⟩ := bd2_some h
                refine g_callS (rest := []) hC mi_X11_within (k_X11_within hr58) tw_349 tw_350 dX11_lorry_70 rfl rfl ⟨by decide, by decide⟩ (Nat.le_of_ble_eq_true rfl) ⟨by decide, by decide⟩ ?_
                refine g_if_eq (tgt := 80) hC dX11_lorry_73 (by decide) (fun hc61 => ?_) (fun hc61 => ?_)
                · rw [if_pos hc61] at h
                  refine g_iconst (v := (0 : Int32)) hC dX11_lorry_80 (by decide) ?_
                  refine g_istore (L' := [(7, .int (0 : Int32)), (0, .ref a0), (1, .int a1), (2, .int a2), (3, .int a3), (4, .int a4), (5, .int a5), (6, .int a6)]) hC dX11_lorry_81 (by decide) rfl ?_
                  refine g_iload hC dX11_lorry_83 rfl ?_
                  refine g_if_ne (tgt := 95) hC dX11_lorry_85 (by decide) (fun hc62 => ?_) (fun hc62 => ?_)
                  · rw [if_neg hc62] at h
                    cases h
                  · rw [if_pos hc62] at h
                    refine g_aload_n hC dX11_lorry_88 rfl ?_
                    refine g_ldc hC tw_352 dX11_lorry_89 ?_
                    obtain ⟨ho65, h⟩ := gd_some h
                    obtain ⟨r66, S64, hr63, h⟩ := bd2_some h
                    refine g_callV (rest := []) hC mi_X11_told (k_X11_told hr63) ck_X11.1 (by decide) ho65 tw_353 tw_355 ts_0 dX11_lorry_91 rfl rfl ⟨by decide, by decide⟩ (Nat.le_of_ble_eq_true rfl) ⟨by decide, by decide⟩ ?_
                    cases h
                    exact g_iret hC hR dX11_lorry_94 (by decide) (by decide)
                · rw [if_neg hc61] at h
                  refine g_iconst (v := (1 : Int32)) hC dX11_lorry_76 (by decide) ?_
                  refine g_goto (tgt := 81) hC dX11_lorry_77 (by decide) ?_
                  refine g_istore (L' := [(7, .int (1 : Int32)), (0, .ref a0), (1, .int a1), (2, .int a2), (3, .int a3), (4, .int a4), (5, .int a5), (6, .int a6)]) hC dX11_lorry_81 (by decide) rfl ?_
                  refine g_iload hC dX11_lorry_83 rfl ?_
                  refine g_if_ne (tgt := 95) hC dX11_lorry_85 (by decide) (fun hc67 => ?_) (fun hc67 => ?_)
                  · rw [if_neg hc67] at h
                    refine g_iload_n hC dX11_lorry_95 rfl ?_
                    refine g_iconst (v := (2 : Int32)) hC dX11_lorry_96 (by decide) ?_
                    refine g_icmp_ne (tgt := 107) hC dX11_lorry_97 (by decide) (fun hc68 => ?_) (fun hc68 => ?_)
                    · rw [if_neg hc68] at h
                      refine g_iload hC dX11_lorry_107 rfl ?_
                      refine g_istore (L' := [(8, .int a5), (7, .int (1 : Int32)), (0, .ref a0), (1, .int a1), (2, .int a2), (3, .int a3), (4, .int a4), (5, .int a5), (6, .int a6)]) hC dX11_lorry_109 (by decide) rfl ?_
                      refine g_bipush (v := (7 : Int32)) hC dX11_lorry_111 (by decide) ?_
                      obtain ⟨hk69, h⟩ := gd_some h
                      refine g_newi hC tw_53 dX11_lorry_113 (by decide) (by decide) hk69.1 hk69.2 (by decide) (by decide) ?_
                      refine g_name (fun S70 eS71 => ?_)
                      have h := ltS_use eS71 h
                      refine g_dup hC dX11_lorry_115 rfl ?_
                      refine g_iconst (v := (0 : Int32)) hC dX11_lorry_116 (by decide) ?_
                      refine g_iload_n hC dX11_lorry_117 rfl ?_
                      obtain ⟨hx72, h⟩ := gd_some h
                      refine g_iast hC dX11_lorry_118 hx72.1 hx72.2 ?_
                      refine g_name (fun S73 eS74 => ?_)
                      have h := ltS_use eS74 h
                      refine g_dup hC dX11_lorry_119 rfl ?_
                      refine g_iconst (v := (1 : Int32)) hC dX11_lorry_120 (by decide) ?_
                      refine g_iload_n hC dX11_lorry_121 rfl ?_
                      obtain ⟨hx75, h⟩ := gd_some h
                      refine g_iast hC dX11_lorry_122 hx75.1 hx75.2 ?_
                      refine g_name (fun S76 eS77 => ?_)
                      have h := ltS_use eS77 h
                      refine g_dup hC dX11_lorry_123 rfl ?_
                      refine g_iconst (v := (2 : Int32)) hC dX11_lorry_124 (by decide) ?_
                      refine g_iload_n hC dX11_lorry_125 rfl ?_
                      obtain ⟨hx78, h⟩ := gd_some h
                      refine g_iast hC dX11_lorry_126 hx78.1 hx78.2 ?_
                      refine g_name (fun S79 eS80 => ?_)
                      have h := ltS_use eS80 h
                      refine g_dup hC dX11_lorry_127 rfl ?_
                      refine g_iconst (v := (3 : Int32)) hC dX11_lorry_128 (by decide) ?_
                      refine g_iload hC dX11_lorry_129 rfl ?_
                      refine g_bipush (v := (10 : Int32)) hC dX11_lorry_131 (by decide) ?_
                      refine g_irm hC dX11_lorry_133 (by decide) ?_
                      obtain ⟨hx81, h⟩ := gd_some h
                      refine g_iast hC dX11_lorry_134 hx81.1 hx81.2 ?_
                      refine g_name (fun S82 eS83 => ?_)
                      have h := ltS_use eS83 h
                      refine g_dup hC dX11_lorry_135 rfl ?_
                      refine g_iconst (v := (4 : Int32)) hC dX11_lorry_136 (by decide) ?_
                      refine g_iload hC dX11_lorry_137 rfl ?_
                      refine g_bipush (v := (10 : Int32)) hC dX11_lorry_139 (by decide) ?_
                      refine g_idiv hC dX11_lorry_141 (by decide) ?_
                      obtain ⟨hx84, h⟩ := gd_some h
                      refine g_iast hC dX11_lorry_142 hx84.1 hx84.2 ?_
                      refine g_name (fun S85 eS86 => ?_)
                      have h := ltS_use eS86 h
                      refine g_dup hC dX11_lorry_143 rfl ?_
                      refine g_iconst (v := (5 : Int32)) hC dX11_lorry_144 (by decide) ?_
                      refine g_iload hC dX11_lorry_145 rfl ?_
                      obtain ⟨hx87, h⟩ := gd_some h
                      refine g_iast hC dX11_lorry_147 hx87.1 hx87.2 ?_
                      refine g_name (fun S88 eS89 => ?_)
                      have h := ltS_use eS89 h
                      refine g_dup hC dX11_lorry_148 rfl ?_
                      refine g_bipush (v := (6 : Int32)) hC dX11_lorry_149 (by decide) ?_
                      refine g_iload hC dX11_lorry_151 rfl ?_
                      obtain ⟨hx90, h⟩ := gd_some h
                      refine g_iast hC dX11_lorry_153 hx90.1 hx90.2 ?_
                      refine g_name (fun S91 eS92 => ?_)
                      have h := ltS_use eS92 h
                      refine g_astore (L' := [(9, .ref (wn S59)), (8, .int a5), (7, .int (1 : Int32)), (0, .ref a0), (1, .int a1), (2, .int a2), (3, .int a3), (4, .int a4), (5, .int a5), (6, .int a6)]) hC dX11_lorry_154 (by decide) rfl ?_
                      refine g_aload_n hC dX11_lorry_156 rfl ?_
                      refine g_aload_n hC dX11_lorry_157 rfl ?_
                      obtain ⟨ho93, h⟩ := gd_some h
                      obtain ⟨q94, hq95, h⟩ := Option.bind_eq_some_iff.mp h
                      refine g_getr (k := 2) (q := q94) hC ck_X11 (by decide) tw_304 rfl (by decide) dX11_lorry_158 ho93 hq95 ?_
                      refine g_aload hC dX11_lorry_161 rfl ?_
                      obtain ⟨ho98, h⟩ := gd_some h
                      obtain ⟨r99, S97, hr96, h⟩ := bd2_some h
                      refine g_callV (rest := [.ref a0]) hC mi_X8_add (k_X8_add hr96) ck_X8.1 (by decide) ho98 tw_419 tw_420 tw_421 dX11_lorry_163 rfl rfl ⟨by decide, by decide⟩ (Nat.le_of_ble_eq_true rfl) ⟨by decide, by decide⟩ ?_
                      obtain ⟨ho102, h⟩ := gd_some h
                      obtain ⟨r103, S101, hr100, h⟩ := bd2_some h
                      refine g_callV (rest := []) hC mi_X11_told (k_X11_told hr100) ck_X11.1 (by decide) ho102 tw_353 tw_355 ts_0 dX11_lorry_166 rfl rfl ⟨by decide, by decide⟩ (Nat.le_of_ble_eq_true rfl) ⟨by decide, by decide⟩ ?_
                      cases h
                      exact g_iret hC hR dX11_lorry_169 (by decide) (by decide)
                    · rw [if_pos hc68] at h
                      refine g_iload hC dX11_lorry_100 rfl ?_
                      refine g_iconst (v := (2 : Int32)) hC dX11_lorry_102 (by decide) ?_
                      refine g_idiv hC dX11_lorry_103 (by decide) ?_
                      refine g_goto (tgt := 109) hC dX11_lorry_104 (by decide) ?_
                      refine g_istore (L' := [(8, .int (a5 / (2 : Int32))), (7, .int (1 : Int32)), (0, .ref a0), (1, .int a1), (2, .int a2), (3, .int a3), (4, .int a4), (5, .int a5), (6, .int a6)]) hC dX11_lorry_109 (by decide) rfl ?_
                      refine g_bipush (v := (7 : Int32)) hC dX11_lorry_111 (by decide) ?_
                      obtain ⟨hk104, h⟩ := gd_some h
                      refine g_newi hC tw_53 dX11_lorry_113 (by decide) (by decide) hk104.1 hk104.2 (by decide) (by decide) ?_
                      refine g_name (fun S105 eS106 => ?_)
                      have h := ltS_use eS106 h
                      refine g_dup hC dX11_lorry_115 rfl ?_
                      refine g_iconst (v := (0 : Int32)) hC dX11_lorry_116 (by decide) ?_
                      refine g_iload_n hC dX11_lorry_117 rfl ?_
                      obtain ⟨hx107, h⟩ := gd_some h
                      refine g_iast hC dX11_lorry_118 hx107.1 hx107.2 ?_
                      refine g_name (fun S108 eS109 => ?_)
                      have h := ltS_use eS109 h
                      refine g_dup hC dX11_lorry_119 rfl ?_
                      refine g_iconst (v := (1 : Int32)) hC dX11_lorry_120 (by decide) ?_
                      refine g_iload_n hC dX11_lorry_121 rfl ?_
                      obtain ⟨hx110, h⟩ := gd_some h
                      refine g_iast hC dX11_lorry_122 hx110.1 hx110.2 ?_
                      refine g_name (fun S111 eS112 => ?_)
                      have h := ltS_use eS112 h
                      refine g_dup hC dX11_lorry_123 rfl ?_
                      refine g_iconst (v := (2 : Int32)) hC dX11_lorry_124 (by decide) ?_
                      refine g_iload_n hC dX11_lorry_125 rfl ?_
                      obtain ⟨hx113, h⟩ := gd_some h
                      refine g_iast hC dX11_lorry_126 hx113.1 hx113.2 ?_
                      refine g_name (fun S114 eS115 => ?_)
                      have h := ltS_use eS115 h
                      refine g_dup hC dX11_lorry_127 rfl ?_
                      refine g_iconst (v := (3 : Int32)) hC dX11_lorry_128 (by decide) ?_
                      refine g_iload hC dX11_lorry_129 rfl ?_
                      refine g_bipush (v := (10 : Int32)) hC dX11_lorry_131 (by decide) ?_
                      refine g_irm hC dX11_lorry_133 (by decide) ?_
                      obtain ⟨hx116, h⟩ := gd_some h
                      refine g_iast hC dX11_lorry_134 hx116.1 hx116.2 ?_
                      refine g_name (fun S117 eS118 => ?_)
                      have h := ltS_use eS118 h
                      refine g_dup hC dX11_lorry_135 rfl ?_
                      refine g_iconst (v := (4 : Int32)) hC dX11_lorry_136 (by decide) ?_
                      refine g_iload hC dX11_lorry_137 rfl ?_
                      refine g_bipush (v := (10 : Int32)) hC dX11_lorry_139 (by decide) ?_
                      refine g_idiv hC dX11_lorry_141 (by decide) ?_
                      obtain ⟨hx119, h⟩ := gd_some h
                      refine g_iast hC dX11_lorry_142 hx119.1 hx119.2 ?_
                      refine g_name (fun S120 eS121 => ?_)
                      have h := ltS_use eS121 h
                      refine g_dup hC dX11_lorry_143 rfl ?_
                      refine g_iconst (v := (5 : Int32)) hC dX11_lorry_144 (by decide) ?_
                      refine g_iload hC dX11_lorry_145 rfl ?_
                      obtain ⟨hx122, h⟩ := gd_some h
                      refine g_iast hC dX11_lorry_147 hx122.1 hx122.2 ?_
                      refine g_name (fun S123 eS124 => ?_)
                      have h := ltS_use eS124 h
                      refine g_dup hC dX11_lorry_148 rfl ?_
                      refine g_bipush (v := (6 : Int32)) hC dX11_lorry_149 (by decide) ?_
                      refine g_iload hC dX11_lorry_151 rfl ?_
                      obtain ⟨hx125, h⟩ := gd_some h
                      refine g_iast hC dX11_lorry_153 hx125.1 hx125.2 ?_
                      refine g_name (fun S126 eS127 => ?_)
                      have h := ltS_use eS127 h
                      refine g_astore (L' := [(9, .ref (wn S59)), (8, .int (a5 / (2 : Int32))), (7, .int (1 : Int32)), (0, .ref a0), (1, .int a1), (2, .int a2), (3, .int a3), (4, .int a4), (5, .int a5), (6, .int a6)]) hC dX11_lorry_154 (by decide) rfl ?_
                      refine g_aload_n hC dX11_lorry_156 rfl ?_
                      refine g_aload_n hC dX11_lorry_157 rfl ?_
                      obtain ⟨ho128, h⟩ := gd_some h
                      obtain ⟨q129, hq130, h⟩ := Option.bind_eq_some_iff.mp h
                      refine g_getr (k := 2) (q := q129) hC ck_X11 (by decide) tw_304 rfl (by decide) dX11_lorry_158 ho128 hq130 ?_
                      refine g_aload hC dX11_lorry_161 rfl ?_
                      obtain ⟨ho133, h⟩ := gd_some h
                      obtain ⟨r134, S132, hr131, h⟩ := bd2_some h
                      refine g_callV (rest := [.ref a0]) hC mi_X8_add (k_X8_add hr131) ck_X8.1 (by decide) ho133 tw_419 tw_420 tw_421 dX11_lorry_163 rfl rfl ⟨by decide, by decide⟩ (Nat.le_of_ble_eq_true rfl) ⟨by decide, by decide⟩ ?_
                      obtain ⟨ho137, h⟩ := gd_some h
                      obtain ⟨r138, S136, hr135, h⟩ := bd2_some h
                      refine g_callV (rest := []) hC mi_X11_told (k_X11_told hr135) ck_X11.1 (by decide) ho137 tw_353 tw_355 ts_0 dX11_lorry_166 rfl rfl ⟨by decide, by decide⟩ (Nat.le_of_ble_eq_true rfl) ⟨by decide, by decide⟩ ?_
                      cases h
                      exact g_iret hC hR dX11_lorry_169 (by decide) (by decide)
                  · rw [if_pos hc67] at h
                    cases h

theorem mi_X8_has : MI yX8_has cX8_has 2 (some .boolean) 1 := ⟨tw_433, tw_4, by decide +kernel, by decide +kernel, by decide +kernel⟩
noncomputable def f_X8_has (S : Wd) (a0 : Nat) (a1 : Int32) : Option (Int32 × Wd) := if a1 < 0 then (some ((0 : Int32), S)) else (gd (ob S a0 8) (Option.bind (wO S a0 3) (fun q3 => gd (ix S q3 100 (0 : Int32)) (if (wI S q3 (0 : Int32).toNatClampNeg) ≤ a1 then (some ((0 : Int32), S)) else (some ((1 : Int32), S))))))
set_option maxRecDepth 100000 in
set_option maxHeartbeats 4000000 in
theorem k_X8_has {S : Wd} {a0 : Nat} {a1 : Int32} {r : Int32} {S' : Wd} (h : f_X8_has S a0 a1 = some (r, S')) : Sp yX8_has cX8_has 2 (some .boolean) 0 0 0 0 [.ref a0, .int a1] S (some (.int r)) S' := by
  unfold f_X8_has at h
  refine Sp.of (by decide +kernel) (Nat.le_of_ble_eq_true rfl) ?_
  intro b hC hin hR
  show G b 0 [(0, .ref a0), (1, .int a1)] [] S 0 0
  refine g_iload_n hC dX8_has_0 rfl ?_
  refine g_if_lt (tgt := 18) hC dX8_has_1 (by decide) (fun hc1 => ?_) (fun hc1 => ?_)
  · rw [if_pos hc1] at h
    refine g_iconst (v := (0 : Int32)) hC dX8_has_18 (by decide) ?_
    cases h
    exact g_zret hC hR rfl dX8_has_19 (by decide) (by decide)
  · rw [if_neg hc1] at h
    refine g_iload_n hC dX8_has_4 rfl ?_
    refine g_aload_n hC dX8_has_5 rfl ?_
    obtain ⟨ho2, h⟩ := gd_some h
    obtain ⟨q3, hq4, h⟩ := Option.bind_eq_some_iff.mp h
    refine g_getr (k := 3) (q := q3) hC ck_X8 (by decide) tw_85 rfl (by decide) dX8_has_6 ho2 hq4 ?_
    refine g_iconst (v := (0 : Int32)) hC dX8_has_9 (by decide) ?_
    obtain ⟨hx5, h⟩ := gd_some h
    refine g_iald hC dX8_has_10 hx5.1 hx5.2 ?_
    refine g_icmp_ge (tgt := 18) hC dX8_has_11 (by decide) (fun hc6 => ?_) (fun hc6 => ?_)
    · rw [if_pos hc6] at h
      refine g_iconst (v := (0 : Int32)) hC dX8_has_18 (by decide) ?_
      cases h
      exact g_zret hC hR rfl dX8_has_19 (by decide) (by decide)
    · rw [if_neg hc6] at h
      refine g_iconst (v := (1 : Int32)) hC dX8_has_14 (by decide) ?_
      refine g_goto (tgt := 19) hC dX8_has_15 (by decide) ?_
      cases h
      exact g_zret hC hR rfl dX8_has_19 (by decide) (by decide)

theorem mi_X8_isCell : MI yX8_isCell cX8_isCell 3 (some .boolean) 2 := ⟨tw_441, tw_4, by decide +kernel, by decide +kernel, by decide +kernel⟩
noncomputable def f_X8_isCell (S : Wd) (a0 : Nat) (a1 : Int32) (a2 : Int32) : Option (Int32 × Wd) := if a1 < 0 then (some ((0 : Int32), S)) else (gd (ob S a0 8) (Option.bind (wO S a0 3) (fun q3 => gd (ix S q3 100 (0 : Int32)) (if (wI S q3 (0 : Int32).toNatClampNeg) ≤ a1 then (some ((0 : Int32), S)) else (if a2 < 0 then (some ((0 : Int32), S)) else (gd (ob S a0 8) (if (wI S a0 1) ≤ a2 then (some ((0 : Int32), S)) else (some ((1 : Int32), S)))))))))
set_option maxRecDepth 100000 in
set_option maxHeartbeats 4000000 in
theorem k_X8_isCell {S : Wd} {a0 : Nat} {a1 : Int32} {a2 : Int32} {r : Int32} {S' : Wd} (h : f_X8_isCell S a0 a1 a2 = some (r, S')) : Sp yX8_isCell cX8_isCell 3 (some .boolean) 0 0 0 0 [.ref a0, .int a1, .int a2] S (some (.int r)) S' := by
  unfold f_X8_isCell at h
  refine Sp.of (by decide +kernel) (Nat.le_of_ble_eq_true rfl) ?_
  intro b hC hin hR
  show G b 0 [(0, .ref a0), (1, .int a1), (2, .int a2)] [] S 0 0
  refine g_iload_n hC dX8_isCell_0 rfl ?_
  refine g_if_lt (tgt := 30) hC dX8_isCell_1 (by decide) (fun hc1 => ?_) (fun hc1 => ?_)
  · rw [if_pos hc1] at h
    refine g_iconst (v := (0 : Int32)) hC dX8_isCell_30 (by decide) ?_
    cases h
    exact g_zret hC hR rfl dX8_isCell_31 (by decide) (by decide)
  · rw [if_neg hc1] at h
    refine g_iload_n hC dX8_isCell_4 rfl ?_
    refine g_aload_n hC dX8_isCell_5 rfl ?_
    obtain ⟨ho2, h⟩ := gd_some h
    obtain ⟨q3, hq4, h⟩ := Option.bind_eq_some_iff.mp h
    refine g_getr (k := 3) (q := q3) hC ck_X8 (by decide) tw_85 rfl (by decide) dX8_isCell_6 ho2 hq4 ?_
    refine g_iconst (v := (0 : Int32)) hC dX8_isCell_9 (by decide) ?_
    obtain ⟨hx5, h⟩ := gd_some h
    refine g_iald hC dX8_isCell_10 hx5.1 hx5.2 ?_
    refine g_icmp_ge (tgt := 30) hC dX8_isCell_11 (by decide) (fun hc6 => ?_) (fun hc6 => ?_)
    · rw [if_pos hc6] at h
      refine g_iconst (v := (0 : Int32)) hC dX8_isCell_30 (by decide) ?_
      cases h
      exact g_zret hC hR rfl dX8_isCell_31 (by decide) (by decide)
    · rw [if_neg hc6] at h
      refine g_iload_n hC dX8_isCell_14 rfl ?_
      refine g_if_lt (tgt := 30) hC dX8_isCell_15 (by decide) (fun hc7 => ?_) (fun hc7 => ?_)
      · rw [if_pos hc7] at h
        refine g_iconst (v := (0 : Int32)) hC dX8_isCell_30 (by decide) ?_
        cases h
        exact g_zret hC hR rfl dX8_isCell_31 (by decide) (by decide)
      · rw [if_neg hc7] at h
        refine g_iload_n hC dX8_isCell_18 rfl ?_
        refine g_aload_n hC dX8_isCell_19 rfl ?_
        obtain ⟨ho8, h⟩ := gd_some h
        refine g_geti (k := 1) hC ck_X8 (by decide) tw_83 rfl (by decide) dX8_isCell_20 ho8 ?_
        refine g_icmp_ge (tgt := 30) hC dX8_isCell_23 (by decide) (fun hc9 => ?_) (fun hc9 => ?_)
        · rw [if_pos hc9] at h
          refine g_iconst (v := (0 : Int32)) hC dX8_isCell_30 (by decide) ?_
          cases h
          exact g_zret hC hR rfl dX8_isCell_31 (by decide) (by decide)
        · rw [if_neg hc9] at h
          refine g_iconst (v := (1 : Int32)) hC dX8_isCell_26 (by decide) ?_
          refine g_goto (tgt := 31) hC dX8_isCell_27 (by decide) ?_
          cases h
          exact g_zret hC hR rfl dX8_isCell_31 (by decide) (by decide)

theorem mi_X8_at : MI yX8_at cX8_at 3 (some .int) 2 := ⟨tw_437, tw_4, by decide +kernel, by decide +kernel, by decide +kernel⟩
noncomputable def f_X8_at (S : Wd) (a0 : Nat) (a1 : Int32) (a2 : Int32) : Option (Int32 × Wd) := gd (ob S a0 8) (bd2 (f_X8_isCell S a0 a1 a2) (fun r4 S2 => if r4 = 0 then (some ((0 : Int32), S2)) else (gd (ob S2 a0 8) (Option.bind (wO S2 a0 3) (fun q7 => gd (ob S2 a0 8) (gd (ix S2 q7 100 (((1 : Int32) + (a1 * (wI S2 a0 1))) + a2)) (some ((wI S2 q7 (((1 : Int32) + (a1 * (wI S2 a0 1))) + a2).toNatClampNeg), S2))))))))
set_option maxRecDepth 100000 in
set_option maxHeartbeats 4000000 in
theorem k_X8_at {S : Wd} {a0 : Nat} {a1 : Int32} {a2 : Int32} {r : Int32} {S' : Wd} (h : f_X8_at S a0 a1 a2 = some (r, S')) : Sp yX8_at cX8_at 3 (some .int) 1 22 0 0 [.ref a0, .int a1, .int a2] S (some (.int r)) S' := by
  unfold f_X8_at at h
  refine Sp.of (by decide +kernel) (Nat.le_of_ble_eq_true rfl) ?_
  intro b hC hin hR
  show G b 0 [(0, .ref a0), (1, .int a1), (2, .int a2)] [] S 0 0
  refine g_aload_n hC dX8_at_0 rfl ?_
  refine g_iload_n hC dX8_at_1 rfl ?_
  refine g_iload_n hC dX8_at_2 rfl ?_
  obtain ⟨ho3, h⟩ := gd_some h
  obtain ⟨r4, S2, hr1, h⟩ := bd2_some h
  refine g_callV (rest := []) hC mi_X8_isCell (k_X8_isCell hr1) ck_X8.1 (by decide) ho3 tw_438 tw_440 ts_2 dX8_at_3 rfl rfl ⟨by decide, by decide⟩ (Nat.le_of_ble_eq_true rfl) ⟨by decide, by decide⟩ ?_
  refine g_if_eq (tgt := 27) hC dX8_at_6 (by decide) (fun hc5 => ?_) (fun hc5 => ?_)
  · rw [if_pos hc5] at h
    refine g_iconst (v := (0 : Int32)) hC dX8_at_27 (by decide) ?_
    cases h
    exact g_iret hC hR dX8_at_28 (by decide) (by decide)
  · rw [if_neg hc5] at h
    refine g_aload_n hC dX8_at_9 rfl ?_
    obtain ⟨ho6, h⟩ := gd_some h
    obtain ⟨q7, hq8, h⟩ := Option.bind_eq_some_iff.mp h
    refine g_getr (k := 3) (q := q7) hC ck_X8 (by decide) tw_85 rfl (by decide) dX8_at_10 ho6 hq8 ?_
    refine g_iconst (v := (1 : Int32)) hC dX8_at_13 (by decide) ?_
    refine g_iload_n hC dX8_at_14 rfl ?_
    refine g_aload_n hC dX8_at_15 rfl ?_
    obtain ⟨ho9, h⟩ := gd_some h
    refine g_geti (k := 1) hC ck_X8 (by decide) tw_83 rfl (by decide) dX8_at_16 ho9 ?_
    refine g_imul hC dX8_at_19 ?_
    refine g_iadd hC dX8_at_20 ?_
    refine g_iload_n hC dX8_at_21 rfl ?_
    refine g_iadd hC dX8_at_22 ?_
    obtain ⟨hx10, h⟩ := gd_some h
    refine g_iald hC dX8_at_23 hx10.1 hx10.2 ?_
    refine g_goto (tgt := 28) hC dX8_at_24 (by decide) ?_
    cases h
    exact g_iret hC hR dX8_at_28 (by decide) (by decide)

theorem mi_X11_as : MI yX11_as cX11_as 4 (some .int) 2 := ⟨tw_429, tw_1, by decide +kernel, by decide +kernel, by decide +kernel⟩
noncomputable def f_X11_as (S : Wd) (a0 : Nat) (a1 : Int32) (a2 : Int32) : Option (Int32 × Wd) := gd (ob S a0 11) (Option.bind (wO S a0 2) (fun q2 => gd (ob S q2 8) (bd2 (f_X8_has S q2 a1) (fun r7 S5 => if r7 = 0 then (gd (ob S5 a0 11) (bd2 (f_X11_told S5 a0 (-100001 : Int32)) (fun r12 S10 => some (r12, S10)))) else (bd2 (f_X11_within S5 a2 (0 : Int32) (3 : Int32)) (fun r15 S14 => if r15 = 0 then (gd (ob S14 a0 11) (bd2 (f_X11_told S14 a0 (-100001 : Int32)) (fun r44 S42 => some (r44, S42)))) else (if a2 = 0 then (if (1 : Int32) = 0 then (none) else (gd (ob S14 a0 11) (bd2 (f_X11_told S14 a0 a1) (fun r22 S20 => some (r22, S20))))) else (gd (ob S14 a0 11) (Option.bind (wO S14 a0 2) (fun q24 => gd (ob S14 q24 8) (bd2 (f_X8_at S14 q24 a1 (0 : Int32)) (fun r29 S27 => if a2 = r29 then (if (1 : Int32) = 0 then (none) else (gd (ob S27 a0 11) (bd2 (f_X11_told S27 a0 a1) (fun r40 S38 => some (r40, S38))))) else (if (0 : Int32) = 0 then (gd (ob S27 a0 11) (bd2 (f_X11_told S27 a0 (-100004 : Int32)) (fun r35 S33 => some (r35, S33)))) else (none))))))))))))))
set_option maxRecDepth 100000 in
set_option maxHeartbeats 4000000 in
theorem k_X11_as {S : Wd} {a0 : Nat} {a1 : Int32} {a2 : Int32} {r : Int32} {S' : Wd} (h : f_X11_as S a0 a1 a2 = some (r, S')) : Sp yX11_as cX11_as 4 (some .int) 2 44 0 0 [.ref a0, .int a1, .int a2] S (some (.int r)) S' := by
  unfold f_X11_as at h
  refine Sp.of (by decide +kernel) (Nat.le_of_ble_eq_true rfl) ?_
  intro b hC hin hR
  show G b 0 [(0, .ref a0), (1, .int a1), (2, .int a2)] [] S 0 0
  refine g_aload_n hC dX11_as_0 rfl ?_
  obtain ⟨ho1, h⟩ := gd_some h
  obtain ⟨q2, hq3, h⟩ := Option.bind_eq_some_iff.mp h
  refine g_getr (k := 2) (q := q2) hC ck_X11 (by decide) tw_304 rfl (by decide) dX11_as_1 ho1 hq3 ?_
  refine g_iload_n hC dX11_as_4 rfl ?_
  obtain ⟨ho6, h⟩ := gd_some h
  obtain ⟨r7, S5, hr4, h⟩ := bd2_some h
  refine g_callV (rest := []) hC mi_X8_has (k_X8_has hr4) ck_X8.1 (by decide) ho6 tw_430 tw_431 tw_432 dX11_as_5 rfl rfl ⟨by decide, by decide⟩ (Nat.le_of_ble_eq_true rfl) ⟨by decide, by decide⟩ ?_
  refine g_if_eq (tgt := 20) hC dX11_as_8 (by decide) (fun hc8 => ?_) (fun hc8 => ?_)
  · rw [if_pos hc8] at h
    refine g_aload_n hC dX11_as_20 rfl ?_
    refine g_ldc hC tw_352 dX11_as_21 ?_
    obtain ⟨ho11, h⟩ := gd_some h
    obtain ⟨r12, S10, hr9, h⟩ := bd2_some h
    refine g_callV (rest := []) hC mi_X11_told (k_X11_told hr9) ck_X11.1 (by decide) ho11 tw_353 tw_355 ts_0 dX11_as_23 rfl rfl ⟨by decide, by decide⟩ (Nat.le_of_ble_eq_true rfl) ⟨by decide, by decide⟩ ?_
    cases h
    exact g_iret hC hR dX11_as_26 (by decide) (by decide)
  · rw [if_neg hc8] at h
    refine g_iload_n hC dX11_as_11 rfl ?_
    refine g_iconst (v := (0 : Int32)) hC dX11_as_12 (by decide) ?_
    refine g_iconst (v := (3 : Int32)) hC dX11_as_13 (by decide) ?_
    obtain ⟨r15, S14, hr13, h⟩ := bd2_some h
    refine g_callS (rest := []) hC mi_X11_within (k_X11_within hr13) tw_349 tw_350 dX11_as_14 rfl rfl ⟨by decide, by decide⟩ (Nat.le_of_ble_eq_true rfl) ⟨by decide, by decide⟩ ?_
    refine g_if_ne (tgt := 27) hC dX11_as_17 (by decide) (fun hc16 => ?_) (fun hc16 => ?_)
    · rw [if_neg hc16] at h
      refine g_iload_n hC dX11_as_27 rfl ?_
      refine g_if_eq (tgt := 44) hC dX11_as_28 (by decide) (fun hc17 => ?_) (fun hc17 => ?_)
      · rw [if_pos hc17] at h
        refine g_iconst (v := (1 : Int32)) hC dX11_as_44 (by decide) ?_
        refine g_goto (tgt := 49) hC dX11_as_45 (by decide) ?_
        refine g_istore_n (L' := [(3, .int (1 : Int32)), (0, .ref a0), (1, .int a1), (2, .int a2)]) hC dX11_as_49 (by decide) rfl ?_
        refine g_aload_n hC dX11_as_50 rfl ?_
        refine g_iload_n hC dX11_as_51 rfl ?_
        refine g_if_eq (tgt := 59) hC dX11_as_52 (by decide) (fun hc18 => ?_) (fun hc18 => ?_)
        · rw [if_pos hc18] at h
          cases h
        · rw [if_neg hc18] at h
          refine g_iload_n hC dX11_as_55 rfl ?_
          refine g_goto (tgt := 61) hC dX11_as_56 (by decide) ?_
          obtain ⟨ho21, h⟩ := gd_some h
          obtain ⟨r22, S20, hr19, h⟩ := bd2_some h
          refine g_callV (rest := []) hC mi_X11_told (k_X11_told hr19) ck_X11.1 (by decide) ho21 tw_353 tw_355 ts_0 dX11_as_61 rfl rfl ⟨by decide, by decide⟩ (Nat.le_of_ble_eq_true rfl) ⟨by decide, by decide⟩ ?_
          cases h
          exact g_iret hC hR dX11_as_64 (by decide) (by decide)
      · rw [if_neg hc17] at h
        refine g_iload_n hC dX11_as_31 rfl ?_
        refine g_aload_n hC dX11_as_32 rfl ?_
        obtain ⟨ho23, h⟩ := gd_some h
        obtain ⟨q24, hq25, h⟩ := Option.bind_eq_some_iff.mp h
        refine g_getr (k := 2) (q := q24) hC ck_X11 (by decide) tw_304 rfl (by decide) dX11_as_33 ho23 hq25 ?_
        refine g_iload_n hC dX11_as_36 rfl ?_
        refine g_iconst (v := (0 : Int32)) hC dX11_as_37 (by decide) ?_
        obtain ⟨ho28, h⟩ := gd_some h
        obtain ⟨r29, S27, hr26, h⟩ := bd2_some h
        refine g_callV (rest := [.int a2]) hC mi_X8_at (k_X8_at hr26) ck_X8.1 (by decide) ho28 tw_434 tw_435 tw_436 dX11_as_38 rfl rfl ⟨by decide, by decide⟩ (Nat.le_of_ble_eq_true rfl) ⟨by decide, by decide⟩ ?_
        refine g_icmp_ne (tgt := 48) hC dX11_as_41 (by decide) (fun hc30 => ?_) (fun hc30 => ?_)
        · rw [if_neg hc30] at h
          refine g_iconst (v := (0 : Int32)) hC dX11_as_48 (by decide) ?_
          refine g_istore_n (L' := [(3, .int (0 : Int32)), (0, .ref a0), (1, .int a1), (2, .int a2)]) hC dX11_as_49 (by decide) rfl ?_
          refine g_aload_n hC dX11_as_50 rfl ?_
          refine g_iload_n hC dX11_as_51 rfl ?_
          refine g_if_eq (tgt := 59) hC dX11_as_52 (by decide) (fun hc31 => ?_) (fun hc31 => ?_)
          · rw [if_pos hc31] at h
            refine g_ldc hC tw_442 dX11_as_59 ?_
            obtain ⟨ho34, h⟩ := gd_some h
            obtain ⟨r35, S33, hr32, h⟩ := bd2_some h
            refine g_callV (rest := []) hC mi_X11_told (k_X11_told hr32) ck_X11.1 (by decide) ho34 tw_353 tw_355 ts_0 dX11_as_61 rfl rfl ⟨by decide, by decide⟩ (Nat.le_of_ble_eq_true rfl) ⟨by decide, by decide⟩ ?_
            cases h
            exact g_iret hC hR dX11_as_64 (by decide) (by decide)
          · rw [if_neg hc31] at h
            cases h
        · rw [if_pos hc30] at h
          refine g_iconst (v := (1 : Int32)) hC dX11_as_44 (by decide) ?_
          refine g_goto (tgt := 49) hC dX11_as_45 (by decide) ?_
          refine g_istore_n (L' := [(3, .int (1 : Int32)), (0, .ref a0), (1, .int a1), (2, .int a2)]) hC dX11_as_49 (by decide) rfl ?_
          refine g_aload_n hC dX11_as_50 rfl ?_
          refine g_iload_n hC dX11_as_51 rfl ?_
          refine g_if_eq (tgt := 59) hC dX11_as_52 (by decide) (fun hc36 => ?_) (fun hc36 => ?_)
          · rw [if_pos hc36] at h
            cases h
          · rw [if_neg hc36] at h
            refine g_iload_n hC dX11_as_55 rfl ?_
            refine g_goto (tgt := 61) hC dX11_as_56 (by decide) ?_
            obtain ⟨ho39, h⟩ := gd_some h
            obtain ⟨r40, S38, hr37, h⟩ := bd2_some h
            refine g_callV (rest := []) hC mi_X11_told (k_X11_told hr37) ck_X11.1 (by decide) ho39 tw_353 tw_355 ts_0 dX11_as_61 rfl rfl ⟨by decide, by decide⟩ (Nat.le_of_ble_eq_true rfl) ⟨by decide, by decide⟩ ?_
            cases h
            exact g_iret hC hR dX11_as_64 (by decide) (by decide)
    · rw [if_pos hc16] at h
      refine g_aload_n hC dX11_as_20 rfl ?_
      refine g_ldc hC tw_352 dX11_as_21 ?_
      obtain ⟨ho43, h⟩ := gd_some h
      obtain ⟨r44, S42, hr41, h⟩ := bd2_some h
      refine g_callV (rest := []) hC mi_X11_told (k_X11_told hr41) ck_X11.1 (by decide) ho43 tw_353 tw_355 ts_0 dX11_as_23 rfl rfl ⟨by decide, by decide⟩ (Nat.le_of_ble_eq_true rfl) ⟨by decide, by decide⟩ ?_
      cases h
      exact g_iret hC hR dX11_as_26 (by decide) (by decide)

theorem mi_X8_count : MI yX8_count cX8_count 1 (some .int) 0 := ⟨tw_454, tw_4, by decide +kernel, by decide +kernel, by decide +kernel⟩
noncomputable def f_X8_count (S : Wd) (a0 : Nat) : Option (Int32 × Wd) := gd (ob S a0 8) (Option.bind (wO S a0 3) (fun q2 => gd (ix S q2 100 (0 : Int32)) (some ((wI S q2 (0 : Int32).toNatClampNeg), S))))
set_option maxRecDepth 100000 in
set_option maxHeartbeats 4000000 in
theorem k_X8_count {S : Wd} {a0 : Nat} {r : Int32} {S' : Wd} (h : f_X8_count S a0 = some (r, S')) : Sp yX8_count cX8_count 1 (some .int) 0 0 0 0 [.ref a0] S (some (.int r)) S' := by
  unfold f_X8_count at h
  refine Sp.of (by decide +kernel) (Nat.le_of_ble_eq_true rfl) ?_
  intro b hC hin hR
  show G b 0 [(0, .ref a0)] [] S 0 0
  refine g_aload_n hC dX8_count_0 rfl ?_
  obtain ⟨ho1, h⟩ := gd_some h
  obtain ⟨q2, hq3, h⟩ := Option.bind_eq_some_iff.mp h
  refine g_getr (k := 3) (q := q2) hC ck_X8 (by decide) tw_85 rfl (by decide) dX8_count_1 ho1 hq3 ?_
  refine g_iconst (v := (0 : Int32)) hC dX8_count_4 (by decide) ?_
  obtain ⟨hx4, h⟩ := gd_some h
  refine g_iald hC dX8_count_5 hx4.1 hx4.2 ?_
  cases h
  exact g_iret hC hR dX8_count_6 (by decide) (by decide)

theorem mi_X11_givenTo : MI yX11_givenTo cX11_givenTo 4 (some .int) 1 := ⟨tw_450, tw_1, by decide +kernel, by decide +kernel, by decide +kernel⟩
noncomputable def B_X11_givenTo_0 (S : Wd) (a0 : Nat) (a1 : Int32) : Option ((Int32 × Wd) ⊕ Cs) := some (.inr (1, [a0], [a1, (0 : Int32), (0 : Int32)], S))
noncomputable def B_X11_givenTo_1 (S : Wd) (x0 : Nat) (x1 : Int32) (x2 : Int32) (x3 : Int32) : Option ((Int32 × Wd) ⊕ Cs) := gd (ob S x0 11) (Option.bind (wO S x0 3) (fun q2 => gd (ob S q2 8) (bd2 (f_X8_count S q2) (fun r7 S5 => if r7 ≤ x3 then (some (.inl (x2, S5))) else (gd (ob S5 x0 11) (Option.bind (wO S5 x0 3) (fun q10 => gd (ob S5 q10 8) (bd2 (f_X8_at S5 q10 x3 (10 : Int32)) (fun r15 S13 => if r15 = x1 then (some (.inr (1, [x0], [x1, (x2 ||| ((1 : Int32) <<< (x3 &&& 31))), (x3 + (1 : Int32))], S13))) else (some (.inr (1, [x0], [x1, x2, (x3 + (1 : Int32))], S13))))))))))))
noncomputable def B_X11_givenTo : Cs → Option ((Int32 × Wd) ⊕ Cs)
  | (0, [a0], [a1], S) => B_X11_givenTo_0 S a0 a1
  | (1, [x0], [x1, x2, x3], S) => B_X11_givenTo_1 S x0 x1 x2 x3
  | _ => none
def P_X11_givenTo : Cs → Option (Nat × List (Nat × Value) × Wd × Nat × Nat)
  | (0, [a0], [a1], S) => some (0, [(0, .ref a0), (1, .int a1)], S, 0, 0)
  | (1, [x0], [x1, x2, x3], S) => some (4, [(0, .ref x0), (1, .int x1), (2, .int x2), (3, .int x3)], S, 0, 0)
  | _ => none
noncomputable def f_X11_givenTo (S : Wd) (a0 : Nat) (a1 : Int32) : Option (Int32 × Wd) := ru B_X11_givenTo (0, [a0], [a1], S)
abbrev N_X11_givenTo (b : Bd) (r : Int32 × Wd) (c : (Int32 × Wd) ⊕ Cs) : Prop := match c with
  | .inl r' => r' = r
  | .inr s' => ∀ pc L S kc ks, P_X11_givenTo s' = some (pc, L, S, kc, ks) → G b pc L [] S kc ks
set_option maxRecDepth 100000 in
set_option maxHeartbeats 4000000 in
theorem w_X11_givenTo_0 {b : Bd} {r : Int32 × Wd} (hC : CX b yX11_givenTo.cls cX11_givenTo 4 { frames := 2, cells := 0, slots := 0, locals := 44 }) (hin : yX11_givenTo.name = "<init>" → b.2.2.2.2.2.2.2.2.1.name = "<init>") (hR : RT b (some .int) (some (.int r.1)) r.2 0 0) {S : Wd} {a0 : Nat} {a1 : Int32} {c : (Int32 × Wd) ⊕ Cs} (h : B_X11_givenTo_0 S a0 a1 = some c) (hk : N_X11_givenTo b r c) : G b 0 [(0, .ref a0), (1, .int a1)] [] S 0 0 := by
  unfold B_X11_givenTo_0 at h
  refine g_iconst (v := (0 : Int32)) hC dX11_givenTo_0 (by decide) ?_
  refine g_istore_n (L' := [(2, .int (0 : Int32)), (0, .ref a0), (1, .int a1)]) hC dX11_givenTo_1 (by decide) rfl ?_
  refine g_iconst (v := (0 : Int32)) hC dX11_givenTo_2 (by decide) ?_
  refine g_istore_n (L' := [(3, .int (0 : Int32)), (2, .int (0 : Int32)), (0, .ref a0), (1, .int a1)]) hC dX11_givenTo_3 (by decide) rfl ?_
  cases h
  refine g_pick (L' := [(0, .ref a0), (1, .int a1), (2, .int (0 : Int32)), (3, .int (0 : Int32))]) [2, 3, 1, 0] rfl ?_
  exact hk _ _ _ _ _ rfl
set_option maxRecDepth 100000 in
set_option maxHeartbeats 4000000 in
theorem w_X11_givenTo_1 {b : Bd} {r : Int32 × Wd} (hC : CX b yX11_givenTo.cls cX11_givenTo 4 { frames := 2, cells := 0, slots := 0, locals := 44 }) (hin : yX11_givenTo.name = "<init>" → b.2.2.2.2.2.2.2.2.1.name = "<init>") (hR : RT b (some .int) (some (.int r.1)) r.2 0 0) {S : Wd} {x0 : Nat} {x1 : Int32} {x2 : Int32} {x3 : Int32} {c : (Int32 × Wd) ⊕ Cs} (h : B_X11_givenTo_1 S x0 x1 x2 x3 = some c) (hk : N_X11_givenTo b r c) : G b 4 [(0, .ref x0), (1, .int x1), (2, .int x2), (3, .int x3)] [] S 0 0 := by
  unfold B_X11_givenTo_1 at h
  refine g_iload_n hC dX11_givenTo_4 rfl ?_
  refine g_aload_n hC dX11_givenTo_5 rfl ?_
  obtain ⟨ho1, h⟩ := gd_some h
  obtain ⟨q2, hq3, h⟩ := Option.bind_eq_some_iff.mp h
  refine g_getr (k := 3) (q := q2) hC ck_X11 (by decide) tw_305 rfl (by decide) dX11_givenTo_6 ho1 hq3 ?_
  obtain ⟨ho6, h⟩ := gd_some h
  obtain ⟨r7, S5, hr4, h⟩ := bd2_some h
  refine g_callV (rest := [.int x3]) hC mi_X8_count (k_X8_count hr4) ck_X8.1 (by decide) ho6 tw_451 tw_452 tw_453 dX11_givenTo_9 rfl rfl ⟨by decide, by decide⟩ (Nat.le_of_ble_eq_true rfl) ⟨by decide, by decide⟩ ?_
  refine g_icmp_ge (tgt := 41) hC dX11_givenTo_12 (by decide) (fun hc8 => ?_) (fun hc8 => ?_)
  · rw [if_pos hc8] at h
    refine g_iload_n hC dX11_givenTo_41 rfl ?_
    cases h
    subst hk
    exact g_iret hC hR dX11_givenTo_42 (by decide) (by decide)
  · rw [if_neg hc8] at h
    refine g_aload_n hC dX11_givenTo_15 rfl ?_
    obtain ⟨ho9, h⟩ := gd_some h
    obtain ⟨q10, hq11, h⟩ := Option.bind_eq_some_iff.mp h
    refine g_getr (k := 3) (q := q10) hC ck_X11 (by decide) tw_305 rfl (by decide) dX11_givenTo_16 ho9 hq11 ?_
    refine g_iload_n hC dX11_givenTo_19 rfl ?_
    refine g_bipush (v := (10 : Int32)) hC dX11_givenTo_20 (by decide) ?_
    obtain ⟨ho14, h⟩ := gd_some h
    obtain ⟨r15, S13, hr12, h⟩ := bd2_some h
    refine g_callV (rest := []) hC mi_X8_at (k_X8_at hr12) ck_X8.1 (by decide) ho14 tw_434 tw_435 tw_436 dX11_givenTo_22 rfl rfl ⟨by decide, by decide⟩ (Nat.le_of_ble_eq_true rfl) ⟨by decide, by decide⟩ ?_
    refine g_iload_n hC dX11_givenTo_25 rfl ?_
    refine g_icmp_ne (tgt := 35) hC dX11_givenTo_26 (by decide) (fun hc16 => ?_) (fun hc16 => ?_)
    · rw [if_neg hc16] at h
      refine g_iinc (v := (1 : Int32)) (L' := [(3, .int (x3 + (1 : Int32))), (0, .ref x0), (1, .int x1), (2, .int x2)]) hC dX11_givenTo_35 rfl (by decide) (by decide) rfl ?_
      refine g_goto (tgt := 4) hC dX11_givenTo_38 (by decide) ?_
      cases h
      refine g_pick (L' := [(0, .ref x0), (1, .int x1), (2, .int x2), (3, .int (x3 + (1 : Int32)))]) [1, 2, 3, 0] rfl ?_
      exact hk _ _ _ _ _ rfl
    · rw [if_pos hc16] at h
      refine g_iload_n hC dX11_givenTo_29 rfl ?_
      refine g_iconst (v := (1 : Int32)) hC dX11_givenTo_30 (by decide) ?_
      refine g_iload_n hC dX11_givenTo_31 rfl ?_
      refine g_ishl hC dX11_givenTo_32 ?_
      refine g_ior hC dX11_givenTo_33 ?_
      refine g_istore_n (L' := [(2, .int (x2 ||| ((1 : Int32) <<< (x3 &&& 31)))), (0, .ref x0), (1, .int x1), (3, .int x3)]) hC dX11_givenTo_34 (by decide) rfl ?_
      refine g_iinc (v := (1 : Int32)) (L' := [(3, .int (x3 + (1 : Int32))), (2, .int (x2 ||| ((1 : Int32) <<< (x3 &&& 31)))), (0, .ref x0), (1, .int x1)]) hC dX11_givenTo_35 rfl (by decide) (by decide) rfl ?_
      refine g_goto (tgt := 4) hC dX11_givenTo_38 (by decide) ?_
      cases h
      refine g_pick (L' := [(0, .ref x0), (1, .int x1), (2, .int (x2 ||| ((1 : Int32) <<< (x3 &&& 31)))), (3, .int (x3 + (1 : Int32)))]) [2, 3, 1, 0] rfl ?_
      exact hk _ _ _ _ _ rfl
theorem w_X11_givenTo {b : Bd} {r : Int32 × Wd} (hC : CX b yX11_givenTo.cls cX11_givenTo 4 { frames := 2, cells := 0, slots := 0, locals := 44 }) (hin : yX11_givenTo.name = "<init>" → b.2.2.2.2.2.2.2.2.1.name = "<init>") (hR : RT b (some .int) (some (.int r.1)) r.2 0 0) {s : Cs} {c : (Int32 × Wd) ⊕ Cs} (h : B_X11_givenTo s = some c) (hk : N_X11_givenTo b r c) : ∀ pc L S kc ks, P_X11_givenTo s = some (pc, L, S, kc, ks) → G b pc L [] S kc ks := by
  intro pc L S kc ks hp
  unfold B_X11_givenTo at h
  split at h
  · cases hp
    exact w_X11_givenTo_0 hC hin hR h hk
  · cases hp
    exact w_X11_givenTo_1 hC hin hR h hk
  · cases h
theorem k_X11_givenTo {S : Wd} {a0 : Nat} {a1 : Int32} {r : Int32} {S' : Wd} (h : f_X11_givenTo S a0 a1 = some (r, S')) : Sp yX11_givenTo cX11_givenTo 4 (some .int) 2 44 0 0 [.ref a0, .int a1] S (some (.int r)) S' := by
  unfold f_X11_givenTo at h
  refine Sp.of (by decide +kernel) (Nat.le_of_ble_eq_true rfl) ?_
  intro b hC hin hR
  exact ru_ind (P := fun s q0 => q0 = (r, S') → ∀ pc L S kc ks, P_X11_givenTo s = some (pc, L, S, kc, ks) → G b pc L [] S kc ks) (fun s q0 hB e => w_X11_givenTo (r := (r, S')) hC hin hR hB e) (fun s s' q0 hB ih e => w_X11_givenTo (r := (r, S')) hC hin hR hB (ih e)) h rfl _ _ _ _ _ rfl

theorem mi_X11_lorryIs : MI yX11_lorryIs cX11_lorryIs 3 (some .int) 2 := ⟨tw_446, tw_1, by decide +kernel, by decide +kernel, by decide +kernel⟩
noncomputable def f_X11_lorryIs (S : Wd) (a0 : Nat) (a1 : Int32) (a2 : Int32) : Option (Int32 × Wd) := gd (ob S a0 11) (Option.bind (wO S a0 2) (fun q2 => gd (ob S q2 8) (bd2 (f_X8_has S q2 a1) (fun r7 S5 => if r7 = 0 then (gd (ob S5 a0 11) (bd2 (f_X11_told S5 a0 (-100001 : Int32)) (fun r12 S10 => some (r12, S10)))) else (bd2 (f_X11_within S5 a2 (0 : Int32) (7 : Int32)) (fun r15 S14 => if r15 = 0 then (gd (ob S14 a0 11) (bd2 (f_X11_told S14 a0 (-100001 : Int32)) (fun r32 S30 => some (r32, S30)))) else (if a2 = (7 : Int32) then (gd (ob S14 a0 11) (bd2 (f_X11_givenTo S14 a0 a1) (fun r28 S26 => some (r28, S26)))) else (gd (ob S14 a0 11) (Option.bind (wO S14 a0 2) (fun q19 => gd (ob S14 q19 8) (bd2 (f_X8_at S14 q19 a1 a2) (fun r24 S22 => some (r24, S22)))))))))))))
set_option maxRecDepth 100000 in
set_option maxHeartbeats 4000000 in
theorem k_X11_lorryIs {S : Wd} {a0 : Nat} {a1 : Int32} {a2 : Int32} {r : Int32} {S' : Wd} (h : f_X11_lorryIs S a0 a1 a2 = some (r, S')) : Sp yX11_lorryIs cX11_lorryIs 3 (some .int) 3 67 0 0 [.ref a0, .int a1, .int a2] S (some (.int r)) S' := by
  unfold f_X11_lorryIs at h
  refine Sp.of (by decide +kernel) (Nat.le_of_ble_eq_true rfl) ?_
  intro b hC hin hR
  show G b 0 [(0, .ref a0), (1, .int a1), (2, .int a2)] [] S 0 0
  refine g_aload_n hC dX11_lorryIs_0 rfl ?_
  obtain ⟨ho1, h⟩ := gd_some h
  obtain ⟨q2, hq3, h⟩ := Option.bind_eq_some_iff.mp h
  refine g_getr (k := 2) (q := q2) hC ck_X11 (by decide) tw_304 rfl (by decide) dX11_lorryIs_1 ho1 hq3 ?_
  refine g_iload_n hC dX11_lorryIs_4 rfl ?_
  obtain ⟨ho6, h⟩ := gd_some h
  obtain ⟨r7, S5, hr4, h⟩ := bd2_some h
  refine g_callV (rest := []) hC mi_X8_has (k_X8_has hr4) ck_X8.1 (by decide) ho6 tw_430 tw_431 tw_432 dX11_lorryIs_5 rfl rfl ⟨by decide, by decide⟩ (Nat.le_of_ble_eq_true rfl) ⟨by decide, by decide⟩ ?_
  refine g_if_eq (tgt := 21) hC dX11_lorryIs_8 (by decide) (fun hc8 => ?_) (fun hc8 => ?_)
  · rw [if_pos hc8] at h
    refine g_aload_n hC dX11_lorryIs_21 rfl ?_
    refine g_ldc hC tw_352 dX11_lorryIs_22 ?_
    obtain ⟨ho11, h⟩ := gd_some h
    obtain ⟨r12, S10, hr9, h⟩ := bd2_some h
    refine g_callV (rest := []) hC mi_X11_told (k_X11_told hr9) ck_X11.1 (by decide) ho11 tw_353 tw_355 ts_0 dX11_lorryIs_24 rfl rfl ⟨by decide, by decide⟩ (Nat.le_of_ble_eq_true rfl) ⟨by decide, by decide⟩ ?_
    cases h
    exact g_iret hC hR dX11_lorryIs_27 (by decide) (by decide)
  · rw [if_neg hc8] at h
    refine g_iload_n hC dX11_lorryIs_11 rfl ?_
    refine g_iconst (v := (0 : Int32)) hC dX11_lorryIs_12 (by decide) ?_
    refine g_bipush (v := (7 : Int32)) hC dX11_lorryIs_13 (by decide) ?_
    obtain ⟨r15, S14, hr13, h⟩ := bd2_some h
    refine g_callS (rest := []) hC mi_X11_within (k_X11_within hr13) tw_349 tw_350 dX11_lorryIs_15 rfl rfl ⟨by decide, by decide⟩ (Nat.le_of_ble_eq_true rfl) ⟨by decide, by decide⟩ ?_
    refine g_if_ne (tgt := 28) hC dX11_lorryIs_18 (by decide) (fun hc16 => ?_) (fun hc16 => ?_)
    · rw [if_neg hc16] at h
      refine g_iload_n hC dX11_lorryIs_28 rfl ?_
      refine g_bipush (v := (7 : Int32)) hC dX11_lorryIs_29 (by decide) ?_
      refine g_icmp_ne (tgt := 42) hC dX11_lorryIs_31 (by decide) (fun hc17 => ?_) (fun hc17 => ?_)
      · rw [if_neg hc17] at h
        refine g_aload_n hC dX11_lorryIs_42 rfl ?_
        obtain ⟨ho18, h⟩ := gd_some h
        obtain ⟨q19, hq20, h⟩ := Option.bind_eq_some_iff.mp h
        refine g_getr (k := 2) (q := q19) hC ck_X11 (by decide) tw_304 rfl (by decide) dX11_lorryIs_43 ho18 hq20 ?_
        refine g_iload_n hC dX11_lorryIs_46 rfl ?_
        refine g_iload_n hC dX11_lorryIs_47 rfl ?_
        obtain ⟨ho23, h⟩ := gd_some h
        obtain ⟨r24, S22, hr21, h⟩ := bd2_some h
        refine g_callV (rest := []) hC mi_X8_at (k_X8_at hr21) ck_X8.1 (by decide) ho23 tw_434 tw_435 tw_436 dX11_lorryIs_48 rfl rfl ⟨by decide, by decide⟩ (Nat.le_of_ble_eq_true rfl) ⟨by decide, by decide⟩ ?_
        cases h
        exact g_iret hC hR dX11_lorryIs_51 (by decide) (by decide)
      · rw [if_pos hc17] at h
        refine g_aload_n hC dX11_lorryIs_34 rfl ?_
        refine g_iload_n hC dX11_lorryIs_35 rfl ?_
        obtain ⟨ho27, h⟩ := gd_some h
        obtain ⟨r28, S26, hr25, h⟩ := bd2_some h
        refine g_callV (rest := []) hC mi_X11_givenTo (k_X11_givenTo hr25) ck_X11.1 (by decide) ho27 tw_447 tw_449 ts_3 dX11_lorryIs_36 rfl rfl ⟨by decide, by decide⟩ (Nat.le_of_ble_eq_true rfl) ⟨by decide, by decide⟩ ?_
        refine g_goto (tgt := 51) hC dX11_lorryIs_39 (by decide) ?_
        cases h
        exact g_iret hC hR dX11_lorryIs_51 (by decide) (by decide)
    · rw [if_pos hc16] at h
      refine g_aload_n hC dX11_lorryIs_21 rfl ?_
      refine g_ldc hC tw_352 dX11_lorryIs_22 ?_
      obtain ⟨ho31, h⟩ := gd_some h
      obtain ⟨r32, S30, hr29, h⟩ := bd2_some h
      refine g_callV (rest := []) hC mi_X11_told (k_X11_told hr29) ck_X11.1 (by decide) ho31 tw_353 tw_355 ts_0 dX11_lorryIs_24 rfl rfl ⟨by decide, by decide⟩ (Nat.le_of_ble_eq_true rfl) ⟨by decide, by decide⟩ ?_
      cases h
      exact g_iret hC hR dX11_lorryIs_27 (by decide) (by decide)

theorem mi_X11_isLane : MI yX11_isLane cX11_isLane 1 (some .boolean) 1 := ⟨tw_461, tw_1, by decide +kernel, by decide +kernel, by decide +kernel⟩
noncomputable def f_X11_isLane (S : Wd) (a0 : Int32) : Option (Int32 × Wd) := if a0 < 0 then (some ((0 : Int32), S)) else (bd2 (f_X11_isTown S (a0 / (10 : Int32))) (fun r4 S3 => if r4 = 0 then (some ((0 : Int32), S3)) else (bd2 (f_X11_isTown S3 (irm a0 (10 : Int32))) (fun r8 S7 => if r8 = 0 then (some ((0 : Int32), S7)) else (some ((1 : Int32), S7))))))
set_option maxRecDepth 100000 in
set_option maxHeartbeats 4000000 in
theorem k_X11_isLane {S : Wd} {a0 : Int32} {r : Int32} {S' : Wd} (h : f_X11_isLane S a0 = some (r, S')) : Sp yX11_isLane cX11_isLane 1 (some .boolean) 2 42 0 0 [.int a0] S (some (.int r)) S' := by
  unfold f_X11_isLane at h
  refine Sp.of (by decide +kernel) (Nat.le_of_ble_eq_true rfl) ?_
  intro b hC hin hR
  show G b 0 [(0, .int a0)] [] S 0 0
  refine g_iload_n hC dX11_isLane_0 rfl ?_
  refine g_if_lt (tgt := 28) hC dX11_isLane_1 (by decide) (fun hc1 => ?_) (fun hc1 => ?_)
  · rw [if_pos hc1] at h
    refine g_iconst (v := (0 : Int32)) hC dX11_isLane_28 (by decide) ?_
    cases h
    exact g_zret hC hR rfl dX11_isLane_29 (by decide) (by decide)
  · rw [if_neg hc1] at h
    refine g_iload_n hC dX11_isLane_4 rfl ?_
    refine g_bipush (v := (10 : Int32)) hC dX11_isLane_5 (by decide) ?_
    refine g_idiv hC dX11_isLane_7 (by decide) ?_
    obtain ⟨r4, S3, hr2, h⟩ := bd2_some h
    refine g_callS (rest := []) hC mi_X11_isTown (k_X11_isTown hr2) tw_346 tw_347 dX11_isLane_8 rfl rfl ⟨by decide, by decide⟩ (Nat.le_of_ble_eq_true rfl) ⟨by decide, by decide⟩ ?_
    refine g_if_eq (tgt := 28) hC dX11_isLane_11 (by decide) (fun hc5 => ?_) (fun hc5 => ?_)
    · rw [if_pos hc5] at h
      refine g_iconst (v := (0 : Int32)) hC dX11_isLane_28 (by decide) ?_
      cases h
      exact g_zret hC hR rfl dX11_isLane_29 (by decide) (by decide)
    · rw [if_neg hc5] at h
      refine g_iload_n hC dX11_isLane_14 rfl ?_
      refine g_bipush (v := (10 : Int32)) hC dX11_isLane_15 (by decide) ?_
      refine g_irm hC dX11_isLane_17 (by decide) ?_
      obtain ⟨r8, S7, hr6, h⟩ := bd2_some h
      refine g_callS (rest := []) hC mi_X11_isTown (k_X11_isTown hr6) tw_346 tw_347 dX11_isLane_18 rfl rfl ⟨by decide, by decide⟩ (Nat.le_of_ble_eq_true rfl) ⟨by decide, by decide⟩ ?_
      refine g_if_eq (tgt := 28) hC dX11_isLane_21 (by decide) (fun hc9 => ?_) (fun hc9 => ?_)
      · rw [if_pos hc9] at h
        refine g_iconst (v := (0 : Int32)) hC dX11_isLane_28 (by decide) ?_
        cases h
        exact g_zret hC hR rfl dX11_isLane_29 (by decide) (by decide)
      · rw [if_neg hc9] at h
        refine g_iconst (v := (1 : Int32)) hC dX11_isLane_24 (by decide) ?_
        refine g_goto (tgt := 29) hC dX11_isLane_25 (by decide) ?_
        cases h
        exact g_zret hC hR rfl dX11_isLane_29 (by decide) (by decide)

theorem mi_X11_load : MI yX11_load cX11_load 8 (some .int) 5 := ⟨tw_458, tw_1, by decide +kernel, by decide +kernel, by decide +kernel⟩
noncomputable def f_X11_load (S : Wd) (a0 : Nat) (a1 : Int32) (a2 : Int32) (a3 : Int32) (a4 : Int32) (a5 : Int32) : Option (Int32 × Wd) := bd2 (f_X11_isLane S a1) (fun r3 S2 => if r3 = 0 then (if (0 : Int32) = 0 then (gd (ob S2 a0 11) (bd2 (f_X11_told S2 a0 (-100001 : Int32)) (fun r9 S7 => some (r9, S7)))) else (none)) else (bd2 (f_X11_within S2 a2 (0 : Int32) (2 : Int32)) (fun r12 S11 => if r12 = 0 then (if (0 : Int32) = 0 then (gd (ob S11 a0 11) (bd2 (f_X11_told S11 a0 (-100001 : Int32)) (fun r18 S16 => some (r18, S16)))) else (none)) else (bd2 (f_X11_within S11 a3 (1 : Int32) (40 : Int32)) (fun r21 S20 => if r21 = 0 then (if (0 : Int32) = 0 then (gd (ob S20 a0 11) (bd2 (f_X11_told S20 a0 (-100001 : Int32)) (fun r27 S25 => some (r27, S25)))) else (none)) else (bd2 (f_X11_within S20 a4 (1 : Int32) (40 : Int32)) (fun r30 S29 => if r30 = 0 then (if (0 : Int32) = 0 then (gd (ob S29 a0 11) (bd2 (f_X11_told S29 a0 (-100001 : Int32)) (fun r36 S34 => some (r36, S34)))) else (none)) else (bd2 (f_X11_within S29 a5 (0 : Int32) (9999 : Int32)) (fun r39 S38 => if r39 = 0 then (if (0 : Int32) = 0 then (gd (ob S38 a0 11) (bd2 (f_X11_told S38 a0 (-100001 : Int32)) (fun r45 S43 => some (r45, S43)))) else (none)) else (if (1 : Int32) = 0 then (none) else (if (a1 / (10 : Int32)) = (irm a1 (10 : Int32)) then (gd (ob S38 a0 11) (bd2 (f_X11_told S38 a0 (-100003 : Int32)) (fun r98 S96 => some (r98, S96)))) else (gd (nk S38 100 (11 : Int32).toNatClampNeg) (ltS (sN S38 (11 : Int32).toNatClampNeg) (fun S49 => gd (ix S49 (wn S38) 100 (0 : Int32)) (ltS (sI S49 (wn S38) (0 : Int32).toNatClampNeg (a1 / (10 : Int32))) (fun S52 => gd (ix S52 (wn S38) 100 (1 : Int32)) (ltS (sI S52 (wn S38) (1 : Int32).toNatClampNeg (irm a1 (10 : Int32))) (fun S55 => gd (ix S55 (wn S38) 100 (2 : Int32)) (ltS (sI S55 (wn S38) (2 : Int32).toNatClampNeg a2) (fun S58 => gd (ix S58 (wn S38) 100 (3 : Int32)) (ltS (sI S58 (wn S38) (3 : Int32).toNatClampNeg a3) (fun S61 => gd (ix S61 (wn S38) 100 (4 : Int32)) (ltS (sI S61 (wn S38) (4 : Int32).toNatClampNeg a4) (fun S64 => gd (ix S64 (wn S38) 100 (5 : Int32)) (ltS (sI S64 (wn S38) (5 : Int32).toNatClampNeg a5) (fun S67 => gd (ix S67 (wn S38) 100 (6 : Int32)) (ltS (sI S67 (wn S38) (6 : Int32).toNatClampNeg (0 : Int32)) (fun S70 => gd (ix S70 (wn S38) 100 (7 : Int32)) (ltS (sI S70 (wn S38) (7 : Int32).toNatClampNeg (4000 : Int32)) (fun S73 => gd (ix S73 (wn S38) 100 (8 : Int32)) (ltS (sI S73 (wn S38) (8 : Int32).toNatClampNeg (0 : Int32)) (fun S76 => gd (ix S76 (wn S38) 100 (9 : Int32)) (ltS (sI S76 (wn S38) (9 : Int32).toNatClampNeg (4000 : Int32)) (fun S79 => gd (ix S79 (wn S38) 100 (10 : Int32)) (ltS (sI S79 (wn S38) (10 : Int32).toNatClampNeg (-1 : Int32)) (fun S82 => gd (ob S82 a0 11) (Option.bind (wO S82 a0 3) (fun q85 => gd (ob S82 q85 8) (bd2 (f_X8_add S82 q85 (wn S38)) (fun r90 S88 => gd (ob S88 a0 11) (bd2 (f_X11_told S88 a0 r90) (fun r94 S92 => some (r94, S92)))))))))))))))))))))))))))))))))))))))))))
set_option maxRecDepth 100000 in
set_option maxHeartbeats 4000000 in
theorem k_X11_load {S : Wd} {a0 : Nat} {a1 : Int32} {a2 : Int32} {a3 : Int32} {a4 : Int32} {a5 : Int32} {r : Int32} {S' : Wd} (h : f_X11_load S a0 a1 a2 a3 a4 a5 = some (r, S')) : Sp yX11_load cX11_load 8 (some .int) 5 121 2 211 [.ref a0, .int a1, .int a2, .int a3, .int a4, .int a5] S (some (.int r)) S' := by
  unfold f_X11_load at h
  refine Sp.of (by decide +kernel) (Nat.le_of_ble_eq_true rfl) ?_
  intro b hC hin hR
  show G b 0 [(0, .ref a0), (1, .int a1), (2, .int a2), (3, .int a3), (4, .int a4), (5, .int a5)] [] S 0 0
  refine g_iload_n hC dX11_load_0 rfl ?_
  obtain ⟨r3, S2, hr1, h⟩ := bd2_some h
  refine g_callS (rest := []) hC mi_X11_isLane (k_X11_isLane hr1) tw_459 tw_460 dX11_load_1 rfl rfl ⟨by decide, by decide⟩ (Nat.le_of_ble_eq_true rfl) ⟨by decide, by decide⟩ ?_
  refine g_if_eq (tgt := 53) hC dX11_load_4 (by decide) (fun hc4 => ?_) (fun hc4 => ?_)
  · rw [if_pos hc4] at h
    refine g_iconst (v := (0 : Int32)) hC dX11_load_53 (by decide) ?_
    refine g_istore (L' := [(6, .int (0 : Int32)), (0, .ref a0), (1, .int a1), (2, .int a2), (3, .int a3), (4, .int a4), (5, .int a5)]) hC dX11_load_54 (by decide) rfl ?_
    refine g_iload hC dX11_load_56 rfl ?_
    refine g_if_ne (tgt := 68) hC dX11_load_58 (by decide) (fun hc5 => ?_) (fun hc5 => ?_)
    · rw [if_neg hc5] at h
      cases h
    · rw [if_pos hc5] at h
      refine g_aload_n hC dX11_load_61 rfl ?_
      refine g_ldc hC tw_352 dX11_load_62 ?_
      obtain ⟨ho8, h⟩ := gd_some h
      obtain ⟨r9, S7, hr6, h⟩ := bd2_some h
      refine g_callV (rest := []) hC mi_X11_told (k_X11_told hr6) ck_X11.1 (by decide) ho8 tw_353 tw_355 ts_0 dX11_load_64 rfl rfl ⟨by decide, by decide⟩ (Nat.le_of_ble_eq_true rfl) ⟨by decide, by decide⟩ ?_
      cases h
      exact g_iret hC hR dX11_load_67 (by decide) (by decide)
  · rw [if_neg hc4] at h
    refine g_iload_n hC dX11_load_7 rfl ?_
    refine g_iconst (v := (0 : Int32)) hC dX11_load_8 (by decide) ?_
    refine g_iconst (v := (2 : Int32)) hC dX11_load_9 (by decide) ?_
    obtain ⟨r12, S11, hr10, h⟩ := bd2_some h
    refine g_callS (rest := []) hC mi_X11_within (k_X11_within hr10) tw_349 tw_350 dX11_load_10 rfl rfl ⟨by decide, by decide⟩ (Nat.le_of_ble_eq_true rfl) ⟨by decide, by decide⟩ ?_
    refine g_if_eq (tgt := 53) hC dX11_load_13 (by decide) (fun hc13 => ?_) (fun hc13 => ?_)
    · rw [if_pos hc13] at h
      refine g_iconst (v := (0 : Int32)) hC dX11_load_53 (by decide) ?_
      refine g_istore (L' := [(6, .int (0 : Int32)), (0, .ref a0), (1, .int a1), (2, .int a2), (3, .int a3), (4, .int a4), (5, .int a5)]) hC dX11_load_54 (by decide) rfl ?_
      refine g_iload hC dX11_load_56 rfl ?_
      refine g_if_ne (tgt := 68) hC dX11_load_58 (by decide) (fun hc14 => ?_) (fun hc14 => ?_)
      · rw [if_neg hc14] at h
        cases h
      · rw [if_pos hc14] at h
        refine g_aload_n hC dX11_load_61 rfl ?_
        refine g_ldc hC tw_352 dX11_load_62 ?_
        obtain ⟨ho17, h⟩ := gd_some h
        obtain ⟨r18, S16, hr15, h⟩ := bd2_some h
        refine g_callV (rest := []) hC mi_X11_told (k_X11_told hr15) ck_X11.1 (by decide) ho17 tw_353 tw_355 ts_0 dX11_load_64 rfl rfl ⟨by decide, by decide⟩ (Nat.le_of_ble_eq_true rfl) ⟨by decide, by decide⟩ ?_
        cases h
        exact g_iret hC hR dX11_load_67 (by decide) (by decide)
    · rw [if_neg hc13] at h
      refine g_iload_n hC dX11_load_16 rfl ?_
      refine g_iconst (v := (1 : Int32)) hC dX11_load_17 (by decide) ?_
      refine g_bipush (v := (40 : Int32)) hC dX11_load_18 (by decide) ?_
      obtain ⟨r21, S20, hr19, h⟩ := bd2_some h
      refine g_callS (rest := []) hC mi_X11_within (k_X11_within hr19) tw_349 tw_350 dX11_load_20 rfl rfl ⟨by decide, by decide⟩ (Nat.le_of_ble_eq_true rfl) ⟨by decide, by decide⟩ ?_
      refine g_if_eq (tgt := 53) hC dX11_load_23 (by decide) (fun hc22 => ?_) (fun hc22 => ?_)
      · rw [if_pos hc22] at h
        refine g_iconst (v := (0 : Int32)) hC dX11_load_53 (by decide) ?_
        refine g_istore (L' := [(6, .int (0 : Int32)), (0, .ref a0), (1, .int a1), (2, .int a2), (3, .int a3), (4, .int a4), (5, .int a5)]) hC dX11_load_54 (by decide) rfl ?_
        refine g_iload hC dX11_load_56 rfl ?_
        refine g_if_ne (tgt := 68) hC dX11_load_58 (by decide) (fun hc23 => ?_) (fun hc23 => ?_)
        · rw [if_neg hc23] at h
          cases h
        · rw [if_pos hc23] at h
          refine g_aload_n hC dX11_load_61 rfl ?_
          refine g_ldc hC tw_352 dX11_load_62 ?_
          obtain ⟨ho26, h⟩ := gd_some h
          obtain ⟨r27, S25, hr24, h⟩ := bd2_some h
          refine g_callV (rest := []) hC mi_X11_told (k_X11_told hr24) ck_X11.1 (by decide) ho26 tw_353 tw_355 ts_0 dX11_load_64 rfl rfl ⟨by decide, by decide⟩ (Nat.le_of_ble_eq_true rfl) ⟨by decide, by decide⟩ ?_
          cases h
          exact g_iret hC hR dX11_load_67 (by decide) (by decide)
      · rw [if_neg hc22] at h
        refine g_iload hC dX11_load_26 rfl ?_
        refine g_iconst (v := (1 : Int32)) hC dX11_load_28 (by decide) ?_
        refine g_bipush (v := (40 : Int32)) hC dX11_load_29 (by decide) ?_
        obtain ⟨r30, S29, hr28, h⟩ := bd2_some h
        refine g_callS (rest := []) hC mi_X11_within (k_X11_within hr28) tw_349 tw_350 dX11_load_31 rfl rfl ⟨by decide, by decide⟩ (Nat.le_of_ble_eq_true rfl) ⟨by decide, by decide⟩ ?_
        refine g_if_eq (tgt := 53) hC dX11_load_34 (by decide) (fun hc31 => ?_) (fun hc31 => ?_)
        · rw [if_pos hc31] at h
          refine g_iconst (v := (0 : Int32)) hC dX11_load_53 (by decide) ?_
          refine g_istore (L' := [(6, .int (0 : Int32)), (0, .ref a0), (1, .int a1), (2, .int a2), (3, .int a3), (4, .int a4), (5, .int a5)]) hC dX11_load_54 (by decide) rfl ?_
          refine g_iload hC dX11_load_56 rfl ?_
          refine g_if_ne (tgt := 68) hC dX11_load_58 (by decide) (fun hc32 => ?_) (fun hc32 => ?_)
          · rw [if_neg hc32] at h
            cases h
          · rw [if_pos hc32] at h
            refine g_aload_n hC dX11_load_61 rfl ?_
            refine g_ldc hC tw_352 dX11_load_62 ?_
            obtain ⟨ho35, h⟩ := gd_some h
            obtain ⟨r36, S34, hr33, h⟩ := bd2_some h
            refine g_callV (rest := []) hC mi_X11_told (k_X11_told hr33) ck_X11.1 (by decide) ho35 tw_353 tw_355 ts_0 dX11_load_64 rfl rfl ⟨by decide, by decide⟩ (Nat.le_of_ble_eq_true rfl) ⟨by decide, by decide⟩ ?_
            cases h
            exact g_iret hC hR dX11_load_67 (by decide) (by decide)
        · rw [if_neg hc31] at h
          refine g_iload hC dX11_load_37 rfl ?_
          refine g_iconst (v := (0 : Int32)) hC dX11_load_39 (by decide) ?_
          refine g_sipush (v := (9999 : Int32)) hC dX11_load_40 (by decide) ?_
          obtain ⟨r39, S38, hr37, h⟩ := bd2_some h
          refine g_callS (rest := []) hC mi_X11_within (k_X11_within hr37) tw_349 tw_350 dX11_load_43 rfl rfl ⟨by decide, by decide⟩ (Nat.le_of_ble_eq_true rfl) ⟨by decide, by decide⟩ ?_
          refine g_if_eq (tgt := 53) hC dX11_load_46 (by decide) (fun hc40 => ?_) (fun hc40 => ?_)
          · rw [if_pos hc40] at h
            refine g_iconst (v := (0 : Int32)) hC dX11_load_53 (by decide) ?_
            refine g_istore (L' := [(6, .int (0 : Int32)), (0, .ref a0), (1, .int a1), (2, .int a2), (3, .int a3), (4, .int a4), (5, .int a5)]) hC dX11_load_54 (by decide) rfl ?_
            refine g_iload hC dX11_load_56 rfl ?_
            refine g_if_ne (tgt := 68) hC dX11_load_58 (by decide) (fun hc41 => ?_) (fun hc41 => ?_)
            · rw [if_neg hc41] at h
              cases h
            · rw [if_pos hc41] at h
              refine g_aload_n hC dX11_load_61 rfl ?_
              refine g_ldc hC tw_352 dX11_load_62 ?_
              obtain ⟨ho44, h⟩ := gd_some h
              obtain ⟨r45, S43, hr42, h⟩ := bd2_some h
              refine g_callV (rest := []) hC mi_X11_told (k_X11_told hr42) ck_X11.1 (by decide) ho44 tw_353 tw_355 ts_0 dX11_load_64 rfl rfl ⟨by decide, by decide⟩ (Nat.le_of_ble_eq_true rfl) ⟨by decide, by decide⟩ ?_
              cases h
              exact g_iret hC hR dX11_load_67 (by decide) (by decide)
          · rw [if_neg hc40] at h
            refine g_iconst (v := (1 : Int32)) hC dX11_load_49 (by decide) ?_
            refine g_goto (tgt := 54) hC dX11_load_50 (by decide) ?_
            refine g_istore (L' := [(6, .int (1 : Int32)), (0, .ref a0), (1, .int a1), (2, .int a2), (3, .int a3), (4, .int a4), (5, .int a5)]) hC dX11_load_54 (by decide) rfl ?_
            refine g_iload hC dX11_load_56 rfl ?_
            refine g_if_ne (tgt := 68) hC dX11_load_58 (by decide) (fun hc46 => ?_) (fun hc46 => ?_)
            · rw [if_neg hc46] at h
              refine g_iload_n hC dX11_load_68 rfl ?_
              refine g_bipush (v := (10 : Int32)) hC dX11_load_69 (by decide) ?_
              refine g_idiv hC dX11_load_71 (by decide) ?_
              refine g_iload_n hC dX11_load_72 rfl ?_
              refine g_bipush (v := (10 : Int32)) hC dX11_load_73 (by decide) ?_
              refine g_irm hC dX11_load_75 (by decide) ?_
              refine g_icmp_ne (tgt := 86) hC dX11_load_76 (by decide) (fun hc47 => ?_) (fun hc47 => ?_)
              · rw [if_neg hc47] at h
                refine g_bipush (v := (11 : Int32)) hC dX11_load_86 (by decide) ?_
                obtain ⟨hk48, h⟩ := gd_some h
                refine g_newi hC tw_53 dX11_load_88 (by decide) (by decide) hk48.1 hk48.2 (by decide) (by decide) ?_
                refine g_name (fun S49 eS50 => ?_)
                have h := ltS_use eS50 h
                refine g_dup hC dX11_load_90 rfl ?_
                refine g_iconst (v := (0 : Int32)) hC dX11_load_91 (by decide) ?_
                refine g_iload_n hC dX11_load_92 rfl ?_
                refine g_bipush (v := (10 : Int32)) hC dX11_load_93 (by decide) ?_
                refine g_idiv hC dX11_load_95 (by decide) ?_
                obtain ⟨hx51, h⟩ := gd_some h
                refine g_iast hC dX11_load_96 hx51.1 hx51.2 ?_
                refine g_name (fun S52 eS53 => ?_)
                have h := ltS_use eS53 h
                refine g_dup hC dX11_load_97 rfl ?_
                refine g_iconst (v := (1 : Int32)) hC dX11_load_98 (by decide) ?_
                refine g_iload_n hC dX11_load_99 rfl ?_
                refine g_bipush (v := (10 : Int32)) hC dX11_load_100 (by decide) ?_
                refine g_irm hC dX11_load_102 (by decide) ?_
                obtain ⟨hx54, h⟩ := gd_some h
                refine g_iast hC dX11_load_103 hx54.1 hx54.2 ?_
                refine g_name (fun S55 eS56 => ?_)
                have h := ltS_use eS56 h
                refine g_dup hC dX11_load_104 rfl ?_
                refine g_iconst (v := (2 : Int32)) hC dX11_load_105 (by decide) ?_
                refine g_iload_n hC dX11_load_106 rfl ?_
                obtain ⟨hx57, h⟩ := gd_some h
                refine g_iast hC dX11_load_107 hx57.1 hx57.2 ?_
                refine g_name (fun S58 eS59 => ?_)
                have h := ltS_use eS59 h
                refine g_dup hC dX11_load_108 rfl ?_
                refine g_iconst (v := (3 : Int32)) hC dX11_load_109 (by decide) ?_
                refine g_iload_n hC dX11_load_110 rfl ?_
                obtain ⟨hx60, h⟩ := gd_some h
                refine g_iast hC dX11_load_111 hx60.1 hx60.2 ?_
                refine g_name (fun S61 eS62 => ?_)
                have h := ltS_use eS62 h
                refine g_dup hC dX11_load_112 rfl ?_
                refine g_iconst (v := (4 : Int32)) hC dX11_load_113 (by decide) ?_
                refine g_iload hC dX11_load_114 rfl ?_
                obtain ⟨hx63, h⟩ := gd_some h
                refine g_iast hC dX11_load_116 hx63.1 hx63.2 ?_
                refine g_name (fun S64 eS65 => ?_)
                have h := ltS_use eS65 h
                refine g_dup hC dX11_load_117 rfl ?_
                refine g_iconst (v := (5 : Int32)) hC dX11_load_118 (by decide) ?_
                refine g_iload hC dX11_load_119 rfl ?_
                obtain ⟨hx66, h⟩ := gd_some h
                refine g_iast hC dX11_load_121 hx66.1 hx66.2 ?_
                refine g_name (fun S67 eS68 => ?_)
                have h := ltS_use eS68 h
                refine g_dup hC dX11_load_122 rfl ?_
                refine g_bipush (v := (6 : Int32)) hC dX11_load_123 (by decide) ?_
                refine g_iconst (v := (0 : Int32)) hC dX11_load_125 (by decide) ?_
                obtain ⟨hx69, h⟩ := gd_some h
                refine g_iast hC dX11_load_126 hx69.1 hx69.2 ?_
                refine g_name (fun S70 eS71 => ?_)
                have h := ltS_use eS71 h
                refine g_dup hC dX11_load_127 rfl ?_
                refine g_bipush (v := (7 : Int32)) hC dX11_load_128 (by decide) ?_
                refine g_sipush (v := (4000 : Int32)) hC dX11_load_130 (by decide) ?_
                obtain ⟨hx72, h⟩ := gd_some h
                refine g_iast hC dX11_load_133 hx72.1 hx72.2 ?_
                refine g_name (fun S73 eS74 => ?_)
                have h := ltS_use eS74 h
                refine g_dup hC dX11_load_134 rfl ?_
                refine g_bipush (v := (8 : Int32)) hC dX11_load_135 (by decide) ?_
                refine g_iconst (v := (0 : Int32)) hC dX11_load_137 (by decide) ?_
                obtain ⟨hx75, h⟩ := gd_some h
                refine g_iast hC dX11_load_138 hx75.1 hx75.2 ?_
                refine g_name (fun S76 eS77 => ?_)
                have h := ltS_use eS77 h
                refine g_dup hC dX11_load_139 rfl ?_
                refine g_bipush (v := (9 : Int32)) hC dX11_load_140 (by decide) ?_
                refine g_sipush (v := (4000 : Int32)) hC dX11_load_142 (by decide) ?_
                obtain ⟨hx78, h⟩ := gd_some h
                refine g_iast hC dX11_load_145 hx78.1 hx78.2 ?_
                refine g_name (fun S79 eS80 => ?_)
                have h := ltS_use eS80 h
                refine g_dup hC dX11_load_146 rfl ?_
                refine g_bipush (v := (10 : Int32)) hC dX11_load_147 (by decide) ?_
                refine g_iconst (v := (-1 : Int32)) hC dX11_load_149 (by decide) ?_
                obtain ⟨hx81, h⟩ := gd_some h
                refine g_iast hC dX11_load_150 hx81.1 hx81.2 ?_
                refine g_name (fun S82 eS83 => ?_)
                have h := ltS_use eS83 h
                refine g_astore (L' := [(7, .ref (wn S38)), (6, .int (1 : Int32)), (0, .ref a0), (1, .int a1), (2, .int a2), (3, .int a3), (4, .int a4), (5, .int a5)]) hC dX11_load_151 (by decide) rfl ?_
                refine g_aload_n hC dX11_load_153 rfl ?_
                refine g_aload_n hC dX11_load_154 rfl ?_
                obtain ⟨ho84, h⟩ := gd_some h
                obtain ⟨q85, hq86, h⟩ := Option.bind_eq_some_iff.mp h
                refine g_getr (k := 3) (q := q85) hC ck_X11 (by decide) tw_305 rfl (by decide) dX11_load_155 ho84 hq86 ?_
                refine g_aload hC dX11_load_158 rfl ?_
                obtain ⟨ho89, h⟩ := gd_some h
                obtain ⟨r90, S88, hr87, h⟩ := bd2_some h
                refine g_callV (rest := [.ref a0]) hC mi_X8_add (k_X8_add hr87) ck_X8.1 (by decide) ho89 tw_419 tw_420 tw_421 dX11_load_160 rfl rfl ⟨by decide, by decide⟩ (Nat.le_of_ble_eq_true rfl) ⟨by decide, by decide⟩ ?_
                obtain ⟨ho93, h⟩ := gd_some h
                obtain ⟨r94, S92, hr91, h⟩ := bd2_some h
                refine g_callV (rest := []) hC mi_X11_told (k_X11_told hr91) ck_X11.1 (by decide) ho93 tw_353 tw_355 ts_0 dX11_load_163 rfl rfl ⟨by decide, by decide⟩ (Nat.le_of_ble_eq_true rfl) ⟨by decide, by decide⟩ ?_
                cases h
                exact g_iret hC hR dX11_load_166 (by decide) (by decide)
              · rw [if_pos hc47] at h
                refine g_aload_n hC dX11_load_79 rfl ?_
                refine g_ldc hC tw_462 dX11_load_80 ?_
                obtain ⟨ho97, h⟩ := gd_some h
                obtain ⟨r98, S96, hr95, h⟩ := bd2_some h
                refine g_callV (rest := []) hC mi_X11_told (k_X11_told hr95) ck_X11.1 (by decide) ho97 tw_353 tw_355 ts_0 dX11_load_82 rfl rfl ⟨by decide, by decide⟩ (Nat.le_of_ble_eq_true rfl) ⟨by decide, by decide⟩ ?_
                cases h
                exact g_iret hC hR dX11_load_85 (by decide) (by decide)
            · rw [if_pos hc46] at h
              cases h

theorem mi_X8_setPair : MI yX8_setPair cX8_setPair 6 none 4 := ⟨tw_470, tw_4, by decide +kernel, by decide +kernel, by decide +kernel⟩
noncomputable def f_X8_setPair (S : Wd) (a0 : Nat) (a1 : Int32) (a2 : Int32) (a3 : Int32) (a4 : Int32) : Option (Wd) := gd (ob S a0 8) (bd2 (f_X8_isCell S a0 a1 a2) (fun r4 S2 => if r4 = 0 then (some S2) else (gd (ob S2 a0 8) (bd2 (f_X8_isCell S2 a0 a1 (a2 + (1 : Int32))) (fun r9 S7 => if r9 = 0 then (some S7) else (gd (ob S7 a0 8) (gd (ob S7 a0 8) (Option.bind (wO S7 a0 0) (fun q13 => gd (ob S7 a0 8) (Option.bind (wO S7 a0 3) (fun q16 => gd (ob S7 q13 3) (Option.bind (f_X3_keep S7 q13 q16 (((1 : Int32) + (a1 * (wI S7 a0 1))) + a2) (2 : Int32)) (fun S19 => gd (ob S19 a0 8) (Option.bind (wO S19 a0 3) (fun q22 => gd (ix S19 q22 100 (((1 : Int32) + (a1 * (wI S7 a0 1))) + a2)) (ltS (sI S19 q22 (((1 : Int32) + (a1 * (wI S7 a0 1))) + a2).toNatClampNeg a3) (fun S25 => gd (ob S25 a0 8) (Option.bind (wO S25 a0 3) (fun q28 => gd (ix S25 q28 100 ((((1 : Int32) + (a1 * (wI S7 a0 1))) + a2) + (1 : Int32))) (ltS (sI S25 q28 ((((1 : Int32) + (a1 * (wI S7 a0 1))) + a2) + (1 : Int32)).toNatClampNeg a4) (fun S31 => some S31)))))))))))))))))))))
set_option maxRecDepth 100000 in
set_option maxHeartbeats 4000000 in
theorem k_X8_setPair {S : Wd} {a0 : Nat} {a1 : Int32} {a2 : Int32} {a3 : Int32} {a4 : Int32} {S' : Wd} (h : f_X8_setPair S a0 a1 a2 a3 a4 = some S') : Sp yX8_setPair cX8_setPair 6 none 4 99 1 200 [.ref a0, .int a1, .int a2, .int a3, .int a4] S none S' := by
  unfold f_X8_setPair at h
  refine Sp.of (by decide +kernel) (Nat.le_of_ble_eq_true rfl) ?_
  intro b hC hin hR
  show G b 0 [(0, .ref a0), (1, .int a1), (2, .int a2), (3, .int a3), (4, .int a4)] [] S 0 0
  refine g_aload_n hC dX8_setPair_0 rfl ?_
  refine g_iload_n hC dX8_setPair_1 rfl ?_
  refine g_iload_n hC dX8_setPair_2 rfl ?_
  obtain ⟨ho3, h⟩ := gd_some h
  obtain ⟨r4, S2, hr1, h⟩ := bd2_some h
  refine g_callV (rest := []) hC mi_X8_isCell (k_X8_isCell hr1) ck_X8.1 (by decide) ho3 tw_438 tw_440 ts_2 dX8_setPair_3 rfl rfl ⟨by decide, by decide⟩ (Nat.le_of_ble_eq_true rfl) ⟨by decide, by decide⟩ ?_
  refine g_if_eq (tgt := 65) hC dX8_setPair_6 (by decide) (fun hc5 => ?_) (fun hc5 => ?_)
  · rw [if_pos hc5] at h
    cases h
    exact g_vret hC hR dX8_setPair_65 (by decide) (by decide)
  · rw [if_neg hc5] at h
    refine g_aload_n hC dX8_setPair_9 rfl ?_
    refine g_iload_n hC dX8_setPair_10 rfl ?_
    refine g_iload_n hC dX8_setPair_11 rfl ?_
    refine g_iconst (v := (1 : Int32)) hC dX8_setPair_12 (by decide) ?_
    refine g_iadd hC dX8_setPair_13 ?_
    obtain ⟨ho8, h⟩ := gd_some h
    obtain ⟨r9, S7, hr6, h⟩ := bd2_some h
    refine g_callV (rest := []) hC mi_X8_isCell (k_X8_isCell hr6) ck_X8.1 (by decide) ho8 tw_438 tw_440 ts_2 dX8_setPair_14 rfl rfl ⟨by decide, by decide⟩ (Nat.le_of_ble_eq_true rfl) ⟨by decide, by decide⟩ ?_
    refine g_if_eq (tgt := 65) hC dX8_setPair_17 (by decide) (fun hc10 => ?_) (fun hc10 => ?_)
    · rw [if_pos hc10] at h
      cases h
      exact g_vret hC hR dX8_setPair_65 (by decide) (by decide)
    · rw [if_neg hc10] at h
      refine g_iconst (v := (1 : Int32)) hC dX8_setPair_20 (by decide) ?_
      refine g_iload_n hC dX8_setPair_21 rfl ?_
      refine g_aload_n hC dX8_setPair_22 rfl ?_
      obtain ⟨ho11, h⟩ := gd_some h
      refine g_geti (k := 1) hC ck_X8 (by decide) tw_83 rfl (by decide) dX8_setPair_23 ho11 ?_
      refine g_imul hC dX8_setPair_26 ?_
      refine g_iadd hC dX8_setPair_27 ?_
      refine g_iload_n hC dX8_setPair_28 rfl ?_
      refine g_iadd hC dX8_setPair_29 ?_
      refine g_istore (L' := [(5, .int (((1 : Int32) + (a1 * (wI S7 a0 1))) + a2)), (0, .ref a0), (1, .int a1), (2, .int a2), (3, .int a3), (4, .int a4)]) hC dX8_setPair_30 (by decide) rfl ?_
      refine g_aload_n hC dX8_setPair_32 rfl ?_
      obtain ⟨ho12, h⟩ := gd_some h
      obtain ⟨q13, hq14, h⟩ := Option.bind_eq_some_iff.mp h
      refine g_getr (k := 0) (q := q13) hC ck_X8 (by decide) tw_82 rfl (by decide) dX8_setPair_33 ho12 hq14 ?_
      refine g_aload_n hC dX8_setPair_36 rfl ?_
      obtain ⟨ho15, h⟩ := gd_some h
      obtain ⟨q16, hq17, h⟩ := Option.bind_eq_some_iff.mp h
      refine g_getr (k := 3) (q := q16) hC ck_X8 (by decide) tw_85 rfl (by decide) dX8_setPair_37 ho15 hq17 ?_
      refine g_iload hC dX8_setPair_40 rfl ?_
      refine g_iconst (v := (2 : Int32)) hC dX8_setPair_42 (by decide) ?_
      obtain ⟨ho20, h⟩ := gd_some h
      obtain ⟨S19, hr18, h⟩ := Option.bind_eq_some_iff.mp h
      refine g_callV (rest := []) hC mi_X3_keep (k_X3_keep hr18) ck_X3.1 (by decide) ho20 tw_424 tw_368 tw_369 dX8_setPair_43 rfl rfl ⟨by decide, by decide⟩ (Nat.le_of_ble_eq_true rfl) ⟨by decide, by decide⟩ ?_
      refine g_aload_n hC dX8_setPair_46 rfl ?_
      obtain ⟨ho21, h⟩ := gd_some h
      obtain ⟨q22, hq23, h⟩ := Option.bind_eq_some_iff.mp h
      refine g_getr (k := 3) (q := q22) hC ck_X8 (by decide) tw_85 rfl (by decide) dX8_setPair_47 ho21 hq23 ?_
      refine g_iload hC dX8_setPair_50 rfl ?_
      refine g_iload_n hC dX8_setPair_52 rfl ?_
      obtain ⟨hx24, h⟩ := gd_some h
      refine g_iast hC dX8_setPair_53 hx24.1 hx24.2 ?_
      refine g_name (fun S25 eS26 => ?_)
      have h := ltS_use eS26 h
      refine g_aload_n hC dX8_setPair_54 rfl ?_
      obtain ⟨ho27, h⟩ := gd_some h
      obtain ⟨q28, hq29, h⟩ := Option.bind_eq_some_iff.mp h
      refine g_getr (k := 3) (q := q28) hC ck_X8 (by decide) tw_85 rfl (by decide) dX8_setPair_55 ho27 hq29 ?_
      refine g_iload hC dX8_setPair_58 rfl ?_
      refine g_iconst (v := (1 : Int32)) hC dX8_setPair_60 (by decide) ?_
      refine g_iadd hC dX8_setPair_61 ?_
      refine g_iload hC dX8_setPair_62 rfl ?_
      obtain ⟨hx30, h⟩ := gd_some h
      refine g_iast hC dX8_setPair_64 hx30.1 hx30.2 ?_
      refine g_name (fun S31 eS32 => ?_)
      have h := ltS_use eS32 h
      cases h
      exact g_vret hC hR dX8_setPair_65 (by decide) (by decide)

theorem mi_X11_window : MI yX11_window cX11_window 5 (some .int) 4 := ⟨tw_466, tw_1, by decide +kernel, by decide +kernel, by decide +kernel⟩
noncomputable def f_X11_window (S : Wd) (a0 : Nat) (a1 : Int32) (a2 : Int32) (a3 : Int32) (a4 : Int32) : Option (Int32 × Wd) := gd (ob S a0 11) (Option.bind (wO S a0 3) (fun q2 => gd (ob S q2 8) (bd2 (f_X8_has S q2 a1) (fun r7 S5 => if r7 = 0 then (gd (ob S5 a0 11) (bd2 (f_X11_told S5 a0 (-100001 : Int32)) (fun r12 S10 => some (r12, S10)))) else (bd2 (f_X11_within S5 a3 (0 : Int32) (4000 : Int32)) (fun r15 S14 => if r15 = 0 then (gd (ob S14 a0 11) (bd2 (f_X11_told S14 a0 (-100001 : Int32)) (fun r20 S18 => some (r20, S18)))) else (bd2 (f_X11_within S14 a4 (0 : Int32) (4000 : Int32)) (fun r23 S22 => if r23 = 0 then (gd (ob S22 a0 11) (bd2 (f_X11_told S22 a0 (-100001 : Int32)) (fun r43 S41 => some (r43, S41)))) else (if a3 ≤ a4 then (gd (ob S22 a0 11) (Option.bind (wO S22 a0 3) (fun q27 => if a2 = 0 then (gd (ob S22 q27 8) (Option.bind (f_X8_setPair S22 q27 a1 (6 : Int32) a3 a4) (fun S31 => some ((1 : Int32), S31)))) else (gd (ob S22 q27 8) (Option.bind (f_X8_setPair S22 q27 a1 (8 : Int32) a3 a4) (fun S34 => some ((1 : Int32), S34))))))) else (gd (ob S22 a0 11) (bd2 (f_X11_told S22 a0 (-100003 : Int32)) (fun r39 S37 => some (r39, S37)))))))))))))
set_option maxRecDepth 100000 in
set_option maxHeartbeats 4000000 in
theorem k_X11_window {S : Wd} {a0 : Nat} {a1 : Int32} {a2 : Int32} {a3 : Int32} {a4 : Int32} {r : Int32} {S' : Wd} (h : f_X11_window S a0 a1 a2 a3 a4 = some (r, S')) : Sp yX11_window cX11_window 5 (some .int) 5 124 1 200 [.ref a0, .int a1, .int a2, .int a3, .int a4] S (some (.int r)) S' := by
  unfold f_X11_window at h
  refine Sp.of (by decide +kernel) (Nat.le_of_ble_eq_true rfl) ?_
  intro b hC hin hR
  show G b 0 [(0, .ref a0), (1, .int a1), (2, .int a2), (3, .int a3), (4, .int a4)] [] S 0 0
  refine g_aload_n hC dX11_window_0 rfl ?_
  obtain ⟨ho1, h⟩ := gd_some h
  obtain ⟨q2, hq3, h⟩ := Option.bind_eq_some_iff.mp h
  refine g_getr (k := 3) (q := q2) hC ck_X11 (by decide) tw_305 rfl (by decide) dX11_window_1 ho1 hq3 ?_
  refine g_iload_n hC dX11_window_4 rfl ?_
  obtain ⟨ho6, h⟩ := gd_some h
  obtain ⟨r7, S5, hr4, h⟩ := bd2_some h
  refine g_callV (rest := []) hC mi_X8_has (k_X8_has hr4) ck_X8.1 (by decide) ho6 tw_430 tw_431 tw_432 dX11_window_5 rfl rfl ⟨by decide, by decide⟩ (Nat.le_of_ble_eq_true rfl) ⟨by decide, by decide⟩ ?_
  refine g_if_eq (tgt := 34) hC dX11_window_8 (by decide) (fun hc8 => ?_) (fun hc8 => ?_)
  · rw [if_pos hc8] at h
    refine g_aload_n hC dX11_window_34 rfl ?_
    refine g_ldc hC tw_352 dX11_window_35 ?_
    obtain ⟨ho11, h⟩ := gd_some h
    obtain ⟨r12, S10, hr9, h⟩ := bd2_some h
    refine g_callV (rest := []) hC mi_X11_told (k_X11_told hr9) ck_X11.1 (by decide) ho11 tw_353 tw_355 ts_0 dX11_window_37 rfl rfl ⟨by decide, by decide⟩ (Nat.le_of_ble_eq_true rfl) ⟨by decide, by decide⟩ ?_
    cases h
    exact g_iret hC hR dX11_window_40 (by decide) (by decide)
  · rw [if_neg hc8] at h
    refine g_iload_n hC dX11_window_11 rfl ?_
    refine g_iconst (v := (0 : Int32)) hC dX11_window_12 (by decide) ?_
    refine g_sipush (v := (4000 : Int32)) hC dX11_window_13 (by decide) ?_
    obtain ⟨r15, S14, hr13, h⟩ := bd2_some h
    refine g_callS (rest := []) hC mi_X11_within (k_X11_within hr13) tw_349 tw_350 dX11_window_16 rfl rfl ⟨by decide, by decide⟩ (Nat.le_of_ble_eq_true rfl) ⟨by decide, by decide⟩ ?_
    refine g_if_eq (tgt := 34) hC dX11_window_19 (by decide) (fun hc16 => ?_) (fun hc16 => ?_)
    · rw [if_pos hc16] at h
      refine g_aload_n hC dX11_window_34 rfl ?_
      refine g_ldc hC tw_352 dX11_window_35 ?_
      obtain ⟨ho19, h⟩ := gd_some h
      obtain ⟨r20, S18, hr17, h⟩ := bd2_some h
      refine g_callV (rest := []) hC mi_X11_told (k_X11_told hr17) ck_X11.1 (by decide) ho19 tw_353 tw_355 ts_0 dX11_window_37 rfl rfl ⟨by decide, by decide⟩ (Nat.le_of_ble_eq_true rfl) ⟨by decide, by decide⟩ ?_
      cases h
      exact g_iret hC hR dX11_window_40 (by decide) (by decide)
    · rw [if_neg hc16] at h
      refine g_iload hC dX11_window_22 rfl ?_
      refine g_iconst (v := (0 : Int32)) hC dX11_window_24 (by decide) ?_
      refine g_sipush (v := (4000 : Int32)) hC dX11_window_25 (by decide) ?_
      obtain ⟨r23, S22, hr21, h⟩ := bd2_some h
      refine g_callS (rest := []) hC mi_X11_within (k_X11_within hr21) tw_349 tw_350 dX11_window_28 rfl rfl ⟨by decide, by decide⟩ (Nat.le_of_ble_eq_true rfl) ⟨by decide, by decide⟩ ?_
      refine g_if_ne (tgt := 41) hC dX11_window_31 (by decide) (fun hc24 => ?_) (fun hc24 => ?_)
      · rw [if_neg hc24] at h
        refine g_iload_n hC dX11_window_41 rfl ?_
        refine g_iload hC dX11_window_42 rfl ?_
        refine g_icmp_le (tgt := 54) hC dX11_window_44 (by decide) (fun hc25 => ?_) (fun hc25 => ?_)
        · rw [if_pos hc25] at h
          refine g_aload_n hC dX11_window_54 rfl ?_
          obtain ⟨ho26, h⟩ := gd_some h
          obtain ⟨q27, hq28, h⟩ := Option.bind_eq_some_iff.mp h
          refine g_getr (k := 3) (q := q27) hC ck_X11 (by decide) tw_305 rfl (by decide) dX11_window_55 ho26 hq28 ?_
          refine g_iload_n hC dX11_window_58 rfl ?_
          refine g_iload_n hC dX11_window_59 rfl ?_
          refine g_if_eq (tgt := 68) hC dX11_window_60 (by decide) (fun hc29 => ?_) (fun hc29 => ?_)
          · rw [if_pos hc29] at h
            refine g_bipush (v := (6 : Int32)) hC dX11_window_68 (by decide) ?_
            refine g_iload_n hC dX11_window_70 rfl ?_
            refine g_iload hC dX11_window_71 rfl ?_
            obtain ⟨ho32, h⟩ := gd_some h
            obtain ⟨S31, hr30, h⟩ := Option.bind_eq_some_iff.mp h
            refine g_callV (rest := []) hC mi_X8_setPair (k_X8_setPair hr30) ck_X8.1 (by decide) ho32 tw_467 tw_468 tw_469 dX11_window_73 rfl rfl ⟨by decide, by decide⟩ (Nat.le_of_ble_eq_true rfl) ⟨by decide, by decide⟩ ?_
            refine g_iconst (v := (1 : Int32)) hC dX11_window_76 (by decide) ?_
            cases h
            exact g_iret hC hR dX11_window_77 (by decide) (by decide)
          · rw [if_neg hc29] at h
            refine g_bipush (v := (8 : Int32)) hC dX11_window_63 (by decide) ?_
            refine g_goto (tgt := 70) hC dX11_window_65 (by decide) ?_
            refine g_iload_n hC dX11_window_70 rfl ?_
            refine g_iload hC dX11_window_71 rfl ?_
            obtain ⟨ho35, h⟩ := gd_some h
            obtain ⟨S34, hr33, h⟩ := Option.bind_eq_some_iff.mp h
            refine g_callV (rest := []) hC mi_X8_setPair (k_X8_setPair hr33) ck_X8.1 (by decide) ho35 tw_467 tw_468 tw_469 dX11_window_73 rfl rfl ⟨by decide, by decide⟩ (Nat.le_of_ble_eq_true rfl) ⟨by decide, by decide⟩ ?_
            refine g_iconst (v := (1 : Int32)) hC dX11_window_76 (by decide) ?_
            cases h
            exact g_iret hC hR dX11_window_77 (by decide) (by decide)
        · rw [if_neg hc25] at h
          refine g_aload_n hC dX11_window_47 rfl ?_
          refine g_ldc hC tw_462 dX11_window_48 ?_
          obtain ⟨ho38, h⟩ := gd_some h
          obtain ⟨r39, S37, hr36, h⟩ := bd2_some h
          refine g_callV (rest := []) hC mi_X11_told (k_X11_told hr36) ck_X11.1 (by decide) ho38 tw_353 tw_355 ts_0 dX11_window_50 rfl rfl ⟨by decide, by decide⟩ (Nat.le_of_ble_eq_true rfl) ⟨by decide, by decide⟩ ?_
          cases h
          exact g_iret hC hR dX11_window_53 (by decide) (by decide)
      · rw [if_pos hc24] at h
        refine g_aload_n hC dX11_window_34 rfl ?_
        refine g_ldc hC tw_352 dX11_window_35 ?_
        obtain ⟨ho42, h⟩ := gd_some h
        obtain ⟨r43, S41, hr40, h⟩ := bd2_some h
        refine g_callV (rest := []) hC mi_X11_told (k_X11_told hr40) ck_X11.1 (by decide) ho42 tw_353 tw_355 ts_0 dX11_window_37 rfl rfl ⟨by decide, by decide⟩ (Nat.le_of_ble_eq_true rfl) ⟨by decide, by decide⟩ ?_
        cases h
        exact g_iret hC hR dX11_window_40 (by decide) (by decide)

theorem mi_X11_loadIs : MI yX11_loadIs cX11_loadIs 3 (some .int) 2 := ⟨tw_474, tw_1, by decide +kernel, by decide +kernel, by decide +kernel⟩
noncomputable def f_X11_loadIs (S : Wd) (a0 : Nat) (a1 : Int32) (a2 : Int32) : Option (Int32 × Wd) := gd (ob S a0 11) (Option.bind (wO S a0 3) (fun q2 => gd (ob S q2 8) (bd2 (f_X8_has S q2 a1) (fun r7 S5 => if r7 = 0 then (gd (ob S5 a0 11) (bd2 (f_X11_told S5 a0 (-100001 : Int32)) (fun r12 S10 => some (r12, S10)))) else (bd2 (f_X11_within S5 a2 (0 : Int32) (10 : Int32)) (fun r15 S14 => if r15 = 0 then (gd (ob S14 a0 11) (bd2 (f_X11_told S14 a0 (-100001 : Int32)) (fun r27 S25 => some (r27, S25)))) else (gd (ob S14 a0 11) (Option.bind (wO S14 a0 3) (fun q18 => gd (ob S14 q18 8) (bd2 (f_X8_at S14 q18 a1 a2) (fun r23 S21 => some (r23, S21))))))))))))
set_option maxRecDepth 100000 in
set_option maxHeartbeats 4000000 in
theorem k_X11_loadIs {S : Wd} {a0 : Nat} {a1 : Int32} {a2 : Int32} {r : Int32} {S' : Wd} (h : f_X11_loadIs S a0 a1 a2 = some (r, S')) : Sp yX11_loadIs cX11_loadIs 3 (some .int) 2 44 0 0 [.ref a0, .int a1, .int a2] S (some (.int r)) S' := by
  unfold f_X11_loadIs at h
  refine Sp.of (by decide +kernel) (Nat.le_of_ble_eq_true rfl) ?_
  intro b hC hin hR
  show G b 0 [(0, .ref a0), (1, .int a1), (2, .int a2)] [] S 0 0
  refine g_aload_n hC dX11_loadIs_0 rfl ?_
  obtain ⟨ho1, h⟩ := gd_some h
  obtain ⟨q2, hq3, h⟩ := Option.bind_eq_some_iff.mp h
  refine g_getr (k := 3) (q := q2) hC ck_X11 (by decide) tw_305 rfl (by decide) dX11_loadIs_1 ho1 hq3 ?_
  refine g_iload_n hC dX11_loadIs_4 rfl ?_
  obtain ⟨ho6, h⟩ := gd_some h
  obtain ⟨r7, S5, hr4, h⟩ := bd2_some h
  refine g_callV (rest := []) hC mi_X8_has (k_X8_has hr4) ck_X8.1 (by decide) ho6 tw_430 tw_431 tw_432 dX11_loadIs_5 rfl rfl ⟨by decide, by decide⟩ (Nat.le_of_ble_eq_true rfl) ⟨by decide, by decide⟩ ?_
  refine g_if_eq (tgt := 21) hC dX11_loadIs_8 (by decide) (fun hc8 => ?_) (fun hc8 => ?_)
  · rw [if_pos hc8] at h
    refine g_aload_n hC dX11_loadIs_21 rfl ?_
    refine g_ldc hC tw_352 dX11_loadIs_22 ?_
    obtain ⟨ho11, h⟩ := gd_some h
    obtain ⟨r12, S10, hr9, h⟩ := bd2_some h
    refine g_callV (rest := []) hC mi_X11_told (k_X11_told hr9) ck_X11.1 (by decide) ho11 tw_353 tw_355 ts_0 dX11_loadIs_24 rfl rfl ⟨by decide, by decide⟩ (Nat.le_of_ble_eq_true rfl) ⟨by decide, by decide⟩ ?_
    cases h
    exact g_iret hC hR dX11_loadIs_27 (by decide) (by decide)
  · rw [if_neg hc8] at h
    refine g_iload_n hC dX11_loadIs_11 rfl ?_
    refine g_iconst (v := (0 : Int32)) hC dX11_loadIs_12 (by decide) ?_
    refine g_bipush (v := (10 : Int32)) hC dX11_loadIs_13 (by decide) ?_
    obtain ⟨r15, S14, hr13, h⟩ := bd2_some h
    refine g_callS (rest := []) hC mi_X11_within (k_X11_within hr13) tw_349 tw_350 dX11_loadIs_15 rfl rfl ⟨by decide, by decide⟩ (Nat.le_of_ble_eq_true rfl) ⟨by decide, by decide⟩ ?_
    refine g_if_ne (tgt := 28) hC dX11_loadIs_18 (by decide) (fun hc16 => ?_) (fun hc16 => ?_)
    · rw [if_neg hc16] at h
      refine g_aload_n hC dX11_loadIs_28 rfl ?_
      obtain ⟨ho17, h⟩ := gd_some h
      obtain ⟨q18, hq19, h⟩ := Option.bind_eq_some_iff.mp h
      refine g_getr (k := 3) (q := q18) hC ck_X11 (by decide) tw_305 rfl (by decide) dX11_loadIs_29 ho17 hq19 ?_
      refine g_iload_n hC dX11_loadIs_32 rfl ?_
      refine g_iload_n hC dX11_loadIs_33 rfl ?_
      obtain ⟨ho22, h⟩ := gd_some h
      obtain ⟨r23, S21, hr20, h⟩ := bd2_some h
      refine g_callV (rest := []) hC mi_X8_at (k_X8_at hr20) ck_X8.1 (by decide) ho22 tw_434 tw_435 tw_436 dX11_loadIs_34 rfl rfl ⟨by decide, by decide⟩ (Nat.le_of_ble_eq_true rfl) ⟨by decide, by decide⟩ ?_
      cases h
      exact g_iret hC hR dX11_loadIs_37 (by decide) (by decide)
    · rw [if_pos hc16] at h
      refine g_aload_n hC dX11_loadIs_21 rfl ?_
      refine g_ldc hC tw_352 dX11_loadIs_22 ?_
      obtain ⟨ho26, h⟩ := gd_some h
      obtain ⟨r27, S25, hr24, h⟩ := bd2_some h
      refine g_callV (rest := []) hC mi_X11_told (k_X11_told hr24) ck_X11.1 (by decide) ho26 tw_353 tw_355 ts_0 dX11_loadIs_24 rfl rfl ⟨by decide, by decide⟩ (Nat.le_of_ble_eq_true rfl) ⟨by decide, by decide⟩ ?_
      cases h
      exact g_iret hC hR dX11_loadIs_27 (by decide) (by decide)

theorem mi_X8_set : MI yX8_set cX8_set 5 (some .int) 3 := ⟨tw_482, tw_4, by decide +kernel, by decide +kernel, by decide +kernel⟩
noncomputable def f_X8_set (S : Wd) (a0 : Nat) (a1 : Int32) (a2 : Int32) (a3 : Int32) : Option (Int32 × Wd) := gd (ob S a0 8) (bd2 (f_X8_at S a0 a1 a2) (fun r4 S2 => gd (ob S2 a0 8) (bd2 (f_X8_isCell S2 a0 a1 a2) (fun r8 S6 => if r8 = 0 then (some (r4, S6)) else (gd (ob S6 a0 8) (Option.bind (wO S6 a0 0) (fun q11 => gd (ob S6 a0 8) (Option.bind (wO S6 a0 3) (fun q14 => gd (ob S6 a0 8) (gd (ob S6 q11 3) (Option.bind (f_X3_keep S6 q11 q14 (((1 : Int32) + (a1 * (wI S6 a0 1))) + a2) (1 : Int32)) (fun S18 => gd (ob S18 a0 8) (Option.bind (wO S18 a0 3) (fun q21 => gd (ob S18 a0 8) (gd (ix S18 q21 100 (((1 : Int32) + (a1 * (wI S18 a0 1))) + a2)) (ltS (sI S18 q21 (((1 : Int32) + (a1 * (wI S18 a0 1))) + a2).toNatClampNeg a3) (fun S25 => some (r4, S25))))))))))))))))))
set_option maxRecDepth 100000 in
set_option maxHeartbeats 4000000 in
theorem k_X8_set {S : Wd} {a0 : Nat} {a1 : Int32} {a2 : Int32} {a3 : Int32} {r : Int32} {S' : Wd} (h : f_X8_set S a0 a1 a2 a3 = some (r, S')) : Sp yX8_set cX8_set 5 (some .int) 4 99 1 200 [.ref a0, .int a1, .int a2, .int a3] S (some (.int r)) S' := by
  unfold f_X8_set at h
  refine Sp.of (by decide +kernel) (Nat.le_of_ble_eq_true rfl) ?_
  intro b hC hin hR
  show G b 0 [(0, .ref a0), (1, .int a1), (2, .int a2), (3, .int a3)] [] S 0 0
  refine g_aload_n hC dX8_set_0 rfl ?_
  refine g_iload_n hC dX8_set_1 rfl ?_
  refine g_iload_n hC dX8_set_2 rfl ?_
  obtain ⟨ho3, h⟩ := gd_some h
  obtain ⟨r4, S2, hr1, h⟩ := bd2_some h
  refine g_callV (rest := []) hC mi_X8_at (k_X8_at hr1) ck_X8.1 (by decide) ho3 tw_483 tw_435 tw_436 dX8_set_3 rfl rfl ⟨by decide, by decide⟩ (Nat.le_of_ble_eq_true rfl) ⟨by decide, by decide⟩ ?_
  refine g_istore (L' := [(4, .int r4), (0, .ref a0), (1, .int a1), (2, .int a2), (3, .int a3)]) hC dX8_set_6 (by decide) rfl ?_
  refine g_aload_n hC dX8_set_8 rfl ?_
  refine g_iload_n hC dX8_set_9 rfl ?_
  refine g_iload_n hC dX8_set_10 rfl ?_
  obtain ⟨ho7, h⟩ := gd_some h
  obtain ⟨r8, S6, hr5, h⟩ := bd2_some h
  refine g_callV (rest := []) hC mi_X8_isCell (k_X8_isCell hr5) ck_X8.1 (by decide) ho7 tw_438 tw_440 ts_2 dX8_set_11 rfl rfl ⟨by decide, by decide⟩ (Nat.le_of_ble_eq_true rfl) ⟨by decide, by decide⟩ ?_
  refine g_if_eq (tgt := 55) hC dX8_set_14 (by decide) (fun hc9 => ?_) (fun hc9 => ?_)
  · rw [if_pos hc9] at h
    refine g_iload hC dX8_set_55 rfl ?_
    cases h
    exact g_iret hC hR dX8_set_57 (by decide) (by decide)
  · rw [if_neg hc9] at h
    refine g_aload_n hC dX8_set_17 rfl ?_
    obtain ⟨ho10, h⟩ := gd_some h
    obtain ⟨q11, hq12, h⟩ := Option.bind_eq_some_iff.mp h
    refine g_getr (k := 0) (q := q11) hC ck_X8 (by decide) tw_82 rfl (by decide) dX8_set_18 ho10 hq12 ?_
    refine g_aload_n hC dX8_set_21 rfl ?_
    obtain ⟨ho13, h⟩ := gd_some h
    obtain ⟨q14, hq15, h⟩ := Option.bind_eq_some_iff.mp h
    refine g_getr (k := 3) (q := q14) hC ck_X8 (by decide) tw_85 rfl (by decide) dX8_set_22 ho13 hq15 ?_
    refine g_iconst (v := (1 : Int32)) hC dX8_set_25 (by decide) ?_
    refine g_iload_n hC dX8_set_26 rfl ?_
    refine g_aload_n hC dX8_set_27 rfl ?_
    obtain ⟨ho16, h⟩ := gd_some h
    refine g_geti (k := 1) hC ck_X8 (by decide) tw_83 rfl (by decide) dX8_set_28 ho16 ?_
    refine g_imul hC dX8_set_31 ?_
    refine g_iadd hC dX8_set_32 ?_
    refine g_iload_n hC dX8_set_33 rfl ?_
    refine g_iadd hC dX8_set_34 ?_
    refine g_iconst (v := (1 : Int32)) hC dX8_set_35 (by decide) ?_
    obtain ⟨ho19, h⟩ := gd_some h
    obtain ⟨S18, hr17, h⟩ := Option.bind_eq_some_iff.mp h
    refine g_callV (rest := []) hC mi_X3_keep (k_X3_keep hr17) ck_X3.1 (by decide) ho19 tw_424 tw_368 tw_369 dX8_set_36 rfl rfl ⟨by decide, by decide⟩ (Nat.le_of_ble_eq_true rfl) ⟨by decide, by decide⟩ ?_
    refine g_aload_n hC dX8_set_39 rfl ?_
    obtain ⟨ho20, h⟩ := gd_some h
    obtain ⟨q21, hq22, h⟩ := Option.bind_eq_some_iff.mp h
    refine g_getr (k := 3) (q := q21) hC ck_X8 (by decide) tw_85 rfl (by decide) dX8_set_40 ho20 hq22 ?_
    refine g_iconst (v := (1 : Int32)) hC dX8_set_43 (by decide) ?_
    refine g_iload_n hC dX8_set_44 rfl ?_
    refine g_aload_n hC dX8_set_45 rfl ?_
    obtain ⟨ho23, h⟩ := gd_some h
    refine g_geti (k := 1) hC ck_X8 (by decide) tw_83 rfl (by decide) dX8_set_46 ho23 ?_
    refine g_imul hC dX8_set_49 ?_
    refine g_iadd hC dX8_set_50 ?_
    refine g_iload_n hC dX8_set_51 rfl ?_
    refine g_iadd hC dX8_set_52 ?_
    refine g_iload_n hC dX8_set_53 rfl ?_
    obtain ⟨hx24, h⟩ := gd_some h
    refine g_iast hC dX8_set_54 hx24.1 hx24.2 ?_
    refine g_name (fun S25 eS26 => ?_)
    have h := ltS_use eS26 h
    refine g_iload hC dX8_set_55 rfl ?_
    cases h
    exact g_iret hC hR dX8_set_57 (by decide) (by decide)

theorem mi_X11_pay : MI yX11_pay cX11_pay 3 (some .int) 2 := ⟨tw_478, tw_1, by decide +kernel, by decide +kernel, by decide +kernel⟩
noncomputable def f_X11_pay (S : Wd) (a0 : Nat) (a1 : Int32) (a2 : Int32) : Option (Int32 × Wd) := gd (ob S a0 11) (Option.bind (wO S a0 3) (fun q2 => gd (ob S q2 8) (bd2 (f_X8_has S q2 a1) (fun r7 S5 => if r7 = 0 then (gd (ob S5 a0 11) (bd2 (f_X11_told S5 a0 (-100001 : Int32)) (fun r12 S10 => some (r12, S10)))) else (bd2 (f_X11_within S5 a2 (0 : Int32) (9999 : Int32)) (fun r15 S14 => if r15 = 0 then (gd (ob S14 a0 11) (bd2 (f_X11_told S14 a0 (-100001 : Int32)) (fun r27 S25 => some (r27, S25)))) else (gd (ob S14 a0 11) (Option.bind (wO S14 a0 3) (fun q18 => gd (ob S14 q18 8) (bd2 (f_X8_set S14 q18 a1 (5 : Int32) a2) (fun r23 S21 => some (r23, S21))))))))))))
set_option maxRecDepth 100000 in
set_option maxHeartbeats 4000000 in
theorem k_X11_pay {S : Wd} {a0 : Nat} {a1 : Int32} {a2 : Int32} {r : Int32} {S' : Wd} (h : f_X11_pay S a0 a1 a2 = some (r, S')) : Sp yX11_pay cX11_pay 3 (some .int) 5 123 1 200 [.ref a0, .int a1, .int a2] S (some (.int r)) S' := by
  unfold f_X11_pay at h
  refine Sp.of (by decide +kernel) (Nat.le_of_ble_eq_true rfl) ?_
  intro b hC hin hR
  show G b 0 [(0, .ref a0), (1, .int a1), (2, .int a2)] [] S 0 0
  refine g_aload_n hC dX11_pay_0 rfl ?_
  obtain ⟨ho1, h⟩ := gd_some h
  obtain ⟨q2, hq3, h⟩ := Option.bind_eq_some_iff.mp h
  refine g_getr (k := 3) (q := q2) hC ck_X11 (by decide) tw_305 rfl (by decide) dX11_pay_1 ho1 hq3 ?_
  refine g_iload_n hC dX11_pay_4 rfl ?_
  obtain ⟨ho6, h⟩ := gd_some h
  obtain ⟨r7, S5, hr4, h⟩ := bd2_some h
  refine g_callV (rest := []) hC mi_X8_has (k_X8_has hr4) ck_X8.1 (by decide) ho6 tw_430 tw_431 tw_432 dX11_pay_5 rfl rfl ⟨by decide, by decide⟩ (Nat.le_of_ble_eq_true rfl) ⟨by decide, by decide⟩ ?_
  refine g_if_eq (tgt := 22) hC dX11_pay_8 (by decide) (fun hc8 => ?_) (fun hc8 => ?_)
  · rw [if_pos hc8] at h
    refine g_aload_n hC dX11_pay_22 rfl ?_
    refine g_ldc hC tw_352 dX11_pay_23 ?_
    obtain ⟨ho11, h⟩ := gd_some h
    obtain ⟨r12, S10, hr9, h⟩ := bd2_some h
    refine g_callV (rest := []) hC mi_X11_told (k_X11_told hr9) ck_X11.1 (by decide) ho11 tw_353 tw_355 ts_0 dX11_pay_25 rfl rfl ⟨by decide, by decide⟩ (Nat.le_of_ble_eq_true rfl) ⟨by decide, by decide⟩ ?_
    cases h
    exact g_iret hC hR dX11_pay_28 (by decide) (by decide)
  · rw [if_neg hc8] at h
    refine g_iload_n hC dX11_pay_11 rfl ?_
    refine g_iconst (v := (0 : Int32)) hC dX11_pay_12 (by decide) ?_
    refine g_sipush (v := (9999 : Int32)) hC dX11_pay_13 (by decide) ?_
    obtain ⟨r15, S14, hr13, h⟩ := bd2_some h
    refine g_callS (rest := []) hC mi_X11_within (k_X11_within hr13) tw_349 tw_350 dX11_pay_16 rfl rfl ⟨by decide, by decide⟩ (Nat.le_of_ble_eq_true rfl) ⟨by decide, by decide⟩ ?_
    refine g_if_ne (tgt := 29) hC dX11_pay_19 (by decide) (fun hc16 => ?_) (fun hc16 => ?_)
    · rw [if_neg hc16] at h
      refine g_aload_n hC dX11_pay_29 rfl ?_
      obtain ⟨ho17, h⟩ := gd_some h
      obtain ⟨q18, hq19, h⟩ := Option.bind_eq_some_iff.mp h
      refine g_getr (k := 3) (q := q18) hC ck_X11 (by decide) tw_305 rfl (by decide) dX11_pay_30 ho17 hq19 ?_
      refine g_iload_n hC dX11_pay_33 rfl ?_
      refine g_iconst (v := (5 : Int32)) hC dX11_pay_34 (by decide) ?_
      refine g_iload_n hC dX11_pay_35 rfl ?_
      obtain ⟨ho22, h⟩ := gd_some h
      obtain ⟨r23, S21, hr20, h⟩ := bd2_some h
      refine g_callV (rest := []) hC mi_X8_set (k_X8_set hr20) ck_X8.1 (by decide) ho22 tw_479 tw_480 tw_481 dX11_pay_36 rfl rfl ⟨by decide, by decide⟩ (Nat.le_of_ble_eq_true rfl) ⟨by decide, by decide⟩ ?_
      cases h
      exact g_iret hC hR dX11_pay_39 (by decide) (by decide)
    · rw [if_pos hc16] at h
      refine g_aload_n hC dX11_pay_22 rfl ?_
      refine g_ldc hC tw_352 dX11_pay_23 ?_
      obtain ⟨ho26, h⟩ := gd_some h
      obtain ⟨r27, S25, hr24, h⟩ := bd2_some h
      refine g_callV (rest := []) hC mi_X11_told (k_X11_told hr24) ck_X11.1 (by decide) ho26 tw_353 tw_355 ts_0 dX11_pay_25 rfl rfl ⟨by decide, by decide⟩ (Nat.le_of_ble_eq_true rfl) ⟨by decide, by decide⟩ ?_
      cases h
      exact g_iret hC hR dX11_pay_28 (by decide) (by decide)

theorem mi_X0_takes : MI yX0_takes cX0_takes 2 (some .boolean) 2 := ⟨tw_495, tw_6, by decide +kernel, by decide +kernel, by decide +kernel⟩
noncomputable def f_X0_takes (S : Wd) (a0 : Int32) (a1 : Int32) : Option (Int32 × Wd) := if a1 = (1 : Int32) then (if a0 = (1 : Int32) then (some ((1 : Int32), S)) else (some ((0 : Int32), S))) else (if a1 = (2 : Int32) then (if a0 = (3 : Int32) then (some ((1 : Int32), S)) else (some ((0 : Int32), S))) else (if a0 = (3 : Int32) then (some ((0 : Int32), S)) else (some ((1 : Int32), S))))
set_option maxRecDepth 100000 in
set_option maxHeartbeats 4000000 in
theorem k_X0_takes {S : Wd} {a0 : Int32} {a1 : Int32} {r : Int32} {S' : Wd} (h : f_X0_takes S a0 a1 = some (r, S')) : Sp yX0_takes cX0_takes 2 (some .boolean) 0 0 0 0 [.int a0, .int a1] S (some (.int r)) S' := by
  unfold f_X0_takes at h
  refine Sp.of (by decide +kernel) (Nat.le_of_ble_eq_true rfl) ?_
  intro b hC hin hR
  show G b 0 [(0, .int a0), (1, .int a1)] [] S 0 0
  refine g_iload_n hC dX0_takes_0 rfl ?_
  by_cases hc1 : a1 = (1 : Int32)
  · rw [if_pos hc1] at h
    refine g_lookup (off := 27) (tgt := 28) hC dX0_takes_1 (by decide) (by rw [hc1]; decide) (by decide) ?_
    refine g_iload_n hC dX0_takes_28 rfl ?_
    refine g_iconst (v := (1 : Int32)) hC dX0_takes_29 (by decide) ?_
    refine g_icmp_ne (tgt := 37) hC dX0_takes_30 (by decide) (fun hc2 => ?_) (fun hc2 => ?_)
    · rw [if_neg hc2] at h
      refine g_iconst (v := (0 : Int32)) hC dX0_takes_37 (by decide) ?_
      cases h
      exact g_zret hC hR rfl dX0_takes_38 (by decide) (by decide)
    · rw [if_pos hc2] at h
      refine g_iconst (v := (1 : Int32)) hC dX0_takes_33 (by decide) ?_
      refine g_goto (tgt := 38) hC dX0_takes_34 (by decide) ?_
      cases h
      exact g_zret hC hR rfl dX0_takes_38 (by decide) (by decide)
  rw [if_neg hc1] at h
  by_cases hc3 : a1 = (2 : Int32)
  · rw [if_pos hc3] at h
    refine g_lookup (off := 38) (tgt := 39) hC dX0_takes_1 (by decide) (by rw [hc3]; decide) (by decide) ?_
    refine g_iload_n hC dX0_takes_39 rfl ?_
    refine g_iconst (v := (3 : Int32)) hC dX0_takes_40 (by decide) ?_
    refine g_icmp_ne (tgt := 48) hC dX0_takes_41 (by decide) (fun hc4 => ?_) (fun hc4 => ?_)
    · rw [if_neg hc4] at h
      refine g_iconst (v := (0 : Int32)) hC dX0_takes_48 (by decide) ?_
      cases h
      exact g_zret hC hR rfl dX0_takes_49 (by decide) (by decide)
    · rw [if_pos hc4] at h
      refine g_iconst (v := (1 : Int32)) hC dX0_takes_44 (by decide) ?_
      refine g_goto (tgt := 49) hC dX0_takes_45 (by decide) ?_
      cases h
      exact g_zret hC hR rfl dX0_takes_49 (by decide) (by decide)
  rw [if_neg hc3] at h
  refine g_lookup (off := 49) (tgt := 50) hC dX0_takes_1 (by decide) (lks_out _ _ _ (by intro q hq; simp only [List.mem_cons, List.not_mem_nil, or_false] at hq; rcases hq with rfl | rfl <;> (intro e; first | exact hc1 (i32_eq (e.trans (by decide))) | exact hc3 (i32_eq (e.trans (by decide)))))) (by decide) ?_
  refine g_iload_n hC dX0_takes_50 rfl ?_
  refine g_iconst (v := (3 : Int32)) hC dX0_takes_51 (by decide) ?_
  refine g_icmp_eq (tgt := 59) hC dX0_takes_52 (by decide) (fun hc5 => ?_) (fun hc5 => ?_)
  · rw [if_pos hc5] at h
    refine g_iconst (v := (0 : Int32)) hC dX0_takes_59 (by decide) ?_
    cases h
    exact g_zret hC hR rfl dX0_takes_60 (by decide) (by decide)
  · rw [if_neg hc5] at h
    refine g_iconst (v := (1 : Int32)) hC dX0_takes_55 (by decide) ?_
    refine g_goto (tgt := 60) hC dX0_takes_56 (by decide) ?_
    cases h
    exact g_zret hC hR rfl dX0_takes_60 (by decide) (by decide)

theorem mi_X0_fits : MI yX0_fits cX0_fits 3 (some .boolean) 2 := ⟨tw_491, tw_6, by decide +kernel, by decide +kernel, by decide +kernel⟩
noncomputable def f_X0_fits (S : Wd) (a0 : Nat) (a1 : Int32) (a2 : Int32) : Option (Int32 × Wd) := if a2 = (-1 : Int32) then (some ((1 : Int32), S)) else (gd (ob S a0 0) (Option.bind (wO S a0 1) (fun q3 => gd (ob S q3 8) (bd2 (f_X8_at S q3 a1 (0 : Int32)) (fun r8 S6 => gd (ob S6 a0 0) (Option.bind (wO S6 a0 2) (fun q10 => gd (ob S6 q10 8) (bd2 (f_X8_at S6 q10 a2 (2 : Int32)) (fun r15 S13 => bd2 (f_X0_takes S13 r8 r15) (fun r18 S17 => if r18 = 0 then (some ((0 : Int32), S17)) else (gd (ob S17 a0 0) (Option.bind (wO S17 a0 1) (fun q21 => gd (ob S17 q21 8) (bd2 (f_X8_at S17 q21 a1 (5 : Int32)) (fun r26 S24 => gd (ob S24 a0 0) (Option.bind (wO S24 a0 2) (fun q28 => gd (ob S24 q28 8) (bd2 (f_X8_at S24 q28 a2 (3 : Int32)) (fun r33 S31 => if r26 < r33 then (some ((0 : Int32), S31)) else (gd (ob S31 a0 0) (Option.bind (wO S31 a0 1) (fun q36 => gd (ob S31 q36 8) (bd2 (f_X8_at S31 q36 a1 (6 : Int32)) (fun r41 S39 => gd (ob S39 a0 0) (Option.bind (wO S39 a0 2) (fun q43 => gd (ob S39 q43 8) (bd2 (f_X8_at S39 q43 a2 (4 : Int32)) (fun r48 S46 => if r41 < r48 then (some ((0 : Int32), S46)) else (some ((1 : Int32), S46))))))))))))))))))))))))))))))
set_option maxRecDepth 100000 in
set_option maxHeartbeats 4000000 in
theorem k_X0_fits {S : Wd} {a0 : Nat} {a1 : Int32} {a2 : Int32} {r : Int32} {S' : Wd} (h : f_X0_fits S a0 a1 a2 = some (r, S')) : Sp yX0_fits cX0_fits 3 (some .boolean) 2 44 0 0 [.ref a0, .int a1, .int a2] S (some (.int r)) S' := by
  unfold f_X0_fits at h
  refine Sp.of (by decide +kernel) (Nat.le_of_ble_eq_true rfl) ?_
  intro b hC hin hR
  show G b 0 [(0, .ref a0), (1, .int a1), (2, .int a2)] [] S 0 0
  refine g_iload_n hC dX0_fits_0 rfl ?_
  refine g_iconst (v := (-1 : Int32)) hC dX0_fits_1 (by decide) ?_
  refine g_icmp_ne (tgt := 7) hC dX0_fits_2 (by decide) (fun hc1 => ?_) (fun hc1 => ?_)
  · rw [if_neg hc1] at h
    refine g_aload_n hC dX0_fits_7 rfl ?_
    obtain ⟨ho2, h⟩ := gd_some h
    obtain ⟨q3, hq4, h⟩ := Option.bind_eq_some_iff.mp h
    refine g_getr (k := 1) (q := q3) hC ck_X0 (by decide) tw_102 rfl (by decide) dX0_fits_8 ho2 hq4 ?_
    refine g_iload_n hC dX0_fits_11 rfl ?_
    refine g_iconst (v := (0 : Int32)) hC dX0_fits_12 (by decide) ?_
    obtain ⟨ho7, h⟩ := gd_some h
    obtain ⟨r8, S6, hr5, h⟩ := bd2_some h
    refine g_callV (rest := []) hC mi_X8_at (k_X8_at hr5) ck_X8.1 (by decide) ho7 tw_492 tw_435 tw_436 dX0_fits_13 rfl rfl ⟨by decide, by decide⟩ (Nat.le_of_ble_eq_true rfl) ⟨by decide, by decide⟩ ?_
    refine g_aload_n hC dX0_fits_16 rfl ?_
    obtain ⟨ho9, h⟩ := gd_some h
    obtain ⟨q10, hq11, h⟩ := Option.bind_eq_some_iff.mp h
    refine g_getr (k := 2) (q := q10) hC ck_X0 (by decide) tw_103 rfl (by decide) dX0_fits_17 ho9 hq11 ?_
    refine g_iload_n hC dX0_fits_20 rfl ?_
    refine g_iconst (v := (2 : Int32)) hC dX0_fits_21 (by decide) ?_
    obtain ⟨ho14, h⟩ := gd_some h
    obtain ⟨r15, S13, hr12, h⟩ := bd2_some h
    refine g_callV (rest := [.int r8]) hC mi_X8_at (k_X8_at hr12) ck_X8.1 (by decide) ho14 tw_492 tw_435 tw_436 dX0_fits_22 rfl rfl ⟨by decide, by decide⟩ (Nat.le_of_ble_eq_true rfl) ⟨by decide, by decide⟩ ?_
    obtain ⟨r18, S17, hr16, h⟩ := bd2_some h
    refine g_callS (rest := []) hC mi_X0_takes (k_X0_takes hr16) tw_493 tw_494 dX0_fits_25 rfl rfl ⟨by decide, by decide⟩ (Nat.le_of_ble_eq_true rfl) ⟨by decide, by decide⟩ ?_
    refine g_if_eq (tgt := 78) hC dX0_fits_28 (by decide) (fun hc19 => ?_) (fun hc19 => ?_)
    · rw [if_pos hc19] at h
      refine g_iconst (v := (0 : Int32)) hC dX0_fits_78 (by decide) ?_
      cases h
      exact g_zret hC hR rfl dX0_fits_79 (by decide) (by decide)
    · rw [if_neg hc19] at h
      refine g_aload_n hC dX0_fits_31 rfl ?_
      obtain ⟨ho20, h⟩ := gd_some h
      obtain ⟨q21, hq22, h⟩ := Option.bind_eq_some_iff.mp h
      refine g_getr (k := 1) (q := q21) hC ck_X0 (by decide) tw_102 rfl (by decide) dX0_fits_32 ho20 hq22 ?_
      refine g_iload_n hC dX0_fits_35 rfl ?_
      refine g_iconst (v := (5 : Int32)) hC dX0_fits_36 (by decide) ?_
      obtain ⟨ho25, h⟩ := gd_some h
      obtain ⟨r26, S24, hr23, h⟩ := bd2_some h
      refine g_callV (rest := []) hC mi_X8_at (k_X8_at hr23) ck_X8.1 (by decide) ho25 tw_492 tw_435 tw_436 dX0_fits_37 rfl rfl ⟨by decide, by decide⟩ (Nat.le_of_ble_eq_true rfl) ⟨by decide, by decide⟩ ?_
      refine g_aload_n hC dX0_fits_40 rfl ?_
      obtain ⟨ho27, h⟩ := gd_some h
      obtain ⟨q28, hq29, h⟩ := Option.bind_eq_some_iff.mp h
      refine g_getr (k := 2) (q := q28) hC ck_X0 (by decide) tw_103 rfl (by decide) dX0_fits_41 ho27 hq29 ?_
      refine g_iload_n hC dX0_fits_44 rfl ?_
      refine g_iconst (v := (3 : Int32)) hC dX0_fits_45 (by decide) ?_
      obtain ⟨ho32, h⟩ := gd_some h
      obtain ⟨r33, S31, hr30, h⟩ := bd2_some h
      refine g_callV (rest := [.int r26]) hC mi_X8_at (k_X8_at hr30) ck_X8.1 (by decide) ho32 tw_492 tw_435 tw_436 dX0_fits_46 rfl rfl ⟨by decide, by decide⟩ (Nat.le_of_ble_eq_true rfl) ⟨by decide, by decide⟩ ?_
      refine g_icmp_lt (tgt := 78) hC dX0_fits_49 (by decide) (fun hc34 => ?_) (fun hc34 => ?_)
      · rw [if_pos hc34] at h
        refine g_iconst (v := (0 : Int32)) hC dX0_fits_78 (by decide) ?_
        cases h
        exact g_zret hC hR rfl dX0_fits_79 (by decide) (by decide)
      · rw [if_neg hc34] at h
        refine g_aload_n hC dX0_fits_52 rfl ?_
        obtain ⟨ho35, h⟩ := gd_some h
        obtain ⟨q36, hq37, h⟩ := Option.bind_eq_some_iff.mp h
        refine g_getr (k := 1) (q := q36) hC ck_X0 (by decide) tw_102 rfl (by decide) dX0_fits_53 ho35 hq37 ?_
        refine g_iload_n hC dX0_fits_56 rfl ?_
        refine g_bipush (v := (6 : Int32)) hC dX0_fits_57 (by decide) ?_
        obtain ⟨ho40, h⟩ := gd_some h
        obtain ⟨r41, S39, hr38, h⟩ := bd2_some h
        refine g_callV (rest := []) hC mi_X8_at (k_X8_at hr38) ck_X8.1 (by decide) ho40 tw_492 tw_435 tw_436 dX0_fits_59 rfl rfl ⟨by decide, by decide⟩ (Nat.le_of_ble_eq_true rfl) ⟨by decide, by decide⟩ ?_
        refine g_aload_n hC dX0_fits_62 rfl ?_
        obtain ⟨ho42, h⟩ := gd_some h
        obtain ⟨q43, hq44, h⟩ := Option.bind_eq_some_iff.mp h
        refine g_getr (k := 2) (q := q43) hC ck_X0 (by decide) tw_103 rfl (by decide) dX0_fits_63 ho42 hq44 ?_
        refine g_iload_n hC dX0_fits_66 rfl ?_
        refine g_iconst (v := (4 : Int32)) hC dX0_fits_67 (by decide) ?_
        obtain ⟨ho47, h⟩ := gd_some h
        obtain ⟨r48, S46, hr45, h⟩ := bd2_some h
        refine g_callV (rest := [.int r41]) hC mi_X8_at (k_X8_at hr45) ck_X8.1 (by decide) ho47 tw_492 tw_435 tw_436 dX0_fits_68 rfl rfl ⟨by decide, by decide⟩ (Nat.le_of_ble_eq_true rfl) ⟨by decide, by decide⟩ ?_
        refine g_icmp_lt (tgt := 78) hC dX0_fits_71 (by decide) (fun hc49 => ?_) (fun hc49 => ?_)
        · rw [if_pos hc49] at h
          refine g_iconst (v := (0 : Int32)) hC dX0_fits_78 (by decide) ?_
          cases h
          exact g_zret hC hR rfl dX0_fits_79 (by decide) (by decide)
        · rw [if_neg hc49] at h
          refine g_iconst (v := (1 : Int32)) hC dX0_fits_74 (by decide) ?_
          refine g_goto (tgt := 79) hC dX0_fits_75 (by decide) ?_
          cases h
          exact g_zret hC hR rfl dX0_fits_79 (by decide) (by decide)
  · rw [if_pos hc1] at h
    refine g_iconst (v := (1 : Int32)) hC dX0_fits_5 (by decide) ?_
    cases h
    exact g_zret hC hR rfl dX0_fits_6 (by decide) (by decide)

theorem mi_X11_give : MI yX11_give cX11_give 3 (some .int) 2 := ⟨tw_487, tw_1, by decide +kernel, by decide +kernel, by decide +kernel⟩
noncomputable def f_X11_give (S : Wd) (a0 : Nat) (a1 : Int32) (a2 : Int32) : Option (Int32 × Wd) := gd (ob S a0 11) (Option.bind (wO S a0 3) (fun q2 => gd (ob S q2 8) (bd2 (f_X8_has S q2 a1) (fun r7 S5 => if r7 = 0 then (gd (ob S5 a0 11) (bd2 (f_X11_told S5 a0 (-100001 : Int32)) (fun r12 S10 => some (r12, S10)))) else (if a2 = (-1 : Int32) then (if a2 = (-1 : Int32) then (gd (ob S5 a0 11) (Option.bind (wO S5 a0 3) (fun q16 => gd (ob S5 q16 8) (bd2 (f_X8_set S5 q16 a1 (10 : Int32) a2) (fun r21 S19 => some (r21, S19)))))) else (gd (ob S5 a0 11) (Option.bind (wO S5 a0 4) (fun q23 => gd (ob S5 q23 0) (bd2 (f_X0_fits S5 q23 a2 a1) (fun r28 S26 => if r28 = 0 then (gd (ob S26 a0 11) (bd2 (f_X11_told S26 a0 (-100004 : Int32)) (fun r40 S38 => some (r40, S38)))) else (gd (ob S26 a0 11) (Option.bind (wO S26 a0 3) (fun q31 => gd (ob S26 q31 8) (bd2 (f_X8_set S26 q31 a1 (10 : Int32) a2) (fun r36 S34 => some (r36, S34)))))))))))) else (gd (ob S5 a0 11) (Option.bind (wO S5 a0 2) (fun q42 => gd (ob S5 q42 8) (bd2 (f_X8_has S5 q42 a2) (fun r47 S45 => if r47 = 0 then (gd (ob S45 a0 11) (bd2 (f_X11_told S45 a0 (-100001 : Int32)) (fun r79 S77 => some (r79, S77)))) else (if a2 = (-1 : Int32) then (gd (ob S45 a0 11) (Option.bind (wO S45 a0 3) (fun q51 => gd (ob S45 q51 8) (bd2 (f_X8_set S45 q51 a1 (10 : Int32) a2) (fun r56 S54 => some (r56, S54)))))) else (gd (ob S45 a0 11) (Option.bind (wO S45 a0 4) (fun q58 => gd (ob S45 q58 0) (bd2 (f_X0_fits S45 q58 a2 a1) (fun r63 S61 => if r63 = 0 then (gd (ob S61 a0 11) (bd2 (f_X11_told S61 a0 (-100004 : Int32)) (fun r75 S73 => some (r75, S73)))) else (gd (ob S61 a0 11) (Option.bind (wO S61 a0 3) (fun q66 => gd (ob S61 q66 8) (bd2 (f_X8_set S61 q66 a1 (10 : Int32) a2) (fun r71 S69 => some (r71, S69))))))))))))))))))))))
set_option maxRecDepth 100000 in
set_option maxHeartbeats 4000000 in
theorem k_X11_give {S : Wd} {a0 : Nat} {a1 : Int32} {a2 : Int32} {r : Int32} {S' : Wd} (h : f_X11_give S a0 a1 a2 = some (r, S')) : Sp yX11_give cX11_give 3 (some .int) 5 123 1 200 [.ref a0, .int a1, .int a2] S (some (.int r)) S' := by
  unfold f_X11_give at h
  refine Sp.of (by decide +kernel) (Nat.le_of_ble_eq_true rfl) ?_
  intro b hC hin hR
  show G b 0 [(0, .ref a0), (1, .int a1), (2, .int a2)] [] S 0 0
  refine g_aload_n hC dX11_give_0 rfl ?_
  obtain ⟨ho1, h⟩ := gd_some h
  obtain ⟨q2, hq3, h⟩ := Option.bind_eq_some_iff.mp h
  refine g_getr (k := 3) (q := q2) hC ck_X11 (by decide) tw_305 rfl (by decide) dX11_give_1 ho1 hq3 ?_
  refine g_iload_n hC dX11_give_4 rfl ?_
  obtain ⟨ho6, h⟩ := gd_some h
  obtain ⟨r7, S5, hr4, h⟩ := bd2_some h
  refine g_callV (rest := []) hC mi_X8_has (k_X8_has hr4) ck_X8.1 (by decide) ho6 tw_430 tw_431 tw_432 dX11_give_5 rfl rfl ⟨by decide, by decide⟩ (Nat.le_of_ble_eq_true rfl) ⟨by decide, by decide⟩ ?_
  refine g_if_eq (tgt := 27) hC dX11_give_8 (by decide) (fun hc8 => ?_) (fun hc8 => ?_)
  · rw [if_pos hc8] at h
    refine g_aload_n hC dX11_give_27 rfl ?_
    refine g_ldc hC tw_352 dX11_give_28 ?_
    obtain ⟨ho11, h⟩ := gd_some h
    obtain ⟨r12, S10, hr9, h⟩ := bd2_some h
    refine g_callV (rest := []) hC mi_X11_told (k_X11_told hr9) ck_X11.1 (by decide) ho11 tw_353 tw_355 ts_0 dX11_give_30 rfl rfl ⟨by decide, by decide⟩ (Nat.le_of_ble_eq_true rfl) ⟨by decide, by decide⟩ ?_
    cases h
    exact g_iret hC hR dX11_give_33 (by decide) (by decide)
  · rw [if_neg hc8] at h
    refine g_iload_n hC dX11_give_11 rfl ?_
    refine g_iconst (v := (-1 : Int32)) hC dX11_give_12 (by decide) ?_
    refine g_icmp_eq (tgt := 34) hC dX11_give_13 (by decide) (fun hc13 => ?_) (fun hc13 => ?_)
    · rw [if_pos hc13] at h
      refine g_iload_n hC dX11_give_34 rfl ?_
      refine g_iconst (v := (-1 : Int32)) hC dX11_give_35 (by decide) ?_
      refine g_icmp_eq (tgt := 58) hC dX11_give_36 (by decide) (fun hc14 => ?_) (fun hc14 => ?_)
      · rw [if_pos hc14] at h
        refine g_aload_n hC dX11_give_58 rfl ?_
        obtain ⟨ho15, h⟩ := gd_some h
        obtain ⟨q16, hq17, h⟩ := Option.bind_eq_some_iff.mp h
        refine g_getr (k := 3) (q := q16) hC ck_X11 (by decide) tw_305 rfl (by decide) dX11_give_59 ho15 hq17 ?_
        refine g_iload_n hC dX11_give_62 rfl ?_
        refine g_bipush (v := (10 : Int32)) hC dX11_give_63 (by decide) ?_
        refine g_iload_n hC dX11_give_65 rfl ?_
        obtain ⟨ho20, h⟩ := gd_some h
        obtain ⟨r21, S19, hr18, h⟩ := bd2_some h
        refine g_callV (rest := []) hC mi_X8_set (k_X8_set hr18) ck_X8.1 (by decide) ho20 tw_479 tw_480 tw_481 dX11_give_66 rfl rfl ⟨by decide, by decide⟩ (Nat.le_of_ble_eq_true rfl) ⟨by decide, by decide⟩ ?_
        cases h
        exact g_iret hC hR dX11_give_69 (by decide) (by decide)
      · rw [if_neg hc14] at h
        refine g_aload_n hC dX11_give_39 rfl ?_
        obtain ⟨ho22, h⟩ := gd_some h
        obtain ⟨q23, hq24, h⟩ := Option.bind_eq_some_iff.mp h
        refine g_getr (k := 4) (q := q23) hC ck_X11 (by decide) tw_306 rfl (by decide) dX11_give_40 ho22 hq24 ?_
        refine g_iload_n hC dX11_give_43 rfl ?_
        refine g_iload_n hC dX11_give_44 rfl ?_
        obtain ⟨ho27, h⟩ := gd_some h
        obtain ⟨r28, S26, hr25, h⟩ := bd2_some h
        refine g_callV (rest := []) hC mi_X0_fits (k_X0_fits hr25) ck_X0.1 (by decide) ho27 tw_488 tw_489 tw_490 dX11_give_45 rfl rfl ⟨by decide, by decide⟩ (Nat.le_of_ble_eq_true rfl) ⟨by decide, by decide⟩ ?_
        refine g_if_ne (tgt := 58) hC dX11_give_48 (by decide) (fun hc29 => ?_) (fun hc29 => ?_)
        · rw [if_neg hc29] at h
          refine g_aload_n hC dX11_give_58 rfl ?_
          obtain ⟨ho30, h⟩ := gd_some h
          obtain ⟨q31, hq32, h⟩ := Option.bind_eq_some_iff.mp h
          refine g_getr (k := 3) (q := q31) hC ck_X11 (by decide) tw_305 rfl (by decide) dX11_give_59 ho30 hq32 ?_
          refine g_iload_n hC dX11_give_62 rfl ?_
          refine g_bipush (v := (10 : Int32)) hC dX11_give_63 (by decide) ?_
          refine g_iload_n hC dX11_give_65 rfl ?_
          obtain ⟨ho35, h⟩ := gd_some h
          obtain ⟨r36, S34, hr33, h⟩ := bd2_some h
          refine g_callV (rest := []) hC mi_X8_set (k_X8_set hr33) ck_X8.1 (by decide) ho35 tw_479 tw_480 tw_481 dX11_give_66 rfl rfl ⟨by decide, by decide⟩ (Nat.le_of_ble_eq_true rfl) ⟨by decide, by decide⟩ ?_
          cases h
          exact g_iret hC hR dX11_give_69 (by decide) (by decide)
        · rw [if_pos hc29] at h
          refine g_aload_n hC dX11_give_51 rfl ?_
          refine g_ldc hC tw_442 dX11_give_52 ?_
          obtain ⟨ho39, h⟩ := gd_some h
          obtain ⟨r40, S38, hr37, h⟩ := bd2_some h
          refine g_callV (rest := []) hC mi_X11_told (k_X11_told hr37) ck_X11.1 (by decide) ho39 tw_353 tw_355 ts_0 dX11_give_54 rfl rfl ⟨by decide, by decide⟩ (Nat.le_of_ble_eq_true rfl) ⟨by decide, by decide⟩ ?_
          cases h
          exact g_iret hC hR dX11_give_57 (by decide) (by decide)
    · rw [if_neg hc13] at h
      refine g_aload_n hC dX11_give_16 rfl ?_
      obtain ⟨ho41, h⟩ := gd_some h
      obtain ⟨q42, hq43, h⟩ := Option.bind_eq_some_iff.mp h
      refine g_getr (k := 2) (q := q42) hC ck_X11 (by decide) tw_304 rfl (by decide) dX11_give_17 ho41 hq43 ?_
      refine g_iload_n hC dX11_give_20 rfl ?_
      obtain ⟨ho46, h⟩ := gd_some h
      obtain ⟨r47, S45, hr44, h⟩ := bd2_some h
      refine g_callV (rest := []) hC mi_X8_has (k_X8_has hr44) ck_X8.1 (by decide) ho46 tw_430 tw_431 tw_432 dX11_give_21 rfl rfl ⟨by decide, by decide⟩ (Nat.le_of_ble_eq_true rfl) ⟨by decide, by decide⟩ ?_
      refine g_if_ne (tgt := 34) hC dX11_give_24 (by decide) (fun hc48 => ?_) (fun hc48 => ?_)
      · rw [if_neg hc48] at h
        refine g_iload_n hC dX11_give_34 rfl ?_
        refine g_iconst (v := (-1 : Int32)) hC dX11_give_35 (by decide) ?_
        refine g_icmp_eq (tgt := 58) hC dX11_give_36 (by decide) (fun hc49 => ?_) (fun hc49 => ?_)
        · rw [if_pos hc49] at h
          refine g_aload_n hC dX11_give_58 rfl ?_
          obtain ⟨ho50, h⟩ := gd_some h
          obtain ⟨q51, hq52, h⟩ := Option.bind_eq_some_iff.mp h
          refine g_getr (k := 3) (q := q51) hC ck_X11 (by decide) tw_305 rfl (by decide) dX11_give_59 ho50 hq52 ?_
          refine g_iload_n hC dX11_give_62 rfl ?_
          refine g_bipush (v := (10 : Int32)) hC dX11_give_63 (by decide) ?_
          refine g_iload_n hC dX11_give_65 rfl ?_
          obtain ⟨ho55, h⟩ := gd_some h
          obtain ⟨r56, S54, hr53, h⟩ := bd2_some h
          refine g_callV (rest := []) hC mi_X8_set (k_X8_set hr53) ck_X8.1 (by decide) ho55 tw_479 tw_480 tw_481 dX11_give_66 rfl rfl ⟨by decide, by decide⟩ (Nat.le_of_ble_eq_true rfl) ⟨by decide, by decide⟩ ?_
          cases h
          exact g_iret hC hR dX11_give_69 (by decide) (by decide)
        · rw [if_neg hc49] at h
          refine g_aload_n hC dX11_give_39 rfl ?_
          obtain ⟨ho57, h⟩ := gd_some h
          obtain ⟨q58, hq59, h⟩ := Option.bind_eq_some_iff.mp h
          refine g_getr (k := 4) (q := q58) hC ck_X11 (by decide) tw_306 rfl (by decide) dX11_give_40 ho57 hq59 ?_
          refine g_iload_n hC dX11_give_43 rfl ?_
          refine g_iload_n hC dX11_give_44 rfl ?_
          obtain ⟨ho62, h⟩ := gd_some h
          obtain ⟨r63, S61, hr60, h⟩ := bd2_some h
          refine g_callV (rest := []) hC mi_X0_fits (k_X0_fits hr60) ck_X0.1 (by decide) ho62 tw_488 tw_489 tw_490 dX11_give_45 rfl rfl ⟨by decide, by decide⟩ (Nat.le_of_ble_eq_true rfl) ⟨by decide, by decide⟩ ?_
          refine g_if_ne (tgt := 58) hC dX11_give_48 (by decide) (fun hc64 => ?_) (fun hc64 => ?_)
          · rw [if_neg hc64] at h
            refine g_aload_n hC dX11_give_58 rfl ?_
            obtain ⟨ho65, h⟩ := gd_some h
            obtain ⟨q66, hq67, h⟩ := Option.bind_eq_some_iff.mp h
            refine g_getr (k := 3) (q := q66) hC ck_X11 (by decide) tw_305 rfl (by decide) dX11_give_59 ho65 hq67 ?_
            refine g_iload_n hC dX11_give_62 rfl ?_
            refine g_bipush (v := (10 : Int32)) hC dX11_give_63 (by decide) ?_
            refine g_iload_n hC dX11_give_65 rfl ?_
            obtain ⟨ho70, h⟩ := gd_some h
            obtain ⟨r71, S69, hr68, h⟩ := bd2_some h
            refine g_callV (rest := []) hC mi_X8_set (k_X8_set hr68) ck_X8.1 (by decide) ho70 tw_479 tw_480 tw_481 dX11_give_66 rfl rfl ⟨by decide, by decide⟩ (Nat.le_of_ble_eq_true rfl) ⟨by decide, by decide⟩ ?_
            cases h
            exact g_iret hC hR dX11_give_69 (by decide) (by decide)
          · rw [if_pos hc64] at h
            refine g_aload_n hC dX11_give_51 rfl ?_
            refine g_ldc hC tw_442 dX11_give_52 ?_
            obtain ⟨ho74, h⟩ := gd_some h
            obtain ⟨r75, S73, hr72, h⟩ := bd2_some h
            refine g_callV (rest := []) hC mi_X11_told (k_X11_told hr72) ck_X11.1 (by decide) ho74 tw_353 tw_355 ts_0 dX11_give_54 rfl rfl ⟨by decide, by decide⟩ (Nat.le_of_ble_eq_true rfl) ⟨by decide, by decide⟩ ?_
            cases h
            exact g_iret hC hR dX11_give_57 (by decide) (by decide)
      · rw [if_pos hc48] at h
        refine g_aload_n hC dX11_give_27 rfl ?_
        refine g_ldc hC tw_352 dX11_give_28 ?_
        obtain ⟨ho78, h⟩ := gd_some h
        obtain ⟨r79, S77, hr76, h⟩ := bd2_some h
        refine g_callV (rest := []) hC mi_X11_told (k_X11_told hr76) ck_X11.1 (by decide) ho78 tw_353 tw_355 ts_0 dX11_give_30 rfl rfl ⟨by decide, by decide⟩ (Nat.le_of_ble_eq_true rfl) ⟨by decide, by decide⟩ ?_
        cases h
        exact g_iret hC hR dX11_give_33 (by decide) (by decide)
