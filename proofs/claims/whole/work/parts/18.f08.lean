theorem mi_X12_give : MI yX12_give cX12_give 4 (some .int) 2 := ⟨tw_1150, tw_14, by decide +kernel, by decide +kernel, by decide +kernel⟩
noncomputable def f_X12_give (S : Wd) (a0 : Nat) (a1 : Int32) (a2 : Int32) : Option (Int32 × Wd) := gd (ob S a0 12) (bd2 (f_X12_isLoad S a0 a1) (fun r4 S2 => if r4 = 0 then (gd (ob S2 a0 12) (bd2 (f_X12_finding S2 a0 (-100001 : Int32)) (fun r9 S7 => some (r9, S7)))) else (if a2 = (-1 : Int32) then (if a2 < 0 then (gd (ob S2 a0 12) (Option.bind (f_X12_keep S2 a0) (fun S13 => gd (ob S13 a0 12) (Option.bind (wO S13 a0 0) (fun q16 => bd2 (f_X12_ofLoad S13 a1 (10 : Int32)) (fun r20 S19 => gd (ix S19 q16 100 r20) (gd (ob S19 a0 12) (Option.bind (wO S19 a0 0) (fun q23 => bd2 (f_X12_ofLoad S19 a1 (10 : Int32)) (fun r27 S26 => gd (ix S26 q23 100 r27) (ltS (sI S26 q23 r27.toNatClampNeg a2) (fun S29 => some ((wI S19 q16 r20.toNatClampNeg), S29))))))))))))) else (gd (ob S2 a0 12) (bd2 (f_X12_fits S2 a0 a2 a1) (fun r34 S32 => if r34 = 0 then (gd (ob S32 a0 12) (bd2 (f_X12_finding S32 a0 (-100004 : Int32)) (fun r58 S56 => some (r58, S56)))) else (gd (ob S32 a0 12) (Option.bind (f_X12_keep S32 a0) (fun S37 => gd (ob S37 a0 12) (Option.bind (wO S37 a0 0) (fun q40 => bd2 (f_X12_ofLoad S37 a1 (10 : Int32)) (fun r44 S43 => gd (ix S43 q40 100 r44) (gd (ob S43 a0 12) (Option.bind (wO S43 a0 0) (fun q47 => bd2 (f_X12_ofLoad S43 a1 (10 : Int32)) (fun r51 S50 => gd (ix S50 q47 100 r51) (ltS (sI S50 q47 r51.toNatClampNeg a2) (fun S53 => some ((wI S43 q40 r44.toNatClampNeg), S53))))))))))))))))) else (gd (ob S2 a0 12) (bd2 (f_X12_isLorry S2 a0 a2) (fun r62 S60 => if r62 = 0 then (gd (ob S60 a0 12) (bd2 (f_X12_finding S60 a0 (-100001 : Int32)) (fun r115 S113 => some (r115, S113)))) else (if a2 < 0 then (gd (ob S60 a0 12) (Option.bind (f_X12_keep S60 a0) (fun S66 => gd (ob S66 a0 12) (Option.bind (wO S66 a0 0) (fun q69 => bd2 (f_X12_ofLoad S66 a1 (10 : Int32)) (fun r73 S72 => gd (ix S72 q69 100 r73) (gd (ob S72 a0 12) (Option.bind (wO S72 a0 0) (fun q76 => bd2 (f_X12_ofLoad S72 a1 (10 : Int32)) (fun r80 S79 => gd (ix S79 q76 100 r80) (ltS (sI S79 q76 r80.toNatClampNeg a2) (fun S82 => some ((wI S72 q69 r73.toNatClampNeg), S82))))))))))))) else (gd (ob S60 a0 12) (bd2 (f_X12_fits S60 a0 a2 a1) (fun r87 S85 => if r87 = 0 then (gd (ob S85 a0 12) (bd2 (f_X12_finding S85 a0 (-100004 : Int32)) (fun r111 S109 => some (r111, S109)))) else (gd (ob S85 a0 12) (Option.bind (f_X12_keep S85 a0) (fun S90 => gd (ob S90 a0 12) (Option.bind (wO S90 a0 0) (fun q93 => bd2 (f_X12_ofLoad S90 a1 (10 : Int32)) (fun r97 S96 => gd (ix S96 q93 100 r97) (gd (ob S96 a0 12) (Option.bind (wO S96 a0 0) (fun q100 => bd2 (f_X12_ofLoad S96 a1 (10 : Int32)) (fun r104 S103 => gd (ix S103 q100 100 r104) (ltS (sI S103 q100 r104.toNatClampNeg a2) (fun S106 => some ((wI S96 q93 r97.toNatClampNeg), S106)))))))))))))))))))))))
set_option maxRecDepth 100000 in
set_option maxHeartbeats 4000000 in
theorem k_X12_give {S : Wd} {a0 : Nat} {a1 : Int32} {a2 : Int32} {r : Int32} {S' : Wd} (h : f_X12_give S a0 a1 a2 = some (r, S')) : Sp yX12_give cX12_give 4 (some .int) 2 46 0 0 [.ref a0, .int a1, .int a2] S (some (.int r)) S' := by
  unfold f_X12_give at h
  refine Sp.of (by decide +kernel) (Nat.le_of_ble_eq_true rfl) ?_
  intro b hC hin hR
  show G b 0 [(0, .ref a0), (1, .int a1), (2, .int a2)] [] S 0 0
  refine g_aload_n hC dX12_give_0 rfl ?_
  refine g_iload_n hC dX12_give_1 rfl ?_
  obtain ⟨ho3, h⟩ := gd_some h
  obtain ⟨r4, S2, hr1, h⟩ := bd2_some h
  refine g_callV (rest := []) hC mi_X12_isLoad (k_X12_isLoad hr1) ck_X12.1 (by decide) ho3 tw_1135 tw_1137 ts_29 dX12_give_2 rfl rfl ⟨by decide, by decide⟩ (Nat.le_of_ble_eq_true rfl) ⟨by decide, by decide⟩ ?_
  refine g_if_eq (tgt := 21) hC dX12_give_5 (by decide) (fun hc5 => ?_) (fun hc5 => ?_)
  · rw [if_pos hc5] at h
    refine g_aload_n hC dX12_give_21 rfl ?_
    refine g_ldc hC tw_1083 dX12_give_22 ?_
    obtain ⟨ho8, h⟩ := gd_some h
    obtain ⟨r9, S7, hr6, h⟩ := bd2_some h
    refine g_callV (rest := []) hC mi_X12_finding (k_X12_finding hr6) ck_X12.1 (by decide) ho8 tw_1069 tw_1071 ts_24 dX12_give_24 rfl rfl ⟨by decide, by decide⟩ (Nat.le_of_ble_eq_true rfl) ⟨by decide, by decide⟩ ?_
    cases h
    exact g_iret hC hR dX12_give_27 (by decide) (by decide)
  · rw [if_neg hc5] at h
    refine g_iload_n hC dX12_give_8 rfl ?_
    refine g_iconst (v := (-1 : Int32)) hC dX12_give_9 (by decide) ?_
    refine g_icmp_eq (tgt := 28) hC dX12_give_10 (by decide) (fun hc10 => ?_) (fun hc10 => ?_)
    · rw [if_pos hc10] at h
      refine g_iload_n hC dX12_give_28 rfl ?_
      refine g_if_lt (tgt := 48) hC dX12_give_29 (by decide) (fun hc11 => ?_) (fun hc11 => ?_)
      · rw [if_pos hc11] at h
        refine g_aload_n hC dX12_give_48 rfl ?_
        obtain ⟨ho14, h⟩ := gd_some h
        obtain ⟨S13, hr12, h⟩ := Option.bind_eq_some_iff.mp h
        refine g_callV (rest := []) hC mi_X12_keep (k_X12_keep hr12) ck_X12.1 (by decide) ho14 tw_1084 tw_1086 ts_25 dX12_give_49 rfl rfl ⟨by decide, by decide⟩ (Nat.le_of_ble_eq_true rfl) ⟨by decide, by decide⟩ ?_
        refine g_aload_n hC dX12_give_52 rfl ?_
        obtain ⟨ho15, h⟩ := gd_some h
        obtain ⟨q16, hq17, h⟩ := Option.bind_eq_some_iff.mp h
        refine g_getr (k := 0) (q := q16) hC ck_X12 (by decide) tw_984 rfl (by decide) dX12_give_53 ho15 hq17 ?_
        refine g_iload_n hC dX12_give_56 rfl ?_
        refine g_bipush (v := (10 : Int32)) hC dX12_give_57 (by decide) ?_
        obtain ⟨r20, S19, hr18, h⟩ := bd2_some h
        refine g_callS (rest := [.ref q16]) hC mi_X12_ofLoad (k_X12_ofLoad hr18) tw_1123 tw_1124 dX12_give_59 rfl rfl ⟨by decide, by decide⟩ (Nat.le_of_ble_eq_true rfl) ⟨by decide, by decide⟩ ?_
        obtain ⟨hx21, h⟩ := gd_some h
        refine g_iald hC dX12_give_62 hx21.1 hx21.2 ?_
        refine g_istore_n (L' := [(3, .int (wI S19 q16 r20.toNatClampNeg)), (0, .ref a0), (1, .int a1), (2, .int a2)]) hC dX12_give_63 (by decide) rfl ?_
        refine g_aload_n hC dX12_give_64 rfl ?_
        obtain ⟨ho22, h⟩ := gd_some h
        obtain ⟨q23, hq24, h⟩ := Option.bind_eq_some_iff.mp h
        refine g_getr (k := 0) (q := q23) hC ck_X12 (by decide) tw_984 rfl (by decide) dX12_give_65 ho22 hq24 ?_
        refine g_iload_n hC dX12_give_68 rfl ?_
        refine g_bipush (v := (10 : Int32)) hC dX12_give_69 (by decide) ?_
        obtain ⟨r27, S26, hr25, h⟩ := bd2_some h
        refine g_callS (rest := [.ref q23]) hC mi_X12_ofLoad (k_X12_ofLoad hr25) tw_1123 tw_1124 dX12_give_71 rfl rfl ⟨by decide, by decide⟩ (Nat.le_of_ble_eq_true rfl) ⟨by decide, by decide⟩ ?_
        refine g_iload_n hC dX12_give_74 rfl ?_
        obtain ⟨hx28, h⟩ := gd_some h
        refine g_iast hC dX12_give_75 hx28.1 hx28.2 ?_
        refine g_name (fun S29 eS30 => ?_)
        have h := ltS_use eS30 h
        refine g_iload_n hC dX12_give_76 rfl ?_
        cases h
        exact g_iret hC hR dX12_give_77 (by decide) (by decide)
      · rw [if_neg hc11] at h
        refine g_aload_n hC dX12_give_32 rfl ?_
        refine g_iload_n hC dX12_give_33 rfl ?_
        refine g_iload_n hC dX12_give_34 rfl ?_
        obtain ⟨ho33, h⟩ := gd_some h
        obtain ⟨r34, S32, hr31, h⟩ := bd2_some h
        refine g_callV (rest := []) hC mi_X12_fits (k_X12_fits hr31) ck_X12.1 (by decide) ho33 tw_1151 tw_1153 ts_30 dX12_give_35 rfl rfl ⟨by decide, by decide⟩ (Nat.le_of_ble_eq_true rfl) ⟨by decide, by decide⟩ ?_
        refine g_if_ne (tgt := 48) hC dX12_give_38 (by decide) (fun hc35 => ?_) (fun hc35 => ?_)
        · rw [if_neg hc35] at h
          refine g_aload_n hC dX12_give_48 rfl ?_
          obtain ⟨ho38, h⟩ := gd_some h
          obtain ⟨S37, hr36, h⟩ := Option.bind_eq_some_iff.mp h
          refine g_callV (rest := []) hC mi_X12_keep (k_X12_keep hr36) ck_X12.1 (by decide) ho38 tw_1084 tw_1086 ts_25 dX12_give_49 rfl rfl ⟨by decide, by decide⟩ (Nat.le_of_ble_eq_true rfl) ⟨by decide, by decide⟩ ?_
          refine g_aload_n hC dX12_give_52 rfl ?_
          obtain ⟨ho39, h⟩ := gd_some h
          obtain ⟨q40, hq41, h⟩ := Option.bind_eq_some_iff.mp h
          refine g_getr (k := 0) (q := q40) hC ck_X12 (by decide) tw_984 rfl (by decide) dX12_give_53 ho39 hq41 ?_
          refine g_iload_n hC dX12_give_56 rfl ?_
          refine g_bipush (v := (10 : Int32)) hC dX12_give_57 (by decide) ?_
          obtain ⟨r44, S43, hr42, h⟩ := bd2_some h
          refine g_callS (rest := [.ref q40]) hC mi_X12_ofLoad (k_X12_ofLoad hr42) tw_1123 tw_1124 dX12_give_59 rfl rfl ⟨by decide, by decide⟩ (Nat.le_of_ble_eq_true rfl) ⟨by decide, by decide⟩ ?_
          obtain ⟨hx45, h⟩ := gd_some h
          refine g_iald hC dX12_give_62 hx45.1 hx45.2 ?_
          refine g_istore_n (L' := [(3, .int (wI S43 q40 r44.toNatClampNeg)), (0, .ref a0), (1, .int a1), (2, .int a2)]) hC dX12_give_63 (by decide) rfl ?_
          refine g_aload_n hC dX12_give_64 rfl ?_
          obtain ⟨ho46, h⟩ := gd_some h
          obtain ⟨q47, hq48, h⟩ := Option.bind_eq_some_iff.mp h
          refine g_getr (k := 0) (q := q47) hC ck_X12 (by decide) tw_984 rfl (by decide) dX12_give_65 ho46 hq48 ?_
          refine g_iload_n hC dX12_give_68 rfl ?_
          refine g_bipush (v := (10 : Int32)) hC dX12_give_69 (by decide) ?_
          obtain ⟨r51, S50, hr49, h⟩ := bd2_some h
          refine g_callS (rest := [.ref q47]) hC mi_X12_ofLoad (k_X12_ofLoad hr49) tw_1123 tw_1124 dX12_give_71 rfl rfl ⟨by decide, by decide⟩ (Nat.le_of_ble_eq_true rfl) ⟨by decide, by decide⟩ ?_
          refine g_iload_n hC dX12_give_74 rfl ?_
          obtain ⟨hx52, h⟩ := gd_some h
          refine g_iast hC dX12_give_75 hx52.1 hx52.2 ?_
          refine g_name (fun S53 eS54 => ?_)
          have h := ltS_use eS54 h
          refine g_iload_n hC dX12_give_76 rfl ?_
          cases h
          exact g_iret hC hR dX12_give_77 (by decide) (by decide)
        · rw [if_pos hc35] at h
          refine g_aload_n hC dX12_give_41 rfl ?_
          refine g_ldc hC tw_1118 dX12_give_42 ?_
          obtain ⟨ho57, h⟩ := gd_some h
          obtain ⟨r58, S56, hr55, h⟩ := bd2_some h
          refine g_callV (rest := []) hC mi_X12_finding (k_X12_finding hr55) ck_X12.1 (by decide) ho57 tw_1069 tw_1071 ts_24 dX12_give_44 rfl rfl ⟨by decide, by decide⟩ (Nat.le_of_ble_eq_true rfl) ⟨by decide, by decide⟩ ?_
          cases h
          exact g_iret hC hR dX12_give_47 (by decide) (by decide)
    · rw [if_neg hc10] at h
      refine g_aload_n hC dX12_give_13 rfl ?_
      refine g_iload_n hC dX12_give_14 rfl ?_
      obtain ⟨ho61, h⟩ := gd_some h
      obtain ⟨r62, S60, hr59, h⟩ := bd2_some h
      refine g_callV (rest := []) hC mi_X12_isLorry (k_X12_isLorry hr59) ck_X12.1 (by decide) ho61 tw_1114 tw_1116 ts_28 dX12_give_15 rfl rfl ⟨by decide, by decide⟩ (Nat.le_of_ble_eq_true rfl) ⟨by decide, by decide⟩ ?_
      refine g_if_ne (tgt := 28) hC dX12_give_18 (by decide) (fun hc63 => ?_) (fun hc63 => ?_)
      · rw [if_neg hc63] at h
        refine g_iload_n hC dX12_give_28 rfl ?_
        refine g_if_lt (tgt := 48) hC dX12_give_29 (by decide) (fun hc64 => ?_) (fun hc64 => ?_)
        · rw [if_pos hc64] at h
          refine g_aload_n hC dX12_give_48 rfl ?_
          obtain ⟨ho67, h⟩ := gd_some h
          obtain ⟨S66, hr65, h⟩ := Option.bind_eq_some_iff.mp h
          refine g_callV (rest := []) hC mi_X12_keep (k_X12_keep hr65) ck_X12.1 (by decide) ho67 tw_1084 tw_1086 ts_25 dX12_give_49 rfl rfl ⟨by decide, by decide⟩ (Nat.le_of_ble_eq_true rfl) ⟨by decide, by decide⟩ ?_
          refine g_aload_n hC dX12_give_52 rfl ?_
          obtain ⟨ho68, h⟩ := gd_some h
          obtain ⟨q69, hq70, h⟩ := Option.bind_eq_some_iff.mp h
          refine g_getr (k := 0) (q := q69) hC ck_X12 (by decide) tw_984 rfl (by decide) dX12_give_53 ho68 hq70 ?_
          refine g_iload_n hC dX12_give_56 rfl ?_
          refine g_bipush (v := (10 : Int32)) hC dX12_give_57 (by decide) ?_
          obtain ⟨r73, S72, hr71, h⟩ := bd2_some h
          refine g_callS (rest := [.ref q69]) hC mi_X12_ofLoad (k_X12_ofLoad hr71) tw_1123 tw_1124 dX12_give_59 rfl rfl ⟨by decide, by decide⟩ (Nat.le_of_ble_eq_true rfl) ⟨by decide, by decide⟩ ?_
          obtain ⟨hx74, h⟩ := gd_some h
          refine g_iald hC dX12_give_62 hx74.1 hx74.2 ?_
          refine g_istore_n (L' := [(3, .int (wI S72 q69 r73.toNatClampNeg)), (0, .ref a0), (1, .int a1), (2, .int a2)]) hC dX12_give_63 (by decide) rfl ?_
          refine g_aload_n hC dX12_give_64 rfl ?_
          obtain ⟨ho75, h⟩ := gd_some h
          obtain ⟨q76, hq77, h⟩ := Option.bind_eq_some_iff.mp h
          refine g_getr (k := 0) (q := q76) hC ck_X12 (by decide) tw_984 rfl (by decide) dX12_give_65 ho75 hq77 ?_
          refine g_iload_n hC dX12_give_68 rfl ?_
          refine g_bipush (v := (10 : Int32)) hC dX12_give_69 (by decide) ?_
          obtain ⟨r80, S79, hr78, h⟩ := bd2_some h
          refine g_callS (rest := [.ref q76]) hC mi_X12_ofLoad (k_X12_ofLoad hr78) tw_1123 tw_1124 dX12_give_71 rfl rfl ⟨by decide, by decide⟩ (Nat.le_of_ble_eq_true rfl) ⟨by decide, by decide⟩ ?_
          refine g_iload_n hC dX12_give_74 rfl ?_
          obtain ⟨hx81, h⟩ := gd_some h
          refine g_iast hC dX12_give_75 hx81.1 hx81.2 ?_
          refine g_name (fun S82 eS83 => ?_)
          have h := ltS_use eS83 h
          refine g_iload_n hC dX12_give_76 rfl ?_
          cases h
          exact g_iret hC hR dX12_give_77 (by decide) (by decide)
        · rw [if_neg hc64] at h
          refine g_aload_n hC dX12_give_32 rfl ?_
          refine g_iload_n hC dX12_give_33 rfl ?_
          refine g_iload_n hC dX12_give_34 rfl ?_
          obtain ⟨ho86, h⟩ := gd_some h
          obtain ⟨r87, S85, hr84, h⟩ := bd2_some h
          refine g_callV (rest := []) hC mi_X12_fits (k_X12_fits hr84) ck_X12.1 (by decide) ho86 tw_1151 tw_1153 ts_30 dX12_give_35 rfl rfl ⟨by decide, by decide⟩ (Nat.le_of_ble_eq_true rfl) ⟨by decide, by decide⟩ ?_
          refine g_if_ne (tgt := 48) hC dX12_give_38 (by decide) (fun hc88 => ?_) (fun hc88 => ?_)
          · rw [if_neg hc88] at h
            refine g_aload_n hC dX12_give_48 rfl ?_
            obtain ⟨ho91, h⟩ := gd_some h
            obtain ⟨S90, hr89, h⟩ := Option.bind_eq_some_iff.mp h
            refine g_callV (rest := []) hC mi_X12_keep (k_X12_keep hr89) ck_X12.1 (by decide) ho91 tw_1084 tw_1086 ts_25 dX12_give_49 rfl rfl ⟨by decide, by decide⟩ (Nat.le_of_ble_eq_true rfl) ⟨by decide, by decide⟩ ?_
            refine g_aload_n hC dX12_give_52 rfl ?_
            obtain ⟨ho92, h⟩ := gd_some h
            obtain ⟨q93, hq94, h⟩ := Option.bind_eq_some_iff.mp h
            refine g_getr (k := 0) (q := q93) hC ck_X12 (by decide) tw_984 rfl (by decide) dX12_give_53 ho92 hq94 ?_
            refine g_iload_n hC dX12_give_56 rfl ?_
            refine g_bipush (v := (10 : Int32)) hC dX12_give_57 (by decide) ?_
            obtain ⟨r97, S96, hr95, h⟩ := bd2_some h
            refine g_callS (rest := [.ref q93]) hC mi_X12_ofLoad (k_X12_ofLoad hr95) tw_1123 tw_1124 dX12_give_59 rfl rfl ⟨by decide, by decide⟩ (Nat.le_of_ble_eq_true rfl) ⟨by decide, by decide⟩ ?_
            obtain ⟨hx98, h⟩ := gd_some h
            refine g_iald hC dX12_give_62 hx98.1 hx98.2 ?_
            refine g_istore_n (L' := [(3, .int (wI S96 q93 r97.toNatClampNeg)), (0, .ref a0), (1, .int a1), (2, .int a2)]) hC dX12_give_63 (by decide) rfl ?_
            refine g_aload_n hC dX12_give_64 rfl ?_
            obtain ⟨ho99, h⟩ := gd_some h
            obtain ⟨q100, hq101, h⟩ := Option.bind_eq_some_iff.mp h
            refine g_getr (k := 0) (q := q100) hC ck_X12 (by decide) tw_984 rfl (by decide) dX12_give_65 ho99 hq101 ?_
            refine g_iload_n hC dX12_give_68 rfl ?_
            refine g_bipush (v := (10 : Int32)) hC dX12_give_69 (by decide) ?_
            obtain ⟨r104, S103, hr102, h⟩ := bd2_some h
            refine g_callS (rest := [.ref q100]) hC mi_X12_ofLoad (k_X12_ofLoad hr102) tw_1123 tw_1124 dX12_give_71 rfl rfl ⟨by decide, by decide⟩ (Nat.le_of_ble_eq_true rfl) ⟨by decide, by decide⟩ ?_
            refine g_iload_n hC dX12_give_74 rfl ?_
            obtain ⟨hx105, h⟩ := gd_some h
            refine g_iast hC dX12_give_75 hx105.1 hx105.2 ?_
            refine g_name (fun S106 eS107 => ?_)
            have h := ltS_use eS107 h
            refine g_iload_n hC dX12_give_76 rfl ?_
            cases h
            exact g_iret hC hR dX12_give_77 (by decide) (by decide)
          · rw [if_pos hc88] at h
            refine g_aload_n hC dX12_give_41 rfl ?_
            refine g_ldc hC tw_1118 dX12_give_42 ?_
            obtain ⟨ho110, h⟩ := gd_some h
            obtain ⟨r111, S109, hr108, h⟩ := bd2_some h
            refine g_callV (rest := []) hC mi_X12_finding (k_X12_finding hr108) ck_X12.1 (by decide) ho110 tw_1069 tw_1071 ts_24 dX12_give_44 rfl rfl ⟨by decide, by decide⟩ (Nat.le_of_ble_eq_true rfl) ⟨by decide, by decide⟩ ?_
            cases h
            exact g_iret hC hR dX12_give_47 (by decide) (by decide)
      · rw [if_pos hc63] at h
        refine g_aload_n hC dX12_give_21 rfl ?_
        refine g_ldc hC tw_1083 dX12_give_22 ?_
        obtain ⟨ho114, h⟩ := gd_some h
        obtain ⟨r115, S113, hr112, h⟩ := bd2_some h
        refine g_callV (rest := []) hC mi_X12_finding (k_X12_finding hr112) ck_X12.1 (by decide) ho114 tw_1069 tw_1071 ts_24 dX12_give_24 rfl rfl ⟨by decide, by decide⟩ (Nat.le_of_ble_eq_true rfl) ⟨by decide, by decide⟩ ?_
        cases h
        exact g_iret hC hR dX12_give_27 (by decide) (by decide)

theorem mi_X12_refused : MI yX12_refused cX12_refused 4 (some .int) 3 := ⟨tw_1162, tw_14, by decide +kernel, by decide +kernel, by decide +kernel⟩
noncomputable def f_X12_refused (S : Wd) (a0 : Nat) (a1 : Int32) (a2 : Int32) (a3 : Int32) : Option (Int32 × Wd) := gd (ob S a0 12) (bd2 (f_X12_isLorry S a0 a1) (fun r4 S2 => if r4 = 0 then (some ((-100001 : Int32), S2)) else (if a2 = (-1 : Int32) then (if a3 = (-1 : Int32) then (if a3 < 0 then (if a2 < 0 then (some ((0 : Int32), S2)) else (gd (ob S2 a0 12) (bd2 (f_X12_fits S2 a0 a1 a2) (fun r13 S11 => if r13 = 0 then (some ((-100004 : Int32), S11)) else (if a3 < 0 then (some ((0 : Int32), S11)) else (gd (ob S11 a0 12) (bd2 (f_X12_fits S11 a0 a1 a3) (fun r19 S17 => if r19 = 0 then (some ((-100004 : Int32), S17)) else (some ((0 : Int32), S17)))))))))) else (if a2 < 0 then (some ((-100001 : Int32), S2)) else (if a2 = a3 then (some ((-100001 : Int32), S2)) else (if a2 < 0 then (some ((0 : Int32), S2)) else (gd (ob S2 a0 12) (bd2 (f_X12_fits S2 a0 a1 a2) (fun r27 S25 => if r27 = 0 then (some ((-100004 : Int32), S25)) else (if a3 < 0 then (some ((0 : Int32), S25)) else (gd (ob S25 a0 12) (bd2 (f_X12_fits S25 a0 a1 a3) (fun r33 S31 => if r33 = 0 then (some ((-100004 : Int32), S31)) else (some ((0 : Int32), S31))))))))))))) else (gd (ob S2 a0 12) (bd2 (f_X12_isLoad S2 a0 a3) (fun r38 S36 => if r38 = 0 then (some ((-100001 : Int32), S36)) else (if a3 < 0 then (if a2 < 0 then (some ((0 : Int32), S36)) else (gd (ob S36 a0 12) (bd2 (f_X12_fits S36 a0 a1 a2) (fun r45 S43 => if r45 = 0 then (some ((-100004 : Int32), S43)) else (if a3 < 0 then (some ((0 : Int32), S43)) else (gd (ob S43 a0 12) (bd2 (f_X12_fits S43 a0 a1 a3) (fun r51 S49 => if r51 = 0 then (some ((-100004 : Int32), S49)) else (some ((0 : Int32), S49)))))))))) else (if a2 < 0 then (some ((-100001 : Int32), S36)) else (if a2 = a3 then (some ((-100001 : Int32), S36)) else (if a2 < 0 then (some ((0 : Int32), S36)) else (gd (ob S36 a0 12) (bd2 (f_X12_fits S36 a0 a1 a2) (fun r59 S57 => if r59 = 0 then (some ((-100004 : Int32), S57)) else (if a3 < 0 then (some ((0 : Int32), S57)) else (gd (ob S57 a0 12) (bd2 (f_X12_fits S57 a0 a1 a3) (fun r65 S63 => if r65 = 0 then (some ((-100004 : Int32), S63)) else (some ((0 : Int32), S63))))))))))))))))) else (gd (ob S2 a0 12) (bd2 (f_X12_isLoad S2 a0 a2) (fun r70 S68 => if r70 = 0 then (some ((-100001 : Int32), S68)) else (if a3 = (-1 : Int32) then (if a3 < 0 then (if a2 < 0 then (some ((0 : Int32), S68)) else (gd (ob S68 a0 12) (bd2 (f_X12_fits S68 a0 a1 a2) (fun r78 S76 => if r78 = 0 then (some ((-100004 : Int32), S76)) else (if a3 < 0 then (some ((0 : Int32), S76)) else (gd (ob S76 a0 12) (bd2 (f_X12_fits S76 a0 a1 a3) (fun r84 S82 => if r84 = 0 then (some ((-100004 : Int32), S82)) else (some ((0 : Int32), S82)))))))))) else (if a2 < 0 then (some ((-100001 : Int32), S68)) else (if a2 = a3 then (some ((-100001 : Int32), S68)) else (if a2 < 0 then (some ((0 : Int32), S68)) else (gd (ob S68 a0 12) (bd2 (f_X12_fits S68 a0 a1 a2) (fun r92 S90 => if r92 = 0 then (some ((-100004 : Int32), S90)) else (if a3 < 0 then (some ((0 : Int32), S90)) else (gd (ob S90 a0 12) (bd2 (f_X12_fits S90 a0 a1 a3) (fun r98 S96 => if r98 = 0 then (some ((-100004 : Int32), S96)) else (some ((0 : Int32), S96))))))))))))) else (gd (ob S68 a0 12) (bd2 (f_X12_isLoad S68 a0 a3) (fun r103 S101 => if r103 = 0 then (some ((-100001 : Int32), S101)) else (if a3 < 0 then (if a2 < 0 then (some ((0 : Int32), S101)) else (gd (ob S101 a0 12) (bd2 (f_X12_fits S101 a0 a1 a2) (fun r110 S108 => if r110 = 0 then (some ((-100004 : Int32), S108)) else (if a3 < 0 then (some ((0 : Int32), S108)) else (gd (ob S108 a0 12) (bd2 (f_X12_fits S108 a0 a1 a3) (fun r116 S114 => if r116 = 0 then (some ((-100004 : Int32), S114)) else (some ((0 : Int32), S114)))))))))) else (if a2 < 0 then (some ((-100001 : Int32), S101)) else (if a2 = a3 then (some ((-100001 : Int32), S101)) else (if a2 < 0 then (some ((0 : Int32), S101)) else (gd (ob S101 a0 12) (bd2 (f_X12_fits S101 a0 a1 a2) (fun r124 S122 => if r124 = 0 then (some ((-100004 : Int32), S122)) else (if a3 < 0 then (some ((0 : Int32), S122)) else (gd (ob S122 a0 12) (bd2 (f_X12_fits S122 a0 a1 a3) (fun r130 S128 => if r130 = 0 then (some ((-100004 : Int32), S128)) else (some ((0 : Int32), S128)))))))))))))))))))))))
set_option maxRecDepth 100000 in
set_option maxHeartbeats 4000000 in
theorem k_X12_refused {S : Wd} {a0 : Nat} {a1 : Int32} {a2 : Int32} {a3 : Int32} {r : Int32} {S' : Wd} (h : f_X12_refused S a0 a1 a2 a3 = some (r, S')) : Sp yX12_refused cX12_refused 4 (some .int) 2 46 0 0 [.ref a0, .int a1, .int a2, .int a3] S (some (.int r)) S' := by
  unfold f_X12_refused at h
  refine Sp.of (by decide +kernel) (Nat.le_of_ble_eq_true rfl) ?_
  intro b hC hin hR
  show G b 0 [(0, .ref a0), (1, .int a1), (2, .int a2), (3, .int a3)] [] S 0 0
  refine g_aload_n hC dX12_refused_0 rfl ?_
  refine g_iload_n hC dX12_refused_1 rfl ?_
  obtain ⟨ho3, h⟩ := gd_some h
  obtain ⟨r4, S2, hr1, h⟩ := bd2_some h
  refine g_callV (rest := []) hC mi_X12_isLorry (k_X12_isLorry hr1) ck_X12.1 (by decide) ho3 tw_1114 tw_1116 ts_28 dX12_refused_2 rfl rfl ⟨by decide, by decide⟩ (Nat.le_of_ble_eq_true rfl) ⟨by decide, by decide⟩ ?_
  refine g_if_eq (tgt := 47) hC dX12_refused_5 (by decide) (fun hc5 => ?_) (fun hc5 => ?_)
  · rw [if_pos hc5] at h
    refine g_ldc hC tw_1083 dX12_refused_47 ?_
    cases h
    exact g_iret hC hR dX12_refused_49 (by decide) (by decide)
  · rw [if_neg hc5] at h
    refine g_iload_n hC dX12_refused_8 rfl ?_
    refine g_iconst (v := (-1 : Int32)) hC dX12_refused_9 (by decide) ?_
    refine g_icmp_eq (tgt := 21) hC dX12_refused_10 (by decide) (fun hc6 => ?_) (fun hc6 => ?_)
    · rw [if_pos hc6] at h
      refine g_iload_n hC dX12_refused_21 rfl ?_
      refine g_iconst (v := (-1 : Int32)) hC dX12_refused_22 (by decide) ?_
      refine g_icmp_eq (tgt := 34) hC dX12_refused_23 (by decide) (fun hc7 => ?_) (fun hc7 => ?_)
      · rw [if_pos hc7] at h
        refine g_iload_n hC dX12_refused_34 rfl ?_
        refine g_if_lt (tgt := 50) hC dX12_refused_35 (by decide) (fun hc8 => ?_) (fun hc8 => ?_)
        · rw [if_pos hc8] at h
          refine g_iload_n hC dX12_refused_50 rfl ?_
          refine g_if_lt (tgt := 81) hC dX12_refused_51 (by decide) (fun hc9 => ?_) (fun hc9 => ?_)
          · rw [if_pos hc9] at h
            refine g_iconst (v := (0 : Int32)) hC dX12_refused_81 (by decide) ?_
            cases h
            exact g_iret hC hR dX12_refused_82 (by decide) (by decide)
          · rw [if_neg hc9] at h
            refine g_aload_n hC dX12_refused_54 rfl ?_
            refine g_iload_n hC dX12_refused_55 rfl ?_
            refine g_iload_n hC dX12_refused_56 rfl ?_
            obtain ⟨ho12, h⟩ := gd_some h
            obtain ⟨r13, S11, hr10, h⟩ := bd2_some h
            refine g_callV (rest := []) hC mi_X12_fits (k_X12_fits hr10) ck_X12.1 (by decide) ho12 tw_1151 tw_1153 ts_30 dX12_refused_57 rfl rfl ⟨by decide, by decide⟩ (Nat.le_of_ble_eq_true rfl) ⟨by decide, by decide⟩ ?_
            refine g_if_eq (tgt := 76) hC dX12_refused_60 (by decide) (fun hc14 => ?_) (fun hc14 => ?_)
            · rw [if_pos hc14] at h
              refine g_ldc hC tw_1118 dX12_refused_76 ?_
              refine g_goto (tgt := 82) hC dX12_refused_78 (by decide) ?_
              cases h
              exact g_iret hC hR dX12_refused_82 (by decide) (by decide)
            · rw [if_neg hc14] at h
              refine g_iload_n hC dX12_refused_63 rfl ?_
              refine g_if_lt (tgt := 81) hC dX12_refused_64 (by decide) (fun hc15 => ?_) (fun hc15 => ?_)
              · rw [if_pos hc15] at h
                refine g_iconst (v := (0 : Int32)) hC dX12_refused_81 (by decide) ?_
                cases h
                exact g_iret hC hR dX12_refused_82 (by decide) (by decide)
              · rw [if_neg hc15] at h
                refine g_aload_n hC dX12_refused_67 rfl ?_
                refine g_iload_n hC dX12_refused_68 rfl ?_
                refine g_iload_n hC dX12_refused_69 rfl ?_
                obtain ⟨ho18, h⟩ := gd_some h
                obtain ⟨r19, S17, hr16, h⟩ := bd2_some h
                refine g_callV (rest := []) hC mi_X12_fits (k_X12_fits hr16) ck_X12.1 (by decide) ho18 tw_1151 tw_1153 ts_30 dX12_refused_70 rfl rfl ⟨by decide, by decide⟩ (Nat.le_of_ble_eq_true rfl) ⟨by decide, by decide⟩ ?_
                refine g_if_ne (tgt := 81) hC dX12_refused_73 (by decide) (fun hc20 => ?_) (fun hc20 => ?_)
                · rw [if_neg hc20] at h
                  refine g_iconst (v := (0 : Int32)) hC dX12_refused_81 (by decide) ?_
                  cases h
                  exact g_iret hC hR dX12_refused_82 (by decide) (by decide)
                · rw [if_pos hc20] at h
                  refine g_ldc hC tw_1118 dX12_refused_76 ?_
                  refine g_goto (tgt := 82) hC dX12_refused_78 (by decide) ?_
                  cases h
                  exact g_iret hC hR dX12_refused_82 (by decide) (by decide)
        · rw [if_neg hc8] at h
          refine g_iload_n hC dX12_refused_38 rfl ?_
          refine g_if_lt (tgt := 47) hC dX12_refused_39 (by decide) (fun hc21 => ?_) (fun hc21 => ?_)
          · rw [if_pos hc21] at h
            refine g_ldc hC tw_1083 dX12_refused_47 ?_
            cases h
            exact g_iret hC hR dX12_refused_49 (by decide) (by decide)
          · rw [if_neg hc21] at h
            refine g_iload_n hC dX12_refused_42 rfl ?_
            refine g_iload_n hC dX12_refused_43 rfl ?_
            refine g_icmp_ne (tgt := 50) hC dX12_refused_44 (by decide) (fun hc22 => ?_) (fun hc22 => ?_)
            · rw [if_neg hc22] at h
              refine g_iload_n hC dX12_refused_50 rfl ?_
              refine g_if_lt (tgt := 81) hC dX12_refused_51 (by decide) (fun hc23 => ?_) (fun hc23 => ?_)
              · rw [if_pos hc23] at h
                refine g_iconst (v := (0 : Int32)) hC dX12_refused_81 (by decide) ?_
                cases h
                exact g_iret hC hR dX12_refused_82 (by decide) (by decide)
              · rw [if_neg hc23] at h
                refine g_aload_n hC dX12_refused_54 rfl ?_
                refine g_iload_n hC dX12_refused_55 rfl ?_
                refine g_iload_n hC dX12_refused_56 rfl ?_
                obtain ⟨ho26, h⟩ := gd_some h
                obtain ⟨r27, S25, hr24, h⟩ := bd2_some h
                refine g_callV (rest := []) hC mi_X12_fits (k_X12_fits hr24) ck_X12.1 (by decide) ho26 tw_1151 tw_1153 ts_30 dX12_refused_57 rfl rfl ⟨by decide, by decide⟩ (Nat.le_of_ble_eq_true rfl) ⟨by decide, by decide⟩ ?_
                refine g_if_eq (tgt := 76) hC dX12_refused_60 (by decide) (fun hc28 => ?_) (fun hc28 => ?_)
                · rw [if_pos hc28] at h
                  refine g_ldc hC tw_1118 dX12_refused_76 ?_
                  refine g_goto (tgt := 82) hC dX12_refused_78 (by decide) ?_
                  cases h
                  exact g_iret hC hR dX12_refused_82 (by decide) (by decide)
                · rw [if_neg hc28] at h
                  refine g_iload_n hC dX12_refused_63 rfl ?_
                  refine g_if_lt (tgt := 81) hC dX12_refused_64 (by decide) (fun hc29 => ?_) (fun hc29 => ?_)
                  · rw [if_pos hc29] at h
                    refine g_iconst (v := (0 : Int32)) hC dX12_refused_81 (by decide) ?_
                    cases h
                    exact g_iret hC hR dX12_refused_82 (by decide) (by decide)
                  · rw [if_neg hc29] at h
                    refine g_aload_n hC dX12_refused_67 rfl ?_
                    refine g_iload_n hC dX12_refused_68 rfl ?_
                    refine g_iload_n hC dX12_refused_69 rfl ?_
                    obtain ⟨ho32, h⟩ := gd_some h
                    obtain ⟨r33, S31, hr30, h⟩ := bd2_some h
                    refine g_callV (rest := []) hC mi_X12_fits (k_X12_fits hr30) ck_X12.1 (by decide) ho32 tw_1151 tw_1153 ts_30 dX12_refused_70 rfl rfl ⟨by decide, by decide⟩ (Nat.le_of_ble_eq_true rfl) ⟨by decide, by decide⟩ ?_
                    refine g_if_ne (tgt := 81) hC dX12_refused_73 (by decide) (fun hc34 => ?_) (fun hc34 => ?_)
                    · rw [if_neg hc34] at h
                      refine g_iconst (v := (0 : Int32)) hC dX12_refused_81 (by decide) ?_
                      cases h
                      exact g_iret hC hR dX12_refused_82 (by decide) (by decide)
                    · rw [if_pos hc34] at h
                      refine g_ldc hC tw_1118 dX12_refused_76 ?_
                      refine g_goto (tgt := 82) hC dX12_refused_78 (by decide) ?_
                      cases h
                      exact g_iret hC hR dX12_refused_82 (by decide) (by decide)
            · rw [if_pos hc22] at h
              refine g_ldc hC tw_1083 dX12_refused_47 ?_
              cases h
              exact g_iret hC hR dX12_refused_49 (by decide) (by decide)
      · rw [if_neg hc7] at h
        refine g_aload_n hC dX12_refused_26 rfl ?_
        refine g_iload_n hC dX12_refused_27 rfl ?_
        obtain ⟨ho37, h⟩ := gd_some h
        obtain ⟨r38, S36, hr35, h⟩ := bd2_some h
        refine g_callV (rest := []) hC mi_X12_isLoad (k_X12_isLoad hr35) ck_X12.1 (by decide) ho37 tw_1135 tw_1137 ts_29 dX12_refused_28 rfl rfl ⟨by decide, by decide⟩ (Nat.le_of_ble_eq_true rfl) ⟨by decide, by decide⟩ ?_
        refine g_if_eq (tgt := 47) hC dX12_refused_31 (by decide) (fun hc39 => ?_) (fun hc39 => ?_)
        · rw [if_pos hc39] at h
          refine g_ldc hC tw_1083 dX12_refused_47 ?_
          cases h
          exact g_iret hC hR dX12_refused_49 (by decide) (by decide)
        · rw [if_neg hc39] at h
          refine g_iload_n hC dX12_refused_34 rfl ?_
          refine g_if_lt (tgt := 50) hC dX12_refused_35 (by decide) (fun hc40 => ?_) (fun hc40 => ?_)
          · rw [if_pos hc40] at h
            refine g_iload_n hC dX12_refused_50 rfl ?_
            refine g_if_lt (tgt := 81) hC dX12_refused_51 (by decide) (fun hc41 => ?_) (fun hc41 => ?_)
            · rw [if_pos hc41] at h
              refine g_iconst (v := (0 : Int32)) hC dX12_refused_81 (by decide) ?_
              cases h
              exact g_iret hC hR dX12_refused_82 (by decide) (by decide)
            · rw [if_neg hc41] at h
              refine g_aload_n hC dX12_refused_54 rfl ?_
              refine g_iload_n hC dX12_refused_55 rfl ?_
              refine g_iload_n hC dX12_refused_56 rfl ?_
              obtain ⟨ho44, h⟩ := gd_some h
              obtain ⟨r45, S43, hr42, h⟩ := bd2_some h
              refine g_callV (rest := []) hC mi_X12_fits (k_X12_fits hr42) ck_X12.1 (by decide) ho44 tw_1151 tw_1153 ts_30 dX12_refused_57 rfl rfl ⟨by decide, by decide⟩ (Nat.le_of_ble_eq_true rfl) ⟨by decide, by decide⟩ ?_
              refine g_if_eq (tgt := 76) hC dX12_refused_60 (by decide) (fun hc46 => ?_) (fun hc46 => ?_)
              · rw [if_pos hc46] at h
                refine g_ldc hC tw_1118 dX12_refused_76 ?_
                refine g_goto (tgt := 82) hC dX12_refused_78 (by decide) ?_
                cases h
                exact g_iret hC hR dX12_refused_82 (by decide) (by decide)
              · rw [if_neg hc46] at h
                refine g_iload_n hC dX12_refused_63 rfl ?_
                refine g_if_lt (tgt := 81) hC dX12_refused_64 (by decide) (fun hc47 => ?_) (fun hc47 => ?_)
                · rw [if_pos hc47] at h
                  refine g_iconst (v := (0 : Int32)) hC dX12_refused_81 (by decide) ?_
                  cases h
                  exact g_iret hC hR dX12_refused_82 (by decide) (by decide)
                · rw [if_neg hc47] at h
                  refine g_aload_n hC dX12_refused_67 rfl ?_
                  refine g_iload_n hC dX12_refused_68 rfl ?_
                  refine g_iload_n hC dX12_refused_69 rfl ?_
                  obtain ⟨ho50, h⟩ := gd_some h
                  obtain ⟨r51, S49, hr48, h⟩ := bd2_some h
                  refine g_callV (rest := []) hC mi_X12_fits (k_X12_fits hr48) ck_X12.1 (by decide) ho50 tw_1151 tw_1153 ts_30 dX12_refused_70 rfl rfl ⟨by decide, by decide⟩ (Nat.le_of_ble_eq_true rfl) ⟨by decide, by decide⟩ ?_
                  refine g_if_ne (tgt := 81) hC dX12_refused_73 (by decide) (fun hc52 => ?_) (fun hc52 => ?_)
                  · rw [if_neg hc52] at h
                    refine g_iconst (v := (0 : Int32)) hC dX12_refused_81 (by decide) ?_
                    cases h
                    exact g_iret hC hR dX12_refused_82 (by decide) (by decide)
                  · rw [if_pos hc52] at h
                    refine g_ldc hC tw_1118 dX12_refused_76 ?_
                    refine g_goto (tgt := 82) hC dX12_refused_78 (by decide) ?_
                    cases h
                    exact g_iret hC hR dX12_refused_82 (by decide) (by decide)
          · rw [if_neg hc40] at h
            refine g_iload_n hC dX12_refused_38 rfl ?_
            refine g_if_lt (tgt := 47) hC dX12_refused_39 (by decide) (fun hc53 => ?_) (fun hc53 => ?_)
            · rw [if_pos hc53] at h
              refine g_ldc hC tw_1083 dX12_refused_47 ?_
              cases h
              exact g_iret hC hR dX12_refused_49 (by decide) (by decide)
            · rw [if_neg hc53] at h
              refine g_iload_n hC dX12_refused_42 rfl ?_
              refine g_iload_n hC dX12_refused_43 rfl ?_
              refine g_icmp_ne (tgt := 50) hC dX12_refused_44 (by decide) (fun hc54 => ?_) (fun hc54 => ?_)
              · rw [if_neg hc54] at h
                refine g_iload_n hC dX12_refused_50 rfl ?_
                refine g_if_lt (tgt := 81) hC dX12_refused_51 (by decide) (fun hc55 => ?_) (fun hc55 => ?_)
                · rw [if_pos hc55] at h
                  refine g_iconst (v := (0 : Int32)) hC dX12_refused_81 (by decide) ?_
                  cases h
                  exact g_iret hC hR dX12_refused_82 (by decide) (by decide)
                · rw [if_neg hc55] at h
                  refine g_aload_n hC dX12_refused_54 rfl ?_
                  refine g_iload_n hC dX12_refused_55 rfl ?_
                  refine g_iload_n hC dX12_refused_56 rfl ?_
                  obtain ⟨ho58, h⟩ := gd_some h
                  obtain ⟨r59, S57, hr56, h⟩ := bd2_some h
                  refine g_callV (rest := []) hC mi_X12_fits (k_X12_fits hr56) ck_X12.1 (by decide) ho58 tw_1151 tw_1153 ts_30 dX12_refused_57 rfl rfl ⟨by decide, by decide⟩ (Nat.le_of_ble_eq_true rfl) ⟨by decide, by decide⟩ ?_
                  refine g_if_eq (tgt := 76) hC dX12_refused_60 (by decide) (fun hc60 => ?_) (fun hc60 => ?_)
                  · rw [if_pos hc60] at h
                    refine g_ldc hC tw_1118 dX12_refused_76 ?_
                    refine g_goto (tgt := 82) hC dX12_refused_78 (by decide) ?_
                    cases h
                    exact g_iret hC hR dX12_refused_82 (by decide) (by decide)
                  · rw [if_neg hc60] at h
                    refine g_iload_n hC dX12_refused_63 rfl ?_
                    refine g_if_lt (tgt := 81) hC dX12_refused_64 (by decide) (fun hc61 => ?_) (fun hc61 => ?_)
                    · rw [if_pos hc61] at h
                      refine g_iconst (v := (0 : Int32)) hC dX12_refused_81 (by decide) ?_
                      cases h
                      exact g_iret hC hR dX12_refused_82 (by decide) (by decide)
                    · rw [if_neg hc61] at h
                      refine g_aload_n hC dX12_refused_67 rfl ?_
                      refine g_iload_n hC dX12_refused_68 rfl ?_
                      refine g_iload_n hC dX12_refused_69 rfl ?_
                      obtain ⟨ho64, h⟩ := gd_some h
                      obtain ⟨r65, S63, hr62, h⟩ := bd2_some h
                      refine g_callV (rest := []) hC mi_X12_fits (k_X12_fits hr62) ck_X12.1 (by decide) ho64 tw_1151 tw_1153 ts_30 dX12_refused_70 rfl rfl ⟨by decide, by decide⟩ (Nat.le_of_ble_eq_true rfl) ⟨by decide, by decide⟩ ?_
                      refine g_if_ne (tgt := 81) hC dX12_refused_73 (by decide) (fun hc66 => ?_) (fun hc66 => ?_)
                      · rw [if_neg hc66] at h
                        refine g_iconst (v := (0 : Int32)) hC dX12_refused_81 (by decide) ?_
                        cases h
                        exact g_iret hC hR dX12_refused_82 (by decide) (by decide)
                      · rw [if_pos hc66] at h
                        refine g_ldc hC tw_1118 dX12_refused_76 ?_
                        refine g_goto (tgt := 82) hC dX12_refused_78 (by decide) ?_
                        cases h
                        exact g_iret hC hR dX12_refused_82 (by decide) (by decide)
              · rw [if_pos hc54] at h
                refine g_ldc hC tw_1083 dX12_refused_47 ?_
                cases h
                exact g_iret hC hR dX12_refused_49 (by decide) (by decide)
    · rw [if_neg hc6] at h
      refine g_aload_n hC dX12_refused_13 rfl ?_
      refine g_iload_n hC dX12_refused_14 rfl ?_
      obtain ⟨ho69, h⟩ := gd_some h
      obtain ⟨r70, S68, hr67, h⟩ := bd2_some h
      refine g_callV (rest := []) hC mi_X12_isLoad (k_X12_isLoad hr67) ck_X12.1 (by decide) ho69 tw_1135 tw_1137 ts_29 dX12_refused_15 rfl rfl ⟨by decide, by decide⟩ (Nat.le_of_ble_eq_true rfl) ⟨by decide, by decide⟩ ?_
      refine g_if_eq (tgt := 47) hC dX12_refused_18 (by decide) (fun hc71 => ?_) (fun hc71 => ?_)
      · rw [if_pos hc71] at h
        refine g_ldc hC tw_1083 dX12_refused_47 ?_
        cases h
        exact g_iret hC hR dX12_refused_49 (by decide) (by decide)
      · rw [if_neg hc71] at h
        refine g_iload_n hC dX12_refused_21 rfl ?_
        refine g_iconst (v := (-1 : Int32)) hC dX12_refused_22 (by decide) ?_
        refine g_icmp_eq (tgt := 34) hC dX12_refused_23 (by decide) (fun hc72 => ?_) (fun hc72 => ?_)
        · rw [if_pos hc72] at h
          refine g_iload_n hC dX12_refused_34 rfl ?_
          refine g_if_lt (tgt := 50) hC dX12_refused_35 (by decide) (fun hc73 => ?_) (fun hc73 => ?_)
          · rw [if_pos hc73] at h
            refine g_iload_n hC dX12_refused_50 rfl ?_
            refine g_if_lt (tgt := 81) hC dX12_refused_51 (by decide) (fun hc74 => ?_) (fun hc74 => ?_)
            · rw [if_pos hc74] at h
              refine g_iconst (v := (0 : Int32)) hC dX12_refused_81 (by decide) ?_
              cases h
              exact g_iret hC hR dX12_refused_82 (by decide) (by decide)
            · rw [if_neg hc74] at h
              refine g_aload_n hC dX12_refused_54 rfl ?_
              refine g_iload_n hC dX12_refused_55 rfl ?_
              refine g_iload_n hC dX12_refused_56 rfl ?_
              obtain ⟨ho77, h⟩ := gd_some h
              obtain ⟨r78, S76, hr75, h⟩ := bd2_some h
              refine g_callV (rest := []) hC mi_X12_fits (k_X12_fits hr75) ck_X12.1 (by decide) ho77 tw_1151 tw_1153 ts_30 dX12_refused_57 rfl rfl ⟨by decide, by decide⟩ (Nat.le_of_ble_eq_true rfl) ⟨by decide, by decide⟩ ?_
              refine g_if_eq (tgt := 76) hC dX12_refused_60 (by decide) (fun hc79 => ?_) (fun hc79 => ?_)
              · rw [if_pos hc79] at h
                refine g_ldc hC tw_1118 dX12_refused_76 ?_
                refine g_goto (tgt := 82) hC dX12_refused_78 (by decide) ?_
                cases h
                exact g_iret hC hR dX12_refused_82 (by decide) (by decide)
              · rw [if_neg hc79] at h
                refine g_iload_n hC dX12_refused_63 rfl ?_
                refine g_if_lt (tgt := 81) hC dX12_refused_64 (by decide) (fun hc80 => ?_) (fun hc80 => ?_)
                · rw [if_pos hc80] at h
                  refine g_iconst (v := (0 : Int32)) hC dX12_refused_81 (by decide) ?_
                  cases h
                  exact g_iret hC hR dX12_refused_82 (by decide) (by decide)
                · rw [if_neg hc80] at h
                  refine g_aload_n hC dX12_refused_67 rfl ?_
                  refine g_iload_n hC dX12_refused_68 rfl ?_
                  refine g_iload_n hC dX12_refused_69 rfl ?_
                  obtain ⟨ho83, h⟩ := gd_some h
                  obtain ⟨r84, S82, hr81, h⟩ := bd2_some h
                  refine g_callV (rest := []) hC mi_X12_fits (k_X12_fits hr81) ck_X12.1 (by decide) ho83 tw_1151 tw_1153 ts_30 dX12_refused_70 rfl rfl ⟨by decide, by decide⟩ (Nat.le_of_ble_eq_true rfl) ⟨by decide, by decide⟩ ?_
                  refine g_if_ne (tgt := 81) hC dX12_refused_73 (by decide) (fun hc85 => ?_) (fun hc85 => ?_)
                  · rw [if_neg hc85] at h
                    refine g_iconst (v := (0 : Int32)) hC dX12_refused_81 (by decide) ?_
                    cases h
                    exact g_iret hC hR dX12_refused_82 (by decide) (by decide)
                  · rw [if_pos hc85] at h
                    refine g_ldc hC tw_1118 dX12_refused_76 ?_
                    refine g_goto (tgt := 82) hC dX12_refused_78 (by decide) ?_
                    cases h
                    exact g_iret hC hR dX12_refused_82 (by decide) (by decide)
          · rw [if_neg hc73] at h
            refine g_iload_n hC dX12_refused_38 rfl ?_
            refine g_if_lt (tgt := 47) hC dX12_refused_39 (by decide) (fun hc86 => ?_) (fun hc86 => ?_)
            · rw [if_pos hc86] at h
              refine g_ldc hC tw_1083 dX12_refused_47 ?_
              cases h
              exact g_iret hC hR dX12_refused_49 (by decide) (by decide)
            · rw [if_neg hc86] at h
              refine g_iload_n hC dX12_refused_42 rfl ?_
              refine g_iload_n hC dX12_refused_43 rfl ?_
              refine g_icmp_ne (tgt := 50) hC dX12_refused_44 (by decide) (fun hc87 => ?_) (fun hc87 => ?_)
              · rw [if_neg hc87] at h
                refine g_iload_n hC dX12_refused_50 rfl ?_
                refine g_if_lt (tgt := 81) hC dX12_refused_51 (by decide) (fun hc88 => ?_) (fun hc88 => ?_)
                · rw [if_pos hc88] at h
                  refine g_iconst (v := (0 : Int32)) hC dX12_refused_81 (by decide) ?_
                  cases h
                  exact g_iret hC hR dX12_refused_82 (by decide) (by decide)
                · rw [if_neg hc88] at h
                  refine g_aload_n hC dX12_refused_54 rfl ?_
                  refine g_iload_n hC dX12_refused_55 rfl ?_
                  refine g_iload_n hC dX12_refused_56 rfl ?_
                  obtain ⟨ho91, h⟩ := gd_some h
                  obtain ⟨r92, S90, hr89, h⟩ := bd2_some h
                  refine g_callV (rest := []) hC mi_X12_fits (k_X12_fits hr89) ck_X12.1 (by decide) ho91 tw_1151 tw_1153 ts_30 dX12_refused_57 rfl rfl ⟨by decide, by decide⟩ (Nat.le_of_ble_eq_true rfl) ⟨by decide, by decide⟩ ?_
                  refine g_if_eq (tgt := 76) hC dX12_refused_60 (by decide) (fun hc93 => ?_) (fun hc93 => ?_)
                  · rw [if_pos hc93] at h
                    refine g_ldc hC tw_1118 dX12_refused_76 ?_
                    refine g_goto (tgt := 82) hC dX12_refused_78 (by decide) ?_
                    cases h
                    exact g_iret hC hR dX12_refused_82 (by decide) (by decide)
                  · rw [if_neg hc93] at h
                    refine g_iload_n hC dX12_refused_63 rfl ?_
                    refine g_if_lt (tgt := 81) hC dX12_refused_64 (by decide) (fun hc94 => ?_) (fun hc94 => ?_)
                    · rw [if_pos hc94] at h
                      refine g_iconst (v := (0 : Int32)) hC dX12_refused_81 (by decide) ?_
                      cases h
                      exact g_iret hC hR dX12_refused_82 (by decide) (by decide)
                    · rw [if_neg hc94] at h
                      refine g_aload_n hC dX12_refused_67 rfl ?_
                      refine g_iload_n hC dX12_refused_68 rfl ?_
                      refine g_iload_n hC dX12_refused_69 rfl ?_
                      obtain ⟨ho97, h⟩ := gd_some h
                      obtain ⟨r98, S96, hr95, h⟩ := bd2_some h
                      refine g_callV (rest := []) hC mi_X12_fits (k_X12_fits hr95) ck_X12.1 (by decide) ho97 tw_1151 tw_1153 ts_30 dX12_refused_70 rfl rfl ⟨by decide, by decide⟩ (Nat.le_of_ble_eq_true rfl) ⟨by decide, by decide⟩ ?_
                      refine g_if_ne (tgt := 81) hC dX12_refused_73 (by decide) (fun hc99 => ?_) (fun hc99 => ?_)
                      · rw [if_neg hc99] at h
                        refine g_iconst (v := (0 : Int32)) hC dX12_refused_81 (by decide) ?_
                        cases h
                        exact g_iret hC hR dX12_refused_82 (by decide) (by decide)
                      · rw [if_pos hc99] at h
                        refine g_ldc hC tw_1118 dX12_refused_76 ?_
                        refine g_goto (tgt := 82) hC dX12_refused_78 (by decide) ?_
                        cases h
                        exact g_iret hC hR dX12_refused_82 (by decide) (by decide)
              · rw [if_pos hc87] at h
                refine g_ldc hC tw_1083 dX12_refused_47 ?_
                cases h
                exact g_iret hC hR dX12_refused_49 (by decide) (by decide)
        · rw [if_neg hc72] at h
          refine g_aload_n hC dX12_refused_26 rfl ?_
          refine g_iload_n hC dX12_refused_27 rfl ?_
          obtain ⟨ho102, h⟩ := gd_some h
          obtain ⟨r103, S101, hr100, h⟩ := bd2_some h
          refine g_callV (rest := []) hC mi_X12_isLoad (k_X12_isLoad hr100) ck_X12.1 (by decide) ho102 tw_1135 tw_1137 ts_29 dX12_refused_28 rfl rfl ⟨by decide, by decide⟩ (Nat.le_of_ble_eq_true rfl) ⟨by decide, by decide⟩ ?_
          refine g_if_eq (tgt := 47) hC dX12_refused_31 (by decide) (fun hc104 => ?_) (fun hc104 => ?_)
          · rw [if_pos hc104] at h
            refine g_ldc hC tw_1083 dX12_refused_47 ?_
            cases h
            exact g_iret hC hR dX12_refused_49 (by decide) (by decide)
          · rw [if_neg hc104] at h
            refine g_iload_n hC dX12_refused_34 rfl ?_
            refine g_if_lt (tgt := 50) hC dX12_refused_35 (by decide) (fun hc105 => ?_) (fun hc105 => ?_)
            · rw [if_pos hc105] at h
              refine g_iload_n hC dX12_refused_50 rfl ?_
              refine g_if_lt (tgt := 81) hC dX12_refused_51 (by decide) (fun hc106 => ?_) (fun hc106 => ?_)
              · rw [if_pos hc106] at h
                refine g_iconst (v := (0 : Int32)) hC dX12_refused_81 (by decide) ?_
                cases h
                exact g_iret hC hR dX12_refused_82 (by decide) (by decide)
              · rw [if_neg hc106] at h
                refine g_aload_n hC dX12_refused_54 rfl ?_
                refine g_iload_n hC dX12_refused_55 rfl ?_
                refine g_iload_n hC dX12_refused_56 rfl ?_
                obtain ⟨ho109, h⟩ := gd_some h
                obtain ⟨r110, S108, hr107, h⟩ := bd2_some h
                refine g_callV (rest := []) hC mi_X12_fits (k_X12_fits hr107) ck_X12.1 (by decide) ho109 tw_1151 tw_1153 ts_30 dX12_refused_57 rfl rfl ⟨by decide, by decide⟩ (Nat.le_of_ble_eq_true rfl) ⟨by decide, by decide⟩ ?_
                refine g_if_eq (tgt := 76) hC dX12_refused_60 (by decide) (fun hc111 => ?_) (fun hc111 => ?_)
                · rw [if_pos hc111] at h
                  refine g_ldc hC tw_1118 dX12_refused_76 ?_
                  refine g_goto (tgt := 82) hC dX12_refused_78 (by decide) ?_
                  cases h
                  exact g_iret hC hR dX12_refused_82 (by decide) (by decide)
                · rw [if_neg hc111] at h
                  refine g_iload_n hC dX12_refused_63 rfl ?_
                  refine g_if_lt (tgt := 81) hC dX12_refused_64 (by decide) (fun hc112 => ?_) (fun hc112 => ?_)
                  · rw [if_pos hc112] at h
                    refine g_iconst (v := (0 : Int32)) hC dX12_refused_81 (by decide) ?_
                    cases h
                    exact g_iret hC hR dX12_refused_82 (by decide) (by decide)
                  · rw [if_neg hc112] at h
                    refine g_aload_n hC dX12_refused_67 rfl ?_
                    refine g_iload_n hC dX12_refused_68 rfl ?_
                    refine g_iload_n hC dX12_refused_69 rfl ?_
                    obtain ⟨ho115, h⟩ := gd_some h
                    obtain ⟨r116, S114, hr113, h⟩ := bd2_some h
                    refine g_callV (rest := []) hC mi_X12_fits (k_X12_fits hr113) ck_X12.1 (by decide) ho115 tw_1151 tw_1153 ts_30 dX12_refused_70 rfl rfl ⟨by decide, by decide⟩ (Nat.le_of_ble_eq_true rfl) ⟨by decide, by decide⟩ ?_
                    refine g_if_ne (tgt := 81) hC dX12_refused_73 (by decide) (fun hc117 => ?_) (fun hc117 => ?_)
                    · rw [if_neg hc117] at h
                      refine g_iconst (v := (0 : Int32)) hC dX12_refused_81 (by decide) ?_
                      cases h
                      exact g_iret hC hR dX12_refused_82 (by decide) (by decide)
                    · rw [if_pos hc117] at h
                      refine g_ldc hC tw_1118 dX12_refused_76 ?_
                      refine g_goto (tgt := 82) hC dX12_refused_78 (by decide) ?_
                      cases h
                      exact g_iret hC hR dX12_refused_82 (by decide) (by decide)
            · rw [if_neg hc105] at h
              refine g_iload_n hC dX12_refused_38 rfl ?_
              refine g_if_lt (tgt := 47) hC dX12_refused_39 (by decide) (fun hc118 => ?_) (fun hc118 => ?_)
              · rw [if_pos hc118] at h
                refine g_ldc hC tw_1083 dX12_refused_47 ?_
                cases h
                exact g_iret hC hR dX12_refused_49 (by decide) (by decide)
              · rw [if_neg hc118] at h
                refine g_iload_n hC dX12_refused_42 rfl ?_
                refine g_iload_n hC dX12_refused_43 rfl ?_
                refine g_icmp_ne (tgt := 50) hC dX12_refused_44 (by decide) (fun hc119 => ?_) (fun hc119 => ?_)
                · rw [if_neg hc119] at h
                  refine g_iload_n hC dX12_refused_50 rfl ?_
                  refine g_if_lt (tgt := 81) hC dX12_refused_51 (by decide) (fun hc120 => ?_) (fun hc120 => ?_)
                  · rw [if_pos hc120] at h
                    refine g_iconst (v := (0 : Int32)) hC dX12_refused_81 (by decide) ?_
                    cases h
                    exact g_iret hC hR dX12_refused_82 (by decide) (by decide)
                  · rw [if_neg hc120] at h
                    refine g_aload_n hC dX12_refused_54 rfl ?_
                    refine g_iload_n hC dX12_refused_55 rfl ?_
                    refine g_iload_n hC dX12_refused_56 rfl ?_
                    obtain ⟨ho123, h⟩ := gd_some h
                    obtain ⟨r124, S122, hr121, h⟩ := bd2_some h
                    refine g_callV (rest := []) hC mi_X12_fits (k_X12_fits hr121) ck_X12.1 (by decide) ho123 tw_1151 tw_1153 ts_30 dX12_refused_57 rfl rfl ⟨by decide, by decide⟩ (Nat.le_of_ble_eq_true rfl) ⟨by decide, by decide⟩ ?_
                    refine g_if_eq (tgt := 76) hC dX12_refused_60 (by decide) (fun hc125 => ?_) (fun hc125 => ?_)
                    · rw [if_pos hc125] at h
                      refine g_ldc hC tw_1118 dX12_refused_76 ?_
                      refine g_goto (tgt := 82) hC dX12_refused_78 (by decide) ?_
                      cases h
                      exact g_iret hC hR dX12_refused_82 (by decide) (by decide)
                    · rw [if_neg hc125] at h
                      refine g_iload_n hC dX12_refused_63 rfl ?_
                      refine g_if_lt (tgt := 81) hC dX12_refused_64 (by decide) (fun hc126 => ?_) (fun hc126 => ?_)
                      · rw [if_pos hc126] at h
                        refine g_iconst (v := (0 : Int32)) hC dX12_refused_81 (by decide) ?_
                        cases h
                        exact g_iret hC hR dX12_refused_82 (by decide) (by decide)
                      · rw [if_neg hc126] at h
                        refine g_aload_n hC dX12_refused_67 rfl ?_
                        refine g_iload_n hC dX12_refused_68 rfl ?_
                        refine g_iload_n hC dX12_refused_69 rfl ?_
                        obtain ⟨ho129, h⟩ := gd_some h
                        obtain ⟨r130, S128, hr127, h⟩ := bd2_some h
                        refine g_callV (rest := []) hC mi_X12_fits (k_X12_fits hr127) ck_X12.1 (by decide) ho129 tw_1151 tw_1153 ts_30 dX12_refused_70 rfl rfl ⟨by decide, by decide⟩ (Nat.le_of_ble_eq_true rfl) ⟨by decide, by decide⟩ ?_
                        refine g_if_ne (tgt := 81) hC dX12_refused_73 (by decide) (fun hc131 => ?_) (fun hc131 => ?_)
                        · rw [if_neg hc131] at h
                          refine g_iconst (v := (0 : Int32)) hC dX12_refused_81 (by decide) ?_
                          cases h
                          exact g_iret hC hR dX12_refused_82 (by decide) (by decide)
                        · rw [if_pos hc131] at h
                          refine g_ldc hC tw_1118 dX12_refused_76 ?_
                          refine g_goto (tgt := 82) hC dX12_refused_78 (by decide) ?_
                          cases h
                          exact g_iret hC hR dX12_refused_82 (by decide) (by decide)
                · rw [if_pos hc119] at h
                  refine g_ldc hC tw_1083 dX12_refused_47 ?_
                  cases h
                  exact g_iret hC hR dX12_refused_49 (by decide) (by decide)

theorem mi_X12_goes : MI yX12_goes cX12_goes 5 (some .int) 2 := ⟨tw_1174, tw_14, by decide +kernel, by decide +kernel, by decide +kernel⟩
noncomputable def B_X12_goes_0 (S : Wd) (a0 : Nat) (a1 : Int32) (a2 : Int32) : Option ((Int32 × Wd) ⊕ Cs) := gd (ob S a0 12) (gd (ob S a0 12) (bd2 (f_X12_isApart S a0 (wI S a0 14) a1) (fun r5 S3 => if r5 = 0 then (gd (ob S3 a0 12) (Option.bind (wO S3 a0 7) (fun q8 => gd (ob S3 a0 12) (gd (ix S3 q8 100 (((8 : Int32) * (wI S3 a0 14)) + a1)) (gd (ob S3 a0 12) (if ((wI S3 a0 10) + (wI S3 q8 (((8 : Int32) * (wI S3 a0 14)) + a1).toNatClampNeg)) ≤ (540 : Int32) then (gd (ob S3 a0 12) (gd (ob S3 a0 12) (ltS (sI S3 a0 10 ((wI S3 a0 10) + (wI S3 q8 (((8 : Int32) * (wI S3 a0 14)) + a1).toNatClampNeg))) (fun S16 => gd (ob S16 a0 12) (if a2 = 0 then (gd (ob S16 a0 12) (ltS (sI S16 a0 11 ((wI S16 a0 11) + (0 : Int32))) (fun S21 => some (.inr (1, [a0], [a1, a2, (wI S3 q8 (((8 : Int32) * (wI S3 a0 14)) + a1).toNatClampNeg)], S21))))) else (gd (ob S16 a0 12) (ltS (sI S16 a0 11 ((wI S16 a0 11) + (wI S3 q8 (((8 : Int32) * (wI S3 a0 14)) + a1).toNatClampNeg))) (fun S24 => some (.inr (1, [a0], [a1, a2, (wI S3 q8 (((8 : Int32) * (wI S3 a0 14)) + a1).toNatClampNeg)], S24)))))))))) else (some (.inl ((2 : Int32), S3))))))))) else (some (.inl ((1 : Int32), S3))))))
noncomputable def B_X12_goes_1 (S : Wd) (x0 : Nat) (x1 : Int32) (x2 : Int32) (x3 : Int32) : Option ((Int32 × Wd) ⊕ Cs) := gd (ob S x0 12) (if ((wI S x0 9) + x3) ≤ (270 : Int32) then (gd (ob S x0 12) (gd (ob S x0 12) (ltS (sI S x0 8 ((wI S x0 8) + x3)) (fun S30 => gd (ob S30 x0 12) (gd (ob S30 x0 12) (ltS (sI S30 x0 9 ((wI S30 x0 9) + x3)) (fun S34 => gd (ob S34 x0 12) (ltS (sI S34 x0 14 x1) (fun S37 => some (.inl ((0 : Int32), S37))))))))))) else (gd (ob S x0 12) (gd (ob S x0 12) (gd (ob S x0 12) (ltS (sI S x0 8 ((wI S x0 8) + (((270 : Int32) - (wI S x0 9)) + (45 : Int32)))) (fun S42 => gd (ob S42 x0 12) (ltS (sI S42 x0 9 (0 : Int32)) (fun S45 => gd (ob S45 x0 12) (gd (ob S45 x0 12) (ltS (sI S45 x0 12 ((wI S45 x0 12) + (1 : Int32))) (fun S49 => some (.inr (1, [x0], [x1, x2, (x3 - ((270 : Int32) - (wI S x0 9)))], S49)))))))))))))
noncomputable def B_X12_goes : Cs → Option ((Int32 × Wd) ⊕ Cs)
  | (0, [a0], [a1, a2], S) => B_X12_goes_0 S a0 a1 a2
  | (1, [x0], [x1, x2, x3], S) => B_X12_goes_1 S x0 x1 x2 x3
  | _ => none
def P_X12_goes : Cs → Option (Nat × List (Nat × Value) × Wd × Nat × Nat)
  | (0, [a0], [a1, a2], S) => some (0, [(0, .ref a0), (1, .int a1), (2, .int a2)], S, 0, 0)
  | (1, [x0], [x1, x2, x3], S) => some (71, [(0, .ref x0), (1, .int x1), (2, .int x2), (3, .int x3)], S, 0, 0)
  | _ => none
noncomputable def f_X12_goes (S : Wd) (a0 : Nat) (a1 : Int32) (a2 : Int32) : Option (Int32 × Wd) := ru B_X12_goes (0, [a0], [a1, a2], S)
abbrev N_X12_goes (b : Bd) (r : Int32 × Wd) (c : (Int32 × Wd) ⊕ Cs) : Prop := match c with
  | .inl r' => r' = r
  | .inr s' => ∀ pc L S kc ks, P_X12_goes s' = some (pc, L, S, kc, ks) → G b pc L [] S kc ks
set_option maxRecDepth 100000 in
set_option maxHeartbeats 4000000 in
theorem w_X12_goes_0 {b : Bd} {r : Int32 × Wd} (hC : CX b yX12_goes.cls cX12_goes 5 { frames := 1, cells := 0, slots := 0, locals := 22 }) (hin : yX12_goes.name = "<init>" → b.2.2.2.2.2.2.2.2.1.name = "<init>") (hR : RT b (some .int) (some (.int r.1)) r.2 0 0) {S : Wd} {a0 : Nat} {a1 : Int32} {a2 : Int32} {c : (Int32 × Wd) ⊕ Cs} (h : B_X12_goes_0 S a0 a1 a2 = some c) (hk : N_X12_goes b r c) : G b 0 [(0, .ref a0), (1, .int a1), (2, .int a2)] [] S 0 0 := by
  unfold B_X12_goes_0 at h
  refine g_aload_n hC dX12_goes_0 rfl ?_
  refine g_aload_n hC dX12_goes_1 rfl ?_
  obtain ⟨ho1, h⟩ := gd_some h
  refine g_geti (k := 14) hC ck_X12 (by decide) tw_998 rfl (by decide) dX12_goes_2 ho1 ?_
  refine g_iload_n hC dX12_goes_5 rfl ?_
  obtain ⟨ho4, h⟩ := gd_some h
  obtain ⟨r5, S3, hr2, h⟩ := bd2_some h
  refine g_callV (rest := []) hC mi_X12_isApart (k_X12_isApart hr2) ck_X12.1 (by decide) ho4 tw_1098 tw_1100 ts_27 dX12_goes_6 rfl rfl ⟨by decide, by decide⟩ (Nat.le_of_ble_eq_true rfl) ⟨by decide, by decide⟩ ?_
  refine g_if_eq (tgt := 14) hC dX12_goes_9 (by decide) (fun hc6 => ?_) (fun hc6 => ?_)
  · rw [if_pos hc6] at h
    refine g_aload_n hC dX12_goes_14 rfl ?_
    obtain ⟨ho7, h⟩ := gd_some h
    obtain ⟨q8, hq9, h⟩ := Option.bind_eq_some_iff.mp h
    refine g_getr (k := 7) (q := q8) hC ck_X12 (by decide) tw_991 rfl (by decide) dX12_goes_15 ho7 hq9 ?_
    refine g_bipush (v := (8 : Int32)) hC dX12_goes_18 (by decide) ?_
    refine g_aload_n hC dX12_goes_20 rfl ?_
    obtain ⟨ho10, h⟩ := gd_some h
    refine g_geti (k := 14) hC ck_X12 (by decide) tw_998 rfl (by decide) dX12_goes_21 ho10 ?_
    refine g_imul hC dX12_goes_24 ?_
    refine g_iload_n hC dX12_goes_25 rfl ?_
    refine g_iadd hC dX12_goes_26 ?_
    obtain ⟨hx11, h⟩ := gd_some h
    refine g_iald hC dX12_goes_27 hx11.1 hx11.2 ?_
    refine g_istore_n (L' := [(3, .int (wI S3 q8 (((8 : Int32) * (wI S3 a0 14)) + a1).toNatClampNeg)), (0, .ref a0), (1, .int a1), (2, .int a2)]) hC dX12_goes_28 (by decide) rfl ?_
    refine g_aload_n hC dX12_goes_29 rfl ?_
    obtain ⟨ho12, h⟩ := gd_some h
    refine g_geti (k := 10) hC ck_X12 (by decide) tw_994 rfl (by decide) dX12_goes_30 ho12 ?_
    refine g_iload_n hC dX12_goes_33 rfl ?_
    refine g_iadd hC dX12_goes_34 ?_
    refine g_sipush (v := (540 : Int32)) hC dX12_goes_35 (by decide) ?_
    refine g_icmp_le (tgt := 43) hC dX12_goes_38 (by decide) (fun hc13 => ?_) (fun hc13 => ?_)
    · rw [if_pos hc13] at h
      refine g_aload_n hC dX12_goes_43 rfl ?_
      refine g_dup hC dX12_goes_44 rfl ?_
      obtain ⟨ho14, h⟩ := gd_some h
      refine g_geti (k := 10) hC ck_X12 (by decide) tw_994 rfl (by decide) dX12_goes_45 ho14 ?_
      refine g_iload_n hC dX12_goes_48 rfl ?_
      refine g_iadd hC dX12_goes_49 ?_
      obtain ⟨ho15, h⟩ := gd_some h
      refine g_puti (k := 10) hC ck_X12 (by decide) tw_994 rfl (by decide) rfl rfl dX12_goes_50 ho15 ?_
      refine g_name (fun S16 eS17 => ?_)
      have h := ltS_use eS17 h
      refine g_aload_n hC dX12_goes_53 rfl ?_
      refine g_dup hC dX12_goes_54 rfl ?_
      obtain ⟨ho18, h⟩ := gd_some h
      refine g_geti (k := 11) hC ck_X12 (by decide) tw_995 rfl (by decide) dX12_goes_55 ho18 ?_
      refine g_iload_n hC dX12_goes_58 rfl ?_
      refine g_if_eq (tgt := 66) hC dX12_goes_59 (by decide) (fun hc19 => ?_) (fun hc19 => ?_)
      · rw [if_pos hc19] at h
        refine g_iconst (v := (0 : Int32)) hC dX12_goes_66 (by decide) ?_
        refine g_iadd hC dX12_goes_67 ?_
        obtain ⟨ho20, h⟩ := gd_some h
        refine g_puti (k := 11) hC ck_X12 (by decide) tw_995 rfl (by decide) rfl rfl dX12_goes_68 ho20 ?_
        refine g_name (fun S21 eS22 => ?_)
        have h := ltS_use eS22 h
        cases h
        refine g_pick (L' := [(0, .ref a0), (1, .int a1), (2, .int a2), (3, .int (wI S3 q8 (((8 : Int32) * (wI S3 a0 14)) + a1).toNatClampNeg))]) [1, 2, 3, 0] rfl ?_
        exact hk _ _ _ _ _ rfl
      · rw [if_neg hc19] at h
        refine g_iload_n hC dX12_goes_62 rfl ?_
        refine g_goto (tgt := 67) hC dX12_goes_63 (by decide) ?_
        refine g_iadd hC dX12_goes_67 ?_
        obtain ⟨ho23, h⟩ := gd_some h
        refine g_puti (k := 11) hC ck_X12 (by decide) tw_995 rfl (by decide) rfl rfl dX12_goes_68 ho23 ?_
        refine g_name (fun S24 eS25 => ?_)
        have h := ltS_use eS25 h
        cases h
        refine g_pick (L' := [(0, .ref a0), (1, .int a1), (2, .int a2), (3, .int (wI S3 q8 (((8 : Int32) * (wI S3 a0 14)) + a1).toNatClampNeg))]) [1, 2, 3, 0] rfl ?_
        exact hk _ _ _ _ _ rfl
    · rw [if_neg hc13] at h
      refine g_iconst (v := (2 : Int32)) hC dX12_goes_41 (by decide) ?_
      cases h
      subst hk
      exact g_iret hC hR dX12_goes_42 (by decide) (by decide)
  · rw [if_neg hc6] at h
    refine g_iconst (v := (1 : Int32)) hC dX12_goes_12 (by decide) ?_
    cases h
    subst hk
    exact g_iret hC hR dX12_goes_13 (by decide) (by decide)
set_option maxRecDepth 100000 in
set_option maxHeartbeats 4000000 in
theorem w_X12_goes_1 {b : Bd} {r : Int32 × Wd} (hC : CX b yX12_goes.cls cX12_goes 5 { frames := 1, cells := 0, slots := 0, locals := 22 }) (hin : yX12_goes.name = "<init>" → b.2.2.2.2.2.2.2.2.1.name = "<init>") (hR : RT b (some .int) (some (.int r.1)) r.2 0 0) {S : Wd} {x0 : Nat} {x1 : Int32} {x2 : Int32} {x3 : Int32} {c : (Int32 × Wd) ⊕ Cs} (h : B_X12_goes_1 S x0 x1 x2 x3 = some c) (hk : N_X12_goes b r c) : G b 71 [(0, .ref x0), (1, .int x1), (2, .int x2), (3, .int x3)] [] S 0 0 := by
  unfold B_X12_goes_1 at h
  refine g_aload_n hC dX12_goes_71 rfl ?_
  obtain ⟨ho26, h⟩ := gd_some h
  refine g_geti (k := 9) hC ck_X12 (by decide) tw_993 rfl (by decide) dX12_goes_72 ho26 ?_
  refine g_iload_n hC dX12_goes_75 rfl ?_
  refine g_iadd hC dX12_goes_76 ?_
  refine g_sipush (v := (270 : Int32)) hC dX12_goes_77 (by decide) ?_
  refine g_icmp_le (tgt := 130) hC dX12_goes_80 (by decide) (fun hc27 => ?_) (fun hc27 => ?_)
  · rw [if_pos hc27] at h
    refine g_aload_n hC dX12_goes_130 rfl ?_
    refine g_dup hC dX12_goes_131 rfl ?_
    obtain ⟨ho28, h⟩ := gd_some h
    refine g_geti (k := 8) hC ck_X12 (by decide) tw_992 rfl (by decide) dX12_goes_132 ho28 ?_
    refine g_iload_n hC dX12_goes_135 rfl ?_
    refine g_iadd hC dX12_goes_136 ?_
    obtain ⟨ho29, h⟩ := gd_some h
    refine g_puti (k := 8) hC ck_X12 (by decide) tw_992 rfl (by decide) rfl rfl dX12_goes_137 ho29 ?_
    refine g_name (fun S30 eS31 => ?_)
    have h := ltS_use eS31 h
    refine g_aload_n hC dX12_goes_140 rfl ?_
    refine g_dup hC dX12_goes_141 rfl ?_
    obtain ⟨ho32, h⟩ := gd_some h
    refine g_geti (k := 9) hC ck_X12 (by decide) tw_993 rfl (by decide) dX12_goes_142 ho32 ?_
    refine g_iload_n hC dX12_goes_145 rfl ?_
    refine g_iadd hC dX12_goes_146 ?_
    obtain ⟨ho33, h⟩ := gd_some h
    refine g_puti (k := 9) hC ck_X12 (by decide) tw_993 rfl (by decide) rfl rfl dX12_goes_147 ho33 ?_
    refine g_name (fun S34 eS35 => ?_)
    have h := ltS_use eS35 h
    refine g_aload_n hC dX12_goes_150 rfl ?_
    refine g_iload_n hC dX12_goes_151 rfl ?_
    obtain ⟨ho36, h⟩ := gd_some h
    refine g_puti (k := 14) hC ck_X12 (by decide) tw_998 rfl (by decide) rfl rfl dX12_goes_152 ho36 ?_
    refine g_name (fun S37 eS38 => ?_)
    have h := ltS_use eS38 h
    refine g_iconst (v := (0 : Int32)) hC dX12_goes_155 (by decide) ?_
    cases h
    subst hk
    exact g_iret hC hR dX12_goes_156 (by decide) (by decide)
  · rw [if_neg hc27] at h
    refine g_sipush (v := (270 : Int32)) hC dX12_goes_83 (by decide) ?_
    refine g_aload_n hC dX12_goes_86 rfl ?_
    obtain ⟨ho39, h⟩ := gd_some h
    refine g_geti (k := 9) hC ck_X12 (by decide) tw_993 rfl (by decide) dX12_goes_87 ho39 ?_
    refine g_isub hC dX12_goes_90 ?_
    refine g_istore (L' := [(4, .int ((270 : Int32) - (wI S x0 9))), (0, .ref x0), (1, .int x1), (2, .int x2), (3, .int x3)]) hC dX12_goes_91 (by decide) rfl ?_
    refine g_iload_n hC dX12_goes_93 rfl ?_
    refine g_iload hC dX12_goes_94 rfl ?_
    refine g_isub hC dX12_goes_96 ?_
    refine g_istore_n (L' := [(3, .int (x3 - ((270 : Int32) - (wI S x0 9)))), (4, .int ((270 : Int32) - (wI S x0 9))), (0, .ref x0), (1, .int x1), (2, .int x2)]) hC dX12_goes_97 (by decide) rfl ?_
    refine g_aload_n hC dX12_goes_98 rfl ?_
    refine g_dup hC dX12_goes_99 rfl ?_
    obtain ⟨ho40, h⟩ := gd_some h
    refine g_geti (k := 8) hC ck_X12 (by decide) tw_992 rfl (by decide) dX12_goes_100 ho40 ?_
    refine g_iload hC dX12_goes_103 rfl ?_
    refine g_bipush (v := (45 : Int32)) hC dX12_goes_105 (by decide) ?_
    refine g_iadd hC dX12_goes_107 ?_
    refine g_iadd hC dX12_goes_108 ?_
    obtain ⟨ho41, h⟩ := gd_some h
    refine g_puti (k := 8) hC ck_X12 (by decide) tw_992 rfl (by decide) rfl rfl dX12_goes_109 ho41 ?_
    refine g_name (fun S42 eS43 => ?_)
    have h := ltS_use eS43 h
    refine g_aload_n hC dX12_goes_112 rfl ?_
    refine g_iconst (v := (0 : Int32)) hC dX12_goes_113 (by decide) ?_
    obtain ⟨ho44, h⟩ := gd_some h
    refine g_puti (k := 9) hC ck_X12 (by decide) tw_993 rfl (by decide) rfl rfl dX12_goes_114 ho44 ?_
    refine g_name (fun S45 eS46 => ?_)
    have h := ltS_use eS46 h
    refine g_aload_n hC dX12_goes_117 rfl ?_
    refine g_dup hC dX12_goes_118 rfl ?_
    obtain ⟨ho47, h⟩ := gd_some h
    refine g_geti (k := 12) hC ck_X12 (by decide) tw_996 rfl (by decide) dX12_goes_119 ho47 ?_
    refine g_iconst (v := (1 : Int32)) hC dX12_goes_122 (by decide) ?_
    refine g_iadd hC dX12_goes_123 ?_
    obtain ⟨ho48, h⟩ := gd_some h
    refine g_puti (k := 12) hC ck_X12 (by decide) tw_996 rfl (by decide) rfl rfl dX12_goes_124 ho48 ?_
    refine g_name (fun S49 eS50 => ?_)
    have h := ltS_use eS50 h
    refine g_goto (tgt := 71) hC dX12_goes_127 (by decide) ?_
    cases h
    refine g_pick (L' := [(0, .ref x0), (1, .int x1), (2, .int x2), (3, .int (x3 - ((270 : Int32) - (wI S x0 9))))]) [2, 3, 4, 0] rfl ?_
    exact hk _ _ _ _ _ rfl
theorem w_X12_goes {b : Bd} {r : Int32 × Wd} (hC : CX b yX12_goes.cls cX12_goes 5 { frames := 1, cells := 0, slots := 0, locals := 22 }) (hin : yX12_goes.name = "<init>" → b.2.2.2.2.2.2.2.2.1.name = "<init>") (hR : RT b (some .int) (some (.int r.1)) r.2 0 0) {s : Cs} {c : (Int32 × Wd) ⊕ Cs} (h : B_X12_goes s = some c) (hk : N_X12_goes b r c) : ∀ pc L S kc ks, P_X12_goes s = some (pc, L, S, kc, ks) → G b pc L [] S kc ks := by
  intro pc L S kc ks hp
  unfold B_X12_goes at h
  split at h
  · cases hp
    exact w_X12_goes_0 hC hin hR h hk
  · cases hp
    exact w_X12_goes_1 hC hin hR h hk
  · cases h
theorem k_X12_goes {S : Wd} {a0 : Nat} {a1 : Int32} {a2 : Int32} {r : Int32} {S' : Wd} (h : f_X12_goes S a0 a1 a2 = some (r, S')) : Sp yX12_goes cX12_goes 5 (some .int) 1 22 0 0 [.ref a0, .int a1, .int a2] S (some (.int r)) S' := by
  unfold f_X12_goes at h
  refine Sp.of (by decide +kernel) (Nat.le_of_ble_eq_true rfl) ?_
  intro b hC hin hR
  exact ru_ind (P := fun s q0 => q0 = (r, S') → ∀ pc L S kc ks, P_X12_goes s = some (pc, L, S, kc, ks) → G b pc L [] S kc ks) (fun s q0 hB e => w_X12_goes (r := (r, S')) hC hin hR hB e) (fun s s' q0 hB ih e => w_X12_goes (r := (r, S')) hC hin hR hB (ih e)) h rfl _ _ _ _ _ rfl

theorem mi_X12_docks : MI yX12_docks cX12_docks 4 (some .int) 2 := ⟨tw_1178, tw_14, by decide +kernel, by decide +kernel, by decide +kernel⟩
noncomputable def f_X12_docks (S : Wd) (a0 : Nat) (a1 : Int32) (a2 : Int32) : Option (Int32 × Wd) := gd (ob S a0 12) (if (wI S a0 8) ≤ a2 then (gd (ob S a0 12) (if a1 ≤ (wI S a0 8) then (gd (ob S a0 12) (gd (ob S a0 12) (ltS (sI S a0 8 ((wI S a0 8) + (30 : Int32))) (fun S7 => some ((0 : Int32), S7))))) else (gd (ob S a0 12) (gd (ob S a0 12) (gd (ob S a0 12) (ltS (sI S a0 13 ((wI S a0 13) + (a1 - (wI S a0 8)))) (fun S12 => if (a1 - (wI S a0 8)) < (45 : Int32) then (gd (ob S12 a0 12) (gd (ob S12 a0 12) (ltS (sI S12 a0 9 (wI S12 a0 9)) (fun S17 => gd (ob S17 a0 12) (ltS (sI S17 a0 8 a1) (fun S20 => gd (ob S20 a0 12) (gd (ob S20 a0 12) (ltS (sI S20 a0 8 ((wI S20 a0 8) + (30 : Int32))) (fun S24 => some ((0 : Int32), S24)))))))))) else (gd (ob S12 a0 12) (ltS (sI S12 a0 9 (0 : Int32)) (fun S27 => gd (ob S27 a0 12) (ltS (sI S27 a0 8 a1) (fun S30 => gd (ob S30 a0 12) (gd (ob S30 a0 12) (ltS (sI S30 a0 8 ((wI S30 a0 8) + (30 : Int32))) (fun S34 => some ((0 : Int32), S34)))))))))))))))) else (some ((3 : Int32), S)))
set_option maxRecDepth 100000 in
set_option maxHeartbeats 4000000 in
theorem k_X12_docks {S : Wd} {a0 : Nat} {a1 : Int32} {a2 : Int32} {r : Int32} {S' : Wd} (h : f_X12_docks S a0 a1 a2 = some (r, S')) : Sp yX12_docks cX12_docks 4 (some .int) 0 0 0 0 [.ref a0, .int a1, .int a2] S (some (.int r)) S' := by
  unfold f_X12_docks at h
  refine Sp.of (by decide +kernel) (Nat.le_of_ble_eq_true rfl) ?_
  intro b hC hin hR
  show G b 0 [(0, .ref a0), (1, .int a1), (2, .int a2)] [] S 0 0
  refine g_aload_n hC dX12_docks_0 rfl ?_
  obtain ⟨ho1, h⟩ := gd_some h
  refine g_geti (k := 8) hC ck_X12 (by decide) tw_992 rfl (by decide) dX12_docks_1 ho1 ?_
  refine g_iload_n hC dX12_docks_4 rfl ?_
  refine g_icmp_le (tgt := 10) hC dX12_docks_5 (by decide) (fun hc2 => ?_) (fun hc2 => ?_)
  · rw [if_pos hc2] at h
    refine g_aload_n hC dX12_docks_10 rfl ?_
    obtain ⟨ho3, h⟩ := gd_some h
    refine g_geti (k := 8) hC ck_X12 (by decide) tw_992 rfl (by decide) dX12_docks_11 ho3 ?_
    refine g_iload_n hC dX12_docks_14 rfl ?_
    refine g_icmp_ge (tgt := 58) hC dX12_docks_15 (by decide) (fun hc4 => ?_) (fun hc4 => ?_)
    · rw [if_pos hc4] at h
      refine g_aload_n hC dX12_docks_58 rfl ?_
      refine g_dup hC dX12_docks_59 rfl ?_
      obtain ⟨ho5, h⟩ := gd_some h
      refine g_geti (k := 8) hC ck_X12 (by decide) tw_992 rfl (by decide) dX12_docks_60 ho5 ?_
      refine g_bipush (v := (30 : Int32)) hC dX12_docks_63 (by decide) ?_
      refine g_iadd hC dX12_docks_65 ?_
      obtain ⟨ho6, h⟩ := gd_some h
      refine g_puti (k := 8) hC ck_X12 (by decide) tw_992 rfl (by decide) rfl rfl dX12_docks_66 ho6 ?_
      refine g_name (fun S7 eS8 => ?_)
      have h := ltS_use eS8 h
      refine g_iconst (v := (0 : Int32)) hC dX12_docks_69 (by decide) ?_
      cases h
      exact g_iret hC hR dX12_docks_70 (by decide) (by decide)
    · rw [if_neg hc4] at h
      refine g_iload_n hC dX12_docks_18 rfl ?_
      refine g_aload_n hC dX12_docks_19 rfl ?_
      obtain ⟨ho9, h⟩ := gd_some h
      refine g_geti (k := 8) hC ck_X12 (by decide) tw_992 rfl (by decide) dX12_docks_20 ho9 ?_
      refine g_isub hC dX12_docks_23 ?_
      refine g_istore_n (L' := [(3, .int (a1 - (wI S a0 8))), (0, .ref a0), (1, .int a1), (2, .int a2)]) hC dX12_docks_24 (by decide) rfl ?_
      refine g_aload_n hC dX12_docks_25 rfl ?_
      refine g_dup hC dX12_docks_26 rfl ?_
      obtain ⟨ho10, h⟩ := gd_some h
      refine g_geti (k := 13) hC ck_X12 (by decide) tw_997 rfl (by decide) dX12_docks_27 ho10 ?_
      refine g_iload_n hC dX12_docks_30 rfl ?_
      refine g_iadd hC dX12_docks_31 ?_
      obtain ⟨ho11, h⟩ := gd_some h
      refine g_puti (k := 13) hC ck_X12 (by decide) tw_997 rfl (by decide) rfl rfl dX12_docks_32 ho11 ?_
      refine g_name (fun S12 eS13 => ?_)
      have h := ltS_use eS13 h
      refine g_aload_n hC dX12_docks_35 rfl ?_
      refine g_iload_n hC dX12_docks_36 rfl ?_
      refine g_bipush (v := (45 : Int32)) hC dX12_docks_37 (by decide) ?_
      refine g_icmp_lt (tgt := 46) hC dX12_docks_39 (by decide) (fun hc14 => ?_) (fun hc14 => ?_)
      · rw [if_pos hc14] at h
        refine g_aload_n hC dX12_docks_46 rfl ?_
        obtain ⟨ho15, h⟩ := gd_some h
        refine g_geti (k := 9) hC ck_X12 (by decide) tw_993 rfl (by decide) dX12_docks_47 ho15 ?_
        obtain ⟨ho16, h⟩ := gd_some h
        refine g_puti (k := 9) hC ck_X12 (by decide) tw_993 rfl (by decide) rfl rfl dX12_docks_50 ho16 ?_
        refine g_name (fun S17 eS18 => ?_)
        have h := ltS_use eS18 h
        refine g_aload_n hC dX12_docks_53 rfl ?_
        refine g_iload_n hC dX12_docks_54 rfl ?_
        obtain ⟨ho19, h⟩ := gd_some h
        refine g_puti (k := 8) hC ck_X12 (by decide) tw_992 rfl (by decide) rfl rfl dX12_docks_55 ho19 ?_
        refine g_name (fun S20 eS21 => ?_)
        have h := ltS_use eS21 h
        refine g_aload_n hC dX12_docks_58 rfl ?_
        refine g_dup hC dX12_docks_59 rfl ?_
        obtain ⟨ho22, h⟩ := gd_some h
        refine g_geti (k := 8) hC ck_X12 (by decide) tw_992 rfl (by decide) dX12_docks_60 ho22 ?_
        refine g_bipush (v := (30 : Int32)) hC dX12_docks_63 (by decide) ?_
        refine g_iadd hC dX12_docks_65 ?_
        obtain ⟨ho23, h⟩ := gd_some h
        refine g_puti (k := 8) hC ck_X12 (by decide) tw_992 rfl (by decide) rfl rfl dX12_docks_66 ho23 ?_
        refine g_name (fun S24 eS25 => ?_)
        have h := ltS_use eS25 h
        refine g_iconst (v := (0 : Int32)) hC dX12_docks_69 (by decide) ?_
        cases h
        exact g_iret hC hR dX12_docks_70 (by decide) (by decide)
      · rw [if_neg hc14] at h
        refine g_iconst (v := (0 : Int32)) hC dX12_docks_42 (by decide) ?_
        refine g_goto (tgt := 50) hC dX12_docks_43 (by decide) ?_
        obtain ⟨ho26, h⟩ := gd_some h
        refine g_puti (k := 9) hC ck_X12 (by decide) tw_993 rfl (by decide) rfl rfl dX12_docks_50 ho26 ?_
        refine g_name (fun S27 eS28 => ?_)
        have h := ltS_use eS28 h
        refine g_aload_n hC dX12_docks_53 rfl ?_
        refine g_iload_n hC dX12_docks_54 rfl ?_
        obtain ⟨ho29, h⟩ := gd_some h
        refine g_puti (k := 8) hC ck_X12 (by decide) tw_992 rfl (by decide) rfl rfl dX12_docks_55 ho29 ?_
        refine g_name (fun S30 eS31 => ?_)
        have h := ltS_use eS31 h
        refine g_aload_n hC dX12_docks_58 rfl ?_
        refine g_dup hC dX12_docks_59 rfl ?_
        obtain ⟨ho32, h⟩ := gd_some h
        refine g_geti (k := 8) hC ck_X12 (by decide) tw_992 rfl (by decide) dX12_docks_60 ho32 ?_
        refine g_bipush (v := (30 : Int32)) hC dX12_docks_63 (by decide) ?_
        refine g_iadd hC dX12_docks_65 ?_
        obtain ⟨ho33, h⟩ := gd_some h
        refine g_puti (k := 8) hC ck_X12 (by decide) tw_992 rfl (by decide) rfl rfl dX12_docks_66 ho33 ?_
        refine g_name (fun S34 eS35 => ?_)
        have h := ltS_use eS35 h
        refine g_iconst (v := (0 : Int32)) hC dX12_docks_69 (by decide) ?_
        cases h
        exact g_iret hC hR dX12_docks_70 (by decide) (by decide)
  · rw [if_neg hc2] at h
    refine g_iconst (v := (3 : Int32)) hC dX12_docks_8 (by decide) ?_
    cases h
    exact g_iret hC hR dX12_docks_9 (by decide) (by decide)

theorem mi_X12_carries : MI yX12_carries cX12_carries 3 (some .int) 1 := ⟨tw_1170, tw_14, by decide +kernel, by decide +kernel, by decide +kernel⟩
noncomputable def f_X12_carries (S : Wd) (a0 : Nat) (a1 : Int32) : Option (Int32 × Wd) := gd (ob S a0 12) (Option.bind (wO S a0 0) (fun q2 => bd2 (f_X12_ofLoad S a1 (0 : Int32)) (fun r6 S5 => gd (ix S5 q2 100 r6) (gd (ob S5 a0 12) (bd2 (f_X12_goes S5 a0 (wI S5 q2 r6.toNatClampNeg) (1 : Int32)) (fun r11 S9 => if r11 = 0 then (gd (ob S9 a0 12) (Option.bind (wO S9 a0 0) (fun q14 => bd2 (f_X12_ofLoad S9 a1 (6 : Int32)) (fun r18 S17 => gd (ix S17 q14 100 r18) (gd (ob S17 a0 12) (Option.bind (wO S17 a0 0) (fun q21 => bd2 (f_X12_ofLoad S17 a1 (7 : Int32)) (fun r25 S24 => gd (ix S24 q21 100 r25) (gd (ob S24 a0 12) (bd2 (f_X12_docks S24 a0 (wI S17 q14 r18.toNatClampNeg) (wI S24 q21 r25.toNatClampNeg)) (fun r30 S28 => if r30 = 0 then (gd (ob S28 a0 12) (Option.bind (wO S28 a0 0) (fun q33 => bd2 (f_X12_ofLoad S28 a1 (1 : Int32)) (fun r37 S36 => gd (ix S36 q33 100 r37) (gd (ob S36 a0 12) (bd2 (f_X12_goes S36 a0 (wI S36 q33 r37.toNatClampNeg) (0 : Int32)) (fun r42 S40 => if r42 = 0 then (gd (ob S40 a0 12) (Option.bind (wO S40 a0 0) (fun q45 => bd2 (f_X12_ofLoad S40 a1 (8 : Int32)) (fun r49 S48 => gd (ix S48 q45 100 r49) (gd (ob S48 a0 12) (Option.bind (wO S48 a0 0) (fun q52 => bd2 (f_X12_ofLoad S48 a1 (9 : Int32)) (fun r56 S55 => gd (ix S55 q52 100 r56) (gd (ob S55 a0 12) (bd2 (f_X12_docks S55 a0 (wI S48 q45 r49.toNatClampNeg) (wI S55 q52 r56.toNatClampNeg)) (fun r61 S59 => some (r61, S59)))))))))))) else (some (r42, S40))))))))) else (if r30 = 0 then (gd (ob S28 a0 12) (Option.bind (wO S28 a0 0) (fun q64 => bd2 (f_X12_ofLoad S28 a1 (8 : Int32)) (fun r68 S67 => gd (ix S67 q64 100 r68) (gd (ob S67 a0 12) (Option.bind (wO S67 a0 0) (fun q71 => bd2 (f_X12_ofLoad S67 a1 (9 : Int32)) (fun r75 S74 => gd (ix S74 q71 100 r75) (gd (ob S74 a0 12) (bd2 (f_X12_docks S74 a0 (wI S67 q64 r68.toNatClampNeg) (wI S74 q71 r75.toNatClampNeg)) (fun r80 S78 => some (r80, S78)))))))))))) else (some (r30, S28)))))))))))))) else (if r11 = 0 then (gd (ob S9 a0 12) (Option.bind (wO S9 a0 0) (fun q83 => bd2 (f_X12_ofLoad S9 a1 (1 : Int32)) (fun r87 S86 => gd (ix S86 q83 100 r87) (gd (ob S86 a0 12) (bd2 (f_X12_goes S86 a0 (wI S86 q83 r87.toNatClampNeg) (0 : Int32)) (fun r92 S90 => if r92 = 0 then (gd (ob S90 a0 12) (Option.bind (wO S90 a0 0) (fun q95 => bd2 (f_X12_ofLoad S90 a1 (8 : Int32)) (fun r99 S98 => gd (ix S98 q95 100 r99) (gd (ob S98 a0 12) (Option.bind (wO S98 a0 0) (fun q102 => bd2 (f_X12_ofLoad S98 a1 (9 : Int32)) (fun r106 S105 => gd (ix S105 q102 100 r106) (gd (ob S105 a0 12) (bd2 (f_X12_docks S105 a0 (wI S98 q95 r99.toNatClampNeg) (wI S105 q102 r106.toNatClampNeg)) (fun r111 S109 => some (r111, S109)))))))))))) else (some (r92, S90))))))))) else (if r11 = 0 then (gd (ob S9 a0 12) (Option.bind (wO S9 a0 0) (fun q114 => bd2 (f_X12_ofLoad S9 a1 (8 : Int32)) (fun r118 S117 => gd (ix S117 q114 100 r118) (gd (ob S117 a0 12) (Option.bind (wO S117 a0 0) (fun q121 => bd2 (f_X12_ofLoad S117 a1 (9 : Int32)) (fun r125 S124 => gd (ix S124 q121 100 r125) (gd (ob S124 a0 12) (bd2 (f_X12_docks S124 a0 (wI S117 q114 r118.toNatClampNeg) (wI S124 q121 r125.toNatClampNeg)) (fun r130 S128 => some (r130, S128)))))))))))) else (some (r11, S9))))))))))
set_option maxRecDepth 100000 in
set_option maxHeartbeats 4000000 in
theorem k_X12_carries {S : Wd} {a0 : Nat} {a1 : Int32} {r : Int32} {S' : Wd} (h : f_X12_carries S a0 a1 = some (r, S')) : Sp yX12_carries cX12_carries 3 (some .int) 2 46 0 0 [.ref a0, .int a1] S (some (.int r)) S' := by
  unfold f_X12_carries at h
  refine Sp.of (by decide +kernel) (Nat.le_of_ble_eq_true rfl) ?_
  intro b hC hin hR
  show G b 0 [(0, .ref a0), (1, .int a1)] [] S 0 0
  refine g_aload_n hC dX12_carries_0 rfl ?_
  refine g_aload_n hC dX12_carries_1 rfl ?_
  obtain ⟨ho1, h⟩ := gd_some h
  obtain ⟨q2, hq3, h⟩ := Option.bind_eq_some_iff.mp h
  refine g_getr (k := 0) (q := q2) hC ck_X12 (by decide) tw_984 rfl (by decide) dX12_carries_2 ho1 hq3 ?_
  refine g_iload_n hC dX12_carries_5 rfl ?_
  refine g_iconst (v := (0 : Int32)) hC dX12_carries_6 (by decide) ?_
  obtain ⟨r6, S5, hr4, h⟩ := bd2_some h
  refine g_callS (rest := [.ref q2, .ref a0]) hC mi_X12_ofLoad (k_X12_ofLoad hr4) tw_1123 tw_1124 dX12_carries_7 rfl rfl ⟨by decide, by decide⟩ (Nat.le_of_ble_eq_true rfl) ⟨by decide, by decide⟩ ?_
  obtain ⟨hx7, h⟩ := gd_some h
  refine g_iald hC dX12_carries_10 hx7.1 hx7.2 ?_
  refine g_iconst (v := (1 : Int32)) hC dX12_carries_11 (by decide) ?_
  obtain ⟨ho10, h⟩ := gd_some h
  obtain ⟨r11, S9, hr8, h⟩ := bd2_some h
  refine g_callV (rest := []) hC mi_X12_goes (k_X12_goes hr8) ck_X12.1 (by decide) ho10 tw_1171 tw_1173 ts_34 dX12_carries_12 rfl rfl ⟨by decide, by decide⟩ (Nat.le_of_ble_eq_true rfl) ⟨by decide, by decide⟩ ?_
  refine g_istore_n (L' := [(2, .int r11), (0, .ref a0), (1, .int a1)]) hC dX12_carries_15 (by decide) rfl ?_
  refine g_iload_n hC dX12_carries_16 rfl ?_
  refine g_if_eq (tgt := 24) hC dX12_carries_17 (by decide) (fun hc12 => ?_) (fun hc12 => ?_)
  · rw [if_pos hc12] at h
    refine g_aload_n hC dX12_carries_24 rfl ?_
    refine g_aload_n hC dX12_carries_25 rfl ?_
    obtain ⟨ho13, h⟩ := gd_some h
    obtain ⟨q14, hq15, h⟩ := Option.bind_eq_some_iff.mp h
    refine g_getr (k := 0) (q := q14) hC ck_X12 (by decide) tw_984 rfl (by decide) dX12_carries_26 ho13 hq15 ?_
    refine g_iload_n hC dX12_carries_29 rfl ?_
    refine g_bipush (v := (6 : Int32)) hC dX12_carries_30 (by decide) ?_
    obtain ⟨r18, S17, hr16, h⟩ := bd2_some h
    refine g_callS (rest := [.ref q14, .ref a0]) hC mi_X12_ofLoad (k_X12_ofLoad hr16) tw_1123 tw_1124 dX12_carries_32 rfl rfl ⟨by decide, by decide⟩ (Nat.le_of_ble_eq_true rfl) ⟨by decide, by decide⟩ ?_
    obtain ⟨hx19, h⟩ := gd_some h
    refine g_iald hC dX12_carries_35 hx19.1 hx19.2 ?_
    refine g_aload_n hC dX12_carries_36 rfl ?_
    obtain ⟨ho20, h⟩ := gd_some h
    obtain ⟨q21, hq22, h⟩ := Option.bind_eq_some_iff.mp h
    refine g_getr (k := 0) (q := q21) hC ck_X12 (by decide) tw_984 rfl (by decide) dX12_carries_37 ho20 hq22 ?_
    refine g_iload_n hC dX12_carries_40 rfl ?_
    refine g_bipush (v := (7 : Int32)) hC dX12_carries_41 (by decide) ?_
    obtain ⟨r25, S24, hr23, h⟩ := bd2_some h
    refine g_callS (rest := [.ref q21, .int (wI S17 q14 r18.toNatClampNeg), .ref a0]) hC mi_X12_ofLoad (k_X12_ofLoad hr23) tw_1123 tw_1124 dX12_carries_43 rfl rfl ⟨by decide, by decide⟩ (Nat.le_of_ble_eq_true rfl) ⟨by decide, by decide⟩ ?_
    obtain ⟨hx26, h⟩ := gd_some h
    refine g_iald hC dX12_carries_46 hx26.1 hx26.2 ?_
    obtain ⟨ho29, h⟩ := gd_some h
    obtain ⟨r30, S28, hr27, h⟩ := bd2_some h
    refine g_callV (rest := []) hC mi_X12_docks (k_X12_docks hr27) ck_X12.1 (by decide) ho29 tw_1175 tw_1177 ts_35 dX12_carries_47 rfl rfl ⟨by decide, by decide⟩ (Nat.le_of_ble_eq_true rfl) ⟨by decide, by decide⟩ ?_
    refine g_istore_n (L' := [(2, .int r30), (0, .ref a0), (1, .int a1)]) hC dX12_carries_50 (by decide) rfl ?_
    refine g_iload_n hC dX12_carries_51 rfl ?_
    refine g_if_eq (tgt := 59) hC dX12_carries_52 (by decide) (fun hc31 => ?_) (fun hc31 => ?_)
    · rw [if_pos hc31] at h
      refine g_aload_n hC dX12_carries_59 rfl ?_
      refine g_aload_n hC dX12_carries_60 rfl ?_
      obtain ⟨ho32, h⟩ := gd_some h
      obtain ⟨q33, hq34, h⟩ := Option.bind_eq_some_iff.mp h
      refine g_getr (k := 0) (q := q33) hC ck_X12 (by decide) tw_984 rfl (by decide) dX12_carries_61 ho32 hq34 ?_
      refine g_iload_n hC dX12_carries_64 rfl ?_
      refine g_iconst (v := (1 : Int32)) hC dX12_carries_65 (by decide) ?_
      obtain ⟨r37, S36, hr35, h⟩ := bd2_some h
      refine g_callS (rest := [.ref q33, .ref a0]) hC mi_X12_ofLoad (k_X12_ofLoad hr35) tw_1123 tw_1124 dX12_carries_66 rfl rfl ⟨by decide, by decide⟩ (Nat.le_of_ble_eq_true rfl) ⟨by decide, by decide⟩ ?_
      obtain ⟨hx38, h⟩ := gd_some h
      refine g_iald hC dX12_carries_69 hx38.1 hx38.2 ?_
      refine g_iconst (v := (0 : Int32)) hC dX12_carries_70 (by decide) ?_
      obtain ⟨ho41, h⟩ := gd_some h
      obtain ⟨r42, S40, hr39, h⟩ := bd2_some h
      refine g_callV (rest := []) hC mi_X12_goes (k_X12_goes hr39) ck_X12.1 (by decide) ho41 tw_1171 tw_1173 ts_34 dX12_carries_71 rfl rfl ⟨by decide, by decide⟩ (Nat.le_of_ble_eq_true rfl) ⟨by decide, by decide⟩ ?_
      refine g_istore_n (L' := [(2, .int r42), (0, .ref a0), (1, .int a1)]) hC dX12_carries_74 (by decide) rfl ?_
      refine g_iload_n hC dX12_carries_75 rfl ?_
      refine g_if_eq (tgt := 83) hC dX12_carries_76 (by decide) (fun hc43 => ?_) (fun hc43 => ?_)
      · rw [if_pos hc43] at h
        refine g_aload_n hC dX12_carries_83 rfl ?_
        refine g_aload_n hC dX12_carries_84 rfl ?_
        obtain ⟨ho44, h⟩ := gd_some h
        obtain ⟨q45, hq46, h⟩ := Option.bind_eq_some_iff.mp h
        refine g_getr (k := 0) (q := q45) hC ck_X12 (by decide) tw_984 rfl (by decide) dX12_carries_85 ho44 hq46 ?_
        refine g_iload_n hC dX12_carries_88 rfl ?_
        refine g_bipush (v := (8 : Int32)) hC dX12_carries_89 (by decide) ?_
        obtain ⟨r49, S48, hr47, h⟩ := bd2_some h
        refine g_callS (rest := [.ref q45, .ref a0]) hC mi_X12_ofLoad (k_X12_ofLoad hr47) tw_1123 tw_1124 dX12_carries_91 rfl rfl ⟨by decide, by decide⟩ (Nat.le_of_ble_eq_true rfl) ⟨by decide, by decide⟩ ?_
        obtain ⟨hx50, h⟩ := gd_some h
        refine g_iald hC dX12_carries_94 hx50.1 hx50.2 ?_
        refine g_aload_n hC dX12_carries_95 rfl ?_
        obtain ⟨ho51, h⟩ := gd_some h
        obtain ⟨q52, hq53, h⟩ := Option.bind_eq_some_iff.mp h
        refine g_getr (k := 0) (q := q52) hC ck_X12 (by decide) tw_984 rfl (by decide) dX12_carries_96 ho51 hq53 ?_
        refine g_iload_n hC dX12_carries_99 rfl ?_
        refine g_bipush (v := (9 : Int32)) hC dX12_carries_100 (by decide) ?_
        obtain ⟨r56, S55, hr54, h⟩ := bd2_some h
        refine g_callS (rest := [.ref q52, .int (wI S48 q45 r49.toNatClampNeg), .ref a0]) hC mi_X12_ofLoad (k_X12_ofLoad hr54) tw_1123 tw_1124 dX12_carries_102 rfl rfl ⟨by decide, by decide⟩ (Nat.le_of_ble_eq_true rfl) ⟨by decide, by decide⟩ ?_
        obtain ⟨hx57, h⟩ := gd_some h
        refine g_iald hC dX12_carries_105 hx57.1 hx57.2 ?_
        obtain ⟨ho60, h⟩ := gd_some h
        obtain ⟨r61, S59, hr58, h⟩ := bd2_some h
        refine g_callV (rest := []) hC mi_X12_docks (k_X12_docks hr58) ck_X12.1 (by decide) ho60 tw_1175 tw_1177 ts_35 dX12_carries_106 rfl rfl ⟨by decide, by decide⟩ (Nat.le_of_ble_eq_true rfl) ⟨by decide, by decide⟩ ?_
        cases h
        exact g_iret hC hR dX12_carries_109 (by decide) (by decide)
      · rw [if_neg hc43] at h
        refine g_iload_n hC dX12_carries_79 rfl ?_
        refine g_goto (tgt := 109) hC dX12_carries_80 (by decide) ?_
        cases h
        exact g_iret hC hR dX12_carries_109 (by decide) (by decide)
    · rw [if_neg hc31] at h
      refine g_iload_n hC dX12_carries_55 rfl ?_
      refine g_goto (tgt := 74) hC dX12_carries_56 (by decide) ?_
      refine g_istore_n (L' := [(2, .int r30), (0, .ref a0), (1, .int a1)]) hC dX12_carries_74 (by decide) rfl ?_
      refine g_iload_n hC dX12_carries_75 rfl ?_
      refine g_if_eq (tgt := 83) hC dX12_carries_76 (by decide) (fun hc62 => ?_) (fun hc62 => ?_)
      · rw [if_pos hc62] at h
        refine g_aload_n hC dX12_carries_83 rfl ?_
        refine g_aload_n hC dX12_carries_84 rfl ?_
        obtain ⟨ho63, h⟩ := gd_some h
        obtain ⟨q64, hq65, h⟩ := Option.bind_eq_some_iff.mp h
        refine g_getr (k := 0) (q := q64) hC ck_X12 (by decide) tw_984 rfl (by decide) dX12_carries_85 ho63 hq65 ?_
        refine g_iload_n hC dX12_carries_88 rfl ?_
        refine g_bipush (v := (8 : Int32)) hC dX12_carries_89 (by decide) ?_
        obtain ⟨r68, S67, hr66, h⟩ := bd2_some h
        refine g_callS (rest := [.ref q64, .ref a0]) hC mi_X12_ofLoad (k_X12_ofLoad hr66) tw_1123 tw_1124 dX12_carries_91 rfl rfl ⟨by decide, by decide⟩ (Nat.le_of_ble_eq_true rfl) ⟨by decide, by decide⟩ ?_
        obtain ⟨hx69, h⟩ := gd_some h
        refine g_iald hC dX12_carries_94 hx69.1 hx69.2 ?_
        refine g_aload_n hC dX12_carries_95 rfl ?_
        obtain ⟨ho70, h⟩ := gd_some h
        obtain ⟨q71, hq72, h⟩ := Option.bind_eq_some_iff.mp h
        refine g_getr (k := 0) (q := q71) hC ck_X12 (by decide) tw_984 rfl (by decide) dX12_carries_96 ho70 hq72 ?_
        refine g_iload_n hC dX12_carries_99 rfl ?_
        refine g_bipush (v := (9 : Int32)) hC dX12_carries_100 (by decide) ?_
        obtain ⟨r75, S74, hr73, h⟩ := bd2_some h
        refine g_callS (rest := [.ref q71, .int (wI S67 q64 r68.toNatClampNeg), .ref a0]) hC mi_X12_ofLoad (k_X12_ofLoad hr73) tw_1123 tw_1124 dX12_carries_102 rfl rfl ⟨by decide, by decide⟩ (Nat.le_of_ble_eq_true rfl) ⟨by decide, by decide⟩ ?_
        obtain ⟨hx76, h⟩ := gd_some h
        refine g_iald hC dX12_carries_105 hx76.1 hx76.2 ?_
        obtain ⟨ho79, h⟩ := gd_some h
        obtain ⟨r80, S78, hr77, h⟩ := bd2_some h
        refine g_callV (rest := []) hC mi_X12_docks (k_X12_docks hr77) ck_X12.1 (by decide) ho79 tw_1175 tw_1177 ts_35 dX12_carries_106 rfl rfl ⟨by decide, by decide⟩ (Nat.le_of_ble_eq_true rfl) ⟨by decide, by decide⟩ ?_
        cases h
        exact g_iret hC hR dX12_carries_109 (by decide) (by decide)
      · rw [if_neg hc62] at h
        refine g_iload_n hC dX12_carries_79 rfl ?_
        refine g_goto (tgt := 109) hC dX12_carries_80 (by decide) ?_
        cases h
        exact g_iret hC hR dX12_carries_109 (by decide) (by decide)
  · rw [if_neg hc12] at h
    refine g_iload_n hC dX12_carries_20 rfl ?_
    refine g_goto (tgt := 50) hC dX12_carries_21 (by decide) ?_
    refine g_istore_n (L' := [(2, .int r11), (0, .ref a0), (1, .int a1)]) hC dX12_carries_50 (by decide) rfl ?_
    refine g_iload_n hC dX12_carries_51 rfl ?_
    refine g_if_eq (tgt := 59) hC dX12_carries_52 (by decide) (fun hc81 => ?_) (fun hc81 => ?_)
    · rw [if_pos hc81] at h
      refine g_aload_n hC dX12_carries_59 rfl ?_
      refine g_aload_n hC dX12_carries_60 rfl ?_
      obtain ⟨ho82, h⟩ := gd_some h
      obtain ⟨q83, hq84, h⟩ := Option.bind_eq_some_iff.mp h
      refine g_getr (k := 0) (q := q83) hC ck_X12 (by decide) tw_984 rfl (by decide) dX12_carries_61 ho82 hq84 ?_
      refine g_iload_n hC dX12_carries_64 rfl ?_
      refine g_iconst (v := (1 : Int32)) hC dX12_carries_65 (by decide) ?_
      obtain ⟨r87, S86, hr85, h⟩ := bd2_some h
      refine g_callS (rest := [.ref q83, .ref a0]) hC mi_X12_ofLoad (k_X12_ofLoad hr85) tw_1123 tw_1124 dX12_carries_66 rfl rfl ⟨by decide, by decide⟩ (Nat.le_of_ble_eq_true rfl) ⟨by decide, by decide⟩ ?_
      obtain ⟨hx88, h⟩ := gd_some h
      refine g_iald hC dX12_carries_69 hx88.1 hx88.2 ?_
      refine g_iconst (v := (0 : Int32)) hC dX12_carries_70 (by decide) ?_
      obtain ⟨ho91, h⟩ := gd_some h
      obtain ⟨r92, S90, hr89, h⟩ := bd2_some h
      refine g_callV (rest := []) hC mi_X12_goes (k_X12_goes hr89) ck_X12.1 (by decide) ho91 tw_1171 tw_1173 ts_34 dX12_carries_71 rfl rfl ⟨by decide, by decide⟩ (Nat.le_of_ble_eq_true rfl) ⟨by decide, by decide⟩ ?_
      refine g_istore_n (L' := [(2, .int r92), (0, .ref a0), (1, .int a1)]) hC dX12_carries_74 (by decide) rfl ?_
      refine g_iload_n hC dX12_carries_75 rfl ?_
      refine g_if_eq (tgt := 83) hC dX12_carries_76 (by decide) (fun hc93 => ?_) (fun hc93 => ?_)
      · rw [if_pos hc93] at h
        refine g_aload_n hC dX12_carries_83 rfl ?_
        refine g_aload_n hC dX12_carries_84 rfl ?_
        obtain ⟨ho94, h⟩ := gd_some h
        obtain ⟨q95, hq96, h⟩ := Option.bind_eq_some_iff.mp h
        refine g_getr (k := 0) (q := q95) hC ck_X12 (by decide) tw_984 rfl (by decide) dX12_carries_85 ho94 hq96 ?_
        refine g_iload_n hC dX12_carries_88 rfl ?_
        refine g_bipush (v := (8 : Int32)) hC dX12_carries_89 (by decide) ?_
        obtain ⟨r99, S98, hr97, h⟩ := bd2_some h
        refine g_callS (rest := [.ref q95, .ref a0]) hC mi_X12_ofLoad (k_X12_ofLoad hr97) tw_1123 tw_1124 dX12_carries_91 rfl rfl ⟨by decide, by decide⟩ (Nat.le_of_ble_eq_true rfl) ⟨by decide, by decide⟩ ?_
        obtain ⟨hx100, h⟩ := gd_some h
        refine g_iald hC dX12_carries_94 hx100.1 hx100.2 ?_
        refine g_aload_n hC dX12_carries_95 rfl ?_
        obtain ⟨ho101, h⟩ := gd_some h
        obtain ⟨q102, hq103, h⟩ := Option.bind_eq_some_iff.mp h
        refine g_getr (k := 0) (q := q102) hC ck_X12 (by decide) tw_984 rfl (by decide) dX12_carries_96 ho101 hq103 ?_
        refine g_iload_n hC dX12_carries_99 rfl ?_
        refine g_bipush (v := (9 : Int32)) hC dX12_carries_100 (by decide) ?_
        obtain ⟨r106, S105, hr104, h⟩ := bd2_some h
        refine g_callS (rest := [.ref q102, .int (wI S98 q95 r99.toNatClampNeg), .ref a0]) hC mi_X12_ofLoad (k_X12_ofLoad hr104) tw_1123 tw_1124 dX12_carries_102 rfl rfl ⟨by decide, by decide⟩ (Nat.le_of_ble_eq_true rfl) ⟨by decide, by decide⟩ ?_
        obtain ⟨hx107, h⟩ := gd_some h
        refine g_iald hC dX12_carries_105 hx107.1 hx107.2 ?_
        obtain ⟨ho110, h⟩ := gd_some h
        obtain ⟨r111, S109, hr108, h⟩ := bd2_some h
        refine g_callV (rest := []) hC mi_X12_docks (k_X12_docks hr108) ck_X12.1 (by decide) ho110 tw_1175 tw_1177 ts_35 dX12_carries_106 rfl rfl ⟨by decide, by decide⟩ (Nat.le_of_ble_eq_true rfl) ⟨by decide, by decide⟩ ?_
        cases h
        exact g_iret hC hR dX12_carries_109 (by decide) (by decide)
      · rw [if_neg hc93] at h
        refine g_iload_n hC dX12_carries_79 rfl ?_
        refine g_goto (tgt := 109) hC dX12_carries_80 (by decide) ?_
        cases h
        exact g_iret hC hR dX12_carries_109 (by decide) (by decide)
    · rw [if_neg hc81] at h
      refine g_iload_n hC dX12_carries_55 rfl ?_
      refine g_goto (tgt := 74) hC dX12_carries_56 (by decide) ?_
      refine g_istore_n (L' := [(2, .int r11), (0, .ref a0), (1, .int a1)]) hC dX12_carries_74 (by decide) rfl ?_
      refine g_iload_n hC dX12_carries_75 rfl ?_
      refine g_if_eq (tgt := 83) hC dX12_carries_76 (by decide) (fun hc112 => ?_) (fun hc112 => ?_)
      · rw [if_pos hc112] at h
        refine g_aload_n hC dX12_carries_83 rfl ?_
        refine g_aload_n hC dX12_carries_84 rfl ?_
        obtain ⟨ho113, h⟩ := gd_some h
        obtain ⟨q114, hq115, h⟩ := Option.bind_eq_some_iff.mp h
        refine g_getr (k := 0) (q := q114) hC ck_X12 (by decide) tw_984 rfl (by decide) dX12_carries_85 ho113 hq115 ?_
        refine g_iload_n hC dX12_carries_88 rfl ?_
        refine g_bipush (v := (8 : Int32)) hC dX12_carries_89 (by decide) ?_
        obtain ⟨r118, S117, hr116, h⟩ := bd2_some h
        refine g_callS (rest := [.ref q114, .ref a0]) hC mi_X12_ofLoad (k_X12_ofLoad hr116) tw_1123 tw_1124 dX12_carries_91 rfl rfl ⟨by decide, by decide⟩ (Nat.le_of_ble_eq_true rfl) ⟨by decide, by decide⟩ ?_
        obtain ⟨hx119, h⟩ := gd_some h
        refine g_iald hC dX12_carries_94 hx119.1 hx119.2 ?_
        refine g_aload_n hC dX12_carries_95 rfl ?_
        obtain ⟨ho120, h⟩ := gd_some h
        obtain ⟨q121, hq122, h⟩ := Option.bind_eq_some_iff.mp h
        refine g_getr (k := 0) (q := q121) hC ck_X12 (by decide) tw_984 rfl (by decide) dX12_carries_96 ho120 hq122 ?_
        refine g_iload_n hC dX12_carries_99 rfl ?_
        refine g_bipush (v := (9 : Int32)) hC dX12_carries_100 (by decide) ?_
        obtain ⟨r125, S124, hr123, h⟩ := bd2_some h
        refine g_callS (rest := [.ref q121, .int (wI S117 q114 r118.toNatClampNeg), .ref a0]) hC mi_X12_ofLoad (k_X12_ofLoad hr123) tw_1123 tw_1124 dX12_carries_102 rfl rfl ⟨by decide, by decide⟩ (Nat.le_of_ble_eq_true rfl) ⟨by decide, by decide⟩ ?_
        obtain ⟨hx126, h⟩ := gd_some h
        refine g_iald hC dX12_carries_105 hx126.1 hx126.2 ?_
        obtain ⟨ho129, h⟩ := gd_some h
        obtain ⟨r130, S128, hr127, h⟩ := bd2_some h
        refine g_callV (rest := []) hC mi_X12_docks (k_X12_docks hr127) ck_X12.1 (by decide) ho129 tw_1175 tw_1177 ts_35 dX12_carries_106 rfl rfl ⟨by decide, by decide⟩ (Nat.le_of_ble_eq_true rfl) ⟨by decide, by decide⟩ ?_
        cases h
        exact g_iret hC hR dX12_carries_109 (by decide) (by decide)
      · rw [if_neg hc112] at h
        refine g_iload_n hC dX12_carries_79 rfl ?_
        refine g_goto (tgt := 109) hC dX12_carries_80 (by decide) ?_
        cases h
        exact g_iret hC hR dX12_carries_109 (by decide) (by decide)

theorem mi_X12_drives : MI yX12_drives cX12_drives 5 (some .int) 3 := ⟨tw_1166, tw_14, by decide +kernel, by decide +kernel, by decide +kernel⟩
noncomputable def B_X12_drives_0 (S : Wd) (a0 : Nat) (a1 : Int32) (a2 : Int32) (a3 : Int32) : Option ((Int32 × Wd) ⊕ Cs) := gd (ob S a0 12) (Option.bind (wO S a0 0) (fun q2 => bd2 (f_X12_ofLorry S a1 (2 : Int32)) (fun r6 S5 => gd (ix S5 q2 100 r6) (gd (ob S5 a0 12) (ltS (sI S5 a0 8 (wI S5 q2 r6.toNatClampNeg)) (fun S9 => gd (ob S9 a0 12) (ltS (sI S9 a0 9 (0 : Int32)) (fun S12 => gd (ob S12 a0 12) (ltS (sI S12 a0 10 (0 : Int32)) (fun S15 => gd (ob S15 a0 12) (ltS (sI S15 a0 11 (0 : Int32)) (fun S18 => gd (ob S18 a0 12) (ltS (sI S18 a0 12 (0 : Int32)) (fun S21 => gd (ob S21 a0 12) (ltS (sI S21 a0 13 (0 : Int32)) (fun S24 => gd (ob S24 a0 12) (Option.bind (wO S24 a0 0) (fun q27 => bd2 (f_X12_ofLorry S24 a1 (1 : Int32)) (fun r31 S30 => gd (ix S30 q27 100 r31) (gd (ob S30 a0 12) (ltS (sI S30 a0 14 (wI S30 q27 r31.toNatClampNeg)) (fun S34 => if 0 ≤ a2 then (gd (ob S34 a0 12) (bd2 (f_X12_carries S34 a0 a2) (fun r40 S38 => some (.inr (1, [a0], [a1, a2, a3, r40], S38))))) else (some (.inr (1, [a0], [a1, a2, a3, (0 : Int32)], S34)))))))))))))))))))))))))
noncomputable def B_X12_drives_1 (S : Wd) (x0 : Nat) (x1 : Int32) (x2 : Int32) (x3 : Int32) (x4 : Int32) : Option ((Int32 × Wd) ⊕ Cs) := if x4 = 0 then (if x2 < 0 then (some (.inr (2, [x0], [x1, x2, x3, x4], S))) else (if 0 ≤ x3 then (gd (ob S x0 12) (bd2 (f_X12_carries S x0 x3) (fun r47 S45 => some (.inr (2, [x0], [x1, x2, x3, r47], S45))))) else (some (.inr (2, [x0], [x1, x2, x3, x4], S))))) else (some (.inr (2, [x0], [x1, x2, x3, x4], S)))
noncomputable def B_X12_drives_2 (S : Wd) (x0 : Nat) (x1 : Int32) (x2 : Int32) (x3 : Int32) (x4 : Int32) : Option ((Int32 × Wd) ⊕ Cs) := if x4 = 0 then (gd (ob S x0 12) (Option.bind (wO S x0 0) (fun q50 => bd2 (f_X12_ofLorry S x1 (3 : Int32)) (fun r54 S53 => gd (ix S53 q50 100 r54) (gd (ob S53 x0 12) (bd2 (f_X12_goes S53 x0 (wI S53 q50 r54.toNatClampNeg) (1 : Int32)) (fun r59 S57 => some (.inr (3, [x0], [x1, x2, x3, r59], S57))))))))) else (some (.inr (3, [x0], [x1, x2, x3, x4], S)))
noncomputable def B_X12_drives_3 (S : Wd) (x0 : Nat) (x1 : Int32) (x2 : Int32) (x3 : Int32) (x4 : Int32) : Option ((Int32 × Wd) ⊕ Cs) := if x4 = 0 then (gd (ob S x0 12) (gd (ob S x0 12) (Option.bind (wO S x0 0) (fun q63 => bd2 (f_X12_ofLorry S x1 (4 : Int32)) (fun r67 S66 => gd (ix S66 q63 100 r67) (if (wI S x0 8) ≤ (wI S66 q63 r67.toNatClampNeg) then (some (.inl ((0 : Int32), S66))) else (some (.inl ((4 : Int32), S66))))))))) else (some (.inl (x4, S)))
noncomputable def B_X12_drives : Cs → Option ((Int32 × Wd) ⊕ Cs)
  | (0, [a0], [a1, a2, a3], S) => B_X12_drives_0 S a0 a1 a2 a3
  | (1, [x0], [x1, x2, x3, x4], S) => B_X12_drives_1 S x0 x1 x2 x3 x4
  | (2, [x0], [x1, x2, x3, x4], S) => B_X12_drives_2 S x0 x1 x2 x3 x4
  | (3, [x0], [x1, x2, x3, x4], S) => B_X12_drives_3 S x0 x1 x2 x3 x4
  | _ => none
def P_X12_drives : Cs → Option (Nat × List (Nat × Value) × Wd × Nat × Nat)
  | (0, [a0], [a1, a2, a3], S) => some (0, [(0, .ref a0), (1, .int a1), (2, .int a2), (3, .int a3)], S, 0, 0)
  | (1, [x0], [x1, x2, x3, x4], S) => some (68, [(0, .ref x0), (1, .int x1), (2, .int x2), (3, .int x3), (4, .int x4)], S, 0, 0)
  | (2, [x0], [x1, x2, x3, x4], S) => some (93, [(0, .ref x0), (1, .int x1), (2, .int x2), (3, .int x3), (4, .int x4)], S, 0, 0)
  | (3, [x0], [x1, x2, x3, x4], S) => some (120, [(0, .ref x0), (1, .int x1), (2, .int x2), (3, .int x3), (4, .int x4)], S, 0, 0)
  | _ => none
noncomputable def f_X12_drives (S : Wd) (a0 : Nat) (a1 : Int32) (a2 : Int32) (a3 : Int32) : Option (Int32 × Wd) := ru B_X12_drives (0, [a0], [a1, a2, a3], S)
abbrev N_X12_drives (b : Bd) (r : Int32 × Wd) (c : (Int32 × Wd) ⊕ Cs) : Prop := match c with
  | .inl r' => r' = r
  | .inr s' => ∀ pc L S kc ks, P_X12_drives s' = some (pc, L, S, kc, ks) → G b pc L [] S kc ks
set_option maxRecDepth 100000 in
set_option maxHeartbeats 4000000 in
theorem w_X12_drives_0 {b : Bd} {r : Int32 × Wd} (hC : CX b yX12_drives.cls cX12_drives 5 { frames := 3, cells := 0, slots := 0, locals := 68 }) (hin : yX12_drives.name = "<init>" → b.2.2.2.2.2.2.2.2.1.name = "<init>") (hR : RT b (some .int) (some (.int r.1)) r.2 0 0) {S : Wd} {a0 : Nat} {a1 : Int32} {a2 : Int32} {a3 : Int32} {c : (Int32 × Wd) ⊕ Cs} (h : B_X12_drives_0 S a0 a1 a2 a3 = some c) (hk : N_X12_drives b r c) : G b 0 [(0, .ref a0), (1, .int a1), (2, .int a2), (3, .int a3)] [] S 0 0 := by
  unfold B_X12_drives_0 at h
  refine g_aload_n hC dX12_drives_0 rfl ?_
  refine g_aload_n hC dX12_drives_1 rfl ?_
  obtain ⟨ho1, h⟩ := gd_some h
  obtain ⟨q2, hq3, h⟩ := Option.bind_eq_some_iff.mp h
  refine g_getr (k := 0) (q := q2) hC ck_X12 (by decide) tw_984 rfl (by decide) dX12_drives_2 ho1 hq3 ?_
  refine g_iload_n hC dX12_drives_5 rfl ?_
  refine g_iconst (v := (2 : Int32)) hC dX12_drives_6 (by decide) ?_
  obtain ⟨r6, S5, hr4, h⟩ := bd2_some h
  refine g_callS (rest := [.ref q2, .ref a0]) hC mi_X12_ofLorry (k_X12_ofLorry hr4) tw_1107 tw_1108 dX12_drives_7 rfl rfl ⟨by decide, by decide⟩ (Nat.le_of_ble_eq_true rfl) ⟨by decide, by decide⟩ ?_
  obtain ⟨hx7, h⟩ := gd_some h
  refine g_iald hC dX12_drives_10 hx7.1 hx7.2 ?_
  obtain ⟨ho8, h⟩ := gd_some h
  refine g_puti (k := 8) hC ck_X12 (by decide) tw_992 rfl (by decide) rfl rfl dX12_drives_11 ho8 ?_
  refine g_name (fun S9 eS10 => ?_)
  have h := ltS_use eS10 h
  refine g_aload_n hC dX12_drives_14 rfl ?_
  refine g_iconst (v := (0 : Int32)) hC dX12_drives_15 (by decide) ?_
  obtain ⟨ho11, h⟩ := gd_some h
  refine g_puti (k := 9) hC ck_X12 (by decide) tw_993 rfl (by decide) rfl rfl dX12_drives_16 ho11 ?_
  refine g_name (fun S12 eS13 => ?_)
  have h := ltS_use eS13 h
  refine g_aload_n hC dX12_drives_19 rfl ?_
  refine g_iconst (v := (0 : Int32)) hC dX12_drives_20 (by decide) ?_
  obtain ⟨ho14, h⟩ := gd_some h
  refine g_puti (k := 10) hC ck_X12 (by decide) tw_994 rfl (by decide) rfl rfl dX12_drives_21 ho14 ?_
  refine g_name (fun S15 eS16 => ?_)
  have h := ltS_use eS16 h
  refine g_aload_n hC dX12_drives_24 rfl ?_
  refine g_iconst (v := (0 : Int32)) hC dX12_drives_25 (by decide) ?_
  obtain ⟨ho17, h⟩ := gd_some h
  refine g_puti (k := 11) hC ck_X12 (by decide) tw_995 rfl (by decide) rfl rfl dX12_drives_26 ho17 ?_
  refine g_name (fun S18 eS19 => ?_)
  have h := ltS_use eS19 h
  refine g_aload_n hC dX12_drives_29 rfl ?_
  refine g_iconst (v := (0 : Int32)) hC dX12_drives_30 (by decide) ?_
  obtain ⟨ho20, h⟩ := gd_some h
  refine g_puti (k := 12) hC ck_X12 (by decide) tw_996 rfl (by decide) rfl rfl dX12_drives_31 ho20 ?_
  refine g_name (fun S21 eS22 => ?_)
  have h := ltS_use eS22 h
  refine g_aload_n hC dX12_drives_34 rfl ?_
  refine g_iconst (v := (0 : Int32)) hC dX12_drives_35 (by decide) ?_
  obtain ⟨ho23, h⟩ := gd_some h
  refine g_puti (k := 13) hC ck_X12 (by decide) tw_997 rfl (by decide) rfl rfl dX12_drives_36 ho23 ?_
  refine g_name (fun S24 eS25 => ?_)
  have h := ltS_use eS25 h
  refine g_aload_n hC dX12_drives_39 rfl ?_
  refine g_aload_n hC dX12_drives_40 rfl ?_
  obtain ⟨ho26, h⟩ := gd_some h
  obtain ⟨q27, hq28, h⟩ := Option.bind_eq_some_iff.mp h
  refine g_getr (k := 0) (q := q27) hC ck_X12 (by decide) tw_984 rfl (by decide) dX12_drives_41 ho26 hq28 ?_
  refine g_iload_n hC dX12_drives_44 rfl ?_
  refine g_iconst (v := (1 : Int32)) hC dX12_drives_45 (by decide) ?_
  obtain ⟨r31, S30, hr29, h⟩ := bd2_some h
  refine g_callS (rest := [.ref q27, .ref a0]) hC mi_X12_ofLorry (k_X12_ofLorry hr29) tw_1107 tw_1108 dX12_drives_46 rfl rfl ⟨by decide, by decide⟩ (Nat.le_of_ble_eq_true rfl) ⟨by decide, by decide⟩ ?_
  obtain ⟨hx32, h⟩ := gd_some h
  refine g_iald hC dX12_drives_49 hx32.1 hx32.2 ?_
  obtain ⟨ho33, h⟩ := gd_some h
  refine g_puti (k := 14) hC ck_X12 (by decide) tw_998 rfl (by decide) rfl rfl dX12_drives_50 ho33 ?_
  refine g_name (fun S34 eS35 => ?_)
  have h := ltS_use eS35 h
  refine g_iload_n hC dX12_drives_53 rfl ?_
  refine g_if_ge (tgt := 61) hC dX12_drives_54 (by decide) (fun hc36 => ?_) (fun hc36 => ?_)
  · rw [if_pos hc36] at h
    refine g_aload_n hC dX12_drives_61 rfl ?_
    refine g_iload_n hC dX12_drives_62 rfl ?_
    obtain ⟨ho39, h⟩ := gd_some h
    obtain ⟨r40, S38, hr37, h⟩ := bd2_some h
    refine g_callV (rest := []) hC mi_X12_carries (k_X12_carries hr37) ck_X12.1 (by decide) ho39 tw_1167 tw_1169 ts_33 dX12_drives_63 rfl rfl ⟨by decide, by decide⟩ (Nat.le_of_ble_eq_true rfl) ⟨by decide, by decide⟩ ?_
    refine g_istore (L' := [(4, .int r40), (0, .ref a0), (1, .int a1), (2, .int a2), (3, .int a3)]) hC dX12_drives_66 (by decide) rfl ?_
    cases h
    refine g_pick (L' := [(0, .ref a0), (1, .int a1), (2, .int a2), (3, .int a3), (4, .int r40)]) [1, 2, 3, 4, 0] rfl ?_
    exact hk _ _ _ _ _ rfl
  · rw [if_neg hc36] at h
    refine g_iconst (v := (0 : Int32)) hC dX12_drives_57 (by decide) ?_
    refine g_goto (tgt := 66) hC dX12_drives_58 (by decide) ?_
    refine g_istore (L' := [(4, .int (0 : Int32)), (0, .ref a0), (1, .int a1), (2, .int a2), (3, .int a3)]) hC dX12_drives_66 (by decide) rfl ?_
    cases h
    refine g_pick (L' := [(0, .ref a0), (1, .int a1), (2, .int a2), (3, .int a3), (4, .int (0 : Int32))]) [1, 2, 3, 4, 0] rfl ?_
    exact hk _ _ _ _ _ rfl
set_option maxRecDepth 100000 in
set_option maxHeartbeats 4000000 in
theorem w_X12_drives_1 {b : Bd} {r : Int32 × Wd} (hC : CX b yX12_drives.cls cX12_drives 5 { frames := 3, cells := 0, slots := 0, locals := 68 }) (hin : yX12_drives.name = "<init>" → b.2.2.2.2.2.2.2.2.1.name = "<init>") (hR : RT b (some .int) (some (.int r.1)) r.2 0 0) {S : Wd} {x0 : Nat} {x1 : Int32} {x2 : Int32} {x3 : Int32} {x4 : Int32} {c : (Int32 × Wd) ⊕ Cs} (h : B_X12_drives_1 S x0 x1 x2 x3 x4 = some c) (hk : N_X12_drives b r c) : G b 68 [(0, .ref x0), (1, .int x1), (2, .int x2), (3, .int x3), (4, .int x4)] [] S 0 0 := by
  unfold B_X12_drives_1 at h
  refine g_iload hC dX12_drives_68 rfl ?_
  refine g_if_ne (tgt := 81) hC dX12_drives_70 (by decide) (fun hc41 => ?_) (fun hc41 => ?_)
  · rw [if_neg hc41] at h
    refine g_iload hC dX12_drives_81 rfl ?_
    refine g_goto (tgt := 91) hC dX12_drives_83 (by decide) ?_
    refine g_istore (L' := [(4, .int x4), (0, .ref x0), (1, .int x1), (2, .int x2), (3, .int x3)]) hC dX12_drives_91 (by decide) rfl ?_
    cases h
    refine g_pick (L' := [(0, .ref x0), (1, .int x1), (2, .int x2), (3, .int x3), (4, .int x4)]) [1, 2, 3, 4, 0] rfl ?_
    exact hk _ _ _ _ _ rfl
  · rw [if_pos hc41] at h
    refine g_iload_n hC dX12_drives_73 rfl ?_
    refine g_if_lt (tgt := 81) hC dX12_drives_74 (by decide) (fun hc42 => ?_) (fun hc42 => ?_)
    · rw [if_pos hc42] at h
      refine g_iload hC dX12_drives_81 rfl ?_
      refine g_goto (tgt := 91) hC dX12_drives_83 (by decide) ?_
      refine g_istore (L' := [(4, .int x4), (0, .ref x0), (1, .int x1), (2, .int x2), (3, .int x3)]) hC dX12_drives_91 (by decide) rfl ?_
      cases h
      refine g_pick (L' := [(0, .ref x0), (1, .int x1), (2, .int x2), (3, .int x3), (4, .int x4)]) [1, 2, 3, 4, 0] rfl ?_
      exact hk _ _ _ _ _ rfl
    · rw [if_neg hc42] at h
      refine g_iload_n hC dX12_drives_77 rfl ?_
      refine g_if_ge (tgt := 86) hC dX12_drives_78 (by decide) (fun hc43 => ?_) (fun hc43 => ?_)
      · rw [if_pos hc43] at h
        refine g_aload_n hC dX12_drives_86 rfl ?_
        refine g_iload_n hC dX12_drives_87 rfl ?_
        obtain ⟨ho46, h⟩ := gd_some h
        obtain ⟨r47, S45, hr44, h⟩ := bd2_some h
        refine g_callV (rest := []) hC mi_X12_carries (k_X12_carries hr44) ck_X12.1 (by decide) ho46 tw_1167 tw_1169 ts_33 dX12_drives_88 rfl rfl ⟨by decide, by decide⟩ (Nat.le_of_ble_eq_true rfl) ⟨by decide, by decide⟩ ?_
        refine g_istore (L' := [(4, .int r47), (0, .ref x0), (1, .int x1), (2, .int x2), (3, .int x3)]) hC dX12_drives_91 (by decide) rfl ?_
        cases h
        refine g_pick (L' := [(0, .ref x0), (1, .int x1), (2, .int x2), (3, .int x3), (4, .int r47)]) [1, 2, 3, 4, 0] rfl ?_
        exact hk _ _ _ _ _ rfl
      · rw [if_neg hc43] at h
        refine g_iload hC dX12_drives_81 rfl ?_
        refine g_goto (tgt := 91) hC dX12_drives_83 (by decide) ?_
        refine g_istore (L' := [(4, .int x4), (0, .ref x0), (1, .int x1), (2, .int x2), (3, .int x3)]) hC dX12_drives_91 (by decide) rfl ?_
        cases h
        refine g_pick (L' := [(0, .ref x0), (1, .int x1), (2, .int x2), (3, .int x3), (4, .int x4)]) [1, 2, 3, 4, 0] rfl ?_
        exact hk _ _ _ _ _ rfl
set_option maxRecDepth 100000 in
set_option maxHeartbeats 4000000 in
theorem w_X12_drives_2 {b : Bd} {r : Int32 × Wd} (hC : CX b yX12_drives.cls cX12_drives 5 { frames := 3, cells := 0, slots := 0, locals := 68 }) (hin : yX12_drives.name = "<init>" → b.2.2.2.2.2.2.2.2.1.name = "<init>") (hR : RT b (some .int) (some (.int r.1)) r.2 0 0) {S : Wd} {x0 : Nat} {x1 : Int32} {x2 : Int32} {x3 : Int32} {x4 : Int32} {c : (Int32 × Wd) ⊕ Cs} (h : B_X12_drives_2 S x0 x1 x2 x3 x4 = some c) (hk : N_X12_drives b r c) : G b 93 [(0, .ref x0), (1, .int x1), (2, .int x2), (3, .int x3), (4, .int x4)] [] S 0 0 := by
  unfold B_X12_drives_2 at h
  refine g_iload hC dX12_drives_93 rfl ?_
  refine g_if_eq (tgt := 103) hC dX12_drives_95 (by decide) (fun hc48 => ?_) (fun hc48 => ?_)
  · rw [if_pos hc48] at h
    refine g_aload_n hC dX12_drives_103 rfl ?_
    refine g_aload_n hC dX12_drives_104 rfl ?_
    obtain ⟨ho49, h⟩ := gd_some h
    obtain ⟨q50, hq51, h⟩ := Option.bind_eq_some_iff.mp h
    refine g_getr (k := 0) (q := q50) hC ck_X12 (by decide) tw_984 rfl (by decide) dX12_drives_105 ho49 hq51 ?_
    refine g_iload_n hC dX12_drives_108 rfl ?_
    refine g_iconst (v := (3 : Int32)) hC dX12_drives_109 (by decide) ?_
    obtain ⟨r54, S53, hr52, h⟩ := bd2_some h
    refine g_callS (rest := [.ref q50, .ref x0]) hC mi_X12_ofLorry (k_X12_ofLorry hr52) tw_1107 tw_1108 dX12_drives_110 rfl rfl ⟨by decide, by decide⟩ (Nat.le_of_ble_eq_true rfl) ⟨by decide, by decide⟩ ?_
    obtain ⟨hx55, h⟩ := gd_some h
    refine g_iald hC dX12_drives_113 hx55.1 hx55.2 ?_
    refine g_iconst (v := (1 : Int32)) hC dX12_drives_114 (by decide) ?_
    obtain ⟨ho58, h⟩ := gd_some h
    obtain ⟨r59, S57, hr56, h⟩ := bd2_some h
    refine g_callV (rest := []) hC mi_X12_goes (k_X12_goes hr56) ck_X12.1 (by decide) ho58 tw_1171 tw_1173 ts_34 dX12_drives_115 rfl rfl ⟨by decide, by decide⟩ (Nat.le_of_ble_eq_true rfl) ⟨by decide, by decide⟩ ?_
    refine g_istore (L' := [(4, .int r59), (0, .ref x0), (1, .int x1), (2, .int x2), (3, .int x3)]) hC dX12_drives_118 (by decide) rfl ?_
    cases h
    refine g_pick (L' := [(0, .ref x0), (1, .int x1), (2, .int x2), (3, .int x3), (4, .int r59)]) [1, 2, 3, 4, 0] rfl ?_
    exact hk _ _ _ _ _ rfl
  · rw [if_neg hc48] at h
    refine g_iload hC dX12_drives_98 rfl ?_
    refine g_goto (tgt := 118) hC dX12_drives_100 (by decide) ?_
    refine g_istore (L' := [(4, .int x4), (0, .ref x0), (1, .int x1), (2, .int x2), (3, .int x3)]) hC dX12_drives_118 (by decide) rfl ?_
    cases h
    refine g_pick (L' := [(0, .ref x0), (1, .int x1), (2, .int x2), (3, .int x3), (4, .int x4)]) [1, 2, 3, 4, 0] rfl ?_
    exact hk _ _ _ _ _ rfl
set_option maxRecDepth 100000 in
set_option maxHeartbeats 4000000 in
theorem w_X12_drives_3 {b : Bd} {r : Int32 × Wd} (hC : CX b yX12_drives.cls cX12_drives 5 { frames := 3, cells := 0, slots := 0, locals := 68 }) (hin : yX12_drives.name = "<init>" → b.2.2.2.2.2.2.2.2.1.name = "<init>") (hR : RT b (some .int) (some (.int r.1)) r.2 0 0) {S : Wd} {x0 : Nat} {x1 : Int32} {x2 : Int32} {x3 : Int32} {x4 : Int32} {c : (Int32 × Wd) ⊕ Cs} (h : B_X12_drives_3 S x0 x1 x2 x3 x4 = some c) (hk : N_X12_drives b r c) : G b 120 [(0, .ref x0), (1, .int x1), (2, .int x2), (3, .int x3), (4, .int x4)] [] S 0 0 := by
  unfold B_X12_drives_3 at h
  refine g_iload hC dX12_drives_120 rfl ?_
  refine g_if_eq (tgt := 130) hC dX12_drives_122 (by decide) (fun hc60 => ?_) (fun hc60 => ?_)
  · rw [if_pos hc60] at h
    refine g_aload_n hC dX12_drives_130 rfl ?_
    obtain ⟨ho61, h⟩ := gd_some h
    refine g_geti (k := 8) hC ck_X12 (by decide) tw_992 rfl (by decide) dX12_drives_131 ho61 ?_
    refine g_aload_n hC dX12_drives_134 rfl ?_
    obtain ⟨ho62, h⟩ := gd_some h
    obtain ⟨q63, hq64, h⟩ := Option.bind_eq_some_iff.mp h
    refine g_getr (k := 0) (q := q63) hC ck_X12 (by decide) tw_984 rfl (by decide) dX12_drives_135 ho62 hq64 ?_
    refine g_iload_n hC dX12_drives_138 rfl ?_
    refine g_iconst (v := (4 : Int32)) hC dX12_drives_139 (by decide) ?_
    obtain ⟨r67, S66, hr65, h⟩ := bd2_some h
    refine g_callS (rest := [.ref q63, .int (wI S x0 8)]) hC mi_X12_ofLorry (k_X12_ofLorry hr65) tw_1107 tw_1108 dX12_drives_140 rfl rfl ⟨by decide, by decide⟩ (Nat.le_of_ble_eq_true rfl) ⟨by decide, by decide⟩ ?_
    obtain ⟨hx68, h⟩ := gd_some h
    refine g_iald hC dX12_drives_143 hx68.1 hx68.2 ?_
    refine g_icmp_le (tgt := 151) hC dX12_drives_144 (by decide) (fun hc69 => ?_) (fun hc69 => ?_)
    · rw [if_pos hc69] at h
      refine g_iconst (v := (0 : Int32)) hC dX12_drives_151 (by decide) ?_
      cases h
      subst hk
      exact g_iret hC hR dX12_drives_152 (by decide) (by decide)
    · rw [if_neg hc69] at h
      refine g_iconst (v := (4 : Int32)) hC dX12_drives_147 (by decide) ?_
      refine g_goto (tgt := 152) hC dX12_drives_148 (by decide) ?_
      cases h
      subst hk
      exact g_iret hC hR dX12_drives_152 (by decide) (by decide)
  · rw [if_neg hc60] at h
    refine g_iload hC dX12_drives_125 rfl ?_
    refine g_goto (tgt := 152) hC dX12_drives_127 (by decide) ?_
    cases h
    subst hk
    exact g_iret hC hR dX12_drives_152 (by decide) (by decide)
theorem w_X12_drives {b : Bd} {r : Int32 × Wd} (hC : CX b yX12_drives.cls cX12_drives 5 { frames := 3, cells := 0, slots := 0, locals := 68 }) (hin : yX12_drives.name = "<init>" → b.2.2.2.2.2.2.2.2.1.name = "<init>") (hR : RT b (some .int) (some (.int r.1)) r.2 0 0) {s : Cs} {c : (Int32 × Wd) ⊕ Cs} (h : B_X12_drives s = some c) (hk : N_X12_drives b r c) : ∀ pc L S kc ks, P_X12_drives s = some (pc, L, S, kc, ks) → G b pc L [] S kc ks := by
  intro pc L S kc ks hp
  unfold B_X12_drives at h
  split at h
  · cases hp
    exact w_X12_drives_0 hC hin hR h hk
  · cases hp
    exact w_X12_drives_1 hC hin hR h hk
  · cases hp
    exact w_X12_drives_2 hC hin hR h hk
  · cases hp
    exact w_X12_drives_3 hC hin hR h hk
  · cases h
theorem k_X12_drives {S : Wd} {a0 : Nat} {a1 : Int32} {a2 : Int32} {a3 : Int32} {r : Int32} {S' : Wd} (h : f_X12_drives S a0 a1 a2 a3 = some (r, S')) : Sp yX12_drives cX12_drives 5 (some .int) 3 68 0 0 [.ref a0, .int a1, .int a2, .int a3] S (some (.int r)) S' := by
  unfold f_X12_drives at h
  refine Sp.of (by decide +kernel) (Nat.le_of_ble_eq_true rfl) ?_
  intro b hC hin hR
  exact ru_ind (P := fun s q0 => q0 = (r, S') → ∀ pc L S kc ks, P_X12_drives s = some (pc, L, S, kc, ks) → G b pc L [] S kc ks) (fun s q0 hB e => w_X12_drives (r := (r, S')) hC hin hR hB e) (fun s s' q0 hB ih e => w_X12_drives (r := (r, S')) hC hin hR hB (ih e)) h rfl _ _ _ _ _ rfl

theorem mi_X12_why : MI yX12_why cX12_why 5 (some .int) 3 := ⟨tw_1158, tw_14, by decide +kernel, by decide +kernel, by decide +kernel⟩
noncomputable def f_X12_why (S : Wd) (a0 : Nat) (a1 : Int32) (a2 : Int32) (a3 : Int32) : Option (Int32 × Wd) := gd (ob S a0 12) (bd2 (f_X12_refused S a0 a1 a2 a3) (fun r4 S2 => if r4 = 0 then (gd (ob S2 a0 12) (Option.bind (f_X12_findFar S2 a0) (fun S7 => gd (ob S7 a0 12) (bd2 (f_X12_drives S7 a0 a1 a2 a3) (fun r12 S10 => some (r12, S10)))))) else (gd (ob S2 a0 12) (bd2 (f_X12_finding S2 a0 r4) (fun r16 S14 => some (r16, S14))))))
set_option maxRecDepth 100000 in
set_option maxHeartbeats 4000000 in
theorem k_X12_why {S : Wd} {a0 : Nat} {a1 : Int32} {a2 : Int32} {a3 : Int32} {r : Int32} {S' : Wd} (h : f_X12_why S a0 a1 a2 a3 = some (r, S')) : Sp yX12_why cX12_why 5 (some .int) 4 92 0 0 [.ref a0, .int a1, .int a2, .int a3] S (some (.int r)) S' := by
  unfold f_X12_why at h
  refine Sp.of (by decide +kernel) (Nat.le_of_ble_eq_true rfl) ?_
  intro b hC hin hR
  show G b 0 [(0, .ref a0), (1, .int a1), (2, .int a2), (3, .int a3)] [] S 0 0
  refine g_aload_n hC dX12_why_0 rfl ?_
  refine g_iload_n hC dX12_why_1 rfl ?_
  refine g_iload_n hC dX12_why_2 rfl ?_
  refine g_iload_n hC dX12_why_3 rfl ?_
  obtain ⟨ho3, h⟩ := gd_some h
  obtain ⟨r4, S2, hr1, h⟩ := bd2_some h
  refine g_callV (rest := []) hC mi_X12_refused (k_X12_refused hr1) ck_X12.1 (by decide) ho3 tw_1159 tw_1161 ts_31 dX12_why_4 rfl rfl ⟨by decide, by decide⟩ (Nat.le_of_ble_eq_true rfl) ⟨by decide, by decide⟩ ?_
  refine g_istore (L' := [(4, .int r4), (0, .ref a0), (1, .int a1), (2, .int a2), (3, .int a3)]) hC dX12_why_7 (by decide) rfl ?_
  refine g_iload hC dX12_why_9 rfl ?_
  refine g_if_eq (tgt := 21) hC dX12_why_11 (by decide) (fun hc5 => ?_) (fun hc5 => ?_)
  · rw [if_pos hc5] at h
    refine g_aload_n hC dX12_why_21 rfl ?_
    obtain ⟨ho8, h⟩ := gd_some h
    obtain ⟨S7, hr6, h⟩ := Option.bind_eq_some_iff.mp h
    refine g_callV (rest := []) hC mi_X12_findFar (k_X12_findFar hr6) ck_X12.1 (by decide) ho8 tw_1092 tw_1094 ts_26 dX12_why_22 rfl rfl ⟨by decide, by decide⟩ (Nat.le_of_ble_eq_true rfl) ⟨by decide, by decide⟩ ?_
    refine g_aload_n hC dX12_why_25 rfl ?_
    refine g_iload_n hC dX12_why_26 rfl ?_
    refine g_iload_n hC dX12_why_27 rfl ?_
    refine g_iload_n hC dX12_why_28 rfl ?_
    obtain ⟨ho11, h⟩ := gd_some h
    obtain ⟨r12, S10, hr9, h⟩ := bd2_some h
    refine g_callV (rest := []) hC mi_X12_drives (k_X12_drives hr9) ck_X12.1 (by decide) ho11 tw_1163 tw_1165 ts_32 dX12_why_29 rfl rfl ⟨by decide, by decide⟩ (Nat.le_of_ble_eq_true rfl) ⟨by decide, by decide⟩ ?_
    cases h
    exact g_iret hC hR dX12_why_32 (by decide) (by decide)
  · rw [if_neg hc5] at h
    refine g_aload_n hC dX12_why_14 rfl ?_
    refine g_iload hC dX12_why_15 rfl ?_
    obtain ⟨ho15, h⟩ := gd_some h
    obtain ⟨r16, S14, hr13, h⟩ := bd2_some h
    refine g_callV (rest := []) hC mi_X12_finding (k_X12_finding hr13) ck_X12.1 (by decide) ho15 tw_1069 tw_1071 ts_24 dX12_why_17 rfl rfl ⟨by decide, by decide⟩ (Nat.le_of_ble_eq_true rfl) ⟨by decide, by decide⟩ ?_
    cases h
    exact g_iret hC hR dX12_why_20 (by decide) (by decide)

theorem mi_X12_payOf : MI yX12_payOf cX12_payOf 2 (some .int) 1 := ⟨tw_1190, tw_14, by decide +kernel, by decide +kernel, by decide +kernel⟩
noncomputable def f_X12_payOf (S : Wd) (a0 : Nat) (a1 : Int32) : Option (Int32 × Wd) := if 0 ≤ a1 then (gd (ob S a0 12) (Option.bind (wO S a0 0) (fun q3 => bd2 (f_X12_ofLoad S a1 (5 : Int32)) (fun r7 S6 => gd (ix S6 q3 100 r7) (some ((wI S6 q3 r7.toNatClampNeg), S6)))))) else (some ((0 : Int32), S))
set_option maxRecDepth 100000 in
set_option maxHeartbeats 4000000 in
theorem k_X12_payOf {S : Wd} {a0 : Nat} {a1 : Int32} {r : Int32} {S' : Wd} (h : f_X12_payOf S a0 a1 = some (r, S')) : Sp yX12_payOf cX12_payOf 2 (some .int) 1 21 0 0 [.ref a0, .int a1] S (some (.int r)) S' := by
  unfold f_X12_payOf at h
  refine Sp.of (by decide +kernel) (Nat.le_of_ble_eq_true rfl) ?_
  intro b hC hin hR
  show G b 0 [(0, .ref a0), (1, .int a1)] [] S 0 0
  refine g_iload_n hC dX12_payOf_0 rfl ?_
  refine g_if_ge (tgt := 8) hC dX12_payOf_1 (by decide) (fun hc1 => ?_) (fun hc1 => ?_)
  · rw [if_pos hc1] at h
    refine g_aload_n hC dX12_payOf_8 rfl ?_
    obtain ⟨ho2, h⟩ := gd_some h
    obtain ⟨q3, hq4, h⟩ := Option.bind_eq_some_iff.mp h
    refine g_getr (k := 0) (q := q3) hC ck_X12 (by decide) tw_984 rfl (by decide) dX12_payOf_9 ho2 hq4 ?_
    refine g_iload_n hC dX12_payOf_12 rfl ?_
    refine g_iconst (v := (5 : Int32)) hC dX12_payOf_13 (by decide) ?_
    obtain ⟨r7, S6, hr5, h⟩ := bd2_some h
    refine g_callS (rest := [.ref q3]) hC mi_X12_ofLoad (k_X12_ofLoad hr5) tw_1123 tw_1124 dX12_payOf_14 rfl rfl ⟨by decide, by decide⟩ (Nat.le_of_ble_eq_true rfl) ⟨by decide, by decide⟩ ?_
    obtain ⟨hx8, h⟩ := gd_some h
    refine g_iald hC dX12_payOf_17 hx8.1 hx8.2 ?_
    cases h
    exact g_iret hC hR dX12_payOf_18 (by decide) (by decide)
  · rw [if_neg hc1] at h
    refine g_iconst (v := (0 : Int32)) hC dX12_payOf_4 (by decide) ?_
    refine g_goto (tgt := 18) hC dX12_payOf_5 (by decide) ?_
    cases h
    exact g_iret hC hR dX12_payOf_18 (by decide) (by decide)

theorem mi_X12_valueOf : MI yX12_valueOf cX12_valueOf 3 (some .int) 2 := ⟨tw_1186, tw_14, by decide +kernel, by decide +kernel, by decide +kernel⟩
noncomputable def f_X12_valueOf (S : Wd) (a0 : Nat) (a1 : Int32) (a2 : Int32) : Option (Int32 × Wd) := gd (ob S a0 12) (bd2 (f_X12_payOf S a0 a1) (fun r4 S2 => if 0 ≤ a1 then (gd (ob S2 a0 12) (bd2 (f_X12_payOf S2 a0 a2) (fun r9 S7 => gd (ob S7 a0 12) (some (((r4 + r9) - (wI S7 a0 11)), S7))))) else (gd (ob S2 a0 12) (some (((r4 + (0 : Int32)) - (wI S2 a0 11)), S2)))))
set_option maxRecDepth 100000 in
set_option maxHeartbeats 4000000 in
theorem k_X12_valueOf {S : Wd} {a0 : Nat} {a1 : Int32} {a2 : Int32} {r : Int32} {S' : Wd} (h : f_X12_valueOf S a0 a1 a2 = some (r, S')) : Sp yX12_valueOf cX12_valueOf 3 (some .int) 2 42 0 0 [.ref a0, .int a1, .int a2] S (some (.int r)) S' := by
  unfold f_X12_valueOf at h
  refine Sp.of (by decide +kernel) (Nat.le_of_ble_eq_true rfl) ?_
  intro b hC hin hR
  show G b 0 [(0, .ref a0), (1, .int a1), (2, .int a2)] [] S 0 0
  refine g_aload_n hC dX12_valueOf_0 rfl ?_
  refine g_iload_n hC dX12_valueOf_1 rfl ?_
  obtain ⟨ho3, h⟩ := gd_some h
  obtain ⟨r4, S2, hr1, h⟩ := bd2_some h
  refine g_callV (rest := []) hC mi_X12_payOf (k_X12_payOf hr1) ck_X12.1 (by decide) ho3 tw_1187 tw_1189 ts_37 dX12_valueOf_2 rfl rfl ⟨by decide, by decide⟩ (Nat.le_of_ble_eq_true rfl) ⟨by decide, by decide⟩ ?_
  refine g_iload_n hC dX12_valueOf_5 rfl ?_
  refine g_if_ge (tgt := 13) hC dX12_valueOf_6 (by decide) (fun hc5 => ?_) (fun hc5 => ?_)
  · rw [if_pos hc5] at h
    refine g_aload_n hC dX12_valueOf_13 rfl ?_
    refine g_iload_n hC dX12_valueOf_14 rfl ?_
    obtain ⟨ho8, h⟩ := gd_some h
    obtain ⟨r9, S7, hr6, h⟩ := bd2_some h
    refine g_callV (rest := [.int r4]) hC mi_X12_payOf (k_X12_payOf hr6) ck_X12.1 (by decide) ho8 tw_1187 tw_1189 ts_37 dX12_valueOf_15 rfl rfl ⟨by decide, by decide⟩ (Nat.le_of_ble_eq_true rfl) ⟨by decide, by decide⟩ ?_
    refine g_iadd hC dX12_valueOf_18 ?_
    refine g_aload_n hC dX12_valueOf_19 rfl ?_
    obtain ⟨ho10, h⟩ := gd_some h
    refine g_geti (k := 11) hC ck_X12 (by decide) tw_995 rfl (by decide) dX12_valueOf_20 ho10 ?_
    refine g_isub hC dX12_valueOf_23 ?_
    cases h
    exact g_iret hC hR dX12_valueOf_24 (by decide) (by decide)
  · rw [if_neg hc5] at h
    refine g_iconst (v := (0 : Int32)) hC dX12_valueOf_9 (by decide) ?_
    refine g_goto (tgt := 18) hC dX12_valueOf_10 (by decide) ?_
    refine g_iadd hC dX12_valueOf_18 ?_
    refine g_aload_n hC dX12_valueOf_19 rfl ?_
    obtain ⟨ho11, h⟩ := gd_some h
    refine g_geti (k := 11) hC ck_X12 (by decide) tw_995 rfl (by decide) dX12_valueOf_20 ho11 ?_
    refine g_isub hC dX12_valueOf_23 ?_
    cases h
    exact g_iret hC hR dX12_valueOf_24 (by decide) (by decide)

theorem mi_X12_drive : MI yX12_drive cX12_drive 6 (some .int) 4 := ⟨tw_1182, tw_14, by decide +kernel, by decide +kernel, by decide +kernel⟩
noncomputable def f_X12_drive (S : Wd) (a0 : Nat) (a1 : Int32) (a2 : Int32) (a3 : Int32) (a4 : Int32) : Option (Int32 × Wd) := gd (ob S a0 12) (bd2 (f_X12_refused S a0 a1 a2 a3) (fun r4 S2 => if r4 = 0 then (bd2 (f_X12_within S2 a4 (0 : Int32) (5 : Int32)) (fun r8 S7 => if r8 = 0 then (gd (ob S7 a0 12) (bd2 (f_X12_finding S7 a0 (-100001 : Int32)) (fun r39 S37 => some (r39, S37)))) else (gd (ob S7 a0 12) (Option.bind (f_X12_findFar S7 a0) (fun S11 => gd (ob S11 a0 12) (bd2 (f_X12_drives S11 a0 a1 a2 a3) (fun r16 S14 => if r16 = 0 then (if a4 = 0 then (gd (ob S14 a0 12) (some ((wI S14 a0 8), S14))) else (if a4 = (1 : Int32) then (gd (ob S14 a0 12) (some ((wI S14 a0 10), S14))) else (if a4 = (2 : Int32) then (gd (ob S14 a0 12) (some ((wI S14 a0 11), S14))) else (if a4 = (3 : Int32) then (gd (ob S14 a0 12) (some ((wI S14 a0 12), S14))) else (if a4 = (4 : Int32) then (gd (ob S14 a0 12) (bd2 (f_X12_valueOf S14 a0 a2 a3) (fun r27 S25 => some (r27, S25)))) else (gd (ob S14 a0 12) (some ((wI S14 a0 13), S14)))))))) else (gd (ob S14 a0 12) (bd2 (f_X12_finding S14 a0 (-100006 : Int32)) (fun r35 S33 => some (r35, S33))))))))))) else (gd (ob S2 a0 12) (bd2 (f_X12_finding S2 a0 r4) (fun r43 S41 => some (r43, S41))))))
set_option maxRecDepth 100000 in
set_option maxHeartbeats 4000000 in
theorem k_X12_drive {S : Wd} {a0 : Nat} {a1 : Int32} {a2 : Int32} {a3 : Int32} {a4 : Int32} {r : Int32} {S' : Wd} (h : f_X12_drive S a0 a1 a2 a3 a4 = some (r, S')) : Sp yX12_drive cX12_drive 6 (some .int) 4 92 0 0 [.ref a0, .int a1, .int a2, .int a3, .int a4] S (some (.int r)) S' := by
  unfold f_X12_drive at h
  refine Sp.of (by decide +kernel) (Nat.le_of_ble_eq_true rfl) ?_
  intro b hC hin hR
  show G b 0 [(0, .ref a0), (1, .int a1), (2, .int a2), (3, .int a3), (4, .int a4)] [] S 0 0
  refine g_aload_n hC dX12_drive_0 rfl ?_
  refine g_iload_n hC dX12_drive_1 rfl ?_
  refine g_iload_n hC dX12_drive_2 rfl ?_
  refine g_iload_n hC dX12_drive_3 rfl ?_
  obtain ⟨ho3, h⟩ := gd_some h
  obtain ⟨r4, S2, hr1, h⟩ := bd2_some h
  refine g_callV (rest := []) hC mi_X12_refused (k_X12_refused hr1) ck_X12.1 (by decide) ho3 tw_1159 tw_1161 ts_31 dX12_drive_4 rfl rfl ⟨by decide, by decide⟩ (Nat.le_of_ble_eq_true rfl) ⟨by decide, by decide⟩ ?_
  refine g_istore (L' := [(5, .int r4), (0, .ref a0), (1, .int a1), (2, .int a2), (3, .int a3), (4, .int a4)]) hC dX12_drive_7 (by decide) rfl ?_
  refine g_iload hC dX12_drive_9 rfl ?_
  refine g_if_eq (tgt := 21) hC dX12_drive_11 (by decide) (fun hc5 => ?_) (fun hc5 => ?_)
  · rw [if_pos hc5] at h
    refine g_iload hC dX12_drive_21 rfl ?_
    refine g_iconst (v := (0 : Int32)) hC dX12_drive_23 (by decide) ?_
    refine g_iconst (v := (5 : Int32)) hC dX12_drive_24 (by decide) ?_
    obtain ⟨r8, S7, hr6, h⟩ := bd2_some h
    refine g_callS (rest := []) hC mi_X12_within (k_X12_within hr6) tw_1080 tw_1081 dX12_drive_25 rfl rfl ⟨by decide, by decide⟩ (Nat.le_of_ble_eq_true rfl) ⟨by decide, by decide⟩ ?_
    refine g_if_ne (tgt := 38) hC dX12_drive_28 (by decide) (fun hc9 => ?_) (fun hc9 => ?_)
    · rw [if_neg hc9] at h
      refine g_aload_n hC dX12_drive_38 rfl ?_
      obtain ⟨ho12, h⟩ := gd_some h
      obtain ⟨S11, hr10, h⟩ := Option.bind_eq_some_iff.mp h
      refine g_callV (rest := []) hC mi_X12_findFar (k_X12_findFar hr10) ck_X12.1 (by decide) ho12 tw_1092 tw_1094 ts_26 dX12_drive_39 rfl rfl ⟨by decide, by decide⟩ (Nat.le_of_ble_eq_true rfl) ⟨by decide, by decide⟩ ?_
      refine g_aload_n hC dX12_drive_42 rfl ?_
      refine g_iload_n hC dX12_drive_43 rfl ?_
      refine g_iload_n hC dX12_drive_44 rfl ?_
      refine g_iload_n hC dX12_drive_45 rfl ?_
      obtain ⟨ho15, h⟩ := gd_some h
      obtain ⟨r16, S14, hr13, h⟩ := bd2_some h
      refine g_callV (rest := []) hC mi_X12_drives (k_X12_drives hr13) ck_X12.1 (by decide) ho15 tw_1163 tw_1165 ts_32 dX12_drive_46 rfl rfl ⟨by decide, by decide⟩ (Nat.le_of_ble_eq_true rfl) ⟨by decide, by decide⟩ ?_
      refine g_if_eq (tgt := 59) hC dX12_drive_49 (by decide) (fun hc17 => ?_) (fun hc17 => ?_)
      · rw [if_pos hc17] at h
        refine g_iload hC dX12_drive_59 rfl ?_
        refine g_if_ne (tgt := 71) hC dX12_drive_61 (by decide) (fun hc18 => ?_) (fun hc18 => ?_)
        · rw [if_neg hc18] at h
          refine g_iload hC dX12_drive_71 rfl ?_
          refine g_iconst (v := (1 : Int32)) hC dX12_drive_73 (by decide) ?_
          refine g_icmp_ne (tgt := 84) hC dX12_drive_74 (by decide) (fun hc19 => ?_) (fun hc19 => ?_)
          · rw [if_neg hc19] at h
            refine g_iload hC dX12_drive_84 rfl ?_
            refine g_iconst (v := (2 : Int32)) hC dX12_drive_86 (by decide) ?_
            refine g_icmp_ne (tgt := 97) hC dX12_drive_87 (by decide) (fun hc20 => ?_) (fun hc20 => ?_)
            · rw [if_neg hc20] at h
              refine g_iload hC dX12_drive_97 rfl ?_
              refine g_iconst (v := (3 : Int32)) hC dX12_drive_99 (by decide) ?_
              refine g_icmp_ne (tgt := 110) hC dX12_drive_100 (by decide) (fun hc21 => ?_) (fun hc21 => ?_)
              · rw [if_neg hc21] at h
                refine g_iload hC dX12_drive_110 rfl ?_
                refine g_iconst (v := (4 : Int32)) hC dX12_drive_112 (by decide) ?_
                refine g_icmp_ne (tgt := 125) hC dX12_drive_113 (by decide) (fun hc22 => ?_) (fun hc22 => ?_)
                · rw [if_neg hc22] at h
                  refine g_aload_n hC dX12_drive_125 rfl ?_
                  obtain ⟨ho23, h⟩ := gd_some h
                  refine g_geti (k := 13) hC ck_X12 (by decide) tw_997 rfl (by decide) dX12_drive_126 ho23 ?_
                  cases h
                  exact g_iret hC hR dX12_drive_129 (by decide) (by decide)
                · rw [if_pos hc22] at h
                  refine g_aload_n hC dX12_drive_116 rfl ?_
                  refine g_iload_n hC dX12_drive_117 rfl ?_
                  refine g_iload_n hC dX12_drive_118 rfl ?_
                  obtain ⟨ho26, h⟩ := gd_some h
                  obtain ⟨r27, S25, hr24, h⟩ := bd2_some h
                  refine g_callV (rest := []) hC mi_X12_valueOf (k_X12_valueOf hr24) ck_X12.1 (by decide) ho26 tw_1183 tw_1185 ts_36 dX12_drive_119 rfl rfl ⟨by decide, by decide⟩ (Nat.le_of_ble_eq_true rfl) ⟨by decide, by decide⟩ ?_
                  refine g_goto (tgt := 129) hC dX12_drive_122 (by decide) ?_
                  cases h
                  exact g_iret hC hR dX12_drive_129 (by decide) (by decide)
              · rw [if_pos hc21] at h
                refine g_aload_n hC dX12_drive_103 rfl ?_
                obtain ⟨ho28, h⟩ := gd_some h
                refine g_geti (k := 12) hC ck_X12 (by decide) tw_996 rfl (by decide) dX12_drive_104 ho28 ?_
                refine g_goto (tgt := 129) hC dX12_drive_107 (by decide) ?_
                cases h
                exact g_iret hC hR dX12_drive_129 (by decide) (by decide)
            · rw [if_pos hc20] at h
              refine g_aload_n hC dX12_drive_90 rfl ?_
              obtain ⟨ho29, h⟩ := gd_some h
              refine g_geti (k := 11) hC ck_X12 (by decide) tw_995 rfl (by decide) dX12_drive_91 ho29 ?_
              refine g_goto (tgt := 129) hC dX12_drive_94 (by decide) ?_
              cases h
              exact g_iret hC hR dX12_drive_129 (by decide) (by decide)
          · rw [if_pos hc19] at h
            refine g_aload_n hC dX12_drive_77 rfl ?_
            obtain ⟨ho30, h⟩ := gd_some h
            refine g_geti (k := 10) hC ck_X12 (by decide) tw_994 rfl (by decide) dX12_drive_78 ho30 ?_
            refine g_goto (tgt := 129) hC dX12_drive_81 (by decide) ?_
            cases h
            exact g_iret hC hR dX12_drive_129 (by decide) (by decide)
        · rw [if_pos hc18] at h
          refine g_aload_n hC dX12_drive_64 rfl ?_
          obtain ⟨ho31, h⟩ := gd_some h
          refine g_geti (k := 8) hC ck_X12 (by decide) tw_992 rfl (by decide) dX12_drive_65 ho31 ?_
          refine g_goto (tgt := 129) hC dX12_drive_68 (by decide) ?_
          cases h
          exact g_iret hC hR dX12_drive_129 (by decide) (by decide)
      · rw [if_neg hc17] at h
        refine g_aload_n hC dX12_drive_52 rfl ?_
        refine g_ldc hC tw_1068 dX12_drive_53 ?_
        obtain ⟨ho34, h⟩ := gd_some h
        obtain ⟨r35, S33, hr32, h⟩ := bd2_some h
        refine g_callV (rest := []) hC mi_X12_finding (k_X12_finding hr32) ck_X12.1 (by decide) ho34 tw_1069 tw_1071 ts_24 dX12_drive_55 rfl rfl ⟨by decide, by decide⟩ (Nat.le_of_ble_eq_true rfl) ⟨by decide, by decide⟩ ?_
        cases h
        exact g_iret hC hR dX12_drive_58 (by decide) (by decide)
    · rw [if_pos hc9] at h
      refine g_aload_n hC dX12_drive_31 rfl ?_
      refine g_ldc hC tw_1083 dX12_drive_32 ?_
      obtain ⟨ho38, h⟩ := gd_some h
      obtain ⟨r39, S37, hr36, h⟩ := bd2_some h
      refine g_callV (rest := []) hC mi_X12_finding (k_X12_finding hr36) ck_X12.1 (by decide) ho38 tw_1069 tw_1071 ts_24 dX12_drive_34 rfl rfl ⟨by decide, by decide⟩ (Nat.le_of_ble_eq_true rfl) ⟨by decide, by decide⟩ ?_
      cases h
      exact g_iret hC hR dX12_drive_37 (by decide) (by decide)
  · rw [if_neg hc5] at h
    refine g_aload_n hC dX12_drive_14 rfl ?_
    refine g_iload hC dX12_drive_15 rfl ?_
    obtain ⟨ho42, h⟩ := gd_some h
    obtain ⟨r43, S41, hr40, h⟩ := bd2_some h
    refine g_callV (rest := []) hC mi_X12_finding (k_X12_finding hr40) ck_X12.1 (by decide) ho42 tw_1069 tw_1071 ts_24 dX12_drive_17 rfl rfl ⟨by decide, by decide⟩ (Nat.le_of_ble_eq_true rfl) ⟨by decide, by decide⟩ ?_
    cases h
    exact g_iret hC hR dX12_drive_20 (by decide) (by decide)
