theorem mi_X12_isLane : MI yX12_isLane cX12_isLane 1 (some .boolean) 1 := ⟨tw_1245, tw_14, by decide +kernel, by decide +kernel, by decide +kernel⟩
noncomputable def f_X12_isLane (S : Wd) (a0 : Int32) : Option (Int32 × Wd) := if a0 < 0 then (some ((0 : Int32), S)) else (bd2 (f_X12_isTown S (a0 / (10 : Int32))) (fun r4 S3 => if r4 = 0 then (some ((0 : Int32), S3)) else (bd2 (f_X12_isTown S3 (irm a0 (10 : Int32))) (fun r8 S7 => if r8 = 0 then (some ((0 : Int32), S7)) else (some ((1 : Int32), S7))))))
set_option maxRecDepth 100000 in
set_option maxHeartbeats 4000000 in
theorem k_X12_isLane {S : Wd} {a0 : Int32} {r : Int32} {S' : Wd} (h : f_X12_isLane S a0 = some (r, S')) : Sp yX12_isLane cX12_isLane 1 (some .boolean) 2 42 0 0 [.int a0] S (some (.int r)) S' := by
  unfold f_X12_isLane at h
  refine Sp.of (by decide +kernel) (Nat.le_of_ble_eq_true rfl) ?_
  intro b hC hin hR
  show G b 0 [(0, .int a0)] [] S 0 0
  refine g_iload_n hC dX12_isLane_0 rfl ?_
  refine g_if_lt (tgt := 28) hC dX12_isLane_1 (by decide) (fun hc1 => ?_) (fun hc1 => ?_)
  · rw [if_pos hc1] at h
    refine g_iconst (v := (0 : Int32)) hC dX12_isLane_28 (by decide) ?_
    cases h
    exact g_zret hC hR rfl dX12_isLane_29 (by decide) (by decide)
  · rw [if_neg hc1] at h
    refine g_iload_n hC dX12_isLane_4 rfl ?_
    refine g_bipush (v := (10 : Int32)) hC dX12_isLane_5 (by decide) ?_
    refine g_idiv hC dX12_isLane_7 (by decide) ?_
    obtain ⟨r4, S3, hr2, h⟩ := bd2_some h
    refine g_callS (rest := []) hC mi_X12_isTown (k_X12_isTown hr2) tw_1077 tw_1078 dX12_isLane_8 rfl rfl ⟨by decide, by decide⟩ (Nat.le_of_ble_eq_true rfl) ⟨by decide, by decide⟩ ?_
    refine g_if_eq (tgt := 28) hC dX12_isLane_11 (by decide) (fun hc5 => ?_) (fun hc5 => ?_)
    · rw [if_pos hc5] at h
      refine g_iconst (v := (0 : Int32)) hC dX12_isLane_28 (by decide) ?_
      cases h
      exact g_zret hC hR rfl dX12_isLane_29 (by decide) (by decide)
    · rw [if_neg hc5] at h
      refine g_iload_n hC dX12_isLane_14 rfl ?_
      refine g_bipush (v := (10 : Int32)) hC dX12_isLane_15 (by decide) ?_
      refine g_irm hC dX12_isLane_17 (by decide) ?_
      obtain ⟨r8, S7, hr6, h⟩ := bd2_some h
      refine g_callS (rest := []) hC mi_X12_isTown (k_X12_isTown hr6) tw_1077 tw_1078 dX12_isLane_18 rfl rfl ⟨by decide, by decide⟩ (Nat.le_of_ble_eq_true rfl) ⟨by decide, by decide⟩ ?_
      refine g_if_eq (tgt := 28) hC dX12_isLane_21 (by decide) (fun hc9 => ?_) (fun hc9 => ?_)
      · rw [if_pos hc9] at h
        refine g_iconst (v := (0 : Int32)) hC dX12_isLane_28 (by decide) ?_
        cases h
        exact g_zret hC hR rfl dX12_isLane_29 (by decide) (by decide)
      · rw [if_neg hc9] at h
        refine g_iconst (v := (1 : Int32)) hC dX12_isLane_24 (by decide) ?_
        refine g_goto (tgt := 29) hC dX12_isLane_25 (by decide) ?_
        cases h
        exact g_zret hC hR rfl dX12_isLane_29 (by decide) (by decide)

theorem mi_X12_isDay : MI yX12_isDay cX12_isDay 1 (some .boolean) 1 := ⟨tw_1248, tw_14, by decide +kernel, by decide +kernel, by decide +kernel⟩
noncomputable def f_X12_isDay (S : Wd) (a0 : Int32) : Option (Int32 × Wd) := bd2 (f_X12_within S a0 (0 : Int32) (365 : Int32)) (fun r3 S2 => gd (narrow .boolean (.int r3) = .int r3) (some (r3, S2)))
set_option maxRecDepth 100000 in
set_option maxHeartbeats 4000000 in
theorem k_X12_isDay {S : Wd} {a0 : Int32} {r : Int32} {S' : Wd} (h : f_X12_isDay S a0 = some (r, S')) : Sp yX12_isDay cX12_isDay 1 (some .boolean) 1 22 0 0 [.int a0] S (some (.int r)) S' := by
  unfold f_X12_isDay at h
  refine Sp.of (by decide +kernel) (Nat.le_of_ble_eq_true rfl) ?_
  intro b hC hin hR
  show G b 0 [(0, .int a0)] [] S 0 0
  refine g_iload_n hC dX12_isDay_0 rfl ?_
  refine g_iconst (v := (0 : Int32)) hC dX12_isDay_1 (by decide) ?_
  refine g_sipush (v := (365 : Int32)) hC dX12_isDay_2 (by decide) ?_
  obtain ⟨r3, S2, hr1, h⟩ := bd2_some h
  refine g_callS (rest := []) hC mi_X12_within (k_X12_within hr1) tw_1080 tw_1081 dX12_isDay_5 rfl rfl ⟨by decide, by decide⟩ (Nat.le_of_ble_eq_true rfl) ⟨by decide, by decide⟩ ?_
  obtain ⟨hv4, h⟩ := gd_some h
  cases h
  exact g_zret hC hR hv4 dX12_isDay_8 (by decide) (by decide)

theorem mi_X12_paid : MI yX12_paid cX12_paid 4 (some .int) 3 := ⟨tw_1242, tw_14, by decide +kernel, by decide +kernel, by decide +kernel⟩
noncomputable def f_X12_paid (S : Wd) (a0 : Nat) (a1 : Int32) (a2 : Int32) (a3 : Int32) : Option (Int32 × Wd) := bd2 (f_X12_isLane S a1) (fun r3 S2 => if r3 = 0 then (gd (ob S2 a0 12) (bd2 (f_X12_finding S2 a0 (-100001 : Int32)) (fun r8 S6 => some (r8, S6)))) else (bd2 (f_X12_isDay S2 a2) (fun r11 S10 => if r11 = 0 then (gd (ob S10 a0 12) (bd2 (f_X12_finding S10 a0 (-100001 : Int32)) (fun r16 S14 => some (r16, S14)))) else (bd2 (f_X12_within S10 a3 (0 : Int32) (9999 : Int32)) (fun r19 S18 => if r19 = 0 then (gd (ob S18 a0 12) (bd2 (f_X12_finding S18 a0 (-100001 : Int32)) (fun r57 S55 => some (r57, S55)))) else (gd (ob S18 a0 12) (Option.bind (wO S18 a0 0) (fun q22 => gd (ix S18 q22 100 (66 : Int32)) (if (wI S18 q22 (66 : Int32).toNatClampNeg) = (40 : Int32) then (gd (ob S18 a0 12) (bd2 (f_X12_finding S18 a0 (-100005 : Int32)) (fun r53 S51 => some (r53, S51)))) else (gd (ob S18 a0 12) (Option.bind (f_X12_keep S18 a0) (fun S27 => gd (ob S27 a0 12) (Option.bind (wO S27 a0 0) (fun q30 => gd (ob S27 a0 12) (Option.bind (wO S27 a0 0) (fun q33 => gd (ix S27 q33 100 (66 : Int32)) (gd (ix S27 q30 100 ((200 : Int32) + (wI S27 q33 (66 : Int32).toNatClampNeg))) (ltS (sI S27 q30 ((200 : Int32) + (wI S27 q33 (66 : Int32).toNatClampNeg)).toNatClampNeg (((10000 : Int32) * (((366 : Int32) * a1) + a2)) + a3)) (fun S37 => gd (ob S37 a0 12) (Option.bind (wO S37 a0 0) (fun q40 => gd (ix S37 q40 100 (66 : Int32)) (gd (ix S37 q40 100 (66 : Int32)) (ltS (sI S37 q40 (66 : Int32).toNatClampNeg ((wI S37 q40 (66 : Int32).toNatClampNeg) + (1 : Int32))) (fun S44 => gd (ob S44 a0 12) (Option.bind (wO S44 a0 0) (fun q47 => gd (ix S44 q47 100 (66 : Int32)) (some ((wI S44 q47 (66 : Int32).toNatClampNeg), S44))))))))))))))))))))))))))))
set_option maxRecDepth 100000 in
set_option maxHeartbeats 4000000 in
theorem k_X12_paid {S : Wd} {a0 : Nat} {a1 : Int32} {a2 : Int32} {a3 : Int32} {r : Int32} {S' : Wd} (h : f_X12_paid S a0 a1 a2 a3 = some (r, S')) : Sp yX12_paid cX12_paid 4 (some .int) 3 62 0 0 [.ref a0, .int a1, .int a2, .int a3] S (some (.int r)) S' := by
  unfold f_X12_paid at h
  refine Sp.of (by decide +kernel) (Nat.le_of_ble_eq_true rfl) ?_
  intro b hC hin hR
  show G b 0 [(0, .ref a0), (1, .int a1), (2, .int a2), (3, .int a3)] [] S 0 0
  refine g_iload_n hC dX12_paid_0 rfl ?_
  obtain ⟨r3, S2, hr1, h⟩ := bd2_some h
  refine g_callS (rest := []) hC mi_X12_isLane (k_X12_isLane hr1) tw_1243 tw_1244 dX12_paid_1 rfl rfl ⟨by decide, by decide⟩ (Nat.le_of_ble_eq_true rfl) ⟨by decide, by decide⟩ ?_
  refine g_if_eq (tgt := 25) hC dX12_paid_4 (by decide) (fun hc4 => ?_) (fun hc4 => ?_)
  · rw [if_pos hc4] at h
    refine g_aload_n hC dX12_paid_25 rfl ?_
    refine g_ldc hC tw_1083 dX12_paid_26 ?_
    obtain ⟨ho7, h⟩ := gd_some h
    obtain ⟨r8, S6, hr5, h⟩ := bd2_some h
    refine g_callV (rest := []) hC mi_X12_finding (k_X12_finding hr5) ck_X12.1 (by decide) ho7 tw_1069 tw_1071 ts_24 dX12_paid_28 rfl rfl ⟨by decide, by decide⟩ (Nat.le_of_ble_eq_true rfl) ⟨by decide, by decide⟩ ?_
    cases h
    exact g_iret hC hR dX12_paid_31 (by decide) (by decide)
  · rw [if_neg hc4] at h
    refine g_iload_n hC dX12_paid_7 rfl ?_
    obtain ⟨r11, S10, hr9, h⟩ := bd2_some h
    refine g_callS (rest := []) hC mi_X12_isDay (k_X12_isDay hr9) tw_1246 tw_1247 dX12_paid_8 rfl rfl ⟨by decide, by decide⟩ (Nat.le_of_ble_eq_true rfl) ⟨by decide, by decide⟩ ?_
    refine g_if_eq (tgt := 25) hC dX12_paid_11 (by decide) (fun hc12 => ?_) (fun hc12 => ?_)
    · rw [if_pos hc12] at h
      refine g_aload_n hC dX12_paid_25 rfl ?_
      refine g_ldc hC tw_1083 dX12_paid_26 ?_
      obtain ⟨ho15, h⟩ := gd_some h
      obtain ⟨r16, S14, hr13, h⟩ := bd2_some h
      refine g_callV (rest := []) hC mi_X12_finding (k_X12_finding hr13) ck_X12.1 (by decide) ho15 tw_1069 tw_1071 ts_24 dX12_paid_28 rfl rfl ⟨by decide, by decide⟩ (Nat.le_of_ble_eq_true rfl) ⟨by decide, by decide⟩ ?_
      cases h
      exact g_iret hC hR dX12_paid_31 (by decide) (by decide)
    · rw [if_neg hc12] at h
      refine g_iload_n hC dX12_paid_14 rfl ?_
      refine g_iconst (v := (0 : Int32)) hC dX12_paid_15 (by decide) ?_
      refine g_sipush (v := (9999 : Int32)) hC dX12_paid_16 (by decide) ?_
      obtain ⟨r19, S18, hr17, h⟩ := bd2_some h
      refine g_callS (rest := []) hC mi_X12_within (k_X12_within hr17) tw_1080 tw_1081 dX12_paid_19 rfl rfl ⟨by decide, by decide⟩ (Nat.le_of_ble_eq_true rfl) ⟨by decide, by decide⟩ ?_
      refine g_if_ne (tgt := 32) hC dX12_paid_22 (by decide) (fun hc20 => ?_) (fun hc20 => ?_)
      · rw [if_neg hc20] at h
        refine g_aload_n hC dX12_paid_32 rfl ?_
        obtain ⟨ho21, h⟩ := gd_some h
        obtain ⟨q22, hq23, h⟩ := Option.bind_eq_some_iff.mp h
        refine g_getr (k := 0) (q := q22) hC ck_X12 (by decide) tw_984 rfl (by decide) dX12_paid_33 ho21 hq23 ?_
        refine g_bipush (v := (66 : Int32)) hC dX12_paid_36 (by decide) ?_
        obtain ⟨hx24, h⟩ := gd_some h
        refine g_iald hC dX12_paid_38 hx24.1 hx24.2 ?_
        refine g_bipush (v := (40 : Int32)) hC dX12_paid_39 (by decide) ?_
        refine g_icmp_ne (tgt := 51) hC dX12_paid_41 (by decide) (fun hc25 => ?_) (fun hc25 => ?_)
        · rw [if_neg hc25] at h
          refine g_aload_n hC dX12_paid_51 rfl ?_
          obtain ⟨ho28, h⟩ := gd_some h
          obtain ⟨S27, hr26, h⟩ := Option.bind_eq_some_iff.mp h
          refine g_callV (rest := []) hC mi_X12_keep (k_X12_keep hr26) ck_X12.1 (by decide) ho28 tw_1084 tw_1086 ts_25 dX12_paid_52 rfl rfl ⟨by decide, by decide⟩ (Nat.le_of_ble_eq_true rfl) ⟨by decide, by decide⟩ ?_
          refine g_aload_n hC dX12_paid_55 rfl ?_
          obtain ⟨ho29, h⟩ := gd_some h
          obtain ⟨q30, hq31, h⟩ := Option.bind_eq_some_iff.mp h
          refine g_getr (k := 0) (q := q30) hC ck_X12 (by decide) tw_984 rfl (by decide) dX12_paid_56 ho29 hq31 ?_
          refine g_sipush (v := (200 : Int32)) hC dX12_paid_59 (by decide) ?_
          refine g_aload_n hC dX12_paid_62 rfl ?_
          obtain ⟨ho32, h⟩ := gd_some h
          obtain ⟨q33, hq34, h⟩ := Option.bind_eq_some_iff.mp h
          refine g_getr (k := 0) (q := q33) hC ck_X12 (by decide) tw_984 rfl (by decide) dX12_paid_63 ho32 hq34 ?_
          refine g_bipush (v := (66 : Int32)) hC dX12_paid_66 (by decide) ?_
          obtain ⟨hx35, h⟩ := gd_some h
          refine g_iald hC dX12_paid_68 hx35.1 hx35.2 ?_
          refine g_iadd hC dX12_paid_69 ?_
          refine g_sipush (v := (10000 : Int32)) hC dX12_paid_70 (by decide) ?_
          refine g_sipush (v := (366 : Int32)) hC dX12_paid_73 (by decide) ?_
          refine g_iload_n hC dX12_paid_76 rfl ?_
          refine g_imul hC dX12_paid_77 ?_
          refine g_iload_n hC dX12_paid_78 rfl ?_
          refine g_iadd hC dX12_paid_79 ?_
          refine g_imul hC dX12_paid_80 ?_
          refine g_iload_n hC dX12_paid_81 rfl ?_
          refine g_iadd hC dX12_paid_82 ?_
          obtain ⟨hx36, h⟩ := gd_some h
          refine g_iast hC dX12_paid_83 hx36.1 hx36.2 ?_
          refine g_name (fun S37 eS38 => ?_)
          have h := ltS_use eS38 h
          refine g_aload_n hC dX12_paid_84 rfl ?_
          obtain ⟨ho39, h⟩ := gd_some h
          obtain ⟨q40, hq41, h⟩ := Option.bind_eq_some_iff.mp h
          refine g_getr (k := 0) (q := q40) hC ck_X12 (by decide) tw_984 rfl (by decide) dX12_paid_85 ho39 hq41 ?_
          refine g_bipush (v := (66 : Int32)) hC dX12_paid_88 (by decide) ?_
          refine g_dup2 hC dX12_paid_90 rfl rfl ?_
          obtain ⟨hx42, h⟩ := gd_some h
          refine g_iald hC dX12_paid_91 hx42.1 hx42.2 ?_
          refine g_iconst (v := (1 : Int32)) hC dX12_paid_92 (by decide) ?_
          refine g_iadd hC dX12_paid_93 ?_
          obtain ⟨hx43, h⟩ := gd_some h
          refine g_iast hC dX12_paid_94 hx43.1 hx43.2 ?_
          refine g_name (fun S44 eS45 => ?_)
          have h := ltS_use eS45 h
          refine g_aload_n hC dX12_paid_95 rfl ?_
          obtain ⟨ho46, h⟩ := gd_some h
          obtain ⟨q47, hq48, h⟩ := Option.bind_eq_some_iff.mp h
          refine g_getr (k := 0) (q := q47) hC ck_X12 (by decide) tw_984 rfl (by decide) dX12_paid_96 ho46 hq48 ?_
          refine g_bipush (v := (66 : Int32)) hC dX12_paid_99 (by decide) ?_
          obtain ⟨hx49, h⟩ := gd_some h
          refine g_iald hC dX12_paid_101 hx49.1 hx49.2 ?_
          cases h
          exact g_iret hC hR dX12_paid_102 (by decide) (by decide)
        · rw [if_pos hc25] at h
          refine g_aload_n hC dX12_paid_44 rfl ?_
          refine g_ldc hC tw_1106 dX12_paid_45 ?_
          obtain ⟨ho52, h⟩ := gd_some h
          obtain ⟨r53, S51, hr50, h⟩ := bd2_some h
          refine g_callV (rest := []) hC mi_X12_finding (k_X12_finding hr50) ck_X12.1 (by decide) ho52 tw_1069 tw_1071 ts_24 dX12_paid_47 rfl rfl ⟨by decide, by decide⟩ (Nat.le_of_ble_eq_true rfl) ⟨by decide, by decide⟩ ?_
          cases h
          exact g_iret hC hR dX12_paid_50 (by decide) (by decide)
      · rw [if_pos hc20] at h
        refine g_aload_n hC dX12_paid_25 rfl ?_
        refine g_ldc hC tw_1083 dX12_paid_26 ?_
        obtain ⟨ho56, h⟩ := gd_some h
        obtain ⟨r57, S55, hr54, h⟩ := bd2_some h
        refine g_callV (rest := []) hC mi_X12_finding (k_X12_finding hr54) ck_X12.1 (by decide) ho56 tw_1069 tw_1071 ts_24 dX12_paid_28 rfl rfl ⟨by decide, by decide⟩ (Nat.le_of_ble_eq_true rfl) ⟨by decide, by decide⟩ ?_
        cases h
        exact g_iret hC hR dX12_paid_31 (by decide) (by decide)

theorem mi_X12_span : MI yX12_span cX12_span 8 (some .int) 3 := ⟨tw_1252, tw_14, by decide +kernel, by decide +kernel, by decide +kernel⟩
noncomputable def B_X12_span_0 (S : Wd) (a0 : Nat) (a1 : Int32) (a2 : Int32) (a3 : Int32) : Option ((Int32 × Wd) ⊕ Cs) := bd2 (f_X12_isLane S a1) (fun r3 S2 => if r3 = 0 then (gd (ob S2 a0 12) (bd2 (f_X12_finding S2 a0 (-100001 : Int32)) (fun r8 S6 => some (.inl (r8, S6))))) else (bd2 (f_X12_isDay S2 a2) (fun r11 S10 => if r11 = 0 then (gd (ob S10 a0 12) (bd2 (f_X12_finding S10 a0 (-100001 : Int32)) (fun r16 S14 => some (.inl (r16, S14))))) else (bd2 (f_X12_within S10 a3 (0 : Int32) (3 : Int32)) (fun r19 S18 => if r19 = 0 then (gd (ob S18 a0 12) (bd2 (f_X12_finding S18 a0 (-100001 : Int32)) (fun r24 S22 => some (.inl (r24, S22))))) else (some (.inr (1, [a0], [a1, a2, a3, (0 : Int32), (0 : Int32)], S18))))))))
noncomputable def B_X12_span_1 (S : Wd) (x0 : Nat) (x1 : Int32) (x2 : Int32) (x3 : Int32) (x4 : Int32) (x5 : Int32) : Option ((Int32 × Wd) ⊕ Cs) := gd (ob S x0 12) (Option.bind (wO S x0 0) (fun q26 => gd (ix S q26 100 (66 : Int32)) (if (wI S q26 (66 : Int32).toNatClampNeg) ≤ x5 then (if x3 = (3 : Int32) then (some (.inl (x4, S))) else (if x4 = 0 then (gd (ob S x0 12) (bd2 (f_X12_finding S x0 (-100006 : Int32)) (fun r43 S41 => some (.inl (r43, S41))))) else (gd (ob S x0 12) (Option.bind (wO S x0 20) (fun q33 => if x3 = 0 then (gd (ix S q33 100 (x4 / (4 : Int32))) (some (.inl ((wI S q33 (x4 / (4 : Int32)).toNatClampNeg), S)))) else (if x3 = (1 : Int32) then (gd (ix S q33 100 ((x4 - (1 : Int32)) / (2 : Int32))) (some (.inl ((wI S q33 ((x4 - (1 : Int32)) / (2 : Int32)).toNatClampNeg), S)))) else (gd (ix S q33 100 ((x4 - (1 : Int32)) - (x4 / (4 : Int32)))) (some (.inl ((wI S q33 ((x4 - (1 : Int32)) - (x4 / (4 : Int32))).toNatClampNeg), S)))))))))) else (gd (ob S x0 12) (Option.bind (wO S x0 0) (fun q45 => gd (ix S q45 100 ((200 : Int32) + x5)) (if (((wI S q45 ((200 : Int32) + x5).toNatClampNeg) / (10000 : Int32)) / (366 : Int32)) = x1 then (bd2 (f_X12_within S (irm ((wI S q45 ((200 : Int32) + x5).toNatClampNeg) / (10000 : Int32)) (366 : Int32)) (x2 - (29 : Int32)) x2) (fun r51 S50 => if r51 = 0 then (some (.inr (1, [x0], [x1, x2, x3, x4, (x5 + (1 : Int32))], S50))) else (some (.inr (2, [x0], [x1, x2, x3, x4, x5, (wI S q45 ((200 : Int32) + x5).toNatClampNeg), x4], S50))))) else (some (.inr (1, [x0], [x1, x2, x3, x4, (x5 + (1 : Int32))], S))))))))))
noncomputable def B_X12_span_2 (S : Wd) (x0 : Nat) (x1 : Int32) (x2 : Int32) (x3 : Int32) (x4 : Int32) (x5 : Int32) (x6 : Int32) (x7 : Int32) : Option ((Int32 × Wd) ⊕ Cs) := if x7 ≤ 0 then (gd (ob S x0 12) (Option.bind (wO S x0 20) (fun q55 => gd (ix S q55 100 x7) (ltS (sI S q55 x7.toNatClampNeg (irm x6 (10000 : Int32))) (fun S58 => some (.inr (1, [x0], [x1, x2, x3, (x4 + (1 : Int32)), (x5 + (1 : Int32))], S58))))))) else (gd (ob S x0 12) (Option.bind (wO S x0 20) (fun q61 => gd (ix S q61 100 (x7 - (1 : Int32))) (if (wI S q61 (x7 - (1 : Int32)).toNatClampNeg) ≤ (irm x6 (10000 : Int32)) then (gd (ob S x0 12) (Option.bind (wO S x0 20) (fun q66 => gd (ix S q66 100 x7) (ltS (sI S q66 x7.toNatClampNeg (irm x6 (10000 : Int32))) (fun S69 => some (.inr (1, [x0], [x1, x2, x3, (x4 + (1 : Int32)), (x5 + (1 : Int32))], S69))))))) else (gd (ob S x0 12) (Option.bind (wO S x0 20) (fun q72 => gd (ob S x0 12) (Option.bind (wO S x0 20) (fun q75 => gd (ix S q75 100 (x7 - (1 : Int32))) (gd (ix S q72 100 x7) (ltS (sI S q72 x7.toNatClampNeg (wI S q75 (x7 - (1 : Int32)).toNatClampNeg)) (fun S79 => some (.inr (2, [x0], [x1, x2, x3, x4, x5, x6, (x7 + (-1 : Int32))], S79))))))))))))))
noncomputable def B_X12_span : Cs → Option ((Int32 × Wd) ⊕ Cs)
  | (0, [a0], [a1, a2, a3], S) => B_X12_span_0 S a0 a1 a2 a3
  | (1, [x0], [x1, x2, x3, x4, x5], S) => B_X12_span_1 S x0 x1 x2 x3 x4 x5
  | (2, [x0], [x1, x2, x3, x4, x5, x6, x7], S) => B_X12_span_2 S x0 x1 x2 x3 x4 x5 x6 x7
  | _ => none
def P_X12_span : Cs → Option (Nat × List (Nat × Value) × Wd × Nat × Nat)
  | (0, [a0], [a1, a2, a3], S) => some (0, [(0, .ref a0), (1, .int a1), (2, .int a2), (3, .int a3)], S, 0, 0)
  | (1, [x0], [x1, x2, x3, x4, x5], S) => some (36, [(0, .ref x0), (1, .int x1), (2, .int x2), (3, .int x3), (4, .int x4), (5, .int x5)], S, 0, 0)
  | (2, [x0], [x1, x2, x3, x4, x5, x6, x7], S) => some (103, [(0, .ref x0), (1, .int x1), (2, .int x2), (3, .int x3), (4, .int x4), (5, .int x5), (6, .int x6), (7, .int x7)], S, 0, 0)
  | _ => none
noncomputable def f_X12_span (S : Wd) (a0 : Nat) (a1 : Int32) (a2 : Int32) (a3 : Int32) : Option (Int32 × Wd) := ru B_X12_span (0, [a0], [a1, a2, a3], S)
abbrev N_X12_span (b : Bd) (r : Int32 × Wd) (c : (Int32 × Wd) ⊕ Cs) : Prop := match c with
  | .inl r' => r' = r
  | .inr s' => ∀ pc L S kc ks, P_X12_span s' = some (pc, L, S, kc, ks) → G b pc L [] S kc ks
set_option maxRecDepth 100000 in
set_option maxHeartbeats 4000000 in
theorem w_X12_span_0 {b : Bd} {r : Int32 × Wd} (hC : CX b yX12_span.cls cX12_span 8 { frames := 3, cells := 0, slots := 0, locals := 62 }) (hin : yX12_span.name = "<init>" → b.2.2.2.2.2.2.2.2.1.name = "<init>") (hR : RT b (some .int) (some (.int r.1)) r.2 0 0) {S : Wd} {a0 : Nat} {a1 : Int32} {a2 : Int32} {a3 : Int32} {c : (Int32 × Wd) ⊕ Cs} (h : B_X12_span_0 S a0 a1 a2 a3 = some c) (hk : N_X12_span b r c) : G b 0 [(0, .ref a0), (1, .int a1), (2, .int a2), (3, .int a3)] [] S 0 0 := by
  unfold B_X12_span_0 at h
  refine g_iload_n hC dX12_span_0 rfl ?_
  obtain ⟨r3, S2, hr1, h⟩ := bd2_some h
  refine g_callS (rest := []) hC mi_X12_isLane (k_X12_isLane hr1) tw_1243 tw_1244 dX12_span_1 rfl rfl ⟨by decide, by decide⟩ (Nat.le_of_ble_eq_true rfl) ⟨by decide, by decide⟩ ?_
  refine g_if_eq (tgt := 23) hC dX12_span_4 (by decide) (fun hc4 => ?_) (fun hc4 => ?_)
  · rw [if_pos hc4] at h
    refine g_aload_n hC dX12_span_23 rfl ?_
    refine g_ldc hC tw_1083 dX12_span_24 ?_
    obtain ⟨ho7, h⟩ := gd_some h
    obtain ⟨r8, S6, hr5, h⟩ := bd2_some h
    refine g_callV (rest := []) hC mi_X12_finding (k_X12_finding hr5) ck_X12.1 (by decide) ho7 tw_1069 tw_1071 ts_24 dX12_span_26 rfl rfl ⟨by decide, by decide⟩ (Nat.le_of_ble_eq_true rfl) ⟨by decide, by decide⟩ ?_
    cases h
    subst hk
    exact g_iret hC hR dX12_span_29 (by decide) (by decide)
  · rw [if_neg hc4] at h
    refine g_iload_n hC dX12_span_7 rfl ?_
    obtain ⟨r11, S10, hr9, h⟩ := bd2_some h
    refine g_callS (rest := []) hC mi_X12_isDay (k_X12_isDay hr9) tw_1246 tw_1247 dX12_span_8 rfl rfl ⟨by decide, by decide⟩ (Nat.le_of_ble_eq_true rfl) ⟨by decide, by decide⟩ ?_
    refine g_if_eq (tgt := 23) hC dX12_span_11 (by decide) (fun hc12 => ?_) (fun hc12 => ?_)
    · rw [if_pos hc12] at h
      refine g_aload_n hC dX12_span_23 rfl ?_
      refine g_ldc hC tw_1083 dX12_span_24 ?_
      obtain ⟨ho15, h⟩ := gd_some h
      obtain ⟨r16, S14, hr13, h⟩ := bd2_some h
      refine g_callV (rest := []) hC mi_X12_finding (k_X12_finding hr13) ck_X12.1 (by decide) ho15 tw_1069 tw_1071 ts_24 dX12_span_26 rfl rfl ⟨by decide, by decide⟩ (Nat.le_of_ble_eq_true rfl) ⟨by decide, by decide⟩ ?_
      cases h
      subst hk
      exact g_iret hC hR dX12_span_29 (by decide) (by decide)
    · rw [if_neg hc12] at h
      refine g_iload_n hC dX12_span_14 rfl ?_
      refine g_iconst (v := (0 : Int32)) hC dX12_span_15 (by decide) ?_
      refine g_iconst (v := (3 : Int32)) hC dX12_span_16 (by decide) ?_
      obtain ⟨r19, S18, hr17, h⟩ := bd2_some h
      refine g_callS (rest := []) hC mi_X12_within (k_X12_within hr17) tw_1080 tw_1081 dX12_span_17 rfl rfl ⟨by decide, by decide⟩ (Nat.le_of_ble_eq_true rfl) ⟨by decide, by decide⟩ ?_
      refine g_if_ne (tgt := 30) hC dX12_span_20 (by decide) (fun hc20 => ?_) (fun hc20 => ?_)
      · rw [if_neg hc20] at h
        refine g_iconst (v := (0 : Int32)) hC dX12_span_30 (by decide) ?_
        refine g_istore (L' := [(4, .int (0 : Int32)), (0, .ref a0), (1, .int a1), (2, .int a2), (3, .int a3)]) hC dX12_span_31 (by decide) rfl ?_
        refine g_iconst (v := (0 : Int32)) hC dX12_span_33 (by decide) ?_
        refine g_istore (L' := [(5, .int (0 : Int32)), (4, .int (0 : Int32)), (0, .ref a0), (1, .int a1), (2, .int a2), (3, .int a3)]) hC dX12_span_34 (by decide) rfl ?_
        cases h
        refine g_pick (L' := [(0, .ref a0), (1, .int a1), (2, .int a2), (3, .int a3), (4, .int (0 : Int32)), (5, .int (0 : Int32))]) [2, 3, 4, 5, 1, 0] rfl ?_
        exact hk _ _ _ _ _ rfl
      · rw [if_pos hc20] at h
        refine g_aload_n hC dX12_span_23 rfl ?_
        refine g_ldc hC tw_1083 dX12_span_24 ?_
        obtain ⟨ho23, h⟩ := gd_some h
        obtain ⟨r24, S22, hr21, h⟩ := bd2_some h
        refine g_callV (rest := []) hC mi_X12_finding (k_X12_finding hr21) ck_X12.1 (by decide) ho23 tw_1069 tw_1071 ts_24 dX12_span_26 rfl rfl ⟨by decide, by decide⟩ (Nat.le_of_ble_eq_true rfl) ⟨by decide, by decide⟩ ?_
        cases h
        subst hk
        exact g_iret hC hR dX12_span_29 (by decide) (by decide)
set_option maxRecDepth 100000 in
set_option maxHeartbeats 4000000 in
theorem w_X12_span_1 {b : Bd} {r : Int32 × Wd} (hC : CX b yX12_span.cls cX12_span 8 { frames := 3, cells := 0, slots := 0, locals := 62 }) (hin : yX12_span.name = "<init>" → b.2.2.2.2.2.2.2.2.1.name = "<init>") (hR : RT b (some .int) (some (.int r.1)) r.2 0 0) {S : Wd} {x0 : Nat} {x1 : Int32} {x2 : Int32} {x3 : Int32} {x4 : Int32} {x5 : Int32} {c : (Int32 × Wd) ⊕ Cs} (h : B_X12_span_1 S x0 x1 x2 x3 x4 x5 = some c) (hk : N_X12_span b r c) : G b 36 [(0, .ref x0), (1, .int x1), (2, .int x2), (3, .int x3), (4, .int x4), (5, .int x5)] [] S 0 0 := by
  unfold B_X12_span_1 at h
  refine g_iload hC dX12_span_36 rfl ?_
  refine g_aload_n hC dX12_span_38 rfl ?_
  obtain ⟨ho25, h⟩ := gd_some h
  obtain ⟨q26, hq27, h⟩ := Option.bind_eq_some_iff.mp h
  refine g_getr (k := 0) (q := q26) hC ck_X12 (by decide) tw_984 rfl (by decide) dX12_span_39 ho25 hq27 ?_
  refine g_bipush (v := (66 : Int32)) hC dX12_span_42 (by decide) ?_
  obtain ⟨hx28, h⟩ := gd_some h
  refine g_iald hC dX12_span_44 hx28.1 hx28.2 ?_
  refine g_icmp_ge (tgt := 170) hC dX12_span_45 (by decide) (fun hc29 => ?_) (fun hc29 => ?_)
  · rw [if_pos hc29] at h
    refine g_iload_n hC dX12_span_170 rfl ?_
    refine g_iconst (v := (3 : Int32)) hC dX12_span_171 (by decide) ?_
    refine g_icmp_ne (tgt := 178) hC dX12_span_172 (by decide) (fun hc30 => ?_) (fun hc30 => ?_)
    · rw [if_neg hc30] at h
      refine g_iload hC dX12_span_178 rfl ?_
      refine g_if_ne (tgt := 192) hC dX12_span_180 (by decide) (fun hc31 => ?_) (fun hc31 => ?_)
      · rw [if_neg hc31] at h
        refine g_aload_n hC dX12_span_192 rfl ?_
        obtain ⟨ho32, h⟩ := gd_some h
        obtain ⟨q33, hq34, h⟩ := Option.bind_eq_some_iff.mp h
        refine g_getr (k := 20) (q := q33) hC ck_X12 (by decide) tw_1004 rfl (by decide) dX12_span_193 ho32 hq34 ?_
        refine g_iload_n hC dX12_span_196 rfl ?_
        refine g_if_ne (tgt := 207) hC dX12_span_197 (by decide) (fun hc35 => ?_) (fun hc35 => ?_)
        · rw [if_neg hc35] at h
          refine g_iload_n hC dX12_span_207 rfl ?_
          refine g_iconst (v := (1 : Int32)) hC dX12_span_208 (by decide) ?_
          refine g_icmp_ne (tgt := 221) hC dX12_span_209 (by decide) (fun hc36 => ?_) (fun hc36 => ?_)
          · rw [if_neg hc36] at h
            refine g_iload hC dX12_span_221 rfl ?_
            refine g_iconst (v := (1 : Int32)) hC dX12_span_223 (by decide) ?_
            refine g_isub hC dX12_span_224 ?_
            refine g_iload hC dX12_span_225 rfl ?_
            refine g_iconst (v := (4 : Int32)) hC dX12_span_227 (by decide) ?_
            refine g_idiv hC dX12_span_228 (by decide) ?_
            refine g_isub hC dX12_span_229 ?_
            obtain ⟨hx37, h⟩ := gd_some h
            refine g_iald hC dX12_span_230 hx37.1 hx37.2 ?_
            cases h
            subst hk
            exact g_iret hC hR dX12_span_231 (by decide) (by decide)
          · rw [if_pos hc36] at h
            refine g_iload hC dX12_span_212 rfl ?_
            refine g_iconst (v := (1 : Int32)) hC dX12_span_214 (by decide) ?_
            refine g_isub hC dX12_span_215 ?_
            refine g_iconst (v := (2 : Int32)) hC dX12_span_216 (by decide) ?_
            refine g_idiv hC dX12_span_217 (by decide) ?_
            refine g_goto (tgt := 230) hC dX12_span_218 (by decide) ?_
            obtain ⟨hx38, h⟩ := gd_some h
            refine g_iald hC dX12_span_230 hx38.1 hx38.2 ?_
            cases h
            subst hk
            exact g_iret hC hR dX12_span_231 (by decide) (by decide)
        · rw [if_pos hc35] at h
          refine g_iload hC dX12_span_200 rfl ?_
          refine g_iconst (v := (4 : Int32)) hC dX12_span_202 (by decide) ?_
          refine g_idiv hC dX12_span_203 (by decide) ?_
          refine g_goto (tgt := 230) hC dX12_span_204 (by decide) ?_
          obtain ⟨hx39, h⟩ := gd_some h
          refine g_iald hC dX12_span_230 hx39.1 hx39.2 ?_
          cases h
          subst hk
          exact g_iret hC hR dX12_span_231 (by decide) (by decide)
      · rw [if_pos hc31] at h
        refine g_aload_n hC dX12_span_183 rfl ?_
        refine g_ldc hC tw_1068 dX12_span_184 ?_
        obtain ⟨ho42, h⟩ := gd_some h
        obtain ⟨r43, S41, hr40, h⟩ := bd2_some h
        refine g_callV (rest := []) hC mi_X12_finding (k_X12_finding hr40) ck_X12.1 (by decide) ho42 tw_1069 tw_1071 ts_24 dX12_span_186 rfl rfl ⟨by decide, by decide⟩ (Nat.le_of_ble_eq_true rfl) ⟨by decide, by decide⟩ ?_
        refine g_goto (tgt := 231) hC dX12_span_189 (by decide) ?_
        cases h
        subst hk
        exact g_iret hC hR dX12_span_231 (by decide) (by decide)
    · rw [if_pos hc30] at h
      refine g_iload hC dX12_span_175 rfl ?_
      cases h
      subst hk
      exact g_iret hC hR dX12_span_177 (by decide) (by decide)
  · rw [if_neg hc29] at h
    refine g_aload_n hC dX12_span_48 rfl ?_
    obtain ⟨ho44, h⟩ := gd_some h
    obtain ⟨q45, hq46, h⟩ := Option.bind_eq_some_iff.mp h
    refine g_getr (k := 0) (q := q45) hC ck_X12 (by decide) tw_984 rfl (by decide) dX12_span_49 ho44 hq46 ?_
    refine g_sipush (v := (200 : Int32)) hC dX12_span_52 (by decide) ?_
    refine g_iload hC dX12_span_55 rfl ?_
    refine g_iadd hC dX12_span_57 ?_
    obtain ⟨hx47, h⟩ := gd_some h
    refine g_iald hC dX12_span_58 hx47.1 hx47.2 ?_
    refine g_istore (L' := [(6, .int (wI S q45 ((200 : Int32) + x5).toNatClampNeg)), (0, .ref x0), (1, .int x1), (2, .int x2), (3, .int x3), (4, .int x4), (5, .int x5)]) hC dX12_span_59 (by decide) rfl ?_
    refine g_iload hC dX12_span_61 rfl ?_
    refine g_sipush (v := (10000 : Int32)) hC dX12_span_63 (by decide) ?_
    refine g_idiv hC dX12_span_66 (by decide) ?_
    refine g_sipush (v := (366 : Int32)) hC dX12_span_67 (by decide) ?_
    refine g_idiv hC dX12_span_70 (by decide) ?_
    refine g_iload_n hC dX12_span_71 rfl ?_
    refine g_icmp_ne (tgt := 164) hC dX12_span_72 (by decide) (fun hc48 => ?_) (fun hc48 => ?_)
    · rw [if_neg hc48] at h
      refine g_iinc (v := (1 : Int32)) (L' := [(5, .int (x5 + (1 : Int32))), (6, .int (wI S q45 ((200 : Int32) + x5).toNatClampNeg)), (0, .ref x0), (1, .int x1), (2, .int x2), (3, .int x3), (4, .int x4)]) hC dX12_span_164 rfl (by decide) (by decide) rfl ?_
      refine g_goto (tgt := 36) hC dX12_span_167 (by decide) ?_
      cases h
      refine g_pick (L' := [(0, .ref x0), (1, .int x1), (2, .int x2), (3, .int x3), (4, .int x4), (5, .int (x5 + (1 : Int32)))]) [2, 3, 4, 5, 6, 0] rfl ?_
      exact hk _ _ _ _ _ rfl
    · rw [if_pos hc48] at h
      refine g_iload hC dX12_span_75 rfl ?_
      refine g_sipush (v := (10000 : Int32)) hC dX12_span_77 (by decide) ?_
      refine g_idiv hC dX12_span_80 (by decide) ?_
      refine g_sipush (v := (366 : Int32)) hC dX12_span_81 (by decide) ?_
      refine g_irm hC dX12_span_84 (by decide) ?_
      refine g_iload_n hC dX12_span_85 rfl ?_
      refine g_bipush (v := (29 : Int32)) hC dX12_span_86 (by decide) ?_
      refine g_isub hC dX12_span_88 ?_
      refine g_iload_n hC dX12_span_89 rfl ?_
      obtain ⟨r51, S50, hr49, h⟩ := bd2_some h
      refine g_callS (rest := []) hC mi_X12_within (k_X12_within hr49) tw_1080 tw_1081 dX12_span_90 rfl rfl ⟨by decide, by decide⟩ (Nat.le_of_ble_eq_true rfl) ⟨by decide, by decide⟩ ?_
      refine g_if_ne (tgt := 99) hC dX12_span_93 (by decide) (fun hc52 => ?_) (fun hc52 => ?_)
      · rw [if_neg hc52] at h
        refine g_iload hC dX12_span_99 rfl ?_
        refine g_istore (L' := [(7, .int x4), (6, .int (wI S q45 ((200 : Int32) + x5).toNatClampNeg)), (0, .ref x0), (1, .int x1), (2, .int x2), (3, .int x3), (4, .int x4), (5, .int x5)]) hC dX12_span_101 (by decide) rfl ?_
        cases h
        refine g_pick (L' := [(0, .ref x0), (1, .int x1), (2, .int x2), (3, .int x3), (4, .int x4), (5, .int x5), (6, .int (wI S q45 ((200 : Int32) + x5).toNatClampNeg)), (7, .int x4)]) [2, 3, 4, 5, 6, 7, 1, 0] rfl ?_
        exact hk _ _ _ _ _ rfl
      · rw [if_pos hc52] at h
        refine g_goto (tgt := 164) hC dX12_span_96 (by decide) ?_
        refine g_iinc (v := (1 : Int32)) (L' := [(5, .int (x5 + (1 : Int32))), (6, .int (wI S q45 ((200 : Int32) + x5).toNatClampNeg)), (0, .ref x0), (1, .int x1), (2, .int x2), (3, .int x3), (4, .int x4)]) hC dX12_span_164 rfl (by decide) (by decide) rfl ?_
        refine g_goto (tgt := 36) hC dX12_span_167 (by decide) ?_
        cases h
        refine g_pick (L' := [(0, .ref x0), (1, .int x1), (2, .int x2), (3, .int x3), (4, .int x4), (5, .int (x5 + (1 : Int32)))]) [2, 3, 4, 5, 6, 0] rfl ?_
        exact hk _ _ _ _ _ rfl
set_option maxRecDepth 100000 in
set_option maxHeartbeats 4000000 in
theorem w_X12_span_2 {b : Bd} {r : Int32 × Wd} (hC : CX b yX12_span.cls cX12_span 8 { frames := 3, cells := 0, slots := 0, locals := 62 }) (hin : yX12_span.name = "<init>" → b.2.2.2.2.2.2.2.2.1.name = "<init>") (hR : RT b (some .int) (some (.int r.1)) r.2 0 0) {S : Wd} {x0 : Nat} {x1 : Int32} {x2 : Int32} {x3 : Int32} {x4 : Int32} {x5 : Int32} {x6 : Int32} {x7 : Int32} {c : (Int32 × Wd) ⊕ Cs} (h : B_X12_span_2 S x0 x1 x2 x3 x4 x5 x6 x7 = some c) (hk : N_X12_span b r c) : G b 103 [(0, .ref x0), (1, .int x1), (2, .int x2), (3, .int x3), (4, .int x4), (5, .int x5), (6, .int x6), (7, .int x7)] [] S 0 0 := by
  unfold B_X12_span_2 at h
  refine g_iload hC dX12_span_103 rfl ?_
  refine g_if_le (tgt := 148) hC dX12_span_105 (by decide) (fun hc53 => ?_) (fun hc53 => ?_)
  · rw [if_pos hc53] at h
    refine g_aload_n hC dX12_span_148 rfl ?_
    obtain ⟨ho54, h⟩ := gd_some h
    obtain ⟨q55, hq56, h⟩ := Option.bind_eq_some_iff.mp h
    refine g_getr (k := 20) (q := q55) hC ck_X12 (by decide) tw_1004 rfl (by decide) dX12_span_149 ho54 hq56 ?_
    refine g_iload hC dX12_span_152 rfl ?_
    refine g_iload hC dX12_span_154 rfl ?_
    refine g_sipush (v := (10000 : Int32)) hC dX12_span_156 (by decide) ?_
    refine g_irm hC dX12_span_159 (by decide) ?_
    obtain ⟨hx57, h⟩ := gd_some h
    refine g_iast hC dX12_span_160 hx57.1 hx57.2 ?_
    refine g_name (fun S58 eS59 => ?_)
    have h := ltS_use eS59 h
    refine g_iinc (v := (1 : Int32)) (L' := [(4, .int (x4 + (1 : Int32))), (0, .ref x0), (1, .int x1), (2, .int x2), (3, .int x3), (5, .int x5), (6, .int x6), (7, .int x7)]) hC dX12_span_161 rfl (by decide) (by decide) rfl ?_
    refine g_iinc (v := (1 : Int32)) (L' := [(5, .int (x5 + (1 : Int32))), (4, .int (x4 + (1 : Int32))), (0, .ref x0), (1, .int x1), (2, .int x2), (3, .int x3), (6, .int x6), (7, .int x7)]) hC dX12_span_164 rfl (by decide) (by decide) rfl ?_
    refine g_goto (tgt := 36) hC dX12_span_167 (by decide) ?_
    cases h
    refine g_pick (L' := [(0, .ref x0), (1, .int x1), (2, .int x2), (3, .int x3), (4, .int (x4 + (1 : Int32))), (5, .int (x5 + (1 : Int32)))]) [2, 3, 4, 5, 1, 0] rfl ?_
    exact hk _ _ _ _ _ rfl
  · rw [if_neg hc53] at h
    refine g_aload_n hC dX12_span_108 rfl ?_
    obtain ⟨ho60, h⟩ := gd_some h
    obtain ⟨q61, hq62, h⟩ := Option.bind_eq_some_iff.mp h
    refine g_getr (k := 20) (q := q61) hC ck_X12 (by decide) tw_1004 rfl (by decide) dX12_span_109 ho60 hq62 ?_
    refine g_iload hC dX12_span_112 rfl ?_
    refine g_iconst (v := (1 : Int32)) hC dX12_span_114 (by decide) ?_
    refine g_isub hC dX12_span_115 ?_
    obtain ⟨hx63, h⟩ := gd_some h
    refine g_iald hC dX12_span_116 hx63.1 hx63.2 ?_
    refine g_iload hC dX12_span_117 rfl ?_
    refine g_sipush (v := (10000 : Int32)) hC dX12_span_119 (by decide) ?_
    refine g_irm hC dX12_span_122 (by decide) ?_
    refine g_icmp_le (tgt := 148) hC dX12_span_123 (by decide) (fun hc64 => ?_) (fun hc64 => ?_)
    · rw [if_pos hc64] at h
      refine g_aload_n hC dX12_span_148 rfl ?_
      obtain ⟨ho65, h⟩ := gd_some h
      obtain ⟨q66, hq67, h⟩ := Option.bind_eq_some_iff.mp h
      refine g_getr (k := 20) (q := q66) hC ck_X12 (by decide) tw_1004 rfl (by decide) dX12_span_149 ho65 hq67 ?_
      refine g_iload hC dX12_span_152 rfl ?_
      refine g_iload hC dX12_span_154 rfl ?_
      refine g_sipush (v := (10000 : Int32)) hC dX12_span_156 (by decide) ?_
      refine g_irm hC dX12_span_159 (by decide) ?_
      obtain ⟨hx68, h⟩ := gd_some h
      refine g_iast hC dX12_span_160 hx68.1 hx68.2 ?_
      refine g_name (fun S69 eS70 => ?_)
      have h := ltS_use eS70 h
      refine g_iinc (v := (1 : Int32)) (L' := [(4, .int (x4 + (1 : Int32))), (0, .ref x0), (1, .int x1), (2, .int x2), (3, .int x3), (5, .int x5), (6, .int x6), (7, .int x7)]) hC dX12_span_161 rfl (by decide) (by decide) rfl ?_
      refine g_iinc (v := (1 : Int32)) (L' := [(5, .int (x5 + (1 : Int32))), (4, .int (x4 + (1 : Int32))), (0, .ref x0), (1, .int x1), (2, .int x2), (3, .int x3), (6, .int x6), (7, .int x7)]) hC dX12_span_164 rfl (by decide) (by decide) rfl ?_
      refine g_goto (tgt := 36) hC dX12_span_167 (by decide) ?_
      cases h
      refine g_pick (L' := [(0, .ref x0), (1, .int x1), (2, .int x2), (3, .int x3), (4, .int (x4 + (1 : Int32))), (5, .int (x5 + (1 : Int32)))]) [2, 3, 4, 5, 1, 0] rfl ?_
      exact hk _ _ _ _ _ rfl
    · rw [if_neg hc64] at h
      refine g_aload_n hC dX12_span_126 rfl ?_
      obtain ⟨ho71, h⟩ := gd_some h
      obtain ⟨q72, hq73, h⟩ := Option.bind_eq_some_iff.mp h
      refine g_getr (k := 20) (q := q72) hC ck_X12 (by decide) tw_1004 rfl (by decide) dX12_span_127 ho71 hq73 ?_
      refine g_iload hC dX12_span_130 rfl ?_
      refine g_aload_n hC dX12_span_132 rfl ?_
      obtain ⟨ho74, h⟩ := gd_some h
      obtain ⟨q75, hq76, h⟩ := Option.bind_eq_some_iff.mp h
      refine g_getr (k := 20) (q := q75) hC ck_X12 (by decide) tw_1004 rfl (by decide) dX12_span_133 ho74 hq76 ?_
      refine g_iload hC dX12_span_136 rfl ?_
      refine g_iconst (v := (1 : Int32)) hC dX12_span_138 (by decide) ?_
      refine g_isub hC dX12_span_139 ?_
      obtain ⟨hx77, h⟩ := gd_some h
      refine g_iald hC dX12_span_140 hx77.1 hx77.2 ?_
      obtain ⟨hx78, h⟩ := gd_some h
      refine g_iast hC dX12_span_141 hx78.1 hx78.2 ?_
      refine g_name (fun S79 eS80 => ?_)
      have h := ltS_use eS80 h
      refine g_iinc (v := (-1 : Int32)) (L' := [(7, .int (x7 + (-1 : Int32))), (0, .ref x0), (1, .int x1), (2, .int x2), (3, .int x3), (4, .int x4), (5, .int x5), (6, .int x6)]) hC dX12_span_142 rfl (by decide) (by decide) rfl ?_
      refine g_goto (tgt := 103) hC dX12_span_145 (by decide) ?_
      cases h
      refine g_pick (L' := [(0, .ref x0), (1, .int x1), (2, .int x2), (3, .int x3), (4, .int x4), (5, .int x5), (6, .int x6), (7, .int (x7 + (-1 : Int32)))]) [1, 2, 3, 4, 5, 6, 7, 0] rfl ?_
      exact hk _ _ _ _ _ rfl
theorem w_X12_span {b : Bd} {r : Int32 × Wd} (hC : CX b yX12_span.cls cX12_span 8 { frames := 3, cells := 0, slots := 0, locals := 62 }) (hin : yX12_span.name = "<init>" → b.2.2.2.2.2.2.2.2.1.name = "<init>") (hR : RT b (some .int) (some (.int r.1)) r.2 0 0) {s : Cs} {c : (Int32 × Wd) ⊕ Cs} (h : B_X12_span s = some c) (hk : N_X12_span b r c) : ∀ pc L S kc ks, P_X12_span s = some (pc, L, S, kc, ks) → G b pc L [] S kc ks := by
  intro pc L S kc ks hp
  unfold B_X12_span at h
  split at h
  · cases hp
    exact w_X12_span_0 hC hin hR h hk
  · cases hp
    exact w_X12_span_1 hC hin hR h hk
  · cases hp
    exact w_X12_span_2 hC hin hR h hk
  · cases h
theorem k_X12_span {S : Wd} {a0 : Nat} {a1 : Int32} {a2 : Int32} {a3 : Int32} {r : Int32} {S' : Wd} (h : f_X12_span S a0 a1 a2 a3 = some (r, S')) : Sp yX12_span cX12_span 8 (some .int) 3 62 0 0 [.ref a0, .int a1, .int a2, .int a3] S (some (.int r)) S' := by
  unfold f_X12_span at h
  refine Sp.of (by decide +kernel) (Nat.le_of_ble_eq_true rfl) ?_
  intro b hC hin hR
  exact ru_ind (P := fun s q0 => q0 = (r, S') → ∀ pc L S kc ks, P_X12_span s = some (pc, L, S, kc, ks) → G b pc L [] S kc ks) (fun s q0 hB e => w_X12_span (r := (r, S')) hC hin hR hB e) (fun s s' q0 hB ih e => w_X12_span (r := (r, S')) hC hin hR hB (ih e)) h rfl _ _ _ _ _ rfl

theorem mi_X12_isFirm : MI yX12_isFirm cX12_isFirm 1 (some .boolean) 1 := ⟨tw_1259, tw_14, by decide +kernel, by decide +kernel, by decide +kernel⟩
noncomputable def f_X12_isFirm (S : Wd) (a0 : Int32) : Option (Int32 × Wd) := bd2 (f_X12_within S a0 (0 : Int32) (9 : Int32)) (fun r3 S2 => gd (narrow .boolean (.int r3) = .int r3) (some (r3, S2)))
set_option maxRecDepth 100000 in
set_option maxHeartbeats 4000000 in
theorem k_X12_isFirm {S : Wd} {a0 : Int32} {r : Int32} {S' : Wd} (h : f_X12_isFirm S a0 = some (r, S')) : Sp yX12_isFirm cX12_isFirm 1 (some .boolean) 1 22 0 0 [.int a0] S (some (.int r)) S' := by
  unfold f_X12_isFirm at h
  refine Sp.of (by decide +kernel) (Nat.le_of_ble_eq_true rfl) ?_
  intro b hC hin hR
  show G b 0 [(0, .int a0)] [] S 0 0
  refine g_iload_n hC dX12_isFirm_0 rfl ?_
  refine g_iconst (v := (0 : Int32)) hC dX12_isFirm_1 (by decide) ?_
  refine g_bipush (v := (9 : Int32)) hC dX12_isFirm_2 (by decide) ?_
  obtain ⟨r3, S2, hr1, h⟩ := bd2_some h
  refine g_callS (rest := []) hC mi_X12_within (k_X12_within hr1) tw_1080 tw_1081 dX12_isFirm_4 rfl rfl ⟨by decide, by decide⟩ (Nat.le_of_ble_eq_true rfl) ⟨by decide, by decide⟩ ?_
  obtain ⟨hv4, h⟩ := gd_some h
  cases h
  exact g_zret hC hR hv4 dX12_isFirm_7 (by decide) (by decide)

theorem mi_X12_contract : MI yX12_contract cX12_contract 4 (some .int) 3 := ⟨tw_1256, tw_14, by decide +kernel, by decide +kernel, by decide +kernel⟩
noncomputable def f_X12_contract (S : Wd) (a0 : Nat) (a1 : Int32) (a2 : Int32) (a3 : Int32) : Option (Int32 × Wd) := gd (ob S a0 12) (bd2 (f_X12_isLoad S a0 a1) (fun r4 S2 => if r4 = 0 then (gd (ob S2 a0 12) (bd2 (f_X12_finding S2 a0 (-100001 : Int32)) (fun r9 S7 => some (r9, S7)))) else (bd2 (f_X12_isFirm S2 a2) (fun r12 S11 => if r12 = 0 then (gd (ob S11 a0 12) (bd2 (f_X12_finding S11 a0 (-100001 : Int32)) (fun r17 S15 => some (r17, S15)))) else (bd2 (f_X12_isFirm S11 a3) (fun r20 S19 => if r20 = 0 then (gd (ob S19 a0 12) (bd2 (f_X12_finding S19 a0 (-100001 : Int32)) (fun r63 S61 => some (r63, S61)))) else (if a2 = a3 then (gd (ob S19 a0 12) (bd2 (f_X12_finding S19 a0 (-100003 : Int32)) (fun r59 S57 => some (r59, S57)))) else (gd (ob S19 a0 12) (Option.bind (wO S19 a0 0) (fun q24 => gd (ix S19 q24 100 (67 : Int32)) (if (wI S19 q24 (67 : Int32).toNatClampNeg) = (20 : Int32) then (gd (ob S19 a0 12) (bd2 (f_X12_finding S19 a0 (-100005 : Int32)) (fun r55 S53 => some (r55, S53)))) else (gd (ob S19 a0 12) (Option.bind (f_X12_keep S19 a0) (fun S29 => gd (ob S29 a0 12) (Option.bind (wO S29 a0 0) (fun q32 => gd (ob S29 a0 12) (Option.bind (wO S29 a0 0) (fun q35 => gd (ix S29 q35 100 (67 : Int32)) (gd (ix S29 q32 100 ((240 : Int32) + (wI S29 q35 (67 : Int32).toNatClampNeg))) (ltS (sI S29 q32 ((240 : Int32) + (wI S29 q35 (67 : Int32).toNatClampNeg)).toNatClampNeg ((a1 + ((8 : Int32) * a2)) + ((80 : Int32) * a3))) (fun S39 => gd (ob S39 a0 12) (Option.bind (wO S39 a0 0) (fun q42 => gd (ix S39 q42 100 (67 : Int32)) (gd (ix S39 q42 100 (67 : Int32)) (ltS (sI S39 q42 (67 : Int32).toNatClampNeg ((wI S39 q42 (67 : Int32).toNatClampNeg) + (1 : Int32))) (fun S46 => gd (ob S46 a0 12) (Option.bind (wO S46 a0 0) (fun q49 => gd (ix S46 q49 100 (67 : Int32)) (some (((wI S46 q49 (67 : Int32).toNatClampNeg) - (1 : Int32)), S46))))))))))))))))))))))))))))))
set_option maxRecDepth 100000 in
set_option maxHeartbeats 4000000 in
theorem k_X12_contract {S : Wd} {a0 : Nat} {a1 : Int32} {a2 : Int32} {a3 : Int32} {r : Int32} {S' : Wd} (h : f_X12_contract S a0 a1 a2 a3 = some (r, S')) : Sp yX12_contract cX12_contract 4 (some .int) 2 43 0 0 [.ref a0, .int a1, .int a2, .int a3] S (some (.int r)) S' := by
  unfold f_X12_contract at h
  refine Sp.of (by decide +kernel) (Nat.le_of_ble_eq_true rfl) ?_
  intro b hC hin hR
  show G b 0 [(0, .ref a0), (1, .int a1), (2, .int a2), (3, .int a3)] [] S 0 0
  refine g_aload_n hC dX12_contract_0 rfl ?_
  refine g_iload_n hC dX12_contract_1 rfl ?_
  obtain ⟨ho3, h⟩ := gd_some h
  obtain ⟨r4, S2, hr1, h⟩ := bd2_some h
  refine g_callV (rest := []) hC mi_X12_isLoad (k_X12_isLoad hr1) ck_X12.1 (by decide) ho3 tw_1135 tw_1137 ts_29 dX12_contract_2 rfl rfl ⟨by decide, by decide⟩ (Nat.le_of_ble_eq_true rfl) ⟨by decide, by decide⟩ ?_
  refine g_if_eq (tgt := 22) hC dX12_contract_5 (by decide) (fun hc5 => ?_) (fun hc5 => ?_)
  · rw [if_pos hc5] at h
    refine g_aload_n hC dX12_contract_22 rfl ?_
    refine g_ldc hC tw_1083 dX12_contract_23 ?_
    obtain ⟨ho8, h⟩ := gd_some h
    obtain ⟨r9, S7, hr6, h⟩ := bd2_some h
    refine g_callV (rest := []) hC mi_X12_finding (k_X12_finding hr6) ck_X12.1 (by decide) ho8 tw_1069 tw_1071 ts_24 dX12_contract_25 rfl rfl ⟨by decide, by decide⟩ (Nat.le_of_ble_eq_true rfl) ⟨by decide, by decide⟩ ?_
    cases h
    exact g_iret hC hR dX12_contract_28 (by decide) (by decide)
  · rw [if_neg hc5] at h
    refine g_iload_n hC dX12_contract_8 rfl ?_
    obtain ⟨r12, S11, hr10, h⟩ := bd2_some h
    refine g_callS (rest := []) hC mi_X12_isFirm (k_X12_isFirm hr10) tw_1257 tw_1258 dX12_contract_9 rfl rfl ⟨by decide, by decide⟩ (Nat.le_of_ble_eq_true rfl) ⟨by decide, by decide⟩ ?_
    refine g_if_eq (tgt := 22) hC dX12_contract_12 (by decide) (fun hc13 => ?_) (fun hc13 => ?_)
    · rw [if_pos hc13] at h
      refine g_aload_n hC dX12_contract_22 rfl ?_
      refine g_ldc hC tw_1083 dX12_contract_23 ?_
      obtain ⟨ho16, h⟩ := gd_some h
      obtain ⟨r17, S15, hr14, h⟩ := bd2_some h
      refine g_callV (rest := []) hC mi_X12_finding (k_X12_finding hr14) ck_X12.1 (by decide) ho16 tw_1069 tw_1071 ts_24 dX12_contract_25 rfl rfl ⟨by decide, by decide⟩ (Nat.le_of_ble_eq_true rfl) ⟨by decide, by decide⟩ ?_
      cases h
      exact g_iret hC hR dX12_contract_28 (by decide) (by decide)
    · rw [if_neg hc13] at h
      refine g_iload_n hC dX12_contract_15 rfl ?_
      obtain ⟨r20, S19, hr18, h⟩ := bd2_some h
      refine g_callS (rest := []) hC mi_X12_isFirm (k_X12_isFirm hr18) tw_1257 tw_1258 dX12_contract_16 rfl rfl ⟨by decide, by decide⟩ (Nat.le_of_ble_eq_true rfl) ⟨by decide, by decide⟩ ?_
      refine g_if_ne (tgt := 29) hC dX12_contract_19 (by decide) (fun hc21 => ?_) (fun hc21 => ?_)
      · rw [if_neg hc21] at h
        refine g_iload_n hC dX12_contract_29 rfl ?_
        refine g_iload_n hC dX12_contract_30 rfl ?_
        refine g_icmp_ne (tgt := 41) hC dX12_contract_31 (by decide) (fun hc22 => ?_) (fun hc22 => ?_)
        · rw [if_neg hc22] at h
          refine g_aload_n hC dX12_contract_41 rfl ?_
          obtain ⟨ho23, h⟩ := gd_some h
          obtain ⟨q24, hq25, h⟩ := Option.bind_eq_some_iff.mp h
          refine g_getr (k := 0) (q := q24) hC ck_X12 (by decide) tw_984 rfl (by decide) dX12_contract_42 ho23 hq25 ?_
          refine g_bipush (v := (67 : Int32)) hC dX12_contract_45 (by decide) ?_
          obtain ⟨hx26, h⟩ := gd_some h
          refine g_iald hC dX12_contract_47 hx26.1 hx26.2 ?_
          refine g_bipush (v := (20 : Int32)) hC dX12_contract_48 (by decide) ?_
          refine g_icmp_ne (tgt := 60) hC dX12_contract_50 (by decide) (fun hc27 => ?_) (fun hc27 => ?_)
          · rw [if_neg hc27] at h
            refine g_aload_n hC dX12_contract_60 rfl ?_
            obtain ⟨ho30, h⟩ := gd_some h
            obtain ⟨S29, hr28, h⟩ := Option.bind_eq_some_iff.mp h
            refine g_callV (rest := []) hC mi_X12_keep (k_X12_keep hr28) ck_X12.1 (by decide) ho30 tw_1084 tw_1086 ts_25 dX12_contract_61 rfl rfl ⟨by decide, by decide⟩ (Nat.le_of_ble_eq_true rfl) ⟨by decide, by decide⟩ ?_
            refine g_aload_n hC dX12_contract_64 rfl ?_
            obtain ⟨ho31, h⟩ := gd_some h
            obtain ⟨q32, hq33, h⟩ := Option.bind_eq_some_iff.mp h
            refine g_getr (k := 0) (q := q32) hC ck_X12 (by decide) tw_984 rfl (by decide) dX12_contract_65 ho31 hq33 ?_
            refine g_sipush (v := (240 : Int32)) hC dX12_contract_68 (by decide) ?_
            refine g_aload_n hC dX12_contract_71 rfl ?_
            obtain ⟨ho34, h⟩ := gd_some h
            obtain ⟨q35, hq36, h⟩ := Option.bind_eq_some_iff.mp h
            refine g_getr (k := 0) (q := q35) hC ck_X12 (by decide) tw_984 rfl (by decide) dX12_contract_72 ho34 hq36 ?_
            refine g_bipush (v := (67 : Int32)) hC dX12_contract_75 (by decide) ?_
            obtain ⟨hx37, h⟩ := gd_some h
            refine g_iald hC dX12_contract_77 hx37.1 hx37.2 ?_
            refine g_iadd hC dX12_contract_78 ?_
            refine g_iload_n hC dX12_contract_79 rfl ?_
            refine g_bipush (v := (8 : Int32)) hC dX12_contract_80 (by decide) ?_
            refine g_iload_n hC dX12_contract_82 rfl ?_
            refine g_imul hC dX12_contract_83 ?_
            refine g_iadd hC dX12_contract_84 ?_
            refine g_bipush (v := (80 : Int32)) hC dX12_contract_85 (by decide) ?_
            refine g_iload_n hC dX12_contract_87 rfl ?_
            refine g_imul hC dX12_contract_88 ?_
            refine g_iadd hC dX12_contract_89 ?_
            obtain ⟨hx38, h⟩ := gd_some h
            refine g_iast hC dX12_contract_90 hx38.1 hx38.2 ?_
            refine g_name (fun S39 eS40 => ?_)
            have h := ltS_use eS40 h
            refine g_aload_n hC dX12_contract_91 rfl ?_
            obtain ⟨ho41, h⟩ := gd_some h
            obtain ⟨q42, hq43, h⟩ := Option.bind_eq_some_iff.mp h
            refine g_getr (k := 0) (q := q42) hC ck_X12 (by decide) tw_984 rfl (by decide) dX12_contract_92 ho41 hq43 ?_
            refine g_bipush (v := (67 : Int32)) hC dX12_contract_95 (by decide) ?_
            refine g_dup2 hC dX12_contract_97 rfl rfl ?_
            obtain ⟨hx44, h⟩ := gd_some h
            refine g_iald hC dX12_contract_98 hx44.1 hx44.2 ?_
            refine g_iconst (v := (1 : Int32)) hC dX12_contract_99 (by decide) ?_
            refine g_iadd hC dX12_contract_100 ?_
            obtain ⟨hx45, h⟩ := gd_some h
            refine g_iast hC dX12_contract_101 hx45.1 hx45.2 ?_
            refine g_name (fun S46 eS47 => ?_)
            have h := ltS_use eS47 h
            refine g_aload_n hC dX12_contract_102 rfl ?_
            obtain ⟨ho48, h⟩ := gd_some h
            obtain ⟨q49, hq50, h⟩ := Option.bind_eq_some_iff.mp h
            refine g_getr (k := 0) (q := q49) hC ck_X12 (by decide) tw_984 rfl (by decide) dX12_contract_103 ho48 hq50 ?_
            refine g_bipush (v := (67 : Int32)) hC dX12_contract_106 (by decide) ?_
            obtain ⟨hx51, h⟩ := gd_some h
            refine g_iald hC dX12_contract_108 hx51.1 hx51.2 ?_
            refine g_iconst (v := (1 : Int32)) hC dX12_contract_109 (by decide) ?_
            refine g_isub hC dX12_contract_110 ?_
            cases h
            exact g_iret hC hR dX12_contract_111 (by decide) (by decide)
          · rw [if_pos hc27] at h
            refine g_aload_n hC dX12_contract_53 rfl ?_
            refine g_ldc hC tw_1106 dX12_contract_54 ?_
            obtain ⟨ho54, h⟩ := gd_some h
            obtain ⟨r55, S53, hr52, h⟩ := bd2_some h
            refine g_callV (rest := []) hC mi_X12_finding (k_X12_finding hr52) ck_X12.1 (by decide) ho54 tw_1069 tw_1071 ts_24 dX12_contract_56 rfl rfl ⟨by decide, by decide⟩ (Nat.le_of_ble_eq_true rfl) ⟨by decide, by decide⟩ ?_
            cases h
            exact g_iret hC hR dX12_contract_59 (by decide) (by decide)
        · rw [if_pos hc22] at h
          refine g_aload_n hC dX12_contract_34 rfl ?_
          refine g_ldc hC tw_1130 dX12_contract_35 ?_
          obtain ⟨ho58, h⟩ := gd_some h
          obtain ⟨r59, S57, hr56, h⟩ := bd2_some h
          refine g_callV (rest := []) hC mi_X12_finding (k_X12_finding hr56) ck_X12.1 (by decide) ho58 tw_1069 tw_1071 ts_24 dX12_contract_37 rfl rfl ⟨by decide, by decide⟩ (Nat.le_of_ble_eq_true rfl) ⟨by decide, by decide⟩ ?_
          cases h
          exact g_iret hC hR dX12_contract_40 (by decide) (by decide)
      · rw [if_pos hc21] at h
        refine g_aload_n hC dX12_contract_22 rfl ?_
        refine g_ldc hC tw_1083 dX12_contract_23 ?_
        obtain ⟨ho62, h⟩ := gd_some h
        obtain ⟨r63, S61, hr60, h⟩ := bd2_some h
        refine g_callV (rest := []) hC mi_X12_finding (k_X12_finding hr60) ck_X12.1 (by decide) ho62 tw_1069 tw_1071 ts_24 dX12_contract_25 rfl rfl ⟨by decide, by decide⟩ (Nat.le_of_ble_eq_true rfl) ⟨by decide, by decide⟩ ?_
        cases h
        exact g_iret hC hR dX12_contract_28 (by decide) (by decide)

theorem mi_X12_endOf : MI yX12_endOf cX12_endOf 9 (some .int) 2 := ⟨tw_1267, tw_14, by decide +kernel, by decide +kernel, by decide +kernel⟩
noncomputable def B_X12_endOf_0 (S : Wd) (a0 : Nat) (a1 : Int32) (a2 : Int32) : Option ((Int32 × Wd) ⊕ Cs) := gd (ob S a0 12) (ltS (sI S a0 21 (0 : Int32)) (fun S2 => some (.inr (1, [a0], [a1, a2, (0 : Int32), a2, (1 : Int32)], S2))))
noncomputable def B_X12_endOf_1 (S : Wd) (x0 : Nat) (x1 : Int32) (x2 : Int32) (x3 : Int32) (x4 : Int32) (x5 : Int32) : Option ((Int32 × Wd) ⊕ Cs) := if x5 = 0 then (some (.inl (x4, S))) else (some (.inr (2, [x0], [x1, x2, x3, x4, x5, (-1 : Int32), (0 : Int32)], S)))
noncomputable def B_X12_endOf_2 (S : Wd) (x0 : Nat) (x1 : Int32) (x2 : Int32) (x3 : Int32) (x4 : Int32) (x5 : Int32) (x6 : Int32) (x7 : Int32) : Option ((Int32 × Wd) ⊕ Cs) := gd (ob S x0 12) (Option.bind (wO S x0 0) (fun q6 => gd (ix S q6 100 (67 : Int32)) (if (wI S q6 (67 : Int32).toNatClampNeg) ≤ x7 then (if x6 < 0 then (if (0 : Int32) = 0 then (some (.inr (1, [x0], [x1, x2, x3, x4, (0 : Int32)], S))) else (none)) else (if (1 : Int32) = 0 then (none) else (gd (ob S x0 12) (Option.bind (wO S x0 0) (fun q14 => gd (ix S q14 100 ((240 : Int32) + x6)) (gd (ob S x0 12) (gd (ob S x0 12) (ltS (sI S x0 21 ((wI S x0 21) + (1 : Int32))) (fun S19 => some (.inr (1, [x0], [x1, x2, (x3 ||| ((1 : Int32) <<< (x6 &&& 31))), ((wI S q14 ((240 : Int32) + x6).toNatClampNeg) / (80 : Int32)), (1 : Int32)], S19))))))))))) else (if 0 ≤ x6 then (if x6 < 0 then (if (0 : Int32) = 0 then (some (.inr (1, [x0], [x1, x2, x3, x4, (0 : Int32)], S))) else (none)) else (if (1 : Int32) = 0 then (none) else (gd (ob S x0 12) (Option.bind (wO S x0 0) (fun q26 => gd (ix S q26 100 ((240 : Int32) + x6)) (gd (ob S x0 12) (gd (ob S x0 12) (ltS (sI S x0 21 ((wI S x0 21) + (1 : Int32))) (fun S31 => some (.inr (1, [x0], [x1, x2, (x3 ||| ((1 : Int32) <<< (x6 &&& 31))), ((wI S q26 ((240 : Int32) + x6).toNatClampNeg) / (80 : Int32)), (1 : Int32)], S31))))))))))) else (gd (ob S x0 12) (Option.bind (wO S x0 0) (fun q34 => gd (ix S q34 100 ((240 : Int32) + x7)) (if ((x3 >>> (x7 &&& 31)) &&& (1 : Int32)) = 0 then (if (irm (wI S q34 ((240 : Int32) + x7).toNatClampNeg) (8 : Int32)) = x1 then (if (irm ((wI S q34 ((240 : Int32) + x7).toNatClampNeg) / (8 : Int32)) (10 : Int32)) = x4 then (some (.inr (2, [x0], [x1, x2, x3, x4, x5, x7, (x7 + (1 : Int32))], S))) else (some (.inr (2, [x0], [x1, x2, x3, x4, x5, (-1 : Int32), (x7 + (1 : Int32))], S)))) else (some (.inr (2, [x0], [x1, x2, x3, x4, x5, (-1 : Int32), (x7 + (1 : Int32))], S)))) else (some (.inr (2, [x0], [x1, x2, x3, x4, x5, (-1 : Int32), (x7 + (1 : Int32))], S)))))))))))
noncomputable def B_X12_endOf : Cs → Option ((Int32 × Wd) ⊕ Cs)
  | (0, [a0], [a1, a2], S) => B_X12_endOf_0 S a0 a1 a2
  | (1, [x0], [x1, x2, x3, x4, x5], S) => B_X12_endOf_1 S x0 x1 x2 x3 x4 x5
  | (2, [x0], [x1, x2, x3, x4, x5, x6, x7], S) => B_X12_endOf_2 S x0 x1 x2 x3 x4 x5 x6 x7
  | _ => none
def P_X12_endOf : Cs → Option (Nat × List (Nat × Value) × Wd × Nat × Nat)
  | (0, [a0], [a1, a2], S) => some (0, [(0, .ref a0), (1, .int a1), (2, .int a2)], S, 0, 0)
  | (1, [x0], [x1, x2, x3, x4, x5], S) => some (13, [(0, .ref x0), (1, .int x1), (2, .int x2), (3, .int x3), (4, .int x4), (5, .int x5)], S, 0, 0)
  | (2, [x0], [x1, x2, x3, x4, x5, x6, x7], S) => some (24, [(0, .ref x0), (1, .int x1), (2, .int x2), (3, .int x3), (4, .int x4), (5, .int x5), (6, .int x6), (7, .int x7)], S, 0, 0)
  | _ => none
noncomputable def f_X12_endOf (S : Wd) (a0 : Nat) (a1 : Int32) (a2 : Int32) : Option (Int32 × Wd) := ru B_X12_endOf (0, [a0], [a1, a2], S)
abbrev N_X12_endOf (b : Bd) (r : Int32 × Wd) (c : (Int32 × Wd) ⊕ Cs) : Prop := match c with
  | .inl r' => r' = r
  | .inr s' => ∀ pc L S kc ks, P_X12_endOf s' = some (pc, L, S, kc, ks) → G b pc L [] S kc ks
set_option maxRecDepth 100000 in
set_option maxHeartbeats 4000000 in
theorem w_X12_endOf_0 {b : Bd} {r : Int32 × Wd} (hC : CX b yX12_endOf.cls cX12_endOf 9 { frames := 0, cells := 0, slots := 0, locals := 0 }) (hin : yX12_endOf.name = "<init>" → b.2.2.2.2.2.2.2.2.1.name = "<init>") (hR : RT b (some .int) (some (.int r.1)) r.2 0 0) {S : Wd} {a0 : Nat} {a1 : Int32} {a2 : Int32} {c : (Int32 × Wd) ⊕ Cs} (h : B_X12_endOf_0 S a0 a1 a2 = some c) (hk : N_X12_endOf b r c) : G b 0 [(0, .ref a0), (1, .int a1), (2, .int a2)] [] S 0 0 := by
  unfold B_X12_endOf_0 at h
  refine g_iconst (v := (0 : Int32)) hC dX12_endOf_0 (by decide) ?_
  refine g_istore_n (L' := [(3, .int (0 : Int32)), (0, .ref a0), (1, .int a1), (2, .int a2)]) hC dX12_endOf_1 (by decide) rfl ?_
  refine g_iload_n hC dX12_endOf_2 rfl ?_
  refine g_istore (L' := [(4, .int a2), (3, .int (0 : Int32)), (0, .ref a0), (1, .int a1), (2, .int a2)]) hC dX12_endOf_3 (by decide) rfl ?_
  refine g_aload_n hC dX12_endOf_5 rfl ?_
  refine g_iconst (v := (0 : Int32)) hC dX12_endOf_6 (by decide) ?_
  obtain ⟨ho1, h⟩ := gd_some h
  refine g_puti (k := 21) hC ck_X12 (by decide) tw_1005 rfl (by decide) rfl rfl dX12_endOf_7 ho1 ?_
  refine g_name (fun S2 eS3 => ?_)
  have h := ltS_use eS3 h
  refine g_iconst (v := (1 : Int32)) hC dX12_endOf_10 (by decide) ?_
  refine g_istore (L' := [(5, .int (1 : Int32)), (4, .int a2), (3, .int (0 : Int32)), (0, .ref a0), (1, .int a1), (2, .int a2)]) hC dX12_endOf_11 (by decide) rfl ?_
  cases h
  refine g_pick (L' := [(0, .ref a0), (1, .int a1), (2, .int a2), (3, .int (0 : Int32)), (4, .int a2), (5, .int (1 : Int32))]) [3, 4, 5, 2, 1, 0] rfl ?_
  exact hk _ _ _ _ _ rfl
set_option maxRecDepth 100000 in
set_option maxHeartbeats 4000000 in
theorem w_X12_endOf_1 {b : Bd} {r : Int32 × Wd} (hC : CX b yX12_endOf.cls cX12_endOf 9 { frames := 0, cells := 0, slots := 0, locals := 0 }) (hin : yX12_endOf.name = "<init>" → b.2.2.2.2.2.2.2.2.1.name = "<init>") (hR : RT b (some .int) (some (.int r.1)) r.2 0 0) {S : Wd} {x0 : Nat} {x1 : Int32} {x2 : Int32} {x3 : Int32} {x4 : Int32} {x5 : Int32} {c : (Int32 × Wd) ⊕ Cs} (h : B_X12_endOf_1 S x0 x1 x2 x3 x4 x5 = some c) (hk : N_X12_endOf b r c) : G b 13 [(0, .ref x0), (1, .int x1), (2, .int x2), (3, .int x3), (4, .int x4), (5, .int x5)] [] S 0 0 := by
  unfold B_X12_endOf_1 at h
  refine g_iload hC dX12_endOf_13 rfl ?_
  refine g_if_eq (tgt := 152) hC dX12_endOf_15 (by decide) (fun hc4 => ?_) (fun hc4 => ?_)
  · rw [if_pos hc4] at h
    refine g_iload hC dX12_endOf_152 rfl ?_
    cases h
    subst hk
    exact g_iret hC hR dX12_endOf_154 (by decide) (by decide)
  · rw [if_neg hc4] at h
    refine g_iconst (v := (-1 : Int32)) hC dX12_endOf_18 (by decide) ?_
    refine g_istore (L' := [(6, .int (-1 : Int32)), (0, .ref x0), (1, .int x1), (2, .int x2), (3, .int x3), (4, .int x4), (5, .int x5)]) hC dX12_endOf_19 (by decide) rfl ?_
    refine g_iconst (v := (0 : Int32)) hC dX12_endOf_21 (by decide) ?_
    refine g_istore (L' := [(7, .int (0 : Int32)), (6, .int (-1 : Int32)), (0, .ref x0), (1, .int x1), (2, .int x2), (3, .int x3), (4, .int x4), (5, .int x5)]) hC dX12_endOf_22 (by decide) rfl ?_
    cases h
    refine g_pick (L' := [(0, .ref x0), (1, .int x1), (2, .int x2), (3, .int x3), (4, .int x4), (5, .int x5), (6, .int (-1 : Int32)), (7, .int (0 : Int32))]) [2, 3, 4, 5, 6, 7, 1, 0] rfl ?_
    exact hk _ _ _ _ _ rfl
set_option maxRecDepth 100000 in
set_option maxHeartbeats 4000000 in
theorem w_X12_endOf_2 {b : Bd} {r : Int32 × Wd} (hC : CX b yX12_endOf.cls cX12_endOf 9 { frames := 0, cells := 0, slots := 0, locals := 0 }) (hin : yX12_endOf.name = "<init>" → b.2.2.2.2.2.2.2.2.1.name = "<init>") (hR : RT b (some .int) (some (.int r.1)) r.2 0 0) {S : Wd} {x0 : Nat} {x1 : Int32} {x2 : Int32} {x3 : Int32} {x4 : Int32} {x5 : Int32} {x6 : Int32} {x7 : Int32} {c : (Int32 × Wd) ⊕ Cs} (h : B_X12_endOf_2 S x0 x1 x2 x3 x4 x5 x6 x7 = some c) (hk : N_X12_endOf b r c) : G b 24 [(0, .ref x0), (1, .int x1), (2, .int x2), (3, .int x3), (4, .int x4), (5, .int x5), (6, .int x6), (7, .int x7)] [] S 0 0 := by
  unfold B_X12_endOf_2 at h
  refine g_iload hC dX12_endOf_24 rfl ?_
  refine g_aload_n hC dX12_endOf_26 rfl ?_
  obtain ⟨ho5, h⟩ := gd_some h
  obtain ⟨q6, hq7, h⟩ := Option.bind_eq_some_iff.mp h
  refine g_getr (k := 0) (q := q6) hC ck_X12 (by decide) tw_984 rfl (by decide) dX12_endOf_27 ho5 hq7 ?_
  refine g_bipush (v := (67 : Int32)) hC dX12_endOf_30 (by decide) ?_
  obtain ⟨hx8, h⟩ := gd_some h
  refine g_iald hC dX12_endOf_32 hx8.1 hx8.2 ?_
  refine g_icmp_ge (tgt := 99) hC dX12_endOf_33 (by decide) (fun hc9 => ?_) (fun hc9 => ?_)
  · rw [if_pos hc9] at h
    refine g_iload hC dX12_endOf_99 rfl ?_
    refine g_if_lt (tgt := 108) hC dX12_endOf_101 (by decide) (fun hc10 => ?_) (fun hc10 => ?_)
    · rw [if_pos hc10] at h
      refine g_iconst (v := (0 : Int32)) hC dX12_endOf_108 (by decide) ?_
      refine g_istore (L' := [(5, .int (0 : Int32)), (0, .ref x0), (1, .int x1), (2, .int x2), (3, .int x3), (4, .int x4), (6, .int x6), (7, .int x7)]) hC dX12_endOf_109 (by decide) rfl ?_
      refine g_iload hC dX12_endOf_111 rfl ?_
      refine g_if_eq (tgt := 149) hC dX12_endOf_113 (by decide) (fun hc11 => ?_) (fun hc11 => ?_)
      · rw [if_pos hc11] at h
        refine g_goto (tgt := 13) hC dX12_endOf_149 (by decide) ?_
        cases h
        refine g_pick (L' := [(0, .ref x0), (1, .int x1), (2, .int x2), (3, .int x3), (4, .int x4), (5, .int (0 : Int32))]) [1, 2, 3, 4, 5, 0] rfl ?_
        exact hk _ _ _ _ _ rfl
      · rw [if_neg hc11] at h
        cases h
    · rw [if_neg hc10] at h
      refine g_iconst (v := (1 : Int32)) hC dX12_endOf_104 (by decide) ?_
      refine g_goto (tgt := 109) hC dX12_endOf_105 (by decide) ?_
      refine g_istore (L' := [(5, .int (1 : Int32)), (0, .ref x0), (1, .int x1), (2, .int x2), (3, .int x3), (4, .int x4), (6, .int x6), (7, .int x7)]) hC dX12_endOf_109 (by decide) rfl ?_
      refine g_iload hC dX12_endOf_111 rfl ?_
      refine g_if_eq (tgt := 149) hC dX12_endOf_113 (by decide) (fun hc12 => ?_) (fun hc12 => ?_)
      · rw [if_pos hc12] at h
        cases h
      · rw [if_neg hc12] at h
        refine g_iload_n hC dX12_endOf_116 rfl ?_
        refine g_iconst (v := (1 : Int32)) hC dX12_endOf_117 (by decide) ?_
        refine g_iload hC dX12_endOf_118 rfl ?_
        refine g_ishl hC dX12_endOf_120 ?_
        refine g_ior hC dX12_endOf_121 ?_
        refine g_istore_n (L' := [(3, .int (x3 ||| ((1 : Int32) <<< (x6 &&& 31)))), (5, .int (1 : Int32)), (0, .ref x0), (1, .int x1), (2, .int x2), (4, .int x4), (6, .int x6), (7, .int x7)]) hC dX12_endOf_122 (by decide) rfl ?_
        refine g_aload_n hC dX12_endOf_123 rfl ?_
        obtain ⟨ho13, h⟩ := gd_some h
        obtain ⟨q14, hq15, h⟩ := Option.bind_eq_some_iff.mp h
        refine g_getr (k := 0) (q := q14) hC ck_X12 (by decide) tw_984 rfl (by decide) dX12_endOf_124 ho13 hq15 ?_
        refine g_sipush (v := (240 : Int32)) hC dX12_endOf_127 (by decide) ?_
        refine g_iload hC dX12_endOf_130 rfl ?_
        refine g_iadd hC dX12_endOf_132 ?_
        obtain ⟨hx16, h⟩ := gd_some h
        refine g_iald hC dX12_endOf_133 hx16.1 hx16.2 ?_
        refine g_bipush (v := (80 : Int32)) hC dX12_endOf_134 (by decide) ?_
        refine g_idiv hC dX12_endOf_136 (by decide) ?_
        refine g_istore (L' := [(4, .int ((wI S q14 ((240 : Int32) + x6).toNatClampNeg) / (80 : Int32))), (3, .int (x3 ||| ((1 : Int32) <<< (x6 &&& 31)))), (5, .int (1 : Int32)), (0, .ref x0), (1, .int x1), (2, .int x2), (6, .int x6), (7, .int x7)]) hC dX12_endOf_137 (by decide) rfl ?_
        refine g_aload_n hC dX12_endOf_139 rfl ?_
        refine g_dup hC dX12_endOf_140 rfl ?_
        obtain ⟨ho17, h⟩ := gd_some h
        refine g_geti (k := 21) hC ck_X12 (by decide) tw_1005 rfl (by decide) dX12_endOf_141 ho17 ?_
        refine g_iconst (v := (1 : Int32)) hC dX12_endOf_144 (by decide) ?_
        refine g_iadd hC dX12_endOf_145 ?_
        obtain ⟨ho18, h⟩ := gd_some h
        refine g_puti (k := 21) hC ck_X12 (by decide) tw_1005 rfl (by decide) rfl rfl dX12_endOf_146 ho18 ?_
        refine g_name (fun S19 eS20 => ?_)
        have h := ltS_use eS20 h
        refine g_goto (tgt := 13) hC dX12_endOf_149 (by decide) ?_
        cases h
        refine g_pick (L' := [(0, .ref x0), (1, .int x1), (2, .int x2), (3, .int (x3 ||| ((1 : Int32) <<< (x6 &&& 31)))), (4, .int ((wI S q14 ((240 : Int32) + x6).toNatClampNeg) / (80 : Int32))), (5, .int (1 : Int32))]) [3, 4, 5, 1, 0, 2] rfl ?_
        exact hk _ _ _ _ _ rfl
  · rw [if_neg hc9] at h
    refine g_iload hC dX12_endOf_36 rfl ?_
    refine g_if_ge (tgt := 99) hC dX12_endOf_38 (by decide) (fun hc21 => ?_) (fun hc21 => ?_)
    · rw [if_pos hc21] at h
      refine g_iload hC dX12_endOf_99 rfl ?_
      refine g_if_lt (tgt := 108) hC dX12_endOf_101 (by decide) (fun hc22 => ?_) (fun hc22 => ?_)
      · rw [if_pos hc22] at h
        refine g_iconst (v := (0 : Int32)) hC dX12_endOf_108 (by decide) ?_
        refine g_istore (L' := [(5, .int (0 : Int32)), (0, .ref x0), (1, .int x1), (2, .int x2), (3, .int x3), (4, .int x4), (6, .int x6), (7, .int x7)]) hC dX12_endOf_109 (by decide) rfl ?_
        refine g_iload hC dX12_endOf_111 rfl ?_
        refine g_if_eq (tgt := 149) hC dX12_endOf_113 (by decide) (fun hc23 => ?_) (fun hc23 => ?_)
        · rw [if_pos hc23] at h
          refine g_goto (tgt := 13) hC dX12_endOf_149 (by decide) ?_
          cases h
          refine g_pick (L' := [(0, .ref x0), (1, .int x1), (2, .int x2), (3, .int x3), (4, .int x4), (5, .int (0 : Int32))]) [1, 2, 3, 4, 5, 0] rfl ?_
          exact hk _ _ _ _ _ rfl
        · rw [if_neg hc23] at h
          cases h
      · rw [if_neg hc22] at h
        refine g_iconst (v := (1 : Int32)) hC dX12_endOf_104 (by decide) ?_
        refine g_goto (tgt := 109) hC dX12_endOf_105 (by decide) ?_
        refine g_istore (L' := [(5, .int (1 : Int32)), (0, .ref x0), (1, .int x1), (2, .int x2), (3, .int x3), (4, .int x4), (6, .int x6), (7, .int x7)]) hC dX12_endOf_109 (by decide) rfl ?_
        refine g_iload hC dX12_endOf_111 rfl ?_
        refine g_if_eq (tgt := 149) hC dX12_endOf_113 (by decide) (fun hc24 => ?_) (fun hc24 => ?_)
        · rw [if_pos hc24] at h
          cases h
        · rw [if_neg hc24] at h
          refine g_iload_n hC dX12_endOf_116 rfl ?_
          refine g_iconst (v := (1 : Int32)) hC dX12_endOf_117 (by decide) ?_
          refine g_iload hC dX12_endOf_118 rfl ?_
          refine g_ishl hC dX12_endOf_120 ?_
          refine g_ior hC dX12_endOf_121 ?_
          refine g_istore_n (L' := [(3, .int (x3 ||| ((1 : Int32) <<< (x6 &&& 31)))), (5, .int (1 : Int32)), (0, .ref x0), (1, .int x1), (2, .int x2), (4, .int x4), (6, .int x6), (7, .int x7)]) hC dX12_endOf_122 (by decide) rfl ?_
          refine g_aload_n hC dX12_endOf_123 rfl ?_
          obtain ⟨ho25, h⟩ := gd_some h
          obtain ⟨q26, hq27, h⟩ := Option.bind_eq_some_iff.mp h
          refine g_getr (k := 0) (q := q26) hC ck_X12 (by decide) tw_984 rfl (by decide) dX12_endOf_124 ho25 hq27 ?_
          refine g_sipush (v := (240 : Int32)) hC dX12_endOf_127 (by decide) ?_
          refine g_iload hC dX12_endOf_130 rfl ?_
          refine g_iadd hC dX12_endOf_132 ?_
          obtain ⟨hx28, h⟩ := gd_some h
          refine g_iald hC dX12_endOf_133 hx28.1 hx28.2 ?_
          refine g_bipush (v := (80 : Int32)) hC dX12_endOf_134 (by decide) ?_
          refine g_idiv hC dX12_endOf_136 (by decide) ?_
          refine g_istore (L' := [(4, .int ((wI S q26 ((240 : Int32) + x6).toNatClampNeg) / (80 : Int32))), (3, .int (x3 ||| ((1 : Int32) <<< (x6 &&& 31)))), (5, .int (1 : Int32)), (0, .ref x0), (1, .int x1), (2, .int x2), (6, .int x6), (7, .int x7)]) hC dX12_endOf_137 (by decide) rfl ?_
          refine g_aload_n hC dX12_endOf_139 rfl ?_
          refine g_dup hC dX12_endOf_140 rfl ?_
          obtain ⟨ho29, h⟩ := gd_some h
          refine g_geti (k := 21) hC ck_X12 (by decide) tw_1005 rfl (by decide) dX12_endOf_141 ho29 ?_
          refine g_iconst (v := (1 : Int32)) hC dX12_endOf_144 (by decide) ?_
          refine g_iadd hC dX12_endOf_145 ?_
          obtain ⟨ho30, h⟩ := gd_some h
          refine g_puti (k := 21) hC ck_X12 (by decide) tw_1005 rfl (by decide) rfl rfl dX12_endOf_146 ho30 ?_
          refine g_name (fun S31 eS32 => ?_)
          have h := ltS_use eS32 h
          refine g_goto (tgt := 13) hC dX12_endOf_149 (by decide) ?_
          cases h
          refine g_pick (L' := [(0, .ref x0), (1, .int x1), (2, .int x2), (3, .int (x3 ||| ((1 : Int32) <<< (x6 &&& 31)))), (4, .int ((wI S q26 ((240 : Int32) + x6).toNatClampNeg) / (80 : Int32))), (5, .int (1 : Int32))]) [3, 4, 5, 1, 0, 2] rfl ?_
          exact hk _ _ _ _ _ rfl
    · rw [if_neg hc21] at h
      refine g_aload_n hC dX12_endOf_41 rfl ?_
      obtain ⟨ho33, h⟩ := gd_some h
      obtain ⟨q34, hq35, h⟩ := Option.bind_eq_some_iff.mp h
      refine g_getr (k := 0) (q := q34) hC ck_X12 (by decide) tw_984 rfl (by decide) dX12_endOf_42 ho33 hq35 ?_
      refine g_sipush (v := (240 : Int32)) hC dX12_endOf_45 (by decide) ?_
      refine g_iload hC dX12_endOf_48 rfl ?_
      refine g_iadd hC dX12_endOf_50 ?_
      obtain ⟨hx36, h⟩ := gd_some h
      refine g_iald hC dX12_endOf_51 hx36.1 hx36.2 ?_
      refine g_istore (L' := [(8, .int (wI S q34 ((240 : Int32) + x7).toNatClampNeg)), (0, .ref x0), (1, .int x1), (2, .int x2), (3, .int x3), (4, .int x4), (5, .int x5), (6, .int x6), (7, .int x7)]) hC dX12_endOf_52 (by decide) rfl ?_
      refine g_iload_n hC dX12_endOf_54 rfl ?_
      refine g_iload hC dX12_endOf_55 rfl ?_
      refine g_ishr hC dX12_endOf_57 ?_
      refine g_iconst (v := (1 : Int32)) hC dX12_endOf_58 (by decide) ?_
      refine g_iand hC dX12_endOf_59 ?_
      refine g_if_ne (tgt := 90) hC dX12_endOf_60 (by decide) (fun hc37 => ?_) (fun hc37 => ?_)
      · rw [if_neg hc37] at h
        refine g_iconst (v := (-1 : Int32)) hC dX12_endOf_90 (by decide) ?_
        refine g_istore (L' := [(6, .int (-1 : Int32)), (8, .int (wI S q34 ((240 : Int32) + x7).toNatClampNeg)), (0, .ref x0), (1, .int x1), (2, .int x2), (3, .int x3), (4, .int x4), (5, .int x5), (7, .int x7)]) hC dX12_endOf_91 (by decide) rfl ?_
        refine g_iinc (v := (1 : Int32)) (L' := [(7, .int (x7 + (1 : Int32))), (6, .int (-1 : Int32)), (8, .int (wI S q34 ((240 : Int32) + x7).toNatClampNeg)), (0, .ref x0), (1, .int x1), (2, .int x2), (3, .int x3), (4, .int x4), (5, .int x5)]) hC dX12_endOf_93 rfl (by decide) (by decide) rfl ?_
        refine g_goto (tgt := 24) hC dX12_endOf_96 (by decide) ?_
        cases h
        refine g_pick (L' := [(0, .ref x0), (1, .int x1), (2, .int x2), (3, .int x3), (4, .int x4), (5, .int x5), (6, .int (-1 : Int32)), (7, .int (x7 + (1 : Int32)))]) [3, 4, 5, 6, 7, 8, 1, 0] rfl ?_
        exact hk _ _ _ _ _ rfl
      · rw [if_pos hc37] at h
        refine g_iload hC dX12_endOf_63 rfl ?_
        refine g_bipush (v := (8 : Int32)) hC dX12_endOf_65 (by decide) ?_
        refine g_irm hC dX12_endOf_67 (by decide) ?_
        refine g_iload_n hC dX12_endOf_68 rfl ?_
        refine g_icmp_ne (tgt := 90) hC dX12_endOf_69 (by decide) (fun hc38 => ?_) (fun hc38 => ?_)
        · rw [if_neg hc38] at h
          refine g_iconst (v := (-1 : Int32)) hC dX12_endOf_90 (by decide) ?_
          refine g_istore (L' := [(6, .int (-1 : Int32)), (8, .int (wI S q34 ((240 : Int32) + x7).toNatClampNeg)), (0, .ref x0), (1, .int x1), (2, .int x2), (3, .int x3), (4, .int x4), (5, .int x5), (7, .int x7)]) hC dX12_endOf_91 (by decide) rfl ?_
          refine g_iinc (v := (1 : Int32)) (L' := [(7, .int (x7 + (1 : Int32))), (6, .int (-1 : Int32)), (8, .int (wI S q34 ((240 : Int32) + x7).toNatClampNeg)), (0, .ref x0), (1, .int x1), (2, .int x2), (3, .int x3), (4, .int x4), (5, .int x5)]) hC dX12_endOf_93 rfl (by decide) (by decide) rfl ?_
          refine g_goto (tgt := 24) hC dX12_endOf_96 (by decide) ?_
          cases h
          refine g_pick (L' := [(0, .ref x0), (1, .int x1), (2, .int x2), (3, .int x3), (4, .int x4), (5, .int x5), (6, .int (-1 : Int32)), (7, .int (x7 + (1 : Int32)))]) [3, 4, 5, 6, 7, 8, 1, 0] rfl ?_
          exact hk _ _ _ _ _ rfl
        · rw [if_pos hc38] at h
          refine g_iload hC dX12_endOf_72 rfl ?_
          refine g_bipush (v := (8 : Int32)) hC dX12_endOf_74 (by decide) ?_
          refine g_idiv hC dX12_endOf_76 (by decide) ?_
          refine g_bipush (v := (10 : Int32)) hC dX12_endOf_77 (by decide) ?_
          refine g_irm hC dX12_endOf_79 (by decide) ?_
          refine g_iload hC dX12_endOf_80 rfl ?_
          refine g_icmp_ne (tgt := 90) hC dX12_endOf_82 (by decide) (fun hc39 => ?_) (fun hc39 => ?_)
          · rw [if_neg hc39] at h
            refine g_iconst (v := (-1 : Int32)) hC dX12_endOf_90 (by decide) ?_
            refine g_istore (L' := [(6, .int (-1 : Int32)), (8, .int (wI S q34 ((240 : Int32) + x7).toNatClampNeg)), (0, .ref x0), (1, .int x1), (2, .int x2), (3, .int x3), (4, .int x4), (5, .int x5), (7, .int x7)]) hC dX12_endOf_91 (by decide) rfl ?_
            refine g_iinc (v := (1 : Int32)) (L' := [(7, .int (x7 + (1 : Int32))), (6, .int (-1 : Int32)), (8, .int (wI S q34 ((240 : Int32) + x7).toNatClampNeg)), (0, .ref x0), (1, .int x1), (2, .int x2), (3, .int x3), (4, .int x4), (5, .int x5)]) hC dX12_endOf_93 rfl (by decide) (by decide) rfl ?_
            refine g_goto (tgt := 24) hC dX12_endOf_96 (by decide) ?_
            cases h
            refine g_pick (L' := [(0, .ref x0), (1, .int x1), (2, .int x2), (3, .int x3), (4, .int x4), (5, .int x5), (6, .int (-1 : Int32)), (7, .int (x7 + (1 : Int32)))]) [3, 4, 5, 6, 7, 8, 1, 0] rfl ?_
            exact hk _ _ _ _ _ rfl
          · rw [if_pos hc39] at h
            refine g_iload hC dX12_endOf_85 rfl ?_
            refine g_goto (tgt := 91) hC dX12_endOf_87 (by decide) ?_
            refine g_istore (L' := [(6, .int x7), (8, .int (wI S q34 ((240 : Int32) + x7).toNatClampNeg)), (0, .ref x0), (1, .int x1), (2, .int x2), (3, .int x3), (4, .int x4), (5, .int x5), (7, .int x7)]) hC dX12_endOf_91 (by decide) rfl ?_
            refine g_iinc (v := (1 : Int32)) (L' := [(7, .int (x7 + (1 : Int32))), (6, .int x7), (8, .int (wI S q34 ((240 : Int32) + x7).toNatClampNeg)), (0, .ref x0), (1, .int x1), (2, .int x2), (3, .int x3), (4, .int x4), (5, .int x5)]) hC dX12_endOf_93 rfl (by decide) (by decide) rfl ?_
            refine g_goto (tgt := 24) hC dX12_endOf_96 (by decide) ?_
            cases h
            refine g_pick (L' := [(0, .ref x0), (1, .int x1), (2, .int x2), (3, .int x3), (4, .int x4), (5, .int x5), (6, .int x7), (7, .int (x7 + (1 : Int32)))]) [3, 4, 5, 6, 7, 8, 1, 0] rfl ?_
            exact hk _ _ _ _ _ rfl
theorem w_X12_endOf {b : Bd} {r : Int32 × Wd} (hC : CX b yX12_endOf.cls cX12_endOf 9 { frames := 0, cells := 0, slots := 0, locals := 0 }) (hin : yX12_endOf.name = "<init>" → b.2.2.2.2.2.2.2.2.1.name = "<init>") (hR : RT b (some .int) (some (.int r.1)) r.2 0 0) {s : Cs} {c : (Int32 × Wd) ⊕ Cs} (h : B_X12_endOf s = some c) (hk : N_X12_endOf b r c) : ∀ pc L S kc ks, P_X12_endOf s = some (pc, L, S, kc, ks) → G b pc L [] S kc ks := by
  intro pc L S kc ks hp
  unfold B_X12_endOf at h
  split at h
  · cases hp
    exact w_X12_endOf_0 hC hin hR h hk
  · cases hp
    exact w_X12_endOf_1 hC hin hR h hk
  · cases hp
    exact w_X12_endOf_2 hC hin hR h hk
  · cases h
theorem k_X12_endOf {S : Wd} {a0 : Nat} {a1 : Int32} {a2 : Int32} {r : Int32} {S' : Wd} (h : f_X12_endOf S a0 a1 a2 = some (r, S')) : Sp yX12_endOf cX12_endOf 9 (some .int) 0 0 0 0 [.ref a0, .int a1, .int a2] S (some (.int r)) S' := by
  unfold f_X12_endOf at h
  refine Sp.of (by decide +kernel) (Nat.le_of_ble_eq_true rfl) ?_
  intro b hC hin hR
  exact ru_ind (P := fun s q0 => q0 = (r, S') → ∀ pc L S kc ks, P_X12_endOf s = some (pc, L, S, kc, ks) → G b pc L [] S kc ks) (fun s q0 hB e => w_X12_endOf (r := (r, S')) hC hin hR hB e) (fun s s' q0 hB ih e => w_X12_endOf (r := (r, S')) hC hin hR hB (ih e)) h rfl _ _ _ _ _ rfl

theorem mi_X12_chain : MI yX12_chain cX12_chain 5 (some .int) 3 := ⟨tw_1263, tw_14, by decide +kernel, by decide +kernel, by decide +kernel⟩
noncomputable def f_X12_chain (S : Wd) (a0 : Nat) (a1 : Int32) (a2 : Int32) (a3 : Int32) : Option (Int32 × Wd) := gd (ob S a0 12) (bd2 (f_X12_isLoad S a0 a1) (fun r4 S2 => if r4 = 0 then (gd (ob S2 a0 12) (bd2 (f_X12_finding S2 a0 (-100001 : Int32)) (fun r9 S7 => some (r9, S7)))) else (bd2 (f_X12_isFirm S2 a2) (fun r12 S11 => if r12 = 0 then (gd (ob S11 a0 12) (bd2 (f_X12_finding S11 a0 (-100001 : Int32)) (fun r23 S21 => some (r23, S21)))) else (gd (ob S11 a0 12) (bd2 (f_X12_endOf S11 a0 a1 a2) (fun r17 S15 => if a3 = 0 then (gd (ob S15 a0 12) (some ((wI S15 a0 21), S15))) else (some (r17, S15)))))))))
set_option maxRecDepth 100000 in
set_option maxHeartbeats 4000000 in
theorem k_X12_chain {S : Wd} {a0 : Nat} {a1 : Int32} {a2 : Int32} {a3 : Int32} {r : Int32} {S' : Wd} (h : f_X12_chain S a0 a1 a2 a3 = some (r, S')) : Sp yX12_chain cX12_chain 5 (some .int) 2 43 0 0 [.ref a0, .int a1, .int a2, .int a3] S (some (.int r)) S' := by
  unfold f_X12_chain at h
  refine Sp.of (by decide +kernel) (Nat.le_of_ble_eq_true rfl) ?_
  intro b hC hin hR
  show G b 0 [(0, .ref a0), (1, .int a1), (2, .int a2), (3, .int a3)] [] S 0 0
  refine g_aload_n hC dX12_chain_0 rfl ?_
  refine g_iload_n hC dX12_chain_1 rfl ?_
  obtain ⟨ho3, h⟩ := gd_some h
  obtain ⟨r4, S2, hr1, h⟩ := bd2_some h
  refine g_callV (rest := []) hC mi_X12_isLoad (k_X12_isLoad hr1) ck_X12.1 (by decide) ho3 tw_1135 tw_1137 ts_29 dX12_chain_2 rfl rfl ⟨by decide, by decide⟩ (Nat.le_of_ble_eq_true rfl) ⟨by decide, by decide⟩ ?_
  refine g_if_eq (tgt := 15) hC dX12_chain_5 (by decide) (fun hc5 => ?_) (fun hc5 => ?_)
  · rw [if_pos hc5] at h
    refine g_aload_n hC dX12_chain_15 rfl ?_
    refine g_ldc hC tw_1083 dX12_chain_16 ?_
    obtain ⟨ho8, h⟩ := gd_some h
    obtain ⟨r9, S7, hr6, h⟩ := bd2_some h
    refine g_callV (rest := []) hC mi_X12_finding (k_X12_finding hr6) ck_X12.1 (by decide) ho8 tw_1069 tw_1071 ts_24 dX12_chain_18 rfl rfl ⟨by decide, by decide⟩ (Nat.le_of_ble_eq_true rfl) ⟨by decide, by decide⟩ ?_
    cases h
    exact g_iret hC hR dX12_chain_21 (by decide) (by decide)
  · rw [if_neg hc5] at h
    refine g_iload_n hC dX12_chain_8 rfl ?_
    obtain ⟨r12, S11, hr10, h⟩ := bd2_some h
    refine g_callS (rest := []) hC mi_X12_isFirm (k_X12_isFirm hr10) tw_1257 tw_1258 dX12_chain_9 rfl rfl ⟨by decide, by decide⟩ (Nat.le_of_ble_eq_true rfl) ⟨by decide, by decide⟩ ?_
    refine g_if_ne (tgt := 22) hC dX12_chain_12 (by decide) (fun hc13 => ?_) (fun hc13 => ?_)
    · rw [if_neg hc13] at h
      refine g_aload_n hC dX12_chain_22 rfl ?_
      refine g_iload_n hC dX12_chain_23 rfl ?_
      refine g_iload_n hC dX12_chain_24 rfl ?_
      obtain ⟨ho16, h⟩ := gd_some h
      obtain ⟨r17, S15, hr14, h⟩ := bd2_some h
      refine g_callV (rest := []) hC mi_X12_endOf (k_X12_endOf hr14) ck_X12.1 (by decide) ho16 tw_1264 tw_1266 ts_43 dX12_chain_25 rfl rfl ⟨by decide, by decide⟩ (Nat.le_of_ble_eq_true rfl) ⟨by decide, by decide⟩ ?_
      refine g_istore (L' := [(4, .int r17), (0, .ref a0), (1, .int a1), (2, .int a2), (3, .int a3)]) hC dX12_chain_28 (by decide) rfl ?_
      refine g_iload_n hC dX12_chain_30 rfl ?_
      refine g_if_eq (tgt := 39) hC dX12_chain_31 (by decide) (fun hc18 => ?_) (fun hc18 => ?_)
      · rw [if_pos hc18] at h
        refine g_aload_n hC dX12_chain_39 rfl ?_
        obtain ⟨ho19, h⟩ := gd_some h
        refine g_geti (k := 21) hC ck_X12 (by decide) tw_1005 rfl (by decide) dX12_chain_40 ho19 ?_
        cases h
        exact g_iret hC hR dX12_chain_43 (by decide) (by decide)
      · rw [if_neg hc18] at h
        refine g_iload hC dX12_chain_34 rfl ?_
        refine g_goto (tgt := 43) hC dX12_chain_36 (by decide) ?_
        cases h
        exact g_iret hC hR dX12_chain_43 (by decide) (by decide)
    · rw [if_pos hc13] at h
      refine g_aload_n hC dX12_chain_15 rfl ?_
      refine g_ldc hC tw_1083 dX12_chain_16 ?_
      obtain ⟨ho22, h⟩ := gd_some h
      obtain ⟨r23, S21, hr20, h⟩ := bd2_some h
      refine g_callV (rest := []) hC mi_X12_finding (k_X12_finding hr20) ck_X12.1 (by decide) ho22 tw_1069 tw_1071 ts_24 dX12_chain_18 rfl rfl ⟨by decide, by decide⟩ (Nat.le_of_ble_eq_true rfl) ⟨by decide, by decide⟩ ?_
      cases h
      exact g_iret hC hR dX12_chain_21 (by decide) (by decide)

theorem mi_X12_doubles : MI yX12_doubles cX12_doubles 7 (some .int) 1 := ⟨tw_1271, tw_14, by decide +kernel, by decide +kernel, by decide +kernel⟩
noncomputable def B_X12_doubles_0 (S : Wd) (a0 : Nat) (a1 : Int32) : Option ((Int32 × Wd) ⊕ Cs) := gd (ob S a0 12) (bd2 (f_X12_isLoad S a0 a1) (fun r4 S2 => if r4 = 0 then (gd (ob S2 a0 12) (bd2 (f_X12_finding S2 a0 (-100001 : Int32)) (fun r9 S7 => some (.inl (r9, S7))))) else (some (.inr (1, [a0], [a1, (0 : Int32), (0 : Int32)], S2)))))
noncomputable def B_X12_doubles_1 (S : Wd) (x0 : Nat) (x1 : Int32) (x2 : Int32) (x3 : Int32) : Option ((Int32 × Wd) ⊕ Cs) := if (10 : Int32) ≤ x3 then (some (.inl (x2, S))) else (some (.inr (2, [x0], [x1, x2, x3, (0 : Int32), (0 : Int32)], S)))
noncomputable def B_X12_doubles_2 (S : Wd) (x0 : Nat) (x1 : Int32) (x2 : Int32) (x3 : Int32) (x4 : Int32) (x5 : Int32) : Option ((Int32 × Wd) ⊕ Cs) := gd (ob S x0 12) (Option.bind (wO S x0 0) (fun q12 => gd (ix S q12 100 (67 : Int32)) (if (wI S q12 (67 : Int32).toNatClampNeg) ≤ x5 then (if (x4 &&& (x4 - (1 : Int32))) = 0 then (some (.inr (1, [x0], [x1, (x2 + (0 : Int32)), (x3 + (1 : Int32))], S))) else (some (.inr (1, [x0], [x1, (x2 + (1 : Int32)), (x3 + (1 : Int32))], S)))) else (gd (ob S x0 12) (Option.bind (wO S x0 0) (fun q18 => gd (ix S q18 100 ((240 : Int32) + x5)) (if (irm (wI S q18 ((240 : Int32) + x5).toNatClampNeg) (8 : Int32)) = x1 then (if (irm ((wI S q18 ((240 : Int32) + x5).toNatClampNeg) / (8 : Int32)) (10 : Int32)) = x3 then (some (.inr (2, [x0], [x1, x2, x3, (x4 ||| ((1 : Int32) <<< (((wI S q18 ((240 : Int32) + x5).toNatClampNeg) / (80 : Int32)) &&& 31))), (x5 + (1 : Int32))], S))) else (some (.inr (2, [x0], [x1, x2, x3, (x4 ||| (0 : Int32)), (x5 + (1 : Int32))], S)))) else (some (.inr (2, [x0], [x1, x2, x3, (x4 ||| (0 : Int32)), (x5 + (1 : Int32))], S))))))))))
noncomputable def B_X12_doubles : Cs → Option ((Int32 × Wd) ⊕ Cs)
  | (0, [a0], [a1], S) => B_X12_doubles_0 S a0 a1
  | (1, [x0], [x1, x2, x3], S) => B_X12_doubles_1 S x0 x1 x2 x3
  | (2, [x0], [x1, x2, x3, x4, x5], S) => B_X12_doubles_2 S x0 x1 x2 x3 x4 x5
  | _ => none
def P_X12_doubles : Cs → Option (Nat × List (Nat × Value) × Wd × Nat × Nat)
  | (0, [a0], [a1], S) => some (0, [(0, .ref a0), (1, .int a1)], S, 0, 0)
  | (1, [x0], [x1, x2, x3], S) => some (19, [(0, .ref x0), (1, .int x1), (2, .int x2), (3, .int x3)], S, 0, 0)
  | (2, [x0], [x1, x2, x3, x4, x5], S) => some (31, [(0, .ref x0), (1, .int x1), (2, .int x2), (3, .int x3), (4, .int x4), (5, .int x5)], S, 0, 0)
  | _ => none
noncomputable def f_X12_doubles (S : Wd) (a0 : Nat) (a1 : Int32) : Option (Int32 × Wd) := ru B_X12_doubles (0, [a0], [a1], S)
abbrev N_X12_doubles (b : Bd) (r : Int32 × Wd) (c : (Int32 × Wd) ⊕ Cs) : Prop := match c with
  | .inl r' => r' = r
  | .inr s' => ∀ pc L S kc ks, P_X12_doubles s' = some (pc, L, S, kc, ks) → G b pc L [] S kc ks
set_option maxRecDepth 100000 in
set_option maxHeartbeats 4000000 in
theorem w_X12_doubles_0 {b : Bd} {r : Int32 × Wd} (hC : CX b yX12_doubles.cls cX12_doubles 7 { frames := 2, cells := 0, slots := 0, locals := 43 }) (hin : yX12_doubles.name = "<init>" → b.2.2.2.2.2.2.2.2.1.name = "<init>") (hR : RT b (some .int) (some (.int r.1)) r.2 0 0) {S : Wd} {a0 : Nat} {a1 : Int32} {c : (Int32 × Wd) ⊕ Cs} (h : B_X12_doubles_0 S a0 a1 = some c) (hk : N_X12_doubles b r c) : G b 0 [(0, .ref a0), (1, .int a1)] [] S 0 0 := by
  unfold B_X12_doubles_0 at h
  refine g_aload_n hC dX12_doubles_0 rfl ?_
  refine g_iload_n hC dX12_doubles_1 rfl ?_
  obtain ⟨ho3, h⟩ := gd_some h
  obtain ⟨r4, S2, hr1, h⟩ := bd2_some h
  refine g_callV (rest := []) hC mi_X12_isLoad (k_X12_isLoad hr1) ck_X12.1 (by decide) ho3 tw_1135 tw_1137 ts_29 dX12_doubles_2 rfl rfl ⟨by decide, by decide⟩ (Nat.le_of_ble_eq_true rfl) ⟨by decide, by decide⟩ ?_
  refine g_if_ne (tgt := 15) hC dX12_doubles_5 (by decide) (fun hc5 => ?_) (fun hc5 => ?_)
  · rw [if_neg hc5] at h
    refine g_iconst (v := (0 : Int32)) hC dX12_doubles_15 (by decide) ?_
    refine g_istore_n (L' := [(2, .int (0 : Int32)), (0, .ref a0), (1, .int a1)]) hC dX12_doubles_16 (by decide) rfl ?_
    refine g_iconst (v := (0 : Int32)) hC dX12_doubles_17 (by decide) ?_
    refine g_istore_n (L' := [(3, .int (0 : Int32)), (2, .int (0 : Int32)), (0, .ref a0), (1, .int a1)]) hC dX12_doubles_18 (by decide) rfl ?_
    cases h
    refine g_pick (L' := [(0, .ref a0), (1, .int a1), (2, .int (0 : Int32)), (3, .int (0 : Int32))]) [2, 3, 1, 0] rfl ?_
    exact hk _ _ _ _ _ rfl
  · rw [if_pos hc5] at h
    refine g_aload_n hC dX12_doubles_8 rfl ?_
    refine g_ldc hC tw_1083 dX12_doubles_9 ?_
    obtain ⟨ho8, h⟩ := gd_some h
    obtain ⟨r9, S7, hr6, h⟩ := bd2_some h
    refine g_callV (rest := []) hC mi_X12_finding (k_X12_finding hr6) ck_X12.1 (by decide) ho8 tw_1069 tw_1071 ts_24 dX12_doubles_11 rfl rfl ⟨by decide, by decide⟩ (Nat.le_of_ble_eq_true rfl) ⟨by decide, by decide⟩ ?_
    cases h
    subst hk
    exact g_iret hC hR dX12_doubles_14 (by decide) (by decide)
set_option maxRecDepth 100000 in
set_option maxHeartbeats 4000000 in
theorem w_X12_doubles_1 {b : Bd} {r : Int32 × Wd} (hC : CX b yX12_doubles.cls cX12_doubles 7 { frames := 2, cells := 0, slots := 0, locals := 43 }) (hin : yX12_doubles.name = "<init>" → b.2.2.2.2.2.2.2.2.1.name = "<init>") (hR : RT b (some .int) (some (.int r.1)) r.2 0 0) {S : Wd} {x0 : Nat} {x1 : Int32} {x2 : Int32} {x3 : Int32} {c : (Int32 × Wd) ⊕ Cs} (h : B_X12_doubles_1 S x0 x1 x2 x3 = some c) (hk : N_X12_doubles b r c) : G b 19 [(0, .ref x0), (1, .int x1), (2, .int x2), (3, .int x3)] [] S 0 0 := by
  unfold B_X12_doubles_1 at h
  refine g_iload_n hC dX12_doubles_19 rfl ?_
  refine g_bipush (v := (10 : Int32)) hC dX12_doubles_20 (by decide) ?_
  refine g_icmp_ge (tgt := 123) hC dX12_doubles_22 (by decide) (fun hc10 => ?_) (fun hc10 => ?_)
  · rw [if_pos hc10] at h
    refine g_iload_n hC dX12_doubles_123 rfl ?_
    cases h
    subst hk
    exact g_iret hC hR dX12_doubles_124 (by decide) (by decide)
  · rw [if_neg hc10] at h
    refine g_iconst (v := (0 : Int32)) hC dX12_doubles_25 (by decide) ?_
    refine g_istore (L' := [(4, .int (0 : Int32)), (0, .ref x0), (1, .int x1), (2, .int x2), (3, .int x3)]) hC dX12_doubles_26 (by decide) rfl ?_
    refine g_iconst (v := (0 : Int32)) hC dX12_doubles_28 (by decide) ?_
    refine g_istore (L' := [(5, .int (0 : Int32)), (4, .int (0 : Int32)), (0, .ref x0), (1, .int x1), (2, .int x2), (3, .int x3)]) hC dX12_doubles_29 (by decide) rfl ?_
    cases h
    refine g_pick (L' := [(0, .ref x0), (1, .int x1), (2, .int x2), (3, .int x3), (4, .int (0 : Int32)), (5, .int (0 : Int32))]) [2, 3, 4, 5, 1, 0] rfl ?_
    exact hk _ _ _ _ _ rfl
set_option maxRecDepth 100000 in
set_option maxHeartbeats 4000000 in
theorem w_X12_doubles_2 {b : Bd} {r : Int32 × Wd} (hC : CX b yX12_doubles.cls cX12_doubles 7 { frames := 2, cells := 0, slots := 0, locals := 43 }) (hin : yX12_doubles.name = "<init>" → b.2.2.2.2.2.2.2.2.1.name = "<init>") (hR : RT b (some .int) (some (.int r.1)) r.2 0 0) {S : Wd} {x0 : Nat} {x1 : Int32} {x2 : Int32} {x3 : Int32} {x4 : Int32} {x5 : Int32} {c : (Int32 × Wd) ⊕ Cs} (h : B_X12_doubles_2 S x0 x1 x2 x3 x4 x5 = some c) (hk : N_X12_doubles b r c) : G b 31 [(0, .ref x0), (1, .int x1), (2, .int x2), (3, .int x3), (4, .int x4), (5, .int x5)] [] S 0 0 := by
  unfold B_X12_doubles_2 at h
  refine g_iload hC dX12_doubles_31 rfl ?_
  refine g_aload_n hC dX12_doubles_33 rfl ?_
  obtain ⟨ho11, h⟩ := gd_some h
  obtain ⟨q12, hq13, h⟩ := Option.bind_eq_some_iff.mp h
  refine g_getr (k := 0) (q := q12) hC ck_X12 (by decide) tw_984 rfl (by decide) dX12_doubles_34 ho11 hq13 ?_
  refine g_bipush (v := (67 : Int32)) hC dX12_doubles_37 (by decide) ?_
  obtain ⟨hx14, h⟩ := gd_some h
  refine g_iald hC dX12_doubles_39 hx14.1 hx14.2 ?_
  refine g_icmp_ge (tgt := 99) hC dX12_doubles_40 (by decide) (fun hc15 => ?_) (fun hc15 => ?_)
  · rw [if_pos hc15] at h
    refine g_iload_n hC dX12_doubles_99 rfl ?_
    refine g_iload hC dX12_doubles_100 rfl ?_
    refine g_iload hC dX12_doubles_102 rfl ?_
    refine g_iconst (v := (1 : Int32)) hC dX12_doubles_104 (by decide) ?_
    refine g_isub hC dX12_doubles_105 ?_
    refine g_iand hC dX12_doubles_106 ?_
    refine g_if_eq (tgt := 114) hC dX12_doubles_107 (by decide) (fun hc16 => ?_) (fun hc16 => ?_)
    · rw [if_pos hc16] at h
      refine g_iconst (v := (0 : Int32)) hC dX12_doubles_114 (by decide) ?_
      refine g_iadd hC dX12_doubles_115 ?_
      refine g_istore_n (L' := [(2, .int (x2 + (0 : Int32))), (0, .ref x0), (1, .int x1), (3, .int x3), (4, .int x4), (5, .int x5)]) hC dX12_doubles_116 (by decide) rfl ?_
      refine g_iinc (v := (1 : Int32)) (L' := [(3, .int (x3 + (1 : Int32))), (2, .int (x2 + (0 : Int32))), (0, .ref x0), (1, .int x1), (4, .int x4), (5, .int x5)]) hC dX12_doubles_117 rfl (by decide) (by decide) rfl ?_
      refine g_goto (tgt := 19) hC dX12_doubles_120 (by decide) ?_
      cases h
      refine g_pick (L' := [(0, .ref x0), (1, .int x1), (2, .int (x2 + (0 : Int32))), (3, .int (x3 + (1 : Int32)))]) [2, 3, 1, 0] rfl ?_
      exact hk _ _ _ _ _ rfl
    · rw [if_neg hc16] at h
      refine g_iconst (v := (1 : Int32)) hC dX12_doubles_110 (by decide) ?_
      refine g_goto (tgt := 115) hC dX12_doubles_111 (by decide) ?_
      refine g_iadd hC dX12_doubles_115 ?_
      refine g_istore_n (L' := [(2, .int (x2 + (1 : Int32))), (0, .ref x0), (1, .int x1), (3, .int x3), (4, .int x4), (5, .int x5)]) hC dX12_doubles_116 (by decide) rfl ?_
      refine g_iinc (v := (1 : Int32)) (L' := [(3, .int (x3 + (1 : Int32))), (2, .int (x2 + (1 : Int32))), (0, .ref x0), (1, .int x1), (4, .int x4), (5, .int x5)]) hC dX12_doubles_117 rfl (by decide) (by decide) rfl ?_
      refine g_goto (tgt := 19) hC dX12_doubles_120 (by decide) ?_
      cases h
      refine g_pick (L' := [(0, .ref x0), (1, .int x1), (2, .int (x2 + (1 : Int32))), (3, .int (x3 + (1 : Int32)))]) [2, 3, 1, 0] rfl ?_
      exact hk _ _ _ _ _ rfl
  · rw [if_neg hc15] at h
    refine g_aload_n hC dX12_doubles_43 rfl ?_
    obtain ⟨ho17, h⟩ := gd_some h
    obtain ⟨q18, hq19, h⟩ := Option.bind_eq_some_iff.mp h
    refine g_getr (k := 0) (q := q18) hC ck_X12 (by decide) tw_984 rfl (by decide) dX12_doubles_44 ho17 hq19 ?_
    refine g_sipush (v := (240 : Int32)) hC dX12_doubles_47 (by decide) ?_
    refine g_iload hC dX12_doubles_50 rfl ?_
    refine g_iadd hC dX12_doubles_52 ?_
    obtain ⟨hx20, h⟩ := gd_some h
    refine g_iald hC dX12_doubles_53 hx20.1 hx20.2 ?_
    refine g_istore (L' := [(6, .int (wI S q18 ((240 : Int32) + x5).toNatClampNeg)), (0, .ref x0), (1, .int x1), (2, .int x2), (3, .int x3), (4, .int x4), (5, .int x5)]) hC dX12_doubles_54 (by decide) rfl ?_
    refine g_iload hC dX12_doubles_56 rfl ?_
    refine g_iload hC dX12_doubles_58 rfl ?_
    refine g_bipush (v := (8 : Int32)) hC dX12_doubles_60 (by decide) ?_
    refine g_irm hC dX12_doubles_62 (by decide) ?_
    refine g_iload_n hC dX12_doubles_63 rfl ?_
    refine g_icmp_ne (tgt := 89) hC dX12_doubles_64 (by decide) (fun hc21 => ?_) (fun hc21 => ?_)
    · rw [if_neg hc21] at h
      refine g_iconst (v := (0 : Int32)) hC dX12_doubles_89 (by decide) ?_
      refine g_ior hC dX12_doubles_90 ?_
      refine g_istore (L' := [(4, .int (x4 ||| (0 : Int32))), (6, .int (wI S q18 ((240 : Int32) + x5).toNatClampNeg)), (0, .ref x0), (1, .int x1), (2, .int x2), (3, .int x3), (5, .int x5)]) hC dX12_doubles_91 (by decide) rfl ?_
      refine g_iinc (v := (1 : Int32)) (L' := [(5, .int (x5 + (1 : Int32))), (4, .int (x4 ||| (0 : Int32))), (6, .int (wI S q18 ((240 : Int32) + x5).toNatClampNeg)), (0, .ref x0), (1, .int x1), (2, .int x2), (3, .int x3)]) hC dX12_doubles_93 rfl (by decide) (by decide) rfl ?_
      refine g_goto (tgt := 31) hC dX12_doubles_96 (by decide) ?_
      cases h
      refine g_pick (L' := [(0, .ref x0), (1, .int x1), (2, .int x2), (3, .int x3), (4, .int (x4 ||| (0 : Int32))), (5, .int (x5 + (1 : Int32)))]) [3, 4, 5, 6, 1, 0] rfl ?_
      exact hk _ _ _ _ _ rfl
    · rw [if_pos hc21] at h
      refine g_iload hC dX12_doubles_67 rfl ?_
      refine g_bipush (v := (8 : Int32)) hC dX12_doubles_69 (by decide) ?_
      refine g_idiv hC dX12_doubles_71 (by decide) ?_
      refine g_bipush (v := (10 : Int32)) hC dX12_doubles_72 (by decide) ?_
      refine g_irm hC dX12_doubles_74 (by decide) ?_
      refine g_iload_n hC dX12_doubles_75 rfl ?_
      refine g_icmp_ne (tgt := 89) hC dX12_doubles_76 (by decide) (fun hc22 => ?_) (fun hc22 => ?_)
      · rw [if_neg hc22] at h
        refine g_iconst (v := (0 : Int32)) hC dX12_doubles_89 (by decide) ?_
        refine g_ior hC dX12_doubles_90 ?_
        refine g_istore (L' := [(4, .int (x4 ||| (0 : Int32))), (6, .int (wI S q18 ((240 : Int32) + x5).toNatClampNeg)), (0, .ref x0), (1, .int x1), (2, .int x2), (3, .int x3), (5, .int x5)]) hC dX12_doubles_91 (by decide) rfl ?_
        refine g_iinc (v := (1 : Int32)) (L' := [(5, .int (x5 + (1 : Int32))), (4, .int (x4 ||| (0 : Int32))), (6, .int (wI S q18 ((240 : Int32) + x5).toNatClampNeg)), (0, .ref x0), (1, .int x1), (2, .int x2), (3, .int x3)]) hC dX12_doubles_93 rfl (by decide) (by decide) rfl ?_
        refine g_goto (tgt := 31) hC dX12_doubles_96 (by decide) ?_
        cases h
        refine g_pick (L' := [(0, .ref x0), (1, .int x1), (2, .int x2), (3, .int x3), (4, .int (x4 ||| (0 : Int32))), (5, .int (x5 + (1 : Int32)))]) [3, 4, 5, 6, 1, 0] rfl ?_
        exact hk _ _ _ _ _ rfl
      · rw [if_pos hc22] at h
        refine g_iconst (v := (1 : Int32)) hC dX12_doubles_79 (by decide) ?_
        refine g_iload hC dX12_doubles_80 rfl ?_
        refine g_bipush (v := (80 : Int32)) hC dX12_doubles_82 (by decide) ?_
        refine g_idiv hC dX12_doubles_84 (by decide) ?_
        refine g_ishl hC dX12_doubles_85 ?_
        refine g_goto (tgt := 90) hC dX12_doubles_86 (by decide) ?_
        refine g_ior hC dX12_doubles_90 ?_
        refine g_istore (L' := [(4, .int (x4 ||| ((1 : Int32) <<< (((wI S q18 ((240 : Int32) + x5).toNatClampNeg) / (80 : Int32)) &&& 31)))), (6, .int (wI S q18 ((240 : Int32) + x5).toNatClampNeg)), (0, .ref x0), (1, .int x1), (2, .int x2), (3, .int x3), (5, .int x5)]) hC dX12_doubles_91 (by decide) rfl ?_
        refine g_iinc (v := (1 : Int32)) (L' := [(5, .int (x5 + (1 : Int32))), (4, .int (x4 ||| ((1 : Int32) <<< (((wI S q18 ((240 : Int32) + x5).toNatClampNeg) / (80 : Int32)) &&& 31)))), (6, .int (wI S q18 ((240 : Int32) + x5).toNatClampNeg)), (0, .ref x0), (1, .int x1), (2, .int x2), (3, .int x3)]) hC dX12_doubles_93 rfl (by decide) (by decide) rfl ?_
        refine g_goto (tgt := 31) hC dX12_doubles_96 (by decide) ?_
        cases h
        refine g_pick (L' := [(0, .ref x0), (1, .int x1), (2, .int x2), (3, .int x3), (4, .int (x4 ||| ((1 : Int32) <<< (((wI S q18 ((240 : Int32) + x5).toNatClampNeg) / (80 : Int32)) &&& 31)))), (5, .int (x5 + (1 : Int32)))]) [3, 4, 5, 6, 1, 0] rfl ?_
        exact hk _ _ _ _ _ rfl
theorem w_X12_doubles {b : Bd} {r : Int32 × Wd} (hC : CX b yX12_doubles.cls cX12_doubles 7 { frames := 2, cells := 0, slots := 0, locals := 43 }) (hin : yX12_doubles.name = "<init>" → b.2.2.2.2.2.2.2.2.1.name = "<init>") (hR : RT b (some .int) (some (.int r.1)) r.2 0 0) {s : Cs} {c : (Int32 × Wd) ⊕ Cs} (h : B_X12_doubles s = some c) (hk : N_X12_doubles b r c) : ∀ pc L S kc ks, P_X12_doubles s = some (pc, L, S, kc, ks) → G b pc L [] S kc ks := by
  intro pc L S kc ks hp
  unfold B_X12_doubles at h
  split at h
  · cases hp
    exact w_X12_doubles_0 hC hin hR h hk
  · cases hp
    exact w_X12_doubles_1 hC hin hR h hk
  · cases hp
    exact w_X12_doubles_2 hC hin hR h hk
  · cases h
theorem k_X12_doubles {S : Wd} {a0 : Nat} {a1 : Int32} {r : Int32} {S' : Wd} (h : f_X12_doubles S a0 a1 = some (r, S')) : Sp yX12_doubles cX12_doubles 7 (some .int) 2 43 0 0 [.ref a0, .int a1] S (some (.int r)) S' := by
  unfold f_X12_doubles at h
  refine Sp.of (by decide +kernel) (Nat.le_of_ble_eq_true rfl) ?_
  intro b hC hin hR
  exact ru_ind (P := fun s q0 => q0 = (r, S') → ∀ pc L S kc ks, P_X12_doubles s = some (pc, L, S, kc, ks) → G b pc L [] S kc ks) (fun s q0 hB e => w_X12_doubles (r := (r, S')) hC hin hR hB e) (fun s s' q0 hB ih e => w_X12_doubles (r := (r, S')) hC hin hR hB (ih e)) h rfl _ _ _ _ _ rfl

theorem mi_X12_report : MI yX12_report cX12_report 4 (some .int) 3 := ⟨tw_1275, tw_14, by decide +kernel, by decide +kernel, by decide +kernel⟩
noncomputable def f_X12_report (S : Wd) (a0 : Nat) (a1 : Int32) (a2 : Int32) (a3 : Int32) : Option (Int32 × Wd) := gd (ob S a0 12) (bd2 (f_X12_isLorry S a0 a1) (fun r4 S2 => if r4 = 0 then (gd (ob S2 a0 12) (bd2 (f_X12_finding S2 a0 (-100001 : Int32)) (fun r9 S7 => some (r9, S7)))) else (bd2 (f_X12_isTown S2 a2) (fun r12 S11 => if r12 = 0 then (gd (ob S11 a0 12) (bd2 (f_X12_finding S11 a0 (-100001 : Int32)) (fun r17 S15 => some (r17, S15)))) else (bd2 (f_X12_within S11 a3 (0 : Int32) (4000 : Int32)) (fun r20 S19 => if r20 = 0 then (gd (ob S19 a0 12) (bd2 (f_X12_finding S19 a0 (-100001 : Int32)) (fun r58 S56 => some (r58, S56)))) else (gd (ob S19 a0 12) (Option.bind (wO S19 a0 0) (fun q23 => gd (ix S19 q23 100 (68 : Int32)) (if (wI S19 q23 (68 : Int32).toNatClampNeg) = (30 : Int32) then (gd (ob S19 a0 12) (bd2 (f_X12_finding S19 a0 (-100005 : Int32)) (fun r54 S52 => some (r54, S52)))) else (gd (ob S19 a0 12) (Option.bind (f_X12_keep S19 a0) (fun S28 => gd (ob S28 a0 12) (Option.bind (wO S28 a0 0) (fun q31 => gd (ob S28 a0 12) (Option.bind (wO S28 a0 0) (fun q34 => gd (ix S28 q34 100 (68 : Int32)) (gd (ix S28 q31 100 ((260 : Int32) + (wI S28 q34 (68 : Int32).toNatClampNeg))) (ltS (sI S28 q31 ((260 : Int32) + (wI S28 q34 (68 : Int32).toNatClampNeg)).toNatClampNeg ((a1 + ((6 : Int32) * a2)) + ((48 : Int32) * a3))) (fun S38 => gd (ob S38 a0 12) (Option.bind (wO S38 a0 0) (fun q41 => gd (ix S38 q41 100 (68 : Int32)) (gd (ix S38 q41 100 (68 : Int32)) (ltS (sI S38 q41 (68 : Int32).toNatClampNeg ((wI S38 q41 (68 : Int32).toNatClampNeg) + (1 : Int32))) (fun S45 => gd (ob S45 a0 12) (Option.bind (wO S45 a0 0) (fun q48 => gd (ix S45 q48 100 (68 : Int32)) (some (((wI S45 q48 (68 : Int32).toNatClampNeg) - (1 : Int32)), S45)))))))))))))))))))))))))))))
set_option maxRecDepth 100000 in
set_option maxHeartbeats 4000000 in
theorem k_X12_report {S : Wd} {a0 : Nat} {a1 : Int32} {a2 : Int32} {a3 : Int32} {r : Int32} {S' : Wd} (h : f_X12_report S a0 a1 a2 a3 = some (r, S')) : Sp yX12_report cX12_report 4 (some .int) 2 43 0 0 [.ref a0, .int a1, .int a2, .int a3] S (some (.int r)) S' := by
  unfold f_X12_report at h
  refine Sp.of (by decide +kernel) (Nat.le_of_ble_eq_true rfl) ?_
  intro b hC hin hR
  show G b 0 [(0, .ref a0), (1, .int a1), (2, .int a2), (3, .int a3)] [] S 0 0
  refine g_aload_n hC dX12_report_0 rfl ?_
  refine g_iload_n hC dX12_report_1 rfl ?_
  obtain ⟨ho3, h⟩ := gd_some h
  obtain ⟨r4, S2, hr1, h⟩ := bd2_some h
  refine g_callV (rest := []) hC mi_X12_isLorry (k_X12_isLorry hr1) ck_X12.1 (by decide) ho3 tw_1114 tw_1116 ts_28 dX12_report_2 rfl rfl ⟨by decide, by decide⟩ (Nat.le_of_ble_eq_true rfl) ⟨by decide, by decide⟩ ?_
  refine g_if_eq (tgt := 26) hC dX12_report_5 (by decide) (fun hc5 => ?_) (fun hc5 => ?_)
  · rw [if_pos hc5] at h
    refine g_aload_n hC dX12_report_26 rfl ?_
    refine g_ldc hC tw_1083 dX12_report_27 ?_
    obtain ⟨ho8, h⟩ := gd_some h
    obtain ⟨r9, S7, hr6, h⟩ := bd2_some h
    refine g_callV (rest := []) hC mi_X12_finding (k_X12_finding hr6) ck_X12.1 (by decide) ho8 tw_1069 tw_1071 ts_24 dX12_report_29 rfl rfl ⟨by decide, by decide⟩ (Nat.le_of_ble_eq_true rfl) ⟨by decide, by decide⟩ ?_
    cases h
    exact g_iret hC hR dX12_report_32 (by decide) (by decide)
  · rw [if_neg hc5] at h
    refine g_iload_n hC dX12_report_8 rfl ?_
    obtain ⟨r12, S11, hr10, h⟩ := bd2_some h
    refine g_callS (rest := []) hC mi_X12_isTown (k_X12_isTown hr10) tw_1077 tw_1078 dX12_report_9 rfl rfl ⟨by decide, by decide⟩ (Nat.le_of_ble_eq_true rfl) ⟨by decide, by decide⟩ ?_
    refine g_if_eq (tgt := 26) hC dX12_report_12 (by decide) (fun hc13 => ?_) (fun hc13 => ?_)
    · rw [if_pos hc13] at h
      refine g_aload_n hC dX12_report_26 rfl ?_
      refine g_ldc hC tw_1083 dX12_report_27 ?_
      obtain ⟨ho16, h⟩ := gd_some h
      obtain ⟨r17, S15, hr14, h⟩ := bd2_some h
      refine g_callV (rest := []) hC mi_X12_finding (k_X12_finding hr14) ck_X12.1 (by decide) ho16 tw_1069 tw_1071 ts_24 dX12_report_29 rfl rfl ⟨by decide, by decide⟩ (Nat.le_of_ble_eq_true rfl) ⟨by decide, by decide⟩ ?_
      cases h
      exact g_iret hC hR dX12_report_32 (by decide) (by decide)
    · rw [if_neg hc13] at h
      refine g_iload_n hC dX12_report_15 rfl ?_
      refine g_iconst (v := (0 : Int32)) hC dX12_report_16 (by decide) ?_
      refine g_sipush (v := (4000 : Int32)) hC dX12_report_17 (by decide) ?_
      obtain ⟨r20, S19, hr18, h⟩ := bd2_some h
      refine g_callS (rest := []) hC mi_X12_within (k_X12_within hr18) tw_1080 tw_1081 dX12_report_20 rfl rfl ⟨by decide, by decide⟩ (Nat.le_of_ble_eq_true rfl) ⟨by decide, by decide⟩ ?_
      refine g_if_ne (tgt := 33) hC dX12_report_23 (by decide) (fun hc21 => ?_) (fun hc21 => ?_)
      · rw [if_neg hc21] at h
        refine g_aload_n hC dX12_report_33 rfl ?_
        obtain ⟨ho22, h⟩ := gd_some h
        obtain ⟨q23, hq24, h⟩ := Option.bind_eq_some_iff.mp h
        refine g_getr (k := 0) (q := q23) hC ck_X12 (by decide) tw_984 rfl (by decide) dX12_report_34 ho22 hq24 ?_
        refine g_bipush (v := (68 : Int32)) hC dX12_report_37 (by decide) ?_
        obtain ⟨hx25, h⟩ := gd_some h
        refine g_iald hC dX12_report_39 hx25.1 hx25.2 ?_
        refine g_bipush (v := (30 : Int32)) hC dX12_report_40 (by decide) ?_
        refine g_icmp_ne (tgt := 52) hC dX12_report_42 (by decide) (fun hc26 => ?_) (fun hc26 => ?_)
        · rw [if_neg hc26] at h
          refine g_aload_n hC dX12_report_52 rfl ?_
          obtain ⟨ho29, h⟩ := gd_some h
          obtain ⟨S28, hr27, h⟩ := Option.bind_eq_some_iff.mp h
          refine g_callV (rest := []) hC mi_X12_keep (k_X12_keep hr27) ck_X12.1 (by decide) ho29 tw_1084 tw_1086 ts_25 dX12_report_53 rfl rfl ⟨by decide, by decide⟩ (Nat.le_of_ble_eq_true rfl) ⟨by decide, by decide⟩ ?_
          refine g_aload_n hC dX12_report_56 rfl ?_
          obtain ⟨ho30, h⟩ := gd_some h
          obtain ⟨q31, hq32, h⟩ := Option.bind_eq_some_iff.mp h
          refine g_getr (k := 0) (q := q31) hC ck_X12 (by decide) tw_984 rfl (by decide) dX12_report_57 ho30 hq32 ?_
          refine g_sipush (v := (260 : Int32)) hC dX12_report_60 (by decide) ?_
          refine g_aload_n hC dX12_report_63 rfl ?_
          obtain ⟨ho33, h⟩ := gd_some h
          obtain ⟨q34, hq35, h⟩ := Option.bind_eq_some_iff.mp h
          refine g_getr (k := 0) (q := q34) hC ck_X12 (by decide) tw_984 rfl (by decide) dX12_report_64 ho33 hq35 ?_
          refine g_bipush (v := (68 : Int32)) hC dX12_report_67 (by decide) ?_
          obtain ⟨hx36, h⟩ := gd_some h
          refine g_iald hC dX12_report_69 hx36.1 hx36.2 ?_
          refine g_iadd hC dX12_report_70 ?_
          refine g_iload_n hC dX12_report_71 rfl ?_
          refine g_bipush (v := (6 : Int32)) hC dX12_report_72 (by decide) ?_
          refine g_iload_n hC dX12_report_74 rfl ?_
          refine g_imul hC dX12_report_75 ?_
          refine g_iadd hC dX12_report_76 ?_
          refine g_bipush (v := (48 : Int32)) hC dX12_report_77 (by decide) ?_
          refine g_iload_n hC dX12_report_79 rfl ?_
          refine g_imul hC dX12_report_80 ?_
          refine g_iadd hC dX12_report_81 ?_
          obtain ⟨hx37, h⟩ := gd_some h
          refine g_iast hC dX12_report_82 hx37.1 hx37.2 ?_
          refine g_name (fun S38 eS39 => ?_)
          have h := ltS_use eS39 h
          refine g_aload_n hC dX12_report_83 rfl ?_
          obtain ⟨ho40, h⟩ := gd_some h
          obtain ⟨q41, hq42, h⟩ := Option.bind_eq_some_iff.mp h
          refine g_getr (k := 0) (q := q41) hC ck_X12 (by decide) tw_984 rfl (by decide) dX12_report_84 ho40 hq42 ?_
          refine g_bipush (v := (68 : Int32)) hC dX12_report_87 (by decide) ?_
          refine g_dup2 hC dX12_report_89 rfl rfl ?_
          obtain ⟨hx43, h⟩ := gd_some h
          refine g_iald hC dX12_report_90 hx43.1 hx43.2 ?_
          refine g_iconst (v := (1 : Int32)) hC dX12_report_91 (by decide) ?_
          refine g_iadd hC dX12_report_92 ?_
          obtain ⟨hx44, h⟩ := gd_some h
          refine g_iast hC dX12_report_93 hx44.1 hx44.2 ?_
          refine g_name (fun S45 eS46 => ?_)
          have h := ltS_use eS46 h
          refine g_aload_n hC dX12_report_94 rfl ?_
          obtain ⟨ho47, h⟩ := gd_some h
          obtain ⟨q48, hq49, h⟩ := Option.bind_eq_some_iff.mp h
          refine g_getr (k := 0) (q := q48) hC ck_X12 (by decide) tw_984 rfl (by decide) dX12_report_95 ho47 hq49 ?_
          refine g_bipush (v := (68 : Int32)) hC dX12_report_98 (by decide) ?_
          obtain ⟨hx50, h⟩ := gd_some h
          refine g_iald hC dX12_report_100 hx50.1 hx50.2 ?_
          refine g_iconst (v := (1 : Int32)) hC dX12_report_101 (by decide) ?_
          refine g_isub hC dX12_report_102 ?_
          cases h
          exact g_iret hC hR dX12_report_103 (by decide) (by decide)
        · rw [if_pos hc26] at h
          refine g_aload_n hC dX12_report_45 rfl ?_
          refine g_ldc hC tw_1106 dX12_report_46 ?_
          obtain ⟨ho53, h⟩ := gd_some h
          obtain ⟨r54, S52, hr51, h⟩ := bd2_some h
          refine g_callV (rest := []) hC mi_X12_finding (k_X12_finding hr51) ck_X12.1 (by decide) ho53 tw_1069 tw_1071 ts_24 dX12_report_48 rfl rfl ⟨by decide, by decide⟩ (Nat.le_of_ble_eq_true rfl) ⟨by decide, by decide⟩ ?_
          cases h
          exact g_iret hC hR dX12_report_51 (by decide) (by decide)
      · rw [if_pos hc21] at h
        refine g_aload_n hC dX12_report_26 rfl ?_
        refine g_ldc hC tw_1083 dX12_report_27 ?_
        obtain ⟨ho57, h⟩ := gd_some h
        obtain ⟨r58, S56, hr55, h⟩ := bd2_some h
        refine g_callV (rest := []) hC mi_X12_finding (k_X12_finding hr55) ck_X12.1 (by decide) ho57 tw_1069 tw_1071 ts_24 dX12_report_29 rfl rfl ⟨by decide, by decide⟩ (Nat.le_of_ble_eq_true rfl) ⟨by decide, by decide⟩ ?_
        cases h
        exact g_iret hC hR dX12_report_32 (by decide) (by decide)

theorem mi_X12_cannot : MI yX12_cannot cX12_cannot 9 (some .int) 2 := ⟨tw_1279, tw_14, by decide +kernel, by decide +kernel, by decide +kernel⟩
noncomputable def B_X12_cannot_0 (S : Wd) (a0 : Nat) (a1 : Int32) (a2 : Int32) : Option ((Int32 × Wd) ⊕ Cs) := gd (ob S a0 12) (bd2 (f_X12_isLorry S a0 a1) (fun r4 S2 => if r4 = 0 then (gd (ob S2 a0 12) (bd2 (f_X12_finding S2 a0 (-100001 : Int32)) (fun r12 S10 => some (.inl (r12, S10))))) else (gd (ob S2 a0 12) (Option.bind (f_X12_findFar S2 a0) (fun S7 => some (.inr (1, [a0], [a1, a2, (0 : Int32), (0 : Int32)], S7)))))))
noncomputable def B_X12_cannot_1 (S : Wd) (x0 : Nat) (x1 : Int32) (x2 : Int32) (x3 : Int32) (x4 : Int32) : Option ((Int32 × Wd) ⊕ Cs) := gd (ob S x0 12) (Option.bind (wO S x0 0) (fun q14 => gd (ix S q14 100 (68 : Int32)) (if (wI S q14 (68 : Int32).toNatClampNeg) ≤ x4 then (if x2 = 0 then (some (.inl (x3, S))) else (gd (ob S x0 12) (bd2 (f_X12_finding S x0 (-100006 : Int32)) (fun r22 S20 => some (.inl (r22, S20)))))) else (some (.inr (2, [x0], [x1, x2, x3, x4, (x4 + (1 : Int32))], S))))))
noncomputable def B_X12_cannot_2 (S : Wd) (x0 : Nat) (x1 : Int32) (x2 : Int32) (x3 : Int32) (x4 : Int32) (x5 : Int32) : Option ((Int32 × Wd) ⊕ Cs) := gd (ob S x0 12) (Option.bind (wO S x0 0) (fun q24 => gd (ix S q24 100 (68 : Int32)) (if (wI S q24 (68 : Int32).toNatClampNeg) ≤ x5 then (some (.inr (1, [x0], [x1, x2, x3, (x4 + (1 : Int32))], S))) else (gd (ob S x0 12) (Option.bind (wO S x0 0) (fun q29 => gd (ix S q29 100 ((260 : Int32) + x4)) (gd (ob S x0 12) (Option.bind (wO S x0 0) (fun q33 => gd (ix S q33 100 ((260 : Int32) + x5)) (if (irm (wI S q29 ((260 : Int32) + x4).toNatClampNeg) (6 : Int32)) = x1 then (if (irm (wI S q33 ((260 : Int32) + x5).toNatClampNeg) (6 : Int32)) = x1 then (gd (ob S x0 12) (Option.bind (wO S x0 7) (fun q43 => gd (ix S q43 100 (((8 : Int32) * (irm ((wI S q29 ((260 : Int32) + x4).toNatClampNeg) / (6 : Int32)) (8 : Int32))) + (irm ((wI S q33 ((260 : Int32) + x5).toNatClampNeg) / (6 : Int32)) (8 : Int32)))) (if (wI S q43 (((8 : Int32) * (irm ((wI S q29 ((260 : Int32) + x4).toNatClampNeg) / (6 : Int32)) (8 : Int32))) + (irm ((wI S q33 ((260 : Int32) + x5).toNatClampNeg) / (6 : Int32)) (8 : Int32))).toNatClampNeg) ≤ (mAbs (((wI S q29 ((260 : Int32) + x4).toNatClampNeg) / (48 : Int32)) - ((wI S q33 ((260 : Int32) + x5).toNatClampNeg) / (48 : Int32)))) then (if (0 : Int32) = 0 then (if (0 : Int32) = 0 then (some (.inr (2, [x0], [x1, x2, (x3 + (0 : Int32)), x4, (x5 + (1 : Int32))], S))) else (none)) else (none)) else (if (1 : Int32) = 0 then (none) else (if x2 = 0 then (if (1 : Int32) = 0 then (none) else (some (.inr (2, [x0], [x1, x2, (x3 + (1 : Int32)), x4, (x5 + (1 : Int32))], S)))) else (some (.inl ((((100 : Int32) * x4) + x5), S))))))))) else (if (0 : Int32) = 0 then (if (0 : Int32) = 0 then (some (.inr (2, [x0], [x1, x2, (x3 + (0 : Int32)), x4, (x5 + (1 : Int32))], S))) else (none)) else (none))) else (if (0 : Int32) = 0 then (if (0 : Int32) = 0 then (some (.inr (2, [x0], [x1, x2, (x3 + (0 : Int32)), x4, (x5 + (1 : Int32))], S))) else (none)) else (none))))))))))))
noncomputable def B_X12_cannot : Cs → Option ((Int32 × Wd) ⊕ Cs)
  | (0, [a0], [a1, a2], S) => B_X12_cannot_0 S a0 a1 a2
  | (1, [x0], [x1, x2, x3, x4], S) => B_X12_cannot_1 S x0 x1 x2 x3 x4
  | (2, [x0], [x1, x2, x3, x4, x5], S) => B_X12_cannot_2 S x0 x1 x2 x3 x4 x5
  | _ => none
def P_X12_cannot : Cs → Option (Nat × List (Nat × Value) × Wd × Nat × Nat)
  | (0, [a0], [a1, a2], S) => some (0, [(0, .ref a0), (1, .int a1), (2, .int a2)], S, 0, 0)
  | (1, [x0], [x1, x2, x3, x4], S) => some (24, [(0, .ref x0), (1, .int x1), (2, .int x2), (3, .int x3), (4, .int x4)], S, 0, 0)
  | (2, [x0], [x1, x2, x3, x4, x5], S) => some (42, [(0, .ref x0), (1, .int x1), (2, .int x2), (3, .int x3), (4, .int x4), (5, .int x5)], S, 0, 0)
  | _ => none
noncomputable def f_X12_cannot (S : Wd) (a0 : Nat) (a1 : Int32) (a2 : Int32) : Option (Int32 × Wd) := ru B_X12_cannot (0, [a0], [a1, a2], S)
abbrev N_X12_cannot (b : Bd) (r : Int32 × Wd) (c : (Int32 × Wd) ⊕ Cs) : Prop := match c with
  | .inl r' => r' = r
  | .inr s' => ∀ pc L S kc ks, P_X12_cannot s' = some (pc, L, S, kc, ks) → G b pc L [] S kc ks
set_option maxRecDepth 100000 in
set_option maxHeartbeats 4000000 in
theorem w_X12_cannot_0 {b : Bd} {r : Int32 × Wd} (hC : CX b yX12_cannot.cls cX12_cannot 9 { frames := 2, cells := 0, slots := 0, locals := 43 }) (hin : yX12_cannot.name = "<init>" → b.2.2.2.2.2.2.2.2.1.name = "<init>") (hR : RT b (some .int) (some (.int r.1)) r.2 0 0) {S : Wd} {a0 : Nat} {a1 : Int32} {a2 : Int32} {c : (Int32 × Wd) ⊕ Cs} (h : B_X12_cannot_0 S a0 a1 a2 = some c) (hk : N_X12_cannot b r c) : G b 0 [(0, .ref a0), (1, .int a1), (2, .int a2)] [] S 0 0 := by
  unfold B_X12_cannot_0 at h
  refine g_aload_n hC dX12_cannot_0 rfl ?_
  refine g_iload_n hC dX12_cannot_1 rfl ?_
  obtain ⟨ho3, h⟩ := gd_some h
  obtain ⟨r4, S2, hr1, h⟩ := bd2_some h
  refine g_callV (rest := []) hC mi_X12_isLorry (k_X12_isLorry hr1) ck_X12.1 (by decide) ho3 tw_1114 tw_1116 ts_28 dX12_cannot_2 rfl rfl ⟨by decide, by decide⟩ (Nat.le_of_ble_eq_true rfl) ⟨by decide, by decide⟩ ?_
  refine g_if_ne (tgt := 15) hC dX12_cannot_5 (by decide) (fun hc5 => ?_) (fun hc5 => ?_)
  · rw [if_neg hc5] at h
    refine g_aload_n hC dX12_cannot_15 rfl ?_
    obtain ⟨ho8, h⟩ := gd_some h
    obtain ⟨S7, hr6, h⟩ := Option.bind_eq_some_iff.mp h
    refine g_callV (rest := []) hC mi_X12_findFar (k_X12_findFar hr6) ck_X12.1 (by decide) ho8 tw_1092 tw_1094 ts_26 dX12_cannot_16 rfl rfl ⟨by decide, by decide⟩ (Nat.le_of_ble_eq_true rfl) ⟨by decide, by decide⟩ ?_
    refine g_iconst (v := (0 : Int32)) hC dX12_cannot_19 (by decide) ?_
    refine g_istore_n (L' := [(3, .int (0 : Int32)), (0, .ref a0), (1, .int a1), (2, .int a2)]) hC dX12_cannot_20 (by decide) rfl ?_
    refine g_iconst (v := (0 : Int32)) hC dX12_cannot_21 (by decide) ?_
    refine g_istore (L' := [(4, .int (0 : Int32)), (3, .int (0 : Int32)), (0, .ref a0), (1, .int a1), (2, .int a2)]) hC dX12_cannot_22 (by decide) rfl ?_
    cases h
    refine g_pick (L' := [(0, .ref a0), (1, .int a1), (2, .int a2), (3, .int (0 : Int32)), (4, .int (0 : Int32))]) [2, 3, 4, 1, 0] rfl ?_
    exact hk _ _ _ _ _ rfl
  · rw [if_pos hc5] at h
    refine g_aload_n hC dX12_cannot_8 rfl ?_
    refine g_ldc hC tw_1083 dX12_cannot_9 ?_
    obtain ⟨ho11, h⟩ := gd_some h
    obtain ⟨r12, S10, hr9, h⟩ := bd2_some h
    refine g_callV (rest := []) hC mi_X12_finding (k_X12_finding hr9) ck_X12.1 (by decide) ho11 tw_1069 tw_1071 ts_24 dX12_cannot_11 rfl rfl ⟨by decide, by decide⟩ (Nat.le_of_ble_eq_true rfl) ⟨by decide, by decide⟩ ?_
    cases h
    subst hk
    exact g_iret hC hR dX12_cannot_14 (by decide) (by decide)
set_option maxRecDepth 100000 in
set_option maxHeartbeats 4000000 in
theorem w_X12_cannot_1 {b : Bd} {r : Int32 × Wd} (hC : CX b yX12_cannot.cls cX12_cannot 9 { frames := 2, cells := 0, slots := 0, locals := 43 }) (hin : yX12_cannot.name = "<init>" → b.2.2.2.2.2.2.2.2.1.name = "<init>") (hR : RT b (some .int) (some (.int r.1)) r.2 0 0) {S : Wd} {x0 : Nat} {x1 : Int32} {x2 : Int32} {x3 : Int32} {x4 : Int32} {c : (Int32 × Wd) ⊕ Cs} (h : B_X12_cannot_1 S x0 x1 x2 x3 x4 = some c) (hk : N_X12_cannot b r c) : G b 24 [(0, .ref x0), (1, .int x1), (2, .int x2), (3, .int x3), (4, .int x4)] [] S 0 0 := by
  unfold B_X12_cannot_1 at h
  refine g_iload hC dX12_cannot_24 rfl ?_
  refine g_aload_n hC dX12_cannot_26 rfl ?_
  obtain ⟨ho13, h⟩ := gd_some h
  obtain ⟨q14, hq15, h⟩ := Option.bind_eq_some_iff.mp h
  refine g_getr (k := 0) (q := q14) hC ck_X12 (by decide) tw_984 rfl (by decide) dX12_cannot_27 ho13 hq15 ?_
  refine g_bipush (v := (68 : Int32)) hC dX12_cannot_30 (by decide) ?_
  obtain ⟨hx16, h⟩ := gd_some h
  refine g_iald hC dX12_cannot_32 hx16.1 hx16.2 ?_
  refine g_icmp_ge (tgt := 190) hC dX12_cannot_33 (by decide) (fun hc17 => ?_) (fun hc17 => ?_)
  · rw [if_pos hc17] at h
    refine g_iload_n hC dX12_cannot_190 rfl ?_
    refine g_if_eq (tgt := 203) hC dX12_cannot_191 (by decide) (fun hc18 => ?_) (fun hc18 => ?_)
    · rw [if_pos hc18] at h
      refine g_iload_n hC dX12_cannot_203 rfl ?_
      cases h
      subst hk
      exact g_iret hC hR dX12_cannot_204 (by decide) (by decide)
    · rw [if_neg hc18] at h
      refine g_aload_n hC dX12_cannot_194 rfl ?_
      refine g_ldc hC tw_1068 dX12_cannot_195 ?_
      obtain ⟨ho21, h⟩ := gd_some h
      obtain ⟨r22, S20, hr19, h⟩ := bd2_some h
      refine g_callV (rest := []) hC mi_X12_finding (k_X12_finding hr19) ck_X12.1 (by decide) ho21 tw_1069 tw_1071 ts_24 dX12_cannot_197 rfl rfl ⟨by decide, by decide⟩ (Nat.le_of_ble_eq_true rfl) ⟨by decide, by decide⟩ ?_
      refine g_goto (tgt := 204) hC dX12_cannot_200 (by decide) ?_
      cases h
      subst hk
      exact g_iret hC hR dX12_cannot_204 (by decide) (by decide)
  · rw [if_neg hc17] at h
    refine g_iload hC dX12_cannot_36 rfl ?_
    refine g_iconst (v := (1 : Int32)) hC dX12_cannot_38 (by decide) ?_
    refine g_iadd hC dX12_cannot_39 ?_
    refine g_istore (L' := [(5, .int (x4 + (1 : Int32))), (0, .ref x0), (1, .int x1), (2, .int x2), (3, .int x3), (4, .int x4)]) hC dX12_cannot_40 (by decide) rfl ?_
    cases h
    refine g_pick (L' := [(0, .ref x0), (1, .int x1), (2, .int x2), (3, .int x3), (4, .int x4), (5, .int (x4 + (1 : Int32)))]) [1, 2, 3, 4, 5, 0] rfl ?_
    exact hk _ _ _ _ _ rfl
set_option maxRecDepth 100000 in
set_option maxHeartbeats 4000000 in
theorem w_X12_cannot_2 {b : Bd} {r : Int32 × Wd} (hC : CX b yX12_cannot.cls cX12_cannot 9 { frames := 2, cells := 0, slots := 0, locals := 43 }) (hin : yX12_cannot.name = "<init>" → b.2.2.2.2.2.2.2.2.1.name = "<init>") (hR : RT b (some .int) (some (.int r.1)) r.2 0 0) {S : Wd} {x0 : Nat} {x1 : Int32} {x2 : Int32} {x3 : Int32} {x4 : Int32} {x5 : Int32} {c : (Int32 × Wd) ⊕ Cs} (h : B_X12_cannot_2 S x0 x1 x2 x3 x4 x5 = some c) (hk : N_X12_cannot b r c) : G b 42 [(0, .ref x0), (1, .int x1), (2, .int x2), (3, .int x3), (4, .int x4), (5, .int x5)] [] S 0 0 := by
  unfold B_X12_cannot_2 at h
  refine g_iload hC dX12_cannot_42 rfl ?_
  refine g_aload_n hC dX12_cannot_44 rfl ?_
  obtain ⟨ho23, h⟩ := gd_some h
  obtain ⟨q24, hq25, h⟩ := Option.bind_eq_some_iff.mp h
  refine g_getr (k := 0) (q := q24) hC ck_X12 (by decide) tw_984 rfl (by decide) dX12_cannot_45 ho23 hq25 ?_
  refine g_bipush (v := (68 : Int32)) hC dX12_cannot_48 (by decide) ?_
  obtain ⟨hx26, h⟩ := gd_some h
  refine g_iald hC dX12_cannot_50 hx26.1 hx26.2 ?_
  refine g_icmp_ge (tgt := 184) hC dX12_cannot_51 (by decide) (fun hc27 => ?_) (fun hc27 => ?_)
  · rw [if_pos hc27] at h
    refine g_iinc (v := (1 : Int32)) (L' := [(4, .int (x4 + (1 : Int32))), (0, .ref x0), (1, .int x1), (2, .int x2), (3, .int x3), (5, .int x5)]) hC dX12_cannot_184 rfl (by decide) (by decide) rfl ?_
    refine g_goto (tgt := 24) hC dX12_cannot_187 (by decide) ?_
    cases h
    refine g_pick (L' := [(0, .ref x0), (1, .int x1), (2, .int x2), (3, .int x3), (4, .int (x4 + (1 : Int32)))]) [1, 2, 3, 4, 0] rfl ?_
    exact hk _ _ _ _ _ rfl
  · rw [if_neg hc27] at h
    refine g_aload_n hC dX12_cannot_54 rfl ?_
    obtain ⟨ho28, h⟩ := gd_some h
    obtain ⟨q29, hq30, h⟩ := Option.bind_eq_some_iff.mp h
    refine g_getr (k := 0) (q := q29) hC ck_X12 (by decide) tw_984 rfl (by decide) dX12_cannot_55 ho28 hq30 ?_
    refine g_sipush (v := (260 : Int32)) hC dX12_cannot_58 (by decide) ?_
    refine g_iload hC dX12_cannot_61 rfl ?_
    refine g_iadd hC dX12_cannot_63 ?_
    obtain ⟨hx31, h⟩ := gd_some h
    refine g_iald hC dX12_cannot_64 hx31.1 hx31.2 ?_
    refine g_istore (L' := [(6, .int (wI S q29 ((260 : Int32) + x4).toNatClampNeg)), (0, .ref x0), (1, .int x1), (2, .int x2), (3, .int x3), (4, .int x4), (5, .int x5)]) hC dX12_cannot_65 (by decide) rfl ?_
    refine g_aload_n hC dX12_cannot_67 rfl ?_
    obtain ⟨ho32, h⟩ := gd_some h
    obtain ⟨q33, hq34, h⟩ := Option.bind_eq_some_iff.mp h
    refine g_getr (k := 0) (q := q33) hC ck_X12 (by decide) tw_984 rfl (by decide) dX12_cannot_68 ho32 hq34 ?_
    refine g_sipush (v := (260 : Int32)) hC dX12_cannot_71 (by decide) ?_
    refine g_iload hC dX12_cannot_74 rfl ?_
    refine g_iadd hC dX12_cannot_76 ?_
    obtain ⟨hx35, h⟩ := gd_some h
    refine g_iald hC dX12_cannot_77 hx35.1 hx35.2 ?_
    refine g_istore (L' := [(7, .int (wI S q33 ((260 : Int32) + x5).toNatClampNeg)), (6, .int (wI S q29 ((260 : Int32) + x4).toNatClampNeg)), (0, .ref x0), (1, .int x1), (2, .int x2), (3, .int x3), (4, .int x4), (5, .int x5)]) hC dX12_cannot_78 (by decide) rfl ?_
    refine g_iload hC dX12_cannot_80 rfl ?_
    refine g_bipush (v := (6 : Int32)) hC dX12_cannot_82 (by decide) ?_
    refine g_irm hC dX12_cannot_84 (by decide) ?_
    refine g_iload_n hC dX12_cannot_85 rfl ?_
    refine g_icmp_ne (tgt := 144) hC dX12_cannot_86 (by decide) (fun hc36 => ?_) (fun hc36 => ?_)
    · rw [if_neg hc36] at h
      refine g_iconst (v := (0 : Int32)) hC dX12_cannot_144 (by decide) ?_
      refine g_istore (L' := [(8, .int (0 : Int32)), (7, .int (wI S q33 ((260 : Int32) + x5).toNatClampNeg)), (6, .int (wI S q29 ((260 : Int32) + x4).toNatClampNeg)), (0, .ref x0), (1, .int x1), (2, .int x2), (3, .int x3), (4, .int x4), (5, .int x5)]) hC dX12_cannot_145 (by decide) rfl ?_
      refine g_iload hC dX12_cannot_147 rfl ?_
      refine g_if_eq (tgt := 165) hC dX12_cannot_149 (by decide) (fun hc37 => ?_) (fun hc37 => ?_)
      · rw [if_pos hc37] at h
        refine g_iload_n hC dX12_cannot_165 rfl ?_
        refine g_iload hC dX12_cannot_166 rfl ?_
        refine g_if_eq (tgt := 175) hC dX12_cannot_168 (by decide) (fun hc38 => ?_) (fun hc38 => ?_)
        · rw [if_pos hc38] at h
          refine g_iconst (v := (0 : Int32)) hC dX12_cannot_175 (by decide) ?_
          refine g_iadd hC dX12_cannot_176 ?_
          refine g_istore_n (L' := [(3, .int (x3 + (0 : Int32))), (8, .int (0 : Int32)), (7, .int (wI S q33 ((260 : Int32) + x5).toNatClampNeg)), (6, .int (wI S q29 ((260 : Int32) + x4).toNatClampNeg)), (0, .ref x0), (1, .int x1), (2, .int x2), (4, .int x4), (5, .int x5)]) hC dX12_cannot_177 (by decide) rfl ?_
          refine g_iinc (v := (1 : Int32)) (L' := [(5, .int (x5 + (1 : Int32))), (3, .int (x3 + (0 : Int32))), (8, .int (0 : Int32)), (7, .int (wI S q33 ((260 : Int32) + x5).toNatClampNeg)), (6, .int (wI S q29 ((260 : Int32) + x4).toNatClampNeg)), (0, .ref x0), (1, .int x1), (2, .int x2), (4, .int x4)]) hC dX12_cannot_178 rfl (by decide) (by decide) rfl ?_
          refine g_goto (tgt := 42) hC dX12_cannot_181 (by decide) ?_
          cases h
          refine g_pick (L' := [(0, .ref x0), (1, .int x1), (2, .int x2), (3, .int (x3 + (0 : Int32))), (4, .int x4), (5, .int (x5 + (1 : Int32)))]) [5, 6, 7, 1, 8, 0] rfl ?_
          exact hk _ _ _ _ _ rfl
        · rw [if_neg hc38] at h
          cases h
      · rw [if_neg hc37] at h
        cases h
    · rw [if_pos hc36] at h
      refine g_iload hC dX12_cannot_89 rfl ?_
      refine g_bipush (v := (6 : Int32)) hC dX12_cannot_91 (by decide) ?_
      refine g_irm hC dX12_cannot_93 (by decide) ?_
      refine g_iload_n hC dX12_cannot_94 rfl ?_
      refine g_icmp_ne (tgt := 144) hC dX12_cannot_95 (by decide) (fun hc39 => ?_) (fun hc39 => ?_)
      · rw [if_neg hc39] at h
        refine g_iconst (v := (0 : Int32)) hC dX12_cannot_144 (by decide) ?_
        refine g_istore (L' := [(8, .int (0 : Int32)), (7, .int (wI S q33 ((260 : Int32) + x5).toNatClampNeg)), (6, .int (wI S q29 ((260 : Int32) + x4).toNatClampNeg)), (0, .ref x0), (1, .int x1), (2, .int x2), (3, .int x3), (4, .int x4), (5, .int x5)]) hC dX12_cannot_145 (by decide) rfl ?_
        refine g_iload hC dX12_cannot_147 rfl ?_
        refine g_if_eq (tgt := 165) hC dX12_cannot_149 (by decide) (fun hc40 => ?_) (fun hc40 => ?_)
        · rw [if_pos hc40] at h
          refine g_iload_n hC dX12_cannot_165 rfl ?_
          refine g_iload hC dX12_cannot_166 rfl ?_
          refine g_if_eq (tgt := 175) hC dX12_cannot_168 (by decide) (fun hc41 => ?_) (fun hc41 => ?_)
          · rw [if_pos hc41] at h
            refine g_iconst (v := (0 : Int32)) hC dX12_cannot_175 (by decide) ?_
            refine g_iadd hC dX12_cannot_176 ?_
            refine g_istore_n (L' := [(3, .int (x3 + (0 : Int32))), (8, .int (0 : Int32)), (7, .int (wI S q33 ((260 : Int32) + x5).toNatClampNeg)), (6, .int (wI S q29 ((260 : Int32) + x4).toNatClampNeg)), (0, .ref x0), (1, .int x1), (2, .int x2), (4, .int x4), (5, .int x5)]) hC dX12_cannot_177 (by decide) rfl ?_
            refine g_iinc (v := (1 : Int32)) (L' := [(5, .int (x5 + (1 : Int32))), (3, .int (x3 + (0 : Int32))), (8, .int (0 : Int32)), (7, .int (wI S q33 ((260 : Int32) + x5).toNatClampNeg)), (6, .int (wI S q29 ((260 : Int32) + x4).toNatClampNeg)), (0, .ref x0), (1, .int x1), (2, .int x2), (4, .int x4)]) hC dX12_cannot_178 rfl (by decide) (by decide) rfl ?_
            refine g_goto (tgt := 42) hC dX12_cannot_181 (by decide) ?_
            cases h
            refine g_pick (L' := [(0, .ref x0), (1, .int x1), (2, .int x2), (3, .int (x3 + (0 : Int32))), (4, .int x4), (5, .int (x5 + (1 : Int32)))]) [5, 6, 7, 1, 8, 0] rfl ?_
            exact hk _ _ _ _ _ rfl
          · rw [if_neg hc41] at h
            cases h
        · rw [if_neg hc40] at h
          cases h
      · rw [if_pos hc39] at h
        refine g_aload_n hC dX12_cannot_98 rfl ?_
        obtain ⟨ho42, h⟩ := gd_some h
        obtain ⟨q43, hq44, h⟩ := Option.bind_eq_some_iff.mp h
        refine g_getr (k := 7) (q := q43) hC ck_X12 (by decide) tw_991 rfl (by decide) dX12_cannot_99 ho42 hq44 ?_
        refine g_bipush (v := (8 : Int32)) hC dX12_cannot_102 (by decide) ?_
        refine g_iload hC dX12_cannot_104 rfl ?_
        refine g_bipush (v := (6 : Int32)) hC dX12_cannot_106 (by decide) ?_
        refine g_idiv hC dX12_cannot_108 (by decide) ?_
        refine g_bipush (v := (8 : Int32)) hC dX12_cannot_109 (by decide) ?_
        refine g_irm hC dX12_cannot_111 (by decide) ?_
        refine g_imul hC dX12_cannot_112 ?_
        refine g_iload hC dX12_cannot_113 rfl ?_
        refine g_bipush (v := (6 : Int32)) hC dX12_cannot_115 (by decide) ?_
        refine g_idiv hC dX12_cannot_117 (by decide) ?_
        refine g_bipush (v := (8 : Int32)) hC dX12_cannot_118 (by decide) ?_
        refine g_irm hC dX12_cannot_120 (by decide) ?_
        refine g_iadd hC dX12_cannot_121 ?_
        obtain ⟨hx45, h⟩ := gd_some h
        refine g_iald hC dX12_cannot_122 hx45.1 hx45.2 ?_
        refine g_iload hC dX12_cannot_123 rfl ?_
        refine g_bipush (v := (48 : Int32)) hC dX12_cannot_125 (by decide) ?_
        refine g_idiv hC dX12_cannot_127 (by decide) ?_
        refine g_iload hC dX12_cannot_128 rfl ?_
        refine g_bipush (v := (48 : Int32)) hC dX12_cannot_130 (by decide) ?_
        refine g_idiv hC dX12_cannot_132 (by decide) ?_
        refine g_isub hC dX12_cannot_133 ?_
        refine g_mabs (st := [.int (wI S q43 (((8 : Int32) * (irm ((wI S q29 ((260 : Int32) + x4).toNatClampNeg) / (6 : Int32)) (8 : Int32))) + (irm ((wI S q33 ((260 : Int32) + x5).toNatClampNeg) / (6 : Int32)) (8 : Int32))).toNatClampNeg)]) hC tw_1280 tw_732 tw_5 tw_733 dX12_cannot_134 (by decide) (Nat.le_of_ble_eq_true rfl) (by decide) (by decide) ?_
        refine g_icmp_le (tgt := 144) hC dX12_cannot_137 (by decide) (fun hc46 => ?_) (fun hc46 => ?_)
        · rw [if_pos hc46] at h
          refine g_iconst (v := (0 : Int32)) hC dX12_cannot_144 (by decide) ?_
          refine g_istore (L' := [(8, .int (0 : Int32)), (7, .int (wI S q33 ((260 : Int32) + x5).toNatClampNeg)), (6, .int (wI S q29 ((260 : Int32) + x4).toNatClampNeg)), (0, .ref x0), (1, .int x1), (2, .int x2), (3, .int x3), (4, .int x4), (5, .int x5)]) hC dX12_cannot_145 (by decide) rfl ?_
          refine g_iload hC dX12_cannot_147 rfl ?_
          refine g_if_eq (tgt := 165) hC dX12_cannot_149 (by decide) (fun hc47 => ?_) (fun hc47 => ?_)
          · rw [if_pos hc47] at h
            refine g_iload_n hC dX12_cannot_165 rfl ?_
            refine g_iload hC dX12_cannot_166 rfl ?_
            refine g_if_eq (tgt := 175) hC dX12_cannot_168 (by decide) (fun hc48 => ?_) (fun hc48 => ?_)
            · rw [if_pos hc48] at h
              refine g_iconst (v := (0 : Int32)) hC dX12_cannot_175 (by decide) ?_
              refine g_iadd hC dX12_cannot_176 ?_
              refine g_istore_n (L' := [(3, .int (x3 + (0 : Int32))), (8, .int (0 : Int32)), (7, .int (wI S q33 ((260 : Int32) + x5).toNatClampNeg)), (6, .int (wI S q29 ((260 : Int32) + x4).toNatClampNeg)), (0, .ref x0), (1, .int x1), (2, .int x2), (4, .int x4), (5, .int x5)]) hC dX12_cannot_177 (by decide) rfl ?_
              refine g_iinc (v := (1 : Int32)) (L' := [(5, .int (x5 + (1 : Int32))), (3, .int (x3 + (0 : Int32))), (8, .int (0 : Int32)), (7, .int (wI S q33 ((260 : Int32) + x5).toNatClampNeg)), (6, .int (wI S q29 ((260 : Int32) + x4).toNatClampNeg)), (0, .ref x0), (1, .int x1), (2, .int x2), (4, .int x4)]) hC dX12_cannot_178 rfl (by decide) (by decide) rfl ?_
              refine g_goto (tgt := 42) hC dX12_cannot_181 (by decide) ?_
              cases h
              refine g_pick (L' := [(0, .ref x0), (1, .int x1), (2, .int x2), (3, .int (x3 + (0 : Int32))), (4, .int x4), (5, .int (x5 + (1 : Int32)))]) [5, 6, 7, 1, 8, 0] rfl ?_
              exact hk _ _ _ _ _ rfl
            · rw [if_neg hc48] at h
              cases h
          · rw [if_neg hc47] at h
            cases h
        · rw [if_neg hc46] at h
          refine g_iconst (v := (1 : Int32)) hC dX12_cannot_140 (by decide) ?_
          refine g_goto (tgt := 145) hC dX12_cannot_141 (by decide) ?_
          refine g_istore (L' := [(8, .int (1 : Int32)), (7, .int (wI S q33 ((260 : Int32) + x5).toNatClampNeg)), (6, .int (wI S q29 ((260 : Int32) + x4).toNatClampNeg)), (0, .ref x0), (1, .int x1), (2, .int x2), (3, .int x3), (4, .int x4), (5, .int x5)]) hC dX12_cannot_145 (by decide) rfl ?_
          refine g_iload hC dX12_cannot_147 rfl ?_
          refine g_if_eq (tgt := 165) hC dX12_cannot_149 (by decide) (fun hc49 => ?_) (fun hc49 => ?_)
          · rw [if_pos hc49] at h
            cases h
          · rw [if_neg hc49] at h
            refine g_iload_n hC dX12_cannot_152 rfl ?_
            refine g_if_eq (tgt := 165) hC dX12_cannot_153 (by decide) (fun hc50 => ?_) (fun hc50 => ?_)
            · rw [if_pos hc50] at h
              refine g_iload_n hC dX12_cannot_165 rfl ?_
              refine g_iload hC dX12_cannot_166 rfl ?_
              refine g_if_eq (tgt := 175) hC dX12_cannot_168 (by decide) (fun hc51 => ?_) (fun hc51 => ?_)
              · rw [if_pos hc51] at h
                cases h
              · rw [if_neg hc51] at h
                refine g_iconst (v := (1 : Int32)) hC dX12_cannot_171 (by decide) ?_
                refine g_goto (tgt := 176) hC dX12_cannot_172 (by decide) ?_
                refine g_iadd hC dX12_cannot_176 ?_
                refine g_istore_n (L' := [(3, .int (x3 + (1 : Int32))), (8, .int (1 : Int32)), (7, .int (wI S q33 ((260 : Int32) + x5).toNatClampNeg)), (6, .int (wI S q29 ((260 : Int32) + x4).toNatClampNeg)), (0, .ref x0), (1, .int x1), (2, .int x2), (4, .int x4), (5, .int x5)]) hC dX12_cannot_177 (by decide) rfl ?_
                refine g_iinc (v := (1 : Int32)) (L' := [(5, .int (x5 + (1 : Int32))), (3, .int (x3 + (1 : Int32))), (8, .int (1 : Int32)), (7, .int (wI S q33 ((260 : Int32) + x5).toNatClampNeg)), (6, .int (wI S q29 ((260 : Int32) + x4).toNatClampNeg)), (0, .ref x0), (1, .int x1), (2, .int x2), (4, .int x4)]) hC dX12_cannot_178 rfl (by decide) (by decide) rfl ?_
                refine g_goto (tgt := 42) hC dX12_cannot_181 (by decide) ?_
                cases h
                refine g_pick (L' := [(0, .ref x0), (1, .int x1), (2, .int x2), (3, .int (x3 + (1 : Int32))), (4, .int x4), (5, .int (x5 + (1 : Int32)))]) [5, 6, 7, 1, 8, 0] rfl ?_
                exact hk _ _ _ _ _ rfl
            · rw [if_neg hc50] at h
              refine g_bipush (v := (100 : Int32)) hC dX12_cannot_156 (by decide) ?_
              refine g_iload hC dX12_cannot_158 rfl ?_
              refine g_imul hC dX12_cannot_160 ?_
              refine g_iload hC dX12_cannot_161 rfl ?_
              refine g_iadd hC dX12_cannot_163 ?_
              cases h
              subst hk
              exact g_iret hC hR dX12_cannot_164 (by decide) (by decide)
theorem w_X12_cannot {b : Bd} {r : Int32 × Wd} (hC : CX b yX12_cannot.cls cX12_cannot 9 { frames := 2, cells := 0, slots := 0, locals := 43 }) (hin : yX12_cannot.name = "<init>" → b.2.2.2.2.2.2.2.2.1.name = "<init>") (hR : RT b (some .int) (some (.int r.1)) r.2 0 0) {s : Cs} {c : (Int32 × Wd) ⊕ Cs} (h : B_X12_cannot s = some c) (hk : N_X12_cannot b r c) : ∀ pc L S kc ks, P_X12_cannot s = some (pc, L, S, kc, ks) → G b pc L [] S kc ks := by
  intro pc L S kc ks hp
  unfold B_X12_cannot at h
  split at h
  · cases hp
    exact w_X12_cannot_0 hC hin hR h hk
  · cases hp
    exact w_X12_cannot_1 hC hin hR h hk
  · cases hp
    exact w_X12_cannot_2 hC hin hR h hk
  · cases h
theorem k_X12_cannot {S : Wd} {a0 : Nat} {a1 : Int32} {a2 : Int32} {r : Int32} {S' : Wd} (h : f_X12_cannot S a0 a1 a2 = some (r, S')) : Sp yX12_cannot cX12_cannot 9 (some .int) 2 43 0 0 [.ref a0, .int a1, .int a2] S (some (.int r)) S' := by
  unfold f_X12_cannot at h
  refine Sp.of (by decide +kernel) (Nat.le_of_ble_eq_true rfl) ?_
  intro b hC hin hR
  exact ru_ind (P := fun s q0 => q0 = (r, S') → ∀ pc L S kc ks, P_X12_cannot s = some (pc, L, S, kc, ks) → G b pc L [] S kc ks) (fun s q0 hB e => w_X12_cannot (r := (r, S')) hC hin hR hB e) (fun s s' q0 hB ih e => w_X12_cannot (r := (r, S')) hC hin hR hB (ih e)) h rfl _ _ _ _ _ rfl
