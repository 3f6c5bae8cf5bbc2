theorem mi_X12_trusts : MI yX12_trusts cX12_trusts 4 (some .int) 2 := ⟨tw_1284, tw_14, by decide +kernel, by decide +kernel, by decide +kernel⟩
noncomputable def f_X12_trusts (S : Wd) (a0 : Nat) (a1 : Int32) (a2 : Int32) : Option (Int32 × Wd) := bd2 (f_X12_isFirm S a1) (fun r3 S2 => if r3 = 0 then (gd (ob S2 a0 12) (bd2 (f_X12_finding S2 a0 (-100001 : Int32)) (fun r36 S34 => some (r36, S34)))) else (gd (ob S2 a0 12) (Option.bind (wO S2 a0 0) (fun q6 => gd (ix S2 q6 100 ((290 : Int32) + a1)) (gd (ob S2 a0 12) (Option.bind (wO S2 a0 0) (fun q10 => gd (ix S2 q10 100 ((300 : Int32) + a1)) (if ((wI S2 q6 ((290 : Int32) + a1).toNatClampNeg) + (wI S2 q10 ((300 : Int32) + a1).toNatClampNeg)) = (200 : Int32) then (gd (ob S2 a0 12) (bd2 (f_X12_finding S2 a0 (-100005 : Int32)) (fun r32 S30 => some (r32, S30)))) else (gd (ob S2 a0 12) (Option.bind (f_X12_keep S2 a0) (fun S15 => gd (ob S15 a0 12) (Option.bind (wO S15 a0 0) (fun q18 => if a2 = 0 then (gd (ix S15 q18 100 ((300 : Int32) + a1)) (gd (ix S15 q18 100 ((300 : Int32) + a1)) (ltS (sI S15 q18 ((300 : Int32) + a1).toNatClampNeg ((wI S15 q18 ((300 : Int32) + a1).toNatClampNeg) + (1 : Int32))) (fun S23 => some ((((wI S2 q6 ((290 : Int32) + a1).toNatClampNeg) + (wI S2 q10 ((300 : Int32) + a1).toNatClampNeg)) + (1 : Int32)), S23))))) else (gd (ix S15 q18 100 ((290 : Int32) + a1)) (gd (ix S15 q18 100 ((290 : Int32) + a1)) (ltS (sI S15 q18 ((290 : Int32) + a1).toNatClampNeg ((wI S15 q18 ((290 : Int32) + a1).toNatClampNeg) + (1 : Int32))) (fun S27 => some ((((wI S2 q6 ((290 : Int32) + a1).toNatClampNeg) + (wI S2 q10 ((300 : Int32) + a1).toNatClampNeg)) + (1 : Int32)), S27))))))))))))))))))
set_option maxRecDepth 100000 in
set_option maxHeartbeats 4000000 in
theorem k_X12_trusts {S : Wd} {a0 : Nat} {a1 : Int32} {a2 : Int32} {r : Int32} {S' : Wd} (h : f_X12_trusts S a0 a1 a2 = some (r, S')) : Sp yX12_trusts cX12_trusts 4 (some .int) 2 42 0 0 [.ref a0, .int a1, .int a2] S (some (.int r)) S' := by
  unfold f_X12_trusts at h
  refine Sp.of (by decide +kernel) (Nat.le_of_ble_eq_true rfl) ?_
  intro b hC hin hR
  show G b 0 [(0, .ref a0), (1, .int a1), (2, .int a2)] [] S 0 0
  refine g_iload_n hC dX12_trusts_0 rfl ?_
  obtain ⟨r3, S2, hr1, h⟩ := bd2_some h
  refine g_callS (rest := []) hC mi_X12_isFirm (k_X12_isFirm hr1) tw_1257 tw_1258 dX12_trusts_1 rfl rfl ⟨by decide, by decide⟩ (Nat.le_of_ble_eq_true rfl) ⟨by decide, by decide⟩ ?_
  refine g_if_ne (tgt := 14) hC dX12_trusts_4 (by decide) (fun hc4 => ?_) (fun hc4 => ?_)
  · rw [if_neg hc4] at h
    refine g_aload_n hC dX12_trusts_14 rfl ?_
    obtain ⟨ho5, h⟩ := gd_some h
    obtain ⟨q6, hq7, h⟩ := Option.bind_eq_some_iff.mp h
    refine g_getr (k := 0) (q := q6) hC ck_X12 (by decide) tw_984 rfl (by decide) dX12_trusts_15 ho5 hq7 ?_
    refine g_sipush (v := (290 : Int32)) hC dX12_trusts_18 (by decide) ?_
    refine g_iload_n hC dX12_trusts_21 rfl ?_
    refine g_iadd hC dX12_trusts_22 ?_
    obtain ⟨hx8, h⟩ := gd_some h
    refine g_iald hC dX12_trusts_23 hx8.1 hx8.2 ?_
    refine g_aload_n hC dX12_trusts_24 rfl ?_
    obtain ⟨ho9, h⟩ := gd_some h
    obtain ⟨q10, hq11, h⟩ := Option.bind_eq_some_iff.mp h
    refine g_getr (k := 0) (q := q10) hC ck_X12 (by decide) tw_984 rfl (by decide) dX12_trusts_25 ho9 hq11 ?_
    refine g_sipush (v := (300 : Int32)) hC dX12_trusts_28 (by decide) ?_
    refine g_iload_n hC dX12_trusts_31 rfl ?_
    refine g_iadd hC dX12_trusts_32 ?_
    obtain ⟨hx12, h⟩ := gd_some h
    refine g_iald hC dX12_trusts_33 hx12.1 hx12.2 ?_
    refine g_iadd hC dX12_trusts_34 ?_
    refine g_istore_n (L' := [(3, .int ((wI S2 q6 ((290 : Int32) + a1).toNatClampNeg) + (wI S2 q10 ((300 : Int32) + a1).toNatClampNeg))), (0, .ref a0), (1, .int a1), (2, .int a2)]) hC dX12_trusts_35 (by decide) rfl ?_
    refine g_iload_n hC dX12_trusts_36 rfl ?_
    refine g_sipush (v := (200 : Int32)) hC dX12_trusts_37 (by decide) ?_
    refine g_icmp_ne (tgt := 50) hC dX12_trusts_40 (by decide) (fun hc13 => ?_) (fun hc13 => ?_)
    · rw [if_neg hc13] at h
      refine g_aload_n hC dX12_trusts_50 rfl ?_
      obtain ⟨ho16, h⟩ := gd_some h
      obtain ⟨S15, hr14, h⟩ := Option.bind_eq_some_iff.mp h
      refine g_callV (rest := []) hC mi_X12_keep (k_X12_keep hr14) ck_X12.1 (by decide) ho16 tw_1084 tw_1086 ts_25 dX12_trusts_51 rfl rfl ⟨by decide, by decide⟩ (Nat.le_of_ble_eq_true rfl) ⟨by decide, by decide⟩ ?_
      refine g_aload_n hC dX12_trusts_54 rfl ?_
      obtain ⟨ho17, h⟩ := gd_some h
      obtain ⟨q18, hq19, h⟩ := Option.bind_eq_some_iff.mp h
      refine g_getr (k := 0) (q := q18) hC ck_X12 (by decide) tw_984 rfl (by decide) dX12_trusts_55 ho17 hq19 ?_
      refine g_iload_n hC dX12_trusts_58 rfl ?_
      refine g_if_eq (tgt := 68) hC dX12_trusts_59 (by decide) (fun hc20 => ?_) (fun hc20 => ?_)
      · rw [if_pos hc20] at h
        refine g_sipush (v := (300 : Int32)) hC dX12_trusts_68 (by decide) ?_
        refine g_iload_n hC dX12_trusts_71 rfl ?_
        refine g_iadd hC dX12_trusts_72 ?_
        refine g_dup2 hC dX12_trusts_73 rfl rfl ?_
        obtain ⟨hx21, h⟩ := gd_some h
        refine g_iald hC dX12_trusts_74 hx21.1 hx21.2 ?_
        refine g_iconst (v := (1 : Int32)) hC dX12_trusts_75 (by decide) ?_
        refine g_iadd hC dX12_trusts_76 ?_
        obtain ⟨hx22, h⟩ := gd_some h
        refine g_iast hC dX12_trusts_77 hx22.1 hx22.2 ?_
        refine g_name (fun S23 eS24 => ?_)
        have h := ltS_use eS24 h
        refine g_iload_n hC dX12_trusts_78 rfl ?_
        refine g_iconst (v := (1 : Int32)) hC dX12_trusts_79 (by decide) ?_
        refine g_iadd hC dX12_trusts_80 ?_
        cases h
        exact g_iret hC hR dX12_trusts_81 (by decide) (by decide)
      · rw [if_neg hc20] at h
        refine g_sipush (v := (290 : Int32)) hC dX12_trusts_62 (by decide) ?_
        refine g_goto (tgt := 71) hC dX12_trusts_65 (by decide) ?_
        refine g_iload_n hC dX12_trusts_71 rfl ?_
        refine g_iadd hC dX12_trusts_72 ?_
        refine g_dup2 hC dX12_trusts_73 rfl rfl ?_
        obtain ⟨hx25, h⟩ := gd_some h
        refine g_iald hC dX12_trusts_74 hx25.1 hx25.2 ?_
        refine g_iconst (v := (1 : Int32)) hC dX12_trusts_75 (by decide) ?_
        refine g_iadd hC dX12_trusts_76 ?_
        obtain ⟨hx26, h⟩ := gd_some h
        refine g_iast hC dX12_trusts_77 hx26.1 hx26.2 ?_
        refine g_name (fun S27 eS28 => ?_)
        have h := ltS_use eS28 h
        refine g_iload_n hC dX12_trusts_78 rfl ?_
        refine g_iconst (v := (1 : Int32)) hC dX12_trusts_79 (by decide) ?_
        refine g_iadd hC dX12_trusts_80 ?_
        cases h
        exact g_iret hC hR dX12_trusts_81 (by decide) (by decide)
    · rw [if_pos hc13] at h
      refine g_aload_n hC dX12_trusts_43 rfl ?_
      refine g_ldc hC tw_1106 dX12_trusts_44 ?_
      obtain ⟨ho31, h⟩ := gd_some h
      obtain ⟨r32, S30, hr29, h⟩ := bd2_some h
      refine g_callV (rest := []) hC mi_X12_finding (k_X12_finding hr29) ck_X12.1 (by decide) ho31 tw_1069 tw_1071 ts_24 dX12_trusts_46 rfl rfl ⟨by decide, by decide⟩ (Nat.le_of_ble_eq_true rfl) ⟨by decide, by decide⟩ ?_
      cases h
      exact g_iret hC hR dX12_trusts_49 (by decide) (by decide)
  · rw [if_pos hc4] at h
    refine g_aload_n hC dX12_trusts_7 rfl ?_
    refine g_ldc hC tw_1083 dX12_trusts_8 ?_
    obtain ⟨ho35, h⟩ := gd_some h
    obtain ⟨r36, S34, hr33, h⟩ := bd2_some h
    refine g_callV (rest := []) hC mi_X12_finding (k_X12_finding hr33) ck_X12.1 (by decide) ho35 tw_1069 tw_1071 ts_24 dX12_trusts_10 rfl rfl ⟨by decide, by decide⟩ (Nat.le_of_ble_eq_true rfl) ⟨by decide, by decide⟩ ?_
    cases h
    exact g_iret hC hR dX12_trusts_13 (by decide) (by decide)

theorem mi_X12_trustOf : MI yX12_trustOf cX12_trustOf 3 (some .int) 2 := ⟨tw_1292, tw_14, by decide +kernel, by decide +kernel, by decide +kernel⟩
noncomputable def f_X12_trustOf (S : Wd) (a0 : Nat) (a1 : Int32) (a2 : Int32) : Option (Int32 × Wd) := gd (ob S a0 12) (Option.bind (wO S a0 0) (fun q2 => gd (ix S q2 100 ((290 : Int32) + a1)) (gd (ob S a0 12) (Option.bind (wO S a0 0) (fun q6 => gd (ix S q6 100 ((290 : Int32) + a1)) (gd (ob S a0 12) (Option.bind (wO S a0 0) (fun q10 => gd (ix S q10 100 ((300 : Int32) + a1)) (gd (¬ (((wI S q6 ((290 : Int32) + a1).toNatClampNeg) + (wI S q10 ((300 : Int32) + a1).toNatClampNeg)) + (3 : Int32)) = 0) (some ((((100 : Int32) * ((wI S q2 ((290 : Int32) + a1).toNatClampNeg) + a2)) / (((wI S q6 ((290 : Int32) + a1).toNatClampNeg) + (wI S q10 ((300 : Int32) + a1).toNatClampNeg)) + (3 : Int32))), S)))))))))))
set_option maxRecDepth 100000 in
set_option maxHeartbeats 4000000 in
theorem k_X12_trustOf {S : Wd} {a0 : Nat} {a1 : Int32} {a2 : Int32} {r : Int32} {S' : Wd} (h : f_X12_trustOf S a0 a1 a2 = some (r, S')) : Sp yX12_trustOf cX12_trustOf 3 (some .int) 0 0 0 0 [.ref a0, .int a1, .int a2] S (some (.int r)) S' := by
  unfold f_X12_trustOf at h
  refine Sp.of (by decide +kernel) (Nat.le_of_ble_eq_true rfl) ?_
  intro b hC hin hR
  show G b 0 [(0, .ref a0), (1, .int a1), (2, .int a2)] [] S 0 0
  refine g_bipush (v := (100 : Int32)) hC dX12_trustOf_0 (by decide) ?_
  refine g_aload_n hC dX12_trustOf_2 rfl ?_
  obtain ⟨ho1, h⟩ := gd_some h
  obtain ⟨q2, hq3, h⟩ := Option.bind_eq_some_iff.mp h
  refine g_getr (k := 0) (q := q2) hC ck_X12 (by decide) tw_984 rfl (by decide) dX12_trustOf_3 ho1 hq3 ?_
  refine g_sipush (v := (290 : Int32)) hC dX12_trustOf_6 (by decide) ?_
  refine g_iload_n hC dX12_trustOf_9 rfl ?_
  refine g_iadd hC dX12_trustOf_10 ?_
  obtain ⟨hx4, h⟩ := gd_some h
  refine g_iald hC dX12_trustOf_11 hx4.1 hx4.2 ?_
  refine g_iload_n hC dX12_trustOf_12 rfl ?_
  refine g_iadd hC dX12_trustOf_13 ?_
  refine g_imul hC dX12_trustOf_14 ?_
  refine g_aload_n hC dX12_trustOf_15 rfl ?_
  obtain ⟨ho5, h⟩ := gd_some h
  obtain ⟨q6, hq7, h⟩ := Option.bind_eq_some_iff.mp h
  refine g_getr (k := 0) (q := q6) hC ck_X12 (by decide) tw_984 rfl (by decide) dX12_trustOf_16 ho5 hq7 ?_
  refine g_sipush (v := (290 : Int32)) hC dX12_trustOf_19 (by decide) ?_
  refine g_iload_n hC dX12_trustOf_22 rfl ?_
  refine g_iadd hC dX12_trustOf_23 ?_
  obtain ⟨hx8, h⟩ := gd_some h
  refine g_iald hC dX12_trustOf_24 hx8.1 hx8.2 ?_
  refine g_aload_n hC dX12_trustOf_25 rfl ?_
  obtain ⟨ho9, h⟩ := gd_some h
  obtain ⟨q10, hq11, h⟩ := Option.bind_eq_some_iff.mp h
  refine g_getr (k := 0) (q := q10) hC ck_X12 (by decide) tw_984 rfl (by decide) dX12_trustOf_26 ho9 hq11 ?_
  refine g_sipush (v := (300 : Int32)) hC dX12_trustOf_29 (by decide) ?_
  refine g_iload_n hC dX12_trustOf_32 rfl ?_
  refine g_iadd hC dX12_trustOf_33 ?_
  obtain ⟨hx12, h⟩ := gd_some h
  refine g_iald hC dX12_trustOf_34 hx12.1 hx12.2 ?_
  refine g_iadd hC dX12_trustOf_35 ?_
  refine g_iconst (v := (3 : Int32)) hC dX12_trustOf_36 (by decide) ?_
  refine g_iadd hC dX12_trustOf_37 ?_
  obtain ⟨hz13, h⟩ := gd_some h
  refine g_idiv hC dX12_trustOf_38 hz13 ?_
  cases h
  exact g_iret hC hR dX12_trustOf_39 (by decide) (by decide)

theorem mi_X12_trust : MI yX12_trust cX12_trust 3 (some .int) 2 := ⟨tw_1288, tw_14, by decide +kernel, by decide +kernel, by decide +kernel⟩
noncomputable def f_X12_trust (S : Wd) (a0 : Nat) (a1 : Int32) (a2 : Int32) : Option (Int32 × Wd) := bd2 (f_X12_isFirm S a1) (fun r3 S2 => if r3 = 0 then (gd (ob S2 a0 12) (bd2 (f_X12_finding S2 a0 (-100001 : Int32)) (fun r8 S6 => some (r8, S6)))) else (if a2 = 0 then (gd (ob S2 a0 12) (bd2 (f_X12_trustOf S2 a0 a1 (0 : Int32)) (fun r13 S11 => some (r13, S11)))) else (gd (ob S2 a0 12) (bd2 (f_X12_trustOf S2 a0 a1 (3 : Int32)) (fun r17 S15 => some (r17, S15))))))
set_option maxRecDepth 100000 in
set_option maxHeartbeats 4000000 in
theorem k_X12_trust {S : Wd} {a0 : Nat} {a1 : Int32} {a2 : Int32} {r : Int32} {S' : Wd} (h : f_X12_trust S a0 a1 a2 = some (r, S')) : Sp yX12_trust cX12_trust 3 (some .int) 2 42 0 0 [.ref a0, .int a1, .int a2] S (some (.int r)) S' := by
  unfold f_X12_trust at h
  refine Sp.of (by decide +kernel) (Nat.le_of_ble_eq_true rfl) ?_
  intro b hC hin hR
  show G b 0 [(0, .ref a0), (1, .int a1), (2, .int a2)] [] S 0 0
  refine g_iload_n hC dX12_trust_0 rfl ?_
  obtain ⟨r3, S2, hr1, h⟩ := bd2_some h
  refine g_callS (rest := []) hC mi_X12_isFirm (k_X12_isFirm hr1) tw_1257 tw_1258 dX12_trust_1 rfl rfl ⟨by decide, by decide⟩ (Nat.le_of_ble_eq_true rfl) ⟨by decide, by decide⟩ ?_
  refine g_if_eq (tgt := 24) hC dX12_trust_4 (by decide) (fun hc4 => ?_) (fun hc4 => ?_)
  · rw [if_pos hc4] at h
    refine g_aload_n hC dX12_trust_24 rfl ?_
    refine g_ldc hC tw_1083 dX12_trust_25 ?_
    obtain ⟨ho7, h⟩ := gd_some h
    obtain ⟨r8, S6, hr5, h⟩ := bd2_some h
    refine g_callV (rest := []) hC mi_X12_finding (k_X12_finding hr5) ck_X12.1 (by decide) ho7 tw_1069 tw_1071 ts_24 dX12_trust_27 rfl rfl ⟨by decide, by decide⟩ (Nat.le_of_ble_eq_true rfl) ⟨by decide, by decide⟩ ?_
    cases h
    exact g_iret hC hR dX12_trust_30 (by decide) (by decide)
  · rw [if_neg hc4] at h
    refine g_aload_n hC dX12_trust_7 rfl ?_
    refine g_iload_n hC dX12_trust_8 rfl ?_
    refine g_iload_n hC dX12_trust_9 rfl ?_
    refine g_if_eq (tgt := 17) hC dX12_trust_10 (by decide) (fun hc9 => ?_) (fun hc9 => ?_)
    · rw [if_pos hc9] at h
      refine g_iconst (v := (0 : Int32)) hC dX12_trust_17 (by decide) ?_
      obtain ⟨ho12, h⟩ := gd_some h
      obtain ⟨r13, S11, hr10, h⟩ := bd2_some h
      refine g_callV (rest := []) hC mi_X12_trustOf (k_X12_trustOf hr10) ck_X12.1 (by decide) ho12 tw_1289 tw_1291 ts_44 dX12_trust_18 rfl rfl ⟨by decide, by decide⟩ (Nat.le_of_ble_eq_true rfl) ⟨by decide, by decide⟩ ?_
      refine g_goto (tgt := 30) hC dX12_trust_21 (by decide) ?_
      cases h
      exact g_iret hC hR dX12_trust_30 (by decide) (by decide)
    · rw [if_neg hc9] at h
      refine g_iconst (v := (3 : Int32)) hC dX12_trust_13 (by decide) ?_
      refine g_goto (tgt := 18) hC dX12_trust_14 (by decide) ?_
      obtain ⟨ho16, h⟩ := gd_some h
      obtain ⟨r17, S15, hr14, h⟩ := bd2_some h
      refine g_callV (rest := []) hC mi_X12_trustOf (k_X12_trustOf hr14) ck_X12.1 (by decide) ho16 tw_1289 tw_1291 ts_44 dX12_trust_18 rfl rfl ⟨by decide, by decide⟩ (Nat.le_of_ble_eq_true rfl) ⟨by decide, by decide⟩ ?_
      refine g_goto (tgt := 30) hC dX12_trust_21 (by decide) ?_
      cases h
      exact g_iret hC hR dX12_trust_30 (by decide) (by decide)

theorem mi_X12_owe : MI yX12_owe cX12_owe 5 (some .int) 3 := ⟨tw_1296, tw_14, by decide +kernel, by decide +kernel, by decide +kernel⟩
noncomputable def f_X12_owe (S : Wd) (a0 : Nat) (a1 : Int32) (a2 : Int32) (a3 : Int32) : Option (Int32 × Wd) := bd2 (f_X12_isFirm S a1) (fun r3 S2 => if r3 = 0 then (gd (ob S2 a0 12) (bd2 (f_X12_finding S2 a0 (-100001 : Int32)) (fun r8 S6 => some (r8, S6)))) else (bd2 (f_X12_isFirm S2 a2) (fun r11 S10 => if r11 = 0 then (gd (ob S10 a0 12) (bd2 (f_X12_finding S10 a0 (-100001 : Int32)) (fun r16 S14 => some (r16, S14)))) else (bd2 (f_X12_within S10 a3 (-99 : Int32) (99 : Int32)) (fun r19 S18 => if r19 = 0 then (gd (ob S18 a0 12) (bd2 (f_X12_finding S18 a0 (-100001 : Int32)) (fun r55 S53 => some (r55, S53)))) else (if a1 = a2 then (gd (ob S18 a0 12) (bd2 (f_X12_finding S18 a0 (-100003 : Int32)) (fun r51 S49 => some (r51, S49)))) else (gd (ob S18 a0 12) (Option.bind (wO S18 a0 0) (fun q23 => gd (ix S18 q23 100 (((310 : Int32) + ((10 : Int32) * a1)) + a2)) (bd2 (f_X12_within S18 ((wI S18 q23 (((310 : Int32) + ((10 : Int32) * a1)) + a2).toNatClampNeg) + a3) (-9999 : Int32) (9999 : Int32)) (fun r28 S27 => if r28 = 0 then (gd (ob S27 a0 12) (bd2 (f_X12_finding S27 a0 (-100005 : Int32)) (fun r47 S45 => some (r47, S45)))) else (gd (ob S27 a0 12) (Option.bind (f_X12_keep S27 a0) (fun S31 => gd (ob S31 a0 12) (Option.bind (wO S31 a0 0) (fun q34 => gd (ix S31 q34 100 (((310 : Int32) + ((10 : Int32) * a1)) + a2)) (gd (ix S31 q34 100 (((310 : Int32) + ((10 : Int32) * a1)) + a2)) (ltS (sI S31 q34 (((310 : Int32) + ((10 : Int32) * a1)) + a2).toNatClampNeg ((wI S31 q34 (((310 : Int32) + ((10 : Int32) * a1)) + a2).toNatClampNeg) + a3)) (fun S38 => gd (ob S38 a0 12) (Option.bind (wO S38 a0 0) (fun q41 => gd (ix S38 q41 100 (((310 : Int32) + ((10 : Int32) * a1)) + a2)) (some ((wI S38 q41 (((310 : Int32) + ((10 : Int32) * a1)) + a2).toNatClampNeg), S38)))))))))))))))))))))))
set_option maxRecDepth 100000 in
set_option maxHeartbeats 4000000 in
theorem k_X12_owe {S : Wd} {a0 : Nat} {a1 : Int32} {a2 : Int32} {a3 : Int32} {r : Int32} {S' : Wd} (h : f_X12_owe S a0 a1 a2 a3 = some (r, S')) : Sp yX12_owe cX12_owe 5 (some .int) 2 42 0 0 [.ref a0, .int a1, .int a2, .int a3] S (some (.int r)) S' := by
  unfold f_X12_owe at h
  refine Sp.of (by decide +kernel) (Nat.le_of_ble_eq_true rfl) ?_
  intro b hC hin hR
  show G b 0 [(0, .ref a0), (1, .int a1), (2, .int a2), (3, .int a3)] [] S 0 0
  refine g_iload_n hC dX12_owe_0 rfl ?_
  obtain ⟨r3, S2, hr1, h⟩ := bd2_some h
  refine g_callS (rest := []) hC mi_X12_isFirm (k_X12_isFirm hr1) tw_1257 tw_1258 dX12_owe_1 rfl rfl ⟨by decide, by decide⟩ (Nat.le_of_ble_eq_true rfl) ⟨by decide, by decide⟩ ?_
  refine g_if_eq (tgt := 25) hC dX12_owe_4 (by decide) (fun hc4 => ?_) (fun hc4 => ?_)
  · rw [if_pos hc4] at h
    refine g_aload_n hC dX12_owe_25 rfl ?_
    refine g_ldc hC tw_1083 dX12_owe_26 ?_
    obtain ⟨ho7, h⟩ := gd_some h
    obtain ⟨r8, S6, hr5, h⟩ := bd2_some h
    refine g_callV (rest := []) hC mi_X12_finding (k_X12_finding hr5) ck_X12.1 (by decide) ho7 tw_1069 tw_1071 ts_24 dX12_owe_28 rfl rfl ⟨by decide, by decide⟩ (Nat.le_of_ble_eq_true rfl) ⟨by decide, by decide⟩ ?_
    cases h
    exact g_iret hC hR dX12_owe_31 (by decide) (by decide)
  · rw [if_neg hc4] at h
    refine g_iload_n hC dX12_owe_7 rfl ?_
    obtain ⟨r11, S10, hr9, h⟩ := bd2_some h
    refine g_callS (rest := []) hC mi_X12_isFirm (k_X12_isFirm hr9) tw_1257 tw_1258 dX12_owe_8 rfl rfl ⟨by decide, by decide⟩ (Nat.le_of_ble_eq_true rfl) ⟨by decide, by decide⟩ ?_
    refine g_if_eq (tgt := 25) hC dX12_owe_11 (by decide) (fun hc12 => ?_) (fun hc12 => ?_)
    · rw [if_pos hc12] at h
      refine g_aload_n hC dX12_owe_25 rfl ?_
      refine g_ldc hC tw_1083 dX12_owe_26 ?_
      obtain ⟨ho15, h⟩ := gd_some h
      obtain ⟨r16, S14, hr13, h⟩ := bd2_some h
      refine g_callV (rest := []) hC mi_X12_finding (k_X12_finding hr13) ck_X12.1 (by decide) ho15 tw_1069 tw_1071 ts_24 dX12_owe_28 rfl rfl ⟨by decide, by decide⟩ (Nat.le_of_ble_eq_true rfl) ⟨by decide, by decide⟩ ?_
      cases h
      exact g_iret hC hR dX12_owe_31 (by decide) (by decide)
    · rw [if_neg hc12] at h
      refine g_iload_n hC dX12_owe_14 rfl ?_
      refine g_bipush (v := (-99 : Int32)) hC dX12_owe_15 (by decide) ?_
      refine g_bipush (v := (99 : Int32)) hC dX12_owe_17 (by decide) ?_
      obtain ⟨r19, S18, hr17, h⟩ := bd2_some h
      refine g_callS (rest := []) hC mi_X12_within (k_X12_within hr17) tw_1080 tw_1081 dX12_owe_19 rfl rfl ⟨by decide, by decide⟩ (Nat.le_of_ble_eq_true rfl) ⟨by decide, by decide⟩ ?_
      refine g_if_ne (tgt := 32) hC dX12_owe_22 (by decide) (fun hc20 => ?_) (fun hc20 => ?_)
      · rw [if_neg hc20] at h
        refine g_iload_n hC dX12_owe_32 rfl ?_
        refine g_iload_n hC dX12_owe_33 rfl ?_
        refine g_icmp_ne (tgt := 44) hC dX12_owe_34 (by decide) (fun hc21 => ?_) (fun hc21 => ?_)
        · rw [if_neg hc21] at h
          refine g_sipush (v := (310 : Int32)) hC dX12_owe_44 (by decide) ?_
          refine g_bipush (v := (10 : Int32)) hC dX12_owe_47 (by decide) ?_
          refine g_iload_n hC dX12_owe_49 rfl ?_
          refine g_imul hC dX12_owe_50 ?_
          refine g_iadd hC dX12_owe_51 ?_
          refine g_iload_n hC dX12_owe_52 rfl ?_
          refine g_iadd hC dX12_owe_53 ?_
          refine g_istore (L' := [(4, .int (((310 : Int32) + ((10 : Int32) * a1)) + a2)), (0, .ref a0), (1, .int a1), (2, .int a2), (3, .int a3)]) hC dX12_owe_54 (by decide) rfl ?_
          refine g_aload_n hC dX12_owe_56 rfl ?_
          obtain ⟨ho22, h⟩ := gd_some h
          obtain ⟨q23, hq24, h⟩ := Option.bind_eq_some_iff.mp h
          refine g_getr (k := 0) (q := q23) hC ck_X12 (by decide) tw_984 rfl (by decide) dX12_owe_57 ho22 hq24 ?_
          refine g_iload hC dX12_owe_60 rfl ?_
          obtain ⟨hx25, h⟩ := gd_some h
          refine g_iald hC dX12_owe_62 hx25.1 hx25.2 ?_
          refine g_iload_n hC dX12_owe_63 rfl ?_
          refine g_iadd hC dX12_owe_64 ?_
          refine g_sipush (v := (-9999 : Int32)) hC dX12_owe_65 (by decide) ?_
          refine g_sipush (v := (9999 : Int32)) hC dX12_owe_68 (by decide) ?_
          obtain ⟨r28, S27, hr26, h⟩ := bd2_some h
          refine g_callS (rest := []) hC mi_X12_within (k_X12_within hr26) tw_1080 tw_1081 dX12_owe_71 rfl rfl ⟨by decide, by decide⟩ (Nat.le_of_ble_eq_true rfl) ⟨by decide, by decide⟩ ?_
          refine g_if_ne (tgt := 84) hC dX12_owe_74 (by decide) (fun hc29 => ?_) (fun hc29 => ?_)
          · rw [if_neg hc29] at h
            refine g_aload_n hC dX12_owe_84 rfl ?_
            obtain ⟨ho32, h⟩ := gd_some h
            obtain ⟨S31, hr30, h⟩ := Option.bind_eq_some_iff.mp h
            refine g_callV (rest := []) hC mi_X12_keep (k_X12_keep hr30) ck_X12.1 (by decide) ho32 tw_1084 tw_1086 ts_25 dX12_owe_85 rfl rfl ⟨by decide, by decide⟩ (Nat.le_of_ble_eq_true rfl) ⟨by decide, by decide⟩ ?_
            refine g_aload_n hC dX12_owe_88 rfl ?_
            obtain ⟨ho33, h⟩ := gd_some h
            obtain ⟨q34, hq35, h⟩ := Option.bind_eq_some_iff.mp h
            refine g_getr (k := 0) (q := q34) hC ck_X12 (by decide) tw_984 rfl (by decide) dX12_owe_89 ho33 hq35 ?_
            refine g_iload hC dX12_owe_92 rfl ?_
            refine g_dup2 hC dX12_owe_94 rfl rfl ?_
            obtain ⟨hx36, h⟩ := gd_some h
            refine g_iald hC dX12_owe_95 hx36.1 hx36.2 ?_
            refine g_iload_n hC dX12_owe_96 rfl ?_
            refine g_iadd hC dX12_owe_97 ?_
            obtain ⟨hx37, h⟩ := gd_some h
            refine g_iast hC dX12_owe_98 hx37.1 hx37.2 ?_
            refine g_name (fun S38 eS39 => ?_)
            have h := ltS_use eS39 h
            refine g_aload_n hC dX12_owe_99 rfl ?_
            obtain ⟨ho40, h⟩ := gd_some h
            obtain ⟨q41, hq42, h⟩ := Option.bind_eq_some_iff.mp h
            refine g_getr (k := 0) (q := q41) hC ck_X12 (by decide) tw_984 rfl (by decide) dX12_owe_100 ho40 hq42 ?_
            refine g_iload hC dX12_owe_103 rfl ?_
            obtain ⟨hx43, h⟩ := gd_some h
            refine g_iald hC dX12_owe_105 hx43.1 hx43.2 ?_
            cases h
            exact g_iret hC hR dX12_owe_106 (by decide) (by decide)
          · rw [if_pos hc29] at h
            refine g_aload_n hC dX12_owe_77 rfl ?_
            refine g_ldc hC tw_1106 dX12_owe_78 ?_
            obtain ⟨ho46, h⟩ := gd_some h
            obtain ⟨r47, S45, hr44, h⟩ := bd2_some h
            refine g_callV (rest := []) hC mi_X12_finding (k_X12_finding hr44) ck_X12.1 (by decide) ho46 tw_1069 tw_1071 ts_24 dX12_owe_80 rfl rfl ⟨by decide, by decide⟩ (Nat.le_of_ble_eq_true rfl) ⟨by decide, by decide⟩ ?_
            cases h
            exact g_iret hC hR dX12_owe_83 (by decide) (by decide)
        · rw [if_pos hc21] at h
          refine g_aload_n hC dX12_owe_37 rfl ?_
          refine g_ldc hC tw_1130 dX12_owe_38 ?_
          obtain ⟨ho50, h⟩ := gd_some h
          obtain ⟨r51, S49, hr48, h⟩ := bd2_some h
          refine g_callV (rest := []) hC mi_X12_finding (k_X12_finding hr48) ck_X12.1 (by decide) ho50 tw_1069 tw_1071 ts_24 dX12_owe_40 rfl rfl ⟨by decide, by decide⟩ (Nat.le_of_ble_eq_true rfl) ⟨by decide, by decide⟩ ?_
          cases h
          exact g_iret hC hR dX12_owe_43 (by decide) (by decide)
      · rw [if_pos hc20] at h
        refine g_aload_n hC dX12_owe_25 rfl ?_
        refine g_ldc hC tw_1083 dX12_owe_26 ?_
        obtain ⟨ho54, h⟩ := gd_some h
        obtain ⟨r55, S53, hr52, h⟩ := bd2_some h
        refine g_callV (rest := []) hC mi_X12_finding (k_X12_finding hr52) ck_X12.1 (by decide) ho54 tw_1069 tw_1071 ts_24 dX12_owe_28 rfl rfl ⟨by decide, by decide⟩ (Nat.le_of_ble_eq_true rfl) ⟨by decide, by decide⟩ ?_
        cases h
        exact g_iret hC hR dX12_owe_31 (by decide) (by decide)

theorem mi_X12_netOf : MI yX12_netOf cX12_netOf 4 (some .int) 1 := ⟨tw_1304, tw_14, by decide +kernel, by decide +kernel, by decide +kernel⟩
noncomputable def B_X12_netOf_0 (S : Wd) (a0 : Nat) (a1 : Int32) : Option ((Int32 × Wd) ⊕ Cs) := some (.inr (1, [a0], [a1, (0 : Int32), (0 : Int32)], S))
noncomputable def B_X12_netOf_1 (S : Wd) (x0 : Nat) (x1 : Int32) (x2 : Int32) (x3 : Int32) : Option ((Int32 × Wd) ⊕ Cs) := if (10 : Int32) ≤ x3 then (some (.inl (x2, S))) else (gd (ob S x0 12) (Option.bind (wO S x0 0) (fun q3 => gd (ix S q3 100 (((310 : Int32) + ((10 : Int32) * x3)) + x1)) (gd (ob S x0 12) (Option.bind (wO S x0 0) (fun q7 => gd (ix S q7 100 (((310 : Int32) + ((10 : Int32) * x1)) + x3)) (some (.inr (1, [x0], [x1, (x2 + ((wI S q3 (((310 : Int32) + ((10 : Int32) * x3)) + x1).toNatClampNeg) - (wI S q7 (((310 : Int32) + ((10 : Int32) * x1)) + x3).toNatClampNeg))), (x3 + (1 : Int32))], S)))))))))
noncomputable def B_X12_netOf : Cs → Option ((Int32 × Wd) ⊕ Cs)
  | (0, [a0], [a1], S) => B_X12_netOf_0 S a0 a1
  | (1, [x0], [x1, x2, x3], S) => B_X12_netOf_1 S x0 x1 x2 x3
  | _ => none
def P_X12_netOf : Cs → Option (Nat × List (Nat × Value) × Wd × Nat × Nat)
  | (0, [a0], [a1], S) => some (0, [(0, .ref a0), (1, .int a1)], S, 0, 0)
  | (1, [x0], [x1, x2, x3], S) => some (4, [(0, .ref x0), (1, .int x1), (2, .int x2), (3, .int x3)], S, 0, 0)
  | _ => none
noncomputable def f_X12_netOf (S : Wd) (a0 : Nat) (a1 : Int32) : Option (Int32 × Wd) := ru B_X12_netOf (0, [a0], [a1], S)
abbrev N_X12_netOf (b : Bd) (r : Int32 × Wd) (c : (Int32 × Wd) ⊕ Cs) : Prop := match c with
  | .inl r' => r' = r
  | .inr s' => ∀ pc L S kc ks, P_X12_netOf s' = some (pc, L, S, kc, ks) → G b pc L [] S kc ks
set_option maxRecDepth 100000 in
set_option maxHeartbeats 4000000 in
theorem w_X12_netOf_0 {b : Bd} {r : Int32 × Wd} (hC : CX b yX12_netOf.cls cX12_netOf 4 { frames := 0, cells := 0, slots := 0, locals := 0 }) (hin : yX12_netOf.name = "<init>" → b.2.2.2.2.2.2.2.2.1.name = "<init>") (hR : RT b (some .int) (some (.int r.1)) r.2 0 0) {S : Wd} {a0 : Nat} {a1 : Int32} {c : (Int32 × Wd) ⊕ Cs} (h : B_X12_netOf_0 S a0 a1 = some c) (hk : N_X12_netOf b r c) : G b 0 [(0, .ref a0), (1, .int a1)] [] S 0 0 := by
  unfold B_X12_netOf_0 at h
  refine g_iconst (v := (0 : Int32)) hC dX12_netOf_0 (by decide) ?_
  refine g_istore_n (L' := [(2, .int (0 : Int32)), (0, .ref a0), (1, .int a1)]) hC dX12_netOf_1 (by decide) rfl ?_
  refine g_iconst (v := (0 : Int32)) hC dX12_netOf_2 (by decide) ?_
  refine g_istore_n (L' := [(3, .int (0 : Int32)), (2, .int (0 : Int32)), (0, .ref a0), (1, .int a1)]) hC dX12_netOf_3 (by decide) rfl ?_
  cases h
  refine g_pick (L' := [(0, .ref a0), (1, .int a1), (2, .int (0 : Int32)), (3, .int (0 : Int32))]) [2, 3, 1, 0] rfl ?_
  exact hk _ _ _ _ _ rfl
set_option maxRecDepth 100000 in
set_option maxHeartbeats 4000000 in
theorem w_X12_netOf_1 {b : Bd} {r : Int32 × Wd} (hC : CX b yX12_netOf.cls cX12_netOf 4 { frames := 0, cells := 0, slots := 0, locals := 0 }) (hin : yX12_netOf.name = "<init>" → b.2.2.2.2.2.2.2.2.1.name = "<init>") (hR : RT b (some .int) (some (.int r.1)) r.2 0 0) {S : Wd} {x0 : Nat} {x1 : Int32} {x2 : Int32} {x3 : Int32} {c : (Int32 × Wd) ⊕ Cs} (h : B_X12_netOf_1 S x0 x1 x2 x3 = some c) (hk : N_X12_netOf b r c) : G b 4 [(0, .ref x0), (1, .int x1), (2, .int x2), (3, .int x3)] [] S 0 0 := by
  unfold B_X12_netOf_1 at h
  refine g_iload_n hC dX12_netOf_4 rfl ?_
  refine g_bipush (v := (10 : Int32)) hC dX12_netOf_5 (by decide) ?_
  refine g_icmp_ge (tgt := 50) hC dX12_netOf_7 (by decide) (fun hc1 => ?_) (fun hc1 => ?_)
  · rw [if_pos hc1] at h
    refine g_iload_n hC dX12_netOf_50 rfl ?_
    cases h
    subst hk
    exact g_iret hC hR dX12_netOf_51 (by decide) (by decide)
  · rw [if_neg hc1] at h
    refine g_iload_n hC dX12_netOf_10 rfl ?_
    refine g_aload_n hC dX12_netOf_11 rfl ?_
    obtain ⟨ho2, h⟩ := gd_some h
    obtain ⟨q3, hq4, h⟩ := Option.bind_eq_some_iff.mp h
    refine g_getr (k := 0) (q := q3) hC ck_X12 (by decide) tw_984 rfl (by decide) dX12_netOf_12 ho2 hq4 ?_
    refine g_sipush (v := (310 : Int32)) hC dX12_netOf_15 (by decide) ?_
    refine g_bipush (v := (10 : Int32)) hC dX12_netOf_18 (by decide) ?_
    refine g_iload_n hC dX12_netOf_20 rfl ?_
    refine g_imul hC dX12_netOf_21 ?_
    refine g_iadd hC dX12_netOf_22 ?_
    refine g_iload_n hC dX12_netOf_23 rfl ?_
    refine g_iadd hC dX12_netOf_24 ?_
    obtain ⟨hx5, h⟩ := gd_some h
    refine g_iald hC dX12_netOf_25 hx5.1 hx5.2 ?_
    refine g_aload_n hC dX12_netOf_26 rfl ?_
    obtain ⟨ho6, h⟩ := gd_some h
    obtain ⟨q7, hq8, h⟩ := Option.bind_eq_some_iff.mp h
    refine g_getr (k := 0) (q := q7) hC ck_X12 (by decide) tw_984 rfl (by decide) dX12_netOf_27 ho6 hq8 ?_
    refine g_sipush (v := (310 : Int32)) hC dX12_netOf_30 (by decide) ?_
    refine g_bipush (v := (10 : Int32)) hC dX12_netOf_33 (by decide) ?_
    refine g_iload_n hC dX12_netOf_35 rfl ?_
    refine g_imul hC dX12_netOf_36 ?_
    refine g_iadd hC dX12_netOf_37 ?_
    refine g_iload_n hC dX12_netOf_38 rfl ?_
    refine g_iadd hC dX12_netOf_39 ?_
    obtain ⟨hx9, h⟩ := gd_some h
    refine g_iald hC dX12_netOf_40 hx9.1 hx9.2 ?_
    refine g_isub hC dX12_netOf_41 ?_
    refine g_iadd hC dX12_netOf_42 ?_
    refine g_istore_n (L' := [(2, .int (x2 + ((wI S q3 (((310 : Int32) + ((10 : Int32) * x3)) + x1).toNatClampNeg) - (wI S q7 (((310 : Int32) + ((10 : Int32) * x1)) + x3).toNatClampNeg)))), (0, .ref x0), (1, .int x1), (3, .int x3)]) hC dX12_netOf_43 (by decide) rfl ?_
    refine g_iinc (v := (1 : Int32)) (L' := [(3, .int (x3 + (1 : Int32))), (2, .int (x2 + ((wI S q3 (((310 : Int32) + ((10 : Int32) * x3)) + x1).toNatClampNeg) - (wI S q7 (((310 : Int32) + ((10 : Int32) * x1)) + x3).toNatClampNeg)))), (0, .ref x0), (1, .int x1)]) hC dX12_netOf_44 rfl (by decide) (by decide) rfl ?_
    refine g_goto (tgt := 4) hC dX12_netOf_47 (by decide) ?_
    cases h
    refine g_pick (L' := [(0, .ref x0), (1, .int x1), (2, .int (x2 + ((wI S q3 (((310 : Int32) + ((10 : Int32) * x3)) + x1).toNatClampNeg) - (wI S q7 (((310 : Int32) + ((10 : Int32) * x1)) + x3).toNatClampNeg)))), (3, .int (x3 + (1 : Int32)))]) [2, 3, 1, 0] rfl ?_
    exact hk _ _ _ _ _ rfl
theorem w_X12_netOf {b : Bd} {r : Int32 × Wd} (hC : CX b yX12_netOf.cls cX12_netOf 4 { frames := 0, cells := 0, slots := 0, locals := 0 }) (hin : yX12_netOf.name = "<init>" → b.2.2.2.2.2.2.2.2.1.name = "<init>") (hR : RT b (some .int) (some (.int r.1)) r.2 0 0) {s : Cs} {c : (Int32 × Wd) ⊕ Cs} (h : B_X12_netOf s = some c) (hk : N_X12_netOf b r c) : ∀ pc L S kc ks, P_X12_netOf s = some (pc, L, S, kc, ks) → G b pc L [] S kc ks := by
  intro pc L S kc ks hp
  unfold B_X12_netOf at h
  split at h
  · cases hp
    exact w_X12_netOf_0 hC hin hR h hk
  · cases hp
    exact w_X12_netOf_1 hC hin hR h hk
  · cases h
theorem k_X12_netOf {S : Wd} {a0 : Nat} {a1 : Int32} {r : Int32} {S' : Wd} (h : f_X12_netOf S a0 a1 = some (r, S')) : Sp yX12_netOf cX12_netOf 4 (some .int) 0 0 0 0 [.ref a0, .int a1] S (some (.int r)) S' := by
  unfold f_X12_netOf at h
  refine Sp.of (by decide +kernel) (Nat.le_of_ble_eq_true rfl) ?_
  intro b hC hin hR
  exact ru_ind (P := fun s q0 => q0 = (r, S') → ∀ pc L S kc ks, P_X12_netOf s = some (pc, L, S, kc, ks) → G b pc L [] S kc ks) (fun s q0 hB e => w_X12_netOf (r := (r, S')) hC hin hR hB e) (fun s s' q0 hB ih e => w_X12_netOf (r := (r, S')) hC hin hR hB (ih e)) h rfl _ _ _ _ _ rfl

theorem mi_X12_net : MI yX12_net cX12_net 2 (some .int) 1 := ⟨tw_1300, tw_14, by decide +kernel, by decide +kernel, by decide +kernel⟩
noncomputable def f_X12_net (S : Wd) (a0 : Nat) (a1 : Int32) : Option (Int32 × Wd) := bd2 (f_X12_isFirm S a1) (fun r3 S2 => if r3 = 0 then (gd (ob S2 a0 12) (bd2 (f_X12_finding S2 a0 (-100001 : Int32)) (fun r8 S6 => some (r8, S6)))) else (gd (ob S2 a0 12) (bd2 (f_X12_netOf S2 a0 a1) (fun r12 S10 => some (r12, S10)))))
set_option maxRecDepth 100000 in
set_option maxHeartbeats 4000000 in
theorem k_X12_net {S : Wd} {a0 : Nat} {a1 : Int32} {r : Int32} {S' : Wd} (h : f_X12_net S a0 a1 = some (r, S')) : Sp yX12_net cX12_net 2 (some .int) 2 42 0 0 [.ref a0, .int a1] S (some (.int r)) S' := by
  unfold f_X12_net at h
  refine Sp.of (by decide +kernel) (Nat.le_of_ble_eq_true rfl) ?_
  intro b hC hin hR
  show G b 0 [(0, .ref a0), (1, .int a1)] [] S 0 0
  refine g_iload_n hC dX12_net_0 rfl ?_
  obtain ⟨r3, S2, hr1, h⟩ := bd2_some h
  refine g_callS (rest := []) hC mi_X12_isFirm (k_X12_isFirm hr1) tw_1257 tw_1258 dX12_net_1 rfl rfl ⟨by decide, by decide⟩ (Nat.le_of_ble_eq_true rfl) ⟨by decide, by decide⟩ ?_
  refine g_if_eq (tgt := 15) hC dX12_net_4 (by decide) (fun hc4 => ?_) (fun hc4 => ?_)
  · rw [if_pos hc4] at h
    refine g_aload_n hC dX12_net_15 rfl ?_
    refine g_ldc hC tw_1083 dX12_net_16 ?_
    obtain ⟨ho7, h⟩ := gd_some h
    obtain ⟨r8, S6, hr5, h⟩ := bd2_some h
    refine g_callV (rest := []) hC mi_X12_finding (k_X12_finding hr5) ck_X12.1 (by decide) ho7 tw_1069 tw_1071 ts_24 dX12_net_18 rfl rfl ⟨by decide, by decide⟩ (Nat.le_of_ble_eq_true rfl) ⟨by decide, by decide⟩ ?_
    cases h
    exact g_iret hC hR dX12_net_21 (by decide) (by decide)
  · rw [if_neg hc4] at h
    refine g_aload_n hC dX12_net_7 rfl ?_
    refine g_iload_n hC dX12_net_8 rfl ?_
    obtain ⟨ho11, h⟩ := gd_some h
    obtain ⟨r12, S10, hr9, h⟩ := bd2_some h
    refine g_callV (rest := []) hC mi_X12_netOf (k_X12_netOf hr9) ck_X12.1 (by decide) ho11 tw_1301 tw_1303 ts_45 dX12_net_9 rfl rfl ⟨by decide, by decide⟩ (Nat.le_of_ble_eq_true rfl) ⟨by decide, by decide⟩ ?_
    refine g_goto (tgt := 21) hC dX12_net_12 (by decide) ?_
    cases h
    exact g_iret hC hR dX12_net_21 (by decide) (by decide)

theorem mi_X12_findPayments : MI yX12_findPayments cX12_findPayments 6 (some .int) 0 := ⟨tw_1312, tw_14, by decide +kernel, by decide +kernel, by decide +kernel⟩
noncomputable def B_X12_findPayments_0 (S : Wd) (a0 : Nat) : Option ((Int32 × Wd) ⊕ Cs) := some (.inr (1, [a0], [(0 : Int32)], S))
noncomputable def B_X12_findPayments_1 (S : Wd) (x0 : Nat) (x1 : Int32) : Option ((Int32 × Wd) ⊕ Cs) := if (10 : Int32) ≤ x1 then (some (.inr (2, [x0], [(0 : Int32), (1 : Int32)], S))) else (gd (ob S x0 12) (Option.bind (wO S x0 22) (fun q3 => gd (ob S x0 12) (bd2 (f_X12_netOf S x0 x1) (fun r8 S6 => gd (ix S6 q3 100 x1) (ltS (sI S6 q3 x1.toNatClampNeg r8) (fun S10 => some (.inr (1, [x0], [(x1 + (1 : Int32))], S10)))))))))
noncomputable def B_X12_findPayments_2 (S : Wd) (x0 : Nat) (x1 : Int32) (x2 : Int32) : Option ((Int32 × Wd) ⊕ Cs) := if x2 = 0 then (some (.inl (x1, S))) else (some (.inr (3, [x0], [x1, x2, (0 : Int32), (0 : Int32), (1 : Int32)], S)))
noncomputable def B_X12_findPayments_3 (S : Wd) (x0 : Nat) (x1 : Int32) (x2 : Int32) (x3 : Int32) (x4 : Int32) (x5 : Int32) : Option ((Int32 × Wd) ⊕ Cs) := if (10 : Int32) ≤ x5 then (gd (ob S x0 12) (Option.bind (wO S x0 22) (fun q15 => gd (ix S q15 100 x3) (if (wI S q15 x3.toNatClampNeg) ≤ 0 then (if (0 : Int32) = 0 then (some (.inr (2, [x0], [x1, (0 : Int32)], S))) else (none)) else (if (1 : Int32) = 0 then (none) else (gd (ob S x0 12) (Option.bind (wO S x0 22) (fun q22 => gd (ix S q22 100 x3) (gd (ob S x0 12) (Option.bind (wO S x0 22) (fun q26 => gd (ix S q26 100 x4) (gd (ob S x0 12) (Option.bind (wO S x0 23) (fun q30 => gd (ix S q30 100 x1) (ltS (sI S q30 x1.toNatClampNeg ((((1000000 : Int32) * x4) + ((100000 : Int32) * x3)) + (mMin (wI S q22 x3.toNatClampNeg) (-(wI S q26 x4.toNatClampNeg))))) (fun S33 => gd (ob S33 x0 12) (Option.bind (wO S33 x0 22) (fun q36 => gd (ix S33 q36 100 x3) (gd (ix S33 q36 100 x3) (ltS (sI S33 q36 x3.toNatClampNeg ((wI S33 q36 x3.toNatClampNeg) - (mMin (wI S q22 x3.toNatClampNeg) (-(wI S q26 x4.toNatClampNeg))))) (fun S40 => gd (ob S40 x0 12) (Option.bind (wO S40 x0 22) (fun q43 => gd (ix S40 q43 100 x4) (gd (ix S40 q43 100 x4) (ltS (sI S40 q43 x4.toNatClampNeg ((wI S40 q43 x4.toNatClampNeg) + (mMin (wI S q22 x3.toNatClampNeg) (-(wI S q26 x4.toNatClampNeg))))) (fun S47 => some (.inr (2, [x0], [(x1 + (1 : Int32)), (1 : Int32)], S47)))))))))))))))))))))))))))) else (gd (ob S x0 12) (Option.bind (wO S x0 22) (fun q50 => gd (ix S q50 100 x5) (gd (ob S x0 12) (Option.bind (wO S x0 22) (fun q54 => gd (ix S q54 100 x3) (if (wI S q50 x5.toNatClampNeg) ≤ (wI S q54 x3.toNatClampNeg) then (gd (ob S x0 12) (Option.bind (wO S x0 22) (fun q59 => gd (ix S q59 100 x5) (gd (ob S x0 12) (Option.bind (wO S x0 22) (fun q63 => gd (ix S q63 100 x4) (if (wI S q63 x4.toNatClampNeg) ≤ (wI S q59 x5.toNatClampNeg) then (some (.inr (3, [x0], [x1, x2, x3, x4, (x5 + (1 : Int32))], S))) else (some (.inr (3, [x0], [x1, x2, x3, x5, (x5 + (1 : Int32))], S)))))))))) else (gd (ob S x0 12) (Option.bind (wO S x0 22) (fun q68 => gd (ix S q68 100 x5) (gd (ob S x0 12) (Option.bind (wO S x0 22) (fun q72 => gd (ix S q72 100 x4) (if (wI S q72 x4.toNatClampNeg) ≤ (wI S q68 x5.toNatClampNeg) then (some (.inr (3, [x0], [x1, x2, x5, x4, (x5 + (1 : Int32))], S))) else (some (.inr (3, [x0], [x1, x2, x5, x5, (x5 + (1 : Int32))], S)))))))))))))))))
noncomputable def B_X12_findPayments : Cs → Option ((Int32 × Wd) ⊕ Cs)
  | (0, [a0], [], S) => B_X12_findPayments_0 S a0
  | (1, [x0], [x1], S) => B_X12_findPayments_1 S x0 x1
  | (2, [x0], [x1, x2], S) => B_X12_findPayments_2 S x0 x1 x2
  | (3, [x0], [x1, x2, x3, x4, x5], S) => B_X12_findPayments_3 S x0 x1 x2 x3 x4 x5
  | _ => none
def P_X12_findPayments : Cs → Option (Nat × List (Nat × Value) × Wd × Nat × Nat)
  | (0, [a0], [], S) => some (0, [(0, .ref a0)], S, 0, 0)
  | (1, [x0], [x1], S) => some (2, [(0, .ref x0), (1, .int x1)], S, 0, 0)
  | (2, [x0], [x1, x2], S) => some (29, [(0, .ref x0), (1, .int x1), (2, .int x2)], S, 0, 0)
  | (3, [x0], [x1, x2, x3, x4, x5], S) => some (41, [(0, .ref x0), (1, .int x1), (2, .int x2), (3, .int x3), (4, .int x4), (5, .int x5)], S, 0, 0)
  | _ => none
noncomputable def f_X12_findPayments (S : Wd) (a0 : Nat) : Option (Int32 × Wd) := ru B_X12_findPayments (0, [a0], [], S)
abbrev N_X12_findPayments (b : Bd) (r : Int32 × Wd) (c : (Int32 × Wd) ⊕ Cs) : Prop := match c with
  | .inl r' => r' = r
  | .inr s' => ∀ pc L S kc ks, P_X12_findPayments s' = some (pc, L, S, kc, ks) → G b pc L [] S kc ks
set_option maxRecDepth 100000 in
set_option maxHeartbeats 4000000 in
theorem w_X12_findPayments_0 {b : Bd} {r : Int32 × Wd} (hC : CX b yX12_findPayments.cls cX12_findPayments 6 { frames := 1, cells := 0, slots := 0, locals := 23 }) (hin : yX12_findPayments.name = "<init>" → b.2.2.2.2.2.2.2.2.1.name = "<init>") (hR : RT b (some .int) (some (.int r.1)) r.2 0 0) {S : Wd} {a0 : Nat} {c : (Int32 × Wd) ⊕ Cs} (h : B_X12_findPayments_0 S a0 = some c) (hk : N_X12_findPayments b r c) : G b 0 [(0, .ref a0)] [] S 0 0 := by
  unfold B_X12_findPayments_0 at h
  refine g_iconst (v := (0 : Int32)) hC dX12_findPayments_0 (by decide) ?_
  refine g_istore_n (L' := [(1, .int (0 : Int32)), (0, .ref a0)]) hC dX12_findPayments_1 (by decide) rfl ?_
  cases h
  refine g_pick (L' := [(0, .ref a0), (1, .int (0 : Int32))]) [1, 0] rfl ?_
  exact hk _ _ _ _ _ rfl
set_option maxRecDepth 100000 in
set_option maxHeartbeats 4000000 in
theorem w_X12_findPayments_1 {b : Bd} {r : Int32 × Wd} (hC : CX b yX12_findPayments.cls cX12_findPayments 6 { frames := 1, cells := 0, slots := 0, locals := 23 }) (hin : yX12_findPayments.name = "<init>" → b.2.2.2.2.2.2.2.2.1.name = "<init>") (hR : RT b (some .int) (some (.int r.1)) r.2 0 0) {S : Wd} {x0 : Nat} {x1 : Int32} {c : (Int32 × Wd) ⊕ Cs} (h : B_X12_findPayments_1 S x0 x1 = some c) (hk : N_X12_findPayments b r c) : G b 2 [(0, .ref x0), (1, .int x1)] [] S 0 0 := by
  unfold B_X12_findPayments_1 at h
  refine g_iload_n hC dX12_findPayments_2 rfl ?_
  refine g_bipush (v := (10 : Int32)) hC dX12_findPayments_3 (by decide) ?_
  refine g_icmp_ge (tgt := 25) hC dX12_findPayments_5 (by decide) (fun hc1 => ?_) (fun hc1 => ?_)
  · rw [if_pos hc1] at h
    refine g_iconst (v := (0 : Int32)) hC dX12_findPayments_25 (by decide) ?_
    refine g_istore_n (L' := [(1, .int (0 : Int32)), (0, .ref x0)]) hC dX12_findPayments_26 (by decide) rfl ?_
    refine g_iconst (v := (1 : Int32)) hC dX12_findPayments_27 (by decide) ?_
    refine g_istore_n (L' := [(2, .int (1 : Int32)), (1, .int (0 : Int32)), (0, .ref x0)]) hC dX12_findPayments_28 (by decide) rfl ?_
    cases h
    refine g_pick (L' := [(0, .ref x0), (1, .int (0 : Int32)), (2, .int (1 : Int32))]) [2, 1, 0] rfl ?_
    exact hk _ _ _ _ _ rfl
  · rw [if_neg hc1] at h
    refine g_aload_n hC dX12_findPayments_8 rfl ?_
    obtain ⟨ho2, h⟩ := gd_some h
    obtain ⟨q3, hq4, h⟩ := Option.bind_eq_some_iff.mp h
    refine g_getr (k := 22) (q := q3) hC ck_X12 (by decide) tw_1006 rfl (by decide) dX12_findPayments_9 ho2 hq4 ?_
    refine g_iload_n hC dX12_findPayments_12 rfl ?_
    refine g_aload_n hC dX12_findPayments_13 rfl ?_
    refine g_iload_n hC dX12_findPayments_14 rfl ?_
    obtain ⟨ho7, h⟩ := gd_some h
    obtain ⟨r8, S6, hr5, h⟩ := bd2_some h
    refine g_callV (rest := [.int x1, .ref q3]) hC mi_X12_netOf (k_X12_netOf hr5) ck_X12.1 (by decide) ho7 tw_1301 tw_1303 ts_45 dX12_findPayments_15 rfl rfl ⟨by decide, by decide⟩ (Nat.le_of_ble_eq_true rfl) ⟨by decide, by decide⟩ ?_
    obtain ⟨hx9, h⟩ := gd_some h
    refine g_iast hC dX12_findPayments_18 hx9.1 hx9.2 ?_
    refine g_name (fun S10 eS11 => ?_)
    have h := ltS_use eS11 h
    refine g_iinc (v := (1 : Int32)) (L' := [(1, .int (x1 + (1 : Int32))), (0, .ref x0)]) hC dX12_findPayments_19 rfl (by decide) (by decide) rfl ?_
    refine g_goto (tgt := 2) hC dX12_findPayments_22 (by decide) ?_
    cases h
    refine g_pick (L' := [(0, .ref x0), (1, .int (x1 + (1 : Int32)))]) [1, 0] rfl ?_
    exact hk _ _ _ _ _ rfl
set_option maxRecDepth 100000 in
set_option maxHeartbeats 4000000 in
theorem w_X12_findPayments_2 {b : Bd} {r : Int32 × Wd} (hC : CX b yX12_findPayments.cls cX12_findPayments 6 { frames := 1, cells := 0, slots := 0, locals := 23 }) (hin : yX12_findPayments.name = "<init>" → b.2.2.2.2.2.2.2.2.1.name = "<init>") (hR : RT b (some .int) (some (.int r.1)) r.2 0 0) {S : Wd} {x0 : Nat} {x1 : Int32} {x2 : Int32} {c : (Int32 × Wd) ⊕ Cs} (h : B_X12_findPayments_2 S x0 x1 x2 = some c) (hk : N_X12_findPayments b r c) : G b 29 [(0, .ref x0), (1, .int x1), (2, .int x2)] [] S 0 0 := by
  unfold B_X12_findPayments_2 at h
  refine g_iload_n hC dX12_findPayments_29 rfl ?_
  refine g_if_eq (tgt := 189) hC dX12_findPayments_30 (by decide) (fun hc12 => ?_) (fun hc12 => ?_)
  · rw [if_pos hc12] at h
    refine g_iload_n hC dX12_findPayments_189 rfl ?_
    cases h
    subst hk
    exact g_iret hC hR dX12_findPayments_190 (by decide) (by decide)
  · rw [if_neg hc12] at h
    refine g_iconst (v := (0 : Int32)) hC dX12_findPayments_33 (by decide) ?_
    refine g_istore_n (L' := [(3, .int (0 : Int32)), (0, .ref x0), (1, .int x1), (2, .int x2)]) hC dX12_findPayments_34 (by decide) rfl ?_
    refine g_iconst (v := (0 : Int32)) hC dX12_findPayments_35 (by decide) ?_
    refine g_istore (L' := [(4, .int (0 : Int32)), (3, .int (0 : Int32)), (0, .ref x0), (1, .int x1), (2, .int x2)]) hC dX12_findPayments_36 (by decide) rfl ?_
    refine g_iconst (v := (1 : Int32)) hC dX12_findPayments_38 (by decide) ?_
    refine g_istore (L' := [(5, .int (1 : Int32)), (4, .int (0 : Int32)), (3, .int (0 : Int32)), (0, .ref x0), (1, .int x1), (2, .int x2)]) hC dX12_findPayments_39 (by decide) rfl ?_
    cases h
    refine g_pick (L' := [(0, .ref x0), (1, .int x1), (2, .int x2), (3, .int (0 : Int32)), (4, .int (0 : Int32)), (5, .int (1 : Int32))]) [3, 4, 5, 2, 1, 0] rfl ?_
    exact hk _ _ _ _ _ rfl
set_option maxRecDepth 100000 in
set_option maxHeartbeats 4000000 in
theorem w_X12_findPayments_3 {b : Bd} {r : Int32 × Wd} (hC : CX b yX12_findPayments.cls cX12_findPayments 6 { frames := 1, cells := 0, slots := 0, locals := 23 }) (hin : yX12_findPayments.name = "<init>" → b.2.2.2.2.2.2.2.2.1.name = "<init>") (hR : RT b (some .int) (some (.int r.1)) r.2 0 0) {S : Wd} {x0 : Nat} {x1 : Int32} {x2 : Int32} {x3 : Int32} {x4 : Int32} {x5 : Int32} {c : (Int32 × Wd) ⊕ Cs} (h : B_X12_findPayments_3 S x0 x1 x2 x3 x4 x5 = some c) (hk : N_X12_findPayments b r c) : G b 41 [(0, .ref x0), (1, .int x1), (2, .int x2), (3, .int x3), (4, .int x4), (5, .int x5)] [] S 0 0 := by
  unfold B_X12_findPayments_3 at h
  refine g_iload hC dX12_findPayments_41 rfl ?_
  refine g_bipush (v := (10 : Int32)) hC dX12_findPayments_43 (by decide) ?_
  refine g_icmp_ge (tgt := 103) hC dX12_findPayments_45 (by decide) (fun hc13 => ?_) (fun hc13 => ?_)
  · rw [if_pos hc13] at h
    refine g_aload_n hC dX12_findPayments_103 rfl ?_
    obtain ⟨ho14, h⟩ := gd_some h
    obtain ⟨q15, hq16, h⟩ := Option.bind_eq_some_iff.mp h
    refine g_getr (k := 22) (q := q15) hC ck_X12 (by decide) tw_1006 rfl (by decide) dX12_findPayments_104 ho14 hq16 ?_
    refine g_iload_n hC dX12_findPayments_107 rfl ?_
    obtain ⟨hx17, h⟩ := gd_some h
    refine g_iald hC dX12_findPayments_108 hx17.1 hx17.2 ?_
    refine g_if_le (tgt := 116) hC dX12_findPayments_109 (by decide) (fun hc18 => ?_) (fun hc18 => ?_)
    · rw [if_pos hc18] at h
      refine g_iconst (v := (0 : Int32)) hC dX12_findPayments_116 (by decide) ?_
      refine g_istore_n (L' := [(2, .int (0 : Int32)), (0, .ref x0), (1, .int x1), (3, .int x3), (4, .int x4), (5, .int x5)]) hC dX12_findPayments_117 (by decide) rfl ?_
      refine g_iload_n hC dX12_findPayments_118 rfl ?_
      refine g_if_eq (tgt := 186) hC dX12_findPayments_119 (by decide) (fun hc19 => ?_) (fun hc19 => ?_)
      · rw [if_pos hc19] at h
        refine g_goto (tgt := 29) hC dX12_findPayments_186 (by decide) ?_
        cases h
        refine g_pick (L' := [(0, .ref x0), (1, .int x1), (2, .int (0 : Int32))]) [1, 2, 0] rfl ?_
        exact hk _ _ _ _ _ rfl
      · rw [if_neg hc19] at h
        cases h
    · rw [if_neg hc18] at h
      refine g_iconst (v := (1 : Int32)) hC dX12_findPayments_112 (by decide) ?_
      refine g_goto (tgt := 117) hC dX12_findPayments_113 (by decide) ?_
      refine g_istore_n (L' := [(2, .int (1 : Int32)), (0, .ref x0), (1, .int x1), (3, .int x3), (4, .int x4), (5, .int x5)]) hC dX12_findPayments_117 (by decide) rfl ?_
      refine g_iload_n hC dX12_findPayments_118 rfl ?_
      refine g_if_eq (tgt := 186) hC dX12_findPayments_119 (by decide) (fun hc20 => ?_) (fun hc20 => ?_)
      · rw [if_pos hc20] at h
        cases h
      · rw [if_neg hc20] at h
        refine g_aload_n hC dX12_findPayments_122 rfl ?_
        obtain ⟨ho21, h⟩ := gd_some h
        obtain ⟨q22, hq23, h⟩ := Option.bind_eq_some_iff.mp h
        refine g_getr (k := 22) (q := q22) hC ck_X12 (by decide) tw_1006 rfl (by decide) dX12_findPayments_123 ho21 hq23 ?_
        refine g_iload_n hC dX12_findPayments_126 rfl ?_
        obtain ⟨hx24, h⟩ := gd_some h
        refine g_iald hC dX12_findPayments_127 hx24.1 hx24.2 ?_
        refine g_aload_n hC dX12_findPayments_128 rfl ?_
        obtain ⟨ho25, h⟩ := gd_some h
        obtain ⟨q26, hq27, h⟩ := Option.bind_eq_some_iff.mp h
        refine g_getr (k := 22) (q := q26) hC ck_X12 (by decide) tw_1006 rfl (by decide) dX12_findPayments_129 ho25 hq27 ?_
        refine g_iload hC dX12_findPayments_132 rfl ?_
        obtain ⟨hx28, h⟩ := gd_some h
        refine g_iald hC dX12_findPayments_134 hx28.1 hx28.2 ?_
        refine g_ineg hC dX12_findPayments_135 ?_
        refine g_mmin (st := []) hC tw_1097 tw_364 tw_5 tw_365 dX12_findPayments_136 (by decide) (Nat.le_of_ble_eq_true rfl) (by decide) (by decide) ?_
        refine g_istore (L' := [(5, .int (mMin (wI S q22 x3.toNatClampNeg) (-(wI S q26 x4.toNatClampNeg)))), (2, .int (1 : Int32)), (0, .ref x0), (1, .int x1), (3, .int x3), (4, .int x4)]) hC dX12_findPayments_139 (by decide) rfl ?_
        refine g_aload_n hC dX12_findPayments_141 rfl ?_
        obtain ⟨ho29, h⟩ := gd_some h
        obtain ⟨q30, hq31, h⟩ := Option.bind_eq_some_iff.mp h
        refine g_getr (k := 23) (q := q30) hC ck_X12 (by decide) tw_1007 rfl (by decide) dX12_findPayments_142 ho29 hq31 ?_
        refine g_iload_n hC dX12_findPayments_145 rfl ?_
        refine g_ldc hC tw_1096 dX12_findPayments_146 ?_
        refine g_iload hC dX12_findPayments_148 rfl ?_
        refine g_imul hC dX12_findPayments_150 ?_
        refine g_ldc hC tw_1313 dX12_findPayments_151 ?_
        refine g_iload_n hC dX12_findPayments_153 rfl ?_
        refine g_imul hC dX12_findPayments_154 ?_
        refine g_iadd hC dX12_findPayments_155 ?_
        refine g_iload hC dX12_findPayments_156 rfl ?_
        refine g_iadd hC dX12_findPayments_158 ?_
        obtain ⟨hx32, h⟩ := gd_some h
        refine g_iast hC dX12_findPayments_159 hx32.1 hx32.2 ?_
        refine g_name (fun S33 eS34 => ?_)
        have h := ltS_use eS34 h
        refine g_iinc (v := (1 : Int32)) (L' := [(1, .int (x1 + (1 : Int32))), (5, .int (mMin (wI S q22 x3.toNatClampNeg) (-(wI S q26 x4.toNatClampNeg)))), (2, .int (1 : Int32)), (0, .ref x0), (3, .int x3), (4, .int x4)]) hC dX12_findPayments_160 rfl (by decide) (by decide) rfl ?_
        refine g_aload_n hC dX12_findPayments_163 rfl ?_
        obtain ⟨ho35, h⟩ := gd_some h
        obtain ⟨q36, hq37, h⟩ := Option.bind_eq_some_iff.mp h
        refine g_getr (k := 22) (q := q36) hC ck_X12 (by decide) tw_1006 rfl (by decide) dX12_findPayments_164 ho35 hq37 ?_
        refine g_iload_n hC dX12_findPayments_167 rfl ?_
        refine g_dup2 hC dX12_findPayments_168 rfl rfl ?_
        obtain ⟨hx38, h⟩ := gd_some h
        refine g_iald hC dX12_findPayments_169 hx38.1 hx38.2 ?_
        refine g_iload hC dX12_findPayments_170 rfl ?_
        refine g_isub hC dX12_findPayments_172 ?_
        obtain ⟨hx39, h⟩ := gd_some h
        refine g_iast hC dX12_findPayments_173 hx39.1 hx39.2 ?_
        refine g_name (fun S40 eS41 => ?_)
        have h := ltS_use eS41 h
        refine g_aload_n hC dX12_findPayments_174 rfl ?_
        obtain ⟨ho42, h⟩ := gd_some h
        obtain ⟨q43, hq44, h⟩ := Option.bind_eq_some_iff.mp h
        refine g_getr (k := 22) (q := q43) hC ck_X12 (by decide) tw_1006 rfl (by decide) dX12_findPayments_175 ho42 hq44 ?_
        refine g_iload hC dX12_findPayments_178 rfl ?_
        refine g_dup2 hC dX12_findPayments_180 rfl rfl ?_
        obtain ⟨hx45, h⟩ := gd_some h
        refine g_iald hC dX12_findPayments_181 hx45.1 hx45.2 ?_
        refine g_iload hC dX12_findPayments_182 rfl ?_
        refine g_iadd hC dX12_findPayments_184 ?_
        obtain ⟨hx46, h⟩ := gd_some h
        refine g_iast hC dX12_findPayments_185 hx46.1 hx46.2 ?_
        refine g_name (fun S47 eS48 => ?_)
        have h := ltS_use eS48 h
        refine g_goto (tgt := 29) hC dX12_findPayments_186 (by decide) ?_
        cases h
        refine g_pick (L' := [(0, .ref x0), (1, .int (x1 + (1 : Int32))), (2, .int (1 : Int32))]) [3, 0, 2] rfl ?_
        exact hk _ _ _ _ _ rfl
  · rw [if_neg hc13] at h
    refine g_aload_n hC dX12_findPayments_48 rfl ?_
    obtain ⟨ho49, h⟩ := gd_some h
    obtain ⟨q50, hq51, h⟩ := Option.bind_eq_some_iff.mp h
    refine g_getr (k := 22) (q := q50) hC ck_X12 (by decide) tw_1006 rfl (by decide) dX12_findPayments_49 ho49 hq51 ?_
    refine g_iload hC dX12_findPayments_52 rfl ?_
    obtain ⟨hx52, h⟩ := gd_some h
    refine g_iald hC dX12_findPayments_54 hx52.1 hx52.2 ?_
    refine g_aload_n hC dX12_findPayments_55 rfl ?_
    obtain ⟨ho53, h⟩ := gd_some h
    obtain ⟨q54, hq55, h⟩ := Option.bind_eq_some_iff.mp h
    refine g_getr (k := 22) (q := q54) hC ck_X12 (by decide) tw_1006 rfl (by decide) dX12_findPayments_56 ho53 hq55 ?_
    refine g_iload_n hC dX12_findPayments_59 rfl ?_
    obtain ⟨hx56, h⟩ := gd_some h
    refine g_iald hC dX12_findPayments_60 hx56.1 hx56.2 ?_
    refine g_icmp_le (tgt := 69) hC dX12_findPayments_61 (by decide) (fun hc57 => ?_) (fun hc57 => ?_)
    · rw [if_pos hc57] at h
      refine g_iload_n hC dX12_findPayments_69 rfl ?_
      refine g_istore_n (L' := [(3, .int x3), (0, .ref x0), (1, .int x1), (2, .int x2), (4, .int x4), (5, .int x5)]) hC dX12_findPayments_70 (by decide) rfl ?_
      refine g_aload_n hC dX12_findPayments_71 rfl ?_
      obtain ⟨ho58, h⟩ := gd_some h
      obtain ⟨q59, hq60, h⟩ := Option.bind_eq_some_iff.mp h
      refine g_getr (k := 22) (q := q59) hC ck_X12 (by decide) tw_1006 rfl (by decide) dX12_findPayments_72 ho58 hq60 ?_
      refine g_iload hC dX12_findPayments_75 rfl ?_
      obtain ⟨hx61, h⟩ := gd_some h
      refine g_iald hC dX12_findPayments_77 hx61.1 hx61.2 ?_
      refine g_aload_n hC dX12_findPayments_78 rfl ?_
      obtain ⟨ho62, h⟩ := gd_some h
      obtain ⟨q63, hq64, h⟩ := Option.bind_eq_some_iff.mp h
      refine g_getr (k := 22) (q := q63) hC ck_X12 (by decide) tw_1006 rfl (by decide) dX12_findPayments_79 ho62 hq64 ?_
      refine g_iload hC dX12_findPayments_82 rfl ?_
      obtain ⟨hx65, h⟩ := gd_some h
      refine g_iald hC dX12_findPayments_84 hx65.1 hx65.2 ?_
      refine g_icmp_ge (tgt := 93) hC dX12_findPayments_85 (by decide) (fun hc66 => ?_) (fun hc66 => ?_)
      · rw [if_pos hc66] at h
        refine g_iload hC dX12_findPayments_93 rfl ?_
        refine g_istore (L' := [(4, .int x4), (3, .int x3), (0, .ref x0), (1, .int x1), (2, .int x2), (5, .int x5)]) hC dX12_findPayments_95 (by decide) rfl ?_
        refine g_iinc (v := (1 : Int32)) (L' := [(5, .int (x5 + (1 : Int32))), (4, .int x4), (3, .int x3), (0, .ref x0), (1, .int x1), (2, .int x2)]) hC dX12_findPayments_97 rfl (by decide) (by decide) rfl ?_
        refine g_goto (tgt := 41) hC dX12_findPayments_100 (by decide) ?_
        cases h
        refine g_pick (L' := [(0, .ref x0), (1, .int x1), (2, .int x2), (3, .int x3), (4, .int x4), (5, .int (x5 + (1 : Int32)))]) [3, 4, 5, 2, 1, 0] rfl ?_
        exact hk _ _ _ _ _ rfl
      · rw [if_neg hc66] at h
        refine g_iload hC dX12_findPayments_88 rfl ?_
        refine g_goto (tgt := 95) hC dX12_findPayments_90 (by decide) ?_
        refine g_istore (L' := [(4, .int x5), (3, .int x3), (0, .ref x0), (1, .int x1), (2, .int x2), (5, .int x5)]) hC dX12_findPayments_95 (by decide) rfl ?_
        refine g_iinc (v := (1 : Int32)) (L' := [(5, .int (x5 + (1 : Int32))), (4, .int x5), (3, .int x3), (0, .ref x0), (1, .int x1), (2, .int x2)]) hC dX12_findPayments_97 rfl (by decide) (by decide) rfl ?_
        refine g_goto (tgt := 41) hC dX12_findPayments_100 (by decide) ?_
        cases h
        refine g_pick (L' := [(0, .ref x0), (1, .int x1), (2, .int x2), (3, .int x3), (4, .int x5), (5, .int (x5 + (1 : Int32)))]) [3, 4, 5, 2, 1, 0] rfl ?_
        exact hk _ _ _ _ _ rfl
    · rw [if_neg hc57] at h
      refine g_iload hC dX12_findPayments_64 rfl ?_
      refine g_goto (tgt := 70) hC dX12_findPayments_66 (by decide) ?_
      refine g_istore_n (L' := [(3, .int x5), (0, .ref x0), (1, .int x1), (2, .int x2), (4, .int x4), (5, .int x5)]) hC dX12_findPayments_70 (by decide) rfl ?_
      refine g_aload_n hC dX12_findPayments_71 rfl ?_
      obtain ⟨ho67, h⟩ := gd_some h
      obtain ⟨q68, hq69, h⟩ := Option.bind_eq_some_iff.mp h
      refine g_getr (k := 22) (q := q68) hC ck_X12 (by decide) tw_1006 rfl (by decide) dX12_findPayments_72 ho67 hq69 ?_
      refine g_iload hC dX12_findPayments_75 rfl ?_
      obtain ⟨hx70, h⟩ := gd_some h
      refine g_iald hC dX12_findPayments_77 hx70.1 hx70.2 ?_
      refine g_aload_n hC dX12_findPayments_78 rfl ?_
      obtain ⟨ho71, h⟩ := gd_some h
      obtain ⟨q72, hq73, h⟩ := Option.bind_eq_some_iff.mp h
      refine g_getr (k := 22) (q := q72) hC ck_X12 (by decide) tw_1006 rfl (by decide) dX12_findPayments_79 ho71 hq73 ?_
      refine g_iload hC dX12_findPayments_82 rfl ?_
      obtain ⟨hx74, h⟩ := gd_some h
      refine g_iald hC dX12_findPayments_84 hx74.1 hx74.2 ?_
      refine g_icmp_ge (tgt := 93) hC dX12_findPayments_85 (by decide) (fun hc75 => ?_) (fun hc75 => ?_)
      · rw [if_pos hc75] at h
        refine g_iload hC dX12_findPayments_93 rfl ?_
        refine g_istore (L' := [(4, .int x4), (3, .int x5), (0, .ref x0), (1, .int x1), (2, .int x2), (5, .int x5)]) hC dX12_findPayments_95 (by decide) rfl ?_
        refine g_iinc (v := (1 : Int32)) (L' := [(5, .int (x5 + (1 : Int32))), (4, .int x4), (3, .int x5), (0, .ref x0), (1, .int x1), (2, .int x2)]) hC dX12_findPayments_97 rfl (by decide) (by decide) rfl ?_
        refine g_goto (tgt := 41) hC dX12_findPayments_100 (by decide) ?_
        cases h
        refine g_pick (L' := [(0, .ref x0), (1, .int x1), (2, .int x2), (3, .int x5), (4, .int x4), (5, .int (x5 + (1 : Int32)))]) [3, 4, 5, 2, 1, 0] rfl ?_
        exact hk _ _ _ _ _ rfl
      · rw [if_neg hc75] at h
        refine g_iload hC dX12_findPayments_88 rfl ?_
        refine g_goto (tgt := 95) hC dX12_findPayments_90 (by decide) ?_
        refine g_istore (L' := [(4, .int x5), (3, .int x5), (0, .ref x0), (1, .int x1), (2, .int x2), (5, .int x5)]) hC dX12_findPayments_95 (by decide) rfl ?_
        refine g_iinc (v := (1 : Int32)) (L' := [(5, .int (x5 + (1 : Int32))), (4, .int x5), (3, .int x5), (0, .ref x0), (1, .int x1), (2, .int x2)]) hC dX12_findPayments_97 rfl (by decide) (by decide) rfl ?_
        refine g_goto (tgt := 41) hC dX12_findPayments_100 (by decide) ?_
        cases h
        refine g_pick (L' := [(0, .ref x0), (1, .int x1), (2, .int x2), (3, .int x5), (4, .int x5), (5, .int (x5 + (1 : Int32)))]) [3, 4, 5, 2, 1, 0] rfl ?_
        exact hk _ _ _ _ _ rfl
theorem w_X12_findPayments {b : Bd} {r : Int32 × Wd} (hC : CX b yX12_findPayments.cls cX12_findPayments 6 { frames := 1, cells := 0, slots := 0, locals := 23 }) (hin : yX12_findPayments.name = "<init>" → b.2.2.2.2.2.2.2.2.1.name = "<init>") (hR : RT b (some .int) (some (.int r.1)) r.2 0 0) {s : Cs} {c : (Int32 × Wd) ⊕ Cs} (h : B_X12_findPayments s = some c) (hk : N_X12_findPayments b r c) : ∀ pc L S kc ks, P_X12_findPayments s = some (pc, L, S, kc, ks) → G b pc L [] S kc ks := by
  intro pc L S kc ks hp
  unfold B_X12_findPayments at h
  split at h
  · cases hp
    exact w_X12_findPayments_0 hC hin hR h hk
  · cases hp
    exact w_X12_findPayments_1 hC hin hR h hk
  · cases hp
    exact w_X12_findPayments_2 hC hin hR h hk
  · cases hp
    exact w_X12_findPayments_3 hC hin hR h hk
  · cases h
theorem k_X12_findPayments {S : Wd} {a0 : Nat} {r : Int32} {S' : Wd} (h : f_X12_findPayments S a0 = some (r, S')) : Sp yX12_findPayments cX12_findPayments 6 (some .int) 1 23 0 0 [.ref a0] S (some (.int r)) S' := by
  unfold f_X12_findPayments at h
  refine Sp.of (by decide +kernel) (Nat.le_of_ble_eq_true rfl) ?_
  intro b hC hin hR
  exact ru_ind (P := fun s q0 => q0 = (r, S') → ∀ pc L S kc ks, P_X12_findPayments s = some (pc, L, S, kc, ks) → G b pc L [] S kc ks) (fun s q0 hB e => w_X12_findPayments (r := (r, S')) hC hin hR hB e) (fun s s' q0 hB ih e => w_X12_findPayments (r := (r, S')) hC hin hR hB (ih e)) h rfl _ _ _ _ _ rfl

theorem mi_X12_clearing : MI yX12_clearing cX12_clearing 3 (some .int) 1 := ⟨tw_1308, tw_14, by decide +kernel, by decide +kernel, by decide +kernel⟩
noncomputable def f_X12_clearing (S : Wd) (a0 : Nat) (a1 : Int32) : Option (Int32 × Wd) := if (-1 : Int32) ≤ a1 then (gd (ob S a0 12) (bd2 (f_X12_findPayments S a0) (fun r5 S3 => if a1 = (-1 : Int32) then (some (r5, S3)) else (if r5 ≤ a1 then (gd (ob S3 a0 12) (bd2 (f_X12_finding S3 a0 (-100006 : Int32)) (fun r11 S9 => some (r11, S9)))) else (gd (ob S3 a0 12) (Option.bind (wO S3 a0 23) (fun q13 => gd (ix S3 q13 100 a1) (some ((wI S3 q13 a1.toNatClampNeg), S3))))))))) else (gd (ob S a0 12) (bd2 (f_X12_finding S a0 (-100001 : Int32)) (fun r19 S17 => some (r19, S17))))
set_option maxRecDepth 100000 in
set_option maxHeartbeats 4000000 in
theorem k_X12_clearing {S : Wd} {a0 : Nat} {a1 : Int32} {r : Int32} {S' : Wd} (h : f_X12_clearing S a0 a1 = some (r, S')) : Sp yX12_clearing cX12_clearing 3 (some .int) 2 48 0 0 [.ref a0, .int a1] S (some (.int r)) S' := by
  unfold f_X12_clearing at h
  refine Sp.of (by decide +kernel) (Nat.le_of_ble_eq_true rfl) ?_
  intro b hC hin hR
  show G b 0 [(0, .ref a0), (1, .int a1)] [] S 0 0
  refine g_iload_n hC dX12_clearing_0 rfl ?_
  refine g_iconst (v := (-1 : Int32)) hC dX12_clearing_1 (by decide) ?_
  refine g_icmp_ge (tgt := 12) hC dX12_clearing_2 (by decide) (fun hc1 => ?_) (fun hc1 => ?_)
  · rw [if_pos hc1] at h
    refine g_aload_n hC dX12_clearing_12 rfl ?_
    obtain ⟨ho4, h⟩ := gd_some h
    obtain ⟨r5, S3, hr2, h⟩ := bd2_some h
    refine g_callV (rest := []) hC mi_X12_findPayments (k_X12_findPayments hr2) ck_X12.1 (by decide) ho4 tw_1309 tw_1311 ts_46 dX12_clearing_13 rfl rfl ⟨by decide, by decide⟩ (Nat.le_of_ble_eq_true rfl) ⟨by decide, by decide⟩ ?_
    refine g_istore_n (L' := [(2, .int r5), (0, .ref a0), (1, .int a1)]) hC dX12_clearing_16 (by decide) rfl ?_
    refine g_iload_n hC dX12_clearing_17 rfl ?_
    refine g_iconst (v := (-1 : Int32)) hC dX12_clearing_18 (by decide) ?_
    refine g_icmp_ne (tgt := 26) hC dX12_clearing_19 (by decide) (fun hc6 => ?_) (fun hc6 => ?_)
    · rw [if_neg hc6] at h
      refine g_iload_n hC dX12_clearing_26 rfl ?_
      refine g_iload_n hC dX12_clearing_27 rfl ?_
      refine g_icmp_ge (tgt := 40) hC dX12_clearing_28 (by decide) (fun hc7 => ?_) (fun hc7 => ?_)
      · rw [if_pos hc7] at h
        refine g_aload_n hC dX12_clearing_40 rfl ?_
        refine g_ldc hC tw_1068 dX12_clearing_41 ?_
        obtain ⟨ho10, h⟩ := gd_some h
        obtain ⟨r11, S9, hr8, h⟩ := bd2_some h
        refine g_callV (rest := []) hC mi_X12_finding (k_X12_finding hr8) ck_X12.1 (by decide) ho10 tw_1069 tw_1071 ts_24 dX12_clearing_43 rfl rfl ⟨by decide, by decide⟩ (Nat.le_of_ble_eq_true rfl) ⟨by decide, by decide⟩ ?_
        cases h
        exact g_iret hC hR dX12_clearing_46 (by decide) (by decide)
      · rw [if_neg hc7] at h
        refine g_aload_n hC dX12_clearing_31 rfl ?_
        obtain ⟨ho12, h⟩ := gd_some h
        obtain ⟨q13, hq14, h⟩ := Option.bind_eq_some_iff.mp h
        refine g_getr (k := 23) (q := q13) hC ck_X12 (by decide) tw_1007 rfl (by decide) dX12_clearing_32 ho12 hq14 ?_
        refine g_iload_n hC dX12_clearing_35 rfl ?_
        obtain ⟨hx15, h⟩ := gd_some h
        refine g_iald hC dX12_clearing_36 hx15.1 hx15.2 ?_
        refine g_goto (tgt := 46) hC dX12_clearing_37 (by decide) ?_
        cases h
        exact g_iret hC hR dX12_clearing_46 (by decide) (by decide)
    · rw [if_pos hc6] at h
      refine g_iload_n hC dX12_clearing_22 rfl ?_
      refine g_goto (tgt := 46) hC dX12_clearing_23 (by decide) ?_
      cases h
      exact g_iret hC hR dX12_clearing_46 (by decide) (by decide)
  · rw [if_neg hc1] at h
    refine g_aload_n hC dX12_clearing_5 rfl ?_
    refine g_ldc hC tw_1083 dX12_clearing_6 ?_
    obtain ⟨ho18, h⟩ := gd_some h
    obtain ⟨r19, S17, hr16, h⟩ := bd2_some h
    refine g_callV (rest := []) hC mi_X12_finding (k_X12_finding hr16) ck_X12.1 (by decide) ho18 tw_1069 tw_1071 ts_24 dX12_clearing_8 rfl rfl ⟨by decide, by decide⟩ (Nat.le_of_ble_eq_true rfl) ⟨by decide, by decide⟩ ?_
    cases h
    exact g_iret hC hR dX12_clearing_11 (by decide) (by decide)

theorem mi_X12_clear : MI yX12_clear cX12_clear 3 (some .int) 0 := ⟨tw_1317, tw_14, by decide +kernel, by decide +kernel, by decide +kernel⟩
noncomputable def B_X12_clear_0 (S : Wd) (a0 : Nat) : Option ((Int32 × Wd) ⊕ Cs) := gd (ob S a0 12) (Option.bind (f_X12_keep S a0) (fun S2 => gd (ob S2 a0 12) (bd2 (f_X12_findPayments S2 a0) (fun r7 S5 => some (.inr (1, [a0], [r7, (0 : Int32)], S5))))))
noncomputable def B_X12_clear_1 (S : Wd) (x0 : Nat) (x1 : Int32) (x2 : Int32) : Option ((Int32 × Wd) ⊕ Cs) := if (100 : Int32) ≤ x2 then (some (.inl (x1, S))) else (gd (ob S x0 12) (Option.bind (wO S x0 0) (fun q10 => gd (ix S q10 100 ((310 : Int32) + x2)) (ltS (sI S q10 ((310 : Int32) + x2).toNatClampNeg (0 : Int32)) (fun S13 => some (.inr (1, [x0], [x1, (x2 + (1 : Int32))], S13)))))))
noncomputable def B_X12_clear : Cs → Option ((Int32 × Wd) ⊕ Cs)
  | (0, [a0], [], S) => B_X12_clear_0 S a0
  | (1, [x0], [x1, x2], S) => B_X12_clear_1 S x0 x1 x2
  | _ => none
def P_X12_clear : Cs → Option (Nat × List (Nat × Value) × Wd × Nat × Nat)
  | (0, [a0], [], S) => some (0, [(0, .ref a0)], S, 0, 0)
  | (1, [x0], [x1, x2], S) => some (11, [(0, .ref x0), (1, .int x1), (2, .int x2)], S, 0, 0)
  | _ => none
noncomputable def f_X12_clear (S : Wd) (a0 : Nat) : Option (Int32 × Wd) := ru B_X12_clear (0, [a0], [], S)
abbrev N_X12_clear (b : Bd) (r : Int32 × Wd) (c : (Int32 × Wd) ⊕ Cs) : Prop := match c with
  | .inl r' => r' = r
  | .inr s' => ∀ pc L S kc ks, P_X12_clear s' = some (pc, L, S, kc, ks) → G b pc L [] S kc ks
set_option maxRecDepth 100000 in
set_option maxHeartbeats 4000000 in
theorem w_X12_clear_0 {b : Bd} {r : Int32 × Wd} (hC : CX b yX12_clear.cls cX12_clear 3 { frames := 2, cells := 0, slots := 0, locals := 48 }) (hin : yX12_clear.name = "<init>" → b.2.2.2.2.2.2.2.2.1.name = "<init>") (hR : RT b (some .int) (some (.int r.1)) r.2 0 0) {S : Wd} {a0 : Nat} {c : (Int32 × Wd) ⊕ Cs} (h : B_X12_clear_0 S a0 = some c) (hk : N_X12_clear b r c) : G b 0 [(0, .ref a0)] [] S 0 0 := by
  unfold B_X12_clear_0 at h
  refine g_aload_n hC dX12_clear_0 rfl ?_
  obtain ⟨ho3, h⟩ := gd_some h
  obtain ⟨S2, hr1, h⟩ := Option.bind_eq_some_iff.mp h
  refine g_callV (rest := []) hC mi_X12_keep (k_X12_keep hr1) ck_X12.1 (by decide) ho3 tw_1084 tw_1086 ts_25 dX12_clear_1 rfl rfl ⟨by decide, by decide⟩ (Nat.le_of_ble_eq_true rfl) ⟨by decide, by decide⟩ ?_
  refine g_aload_n hC dX12_clear_4 rfl ?_
  obtain ⟨ho6, h⟩ := gd_some h
  obtain ⟨r7, S5, hr4, h⟩ := bd2_some h
  refine g_callV (rest := []) hC mi_X12_findPayments (k_X12_findPayments hr4) ck_X12.1 (by decide) ho6 tw_1309 tw_1311 ts_46 dX12_clear_5 rfl rfl ⟨by decide, by decide⟩ (Nat.le_of_ble_eq_true rfl) ⟨by decide, by decide⟩ ?_
  refine g_istore_n (L' := [(1, .int r7), (0, .ref a0)]) hC dX12_clear_8 (by decide) rfl ?_
  refine g_iconst (v := (0 : Int32)) hC dX12_clear_9 (by decide) ?_
  refine g_istore_n (L' := [(2, .int (0 : Int32)), (1, .int r7), (0, .ref a0)]) hC dX12_clear_10 (by decide) rfl ?_
  cases h
  refine g_pick (L' := [(0, .ref a0), (1, .int r7), (2, .int (0 : Int32))]) [2, 1, 0] rfl ?_
  exact hk _ _ _ _ _ rfl
set_option maxRecDepth 100000 in
set_option maxHeartbeats 4000000 in
theorem w_X12_clear_1 {b : Bd} {r : Int32 × Wd} (hC : CX b yX12_clear.cls cX12_clear 3 { frames := 2, cells := 0, slots := 0, locals := 48 }) (hin : yX12_clear.name = "<init>" → b.2.2.2.2.2.2.2.2.1.name = "<init>") (hR : RT b (some .int) (some (.int r.1)) r.2 0 0) {S : Wd} {x0 : Nat} {x1 : Int32} {x2 : Int32} {c : (Int32 × Wd) ⊕ Cs} (h : B_X12_clear_1 S x0 x1 x2 = some c) (hk : N_X12_clear b r c) : G b 11 [(0, .ref x0), (1, .int x1), (2, .int x2)] [] S 0 0 := by
  unfold B_X12_clear_1 at h
  refine g_iload_n hC dX12_clear_11 rfl ?_
  refine g_bipush (v := (100 : Int32)) hC dX12_clear_12 (by decide) ?_
  refine g_icmp_ge (tgt := 34) hC dX12_clear_14 (by decide) (fun hc8 => ?_) (fun hc8 => ?_)
  · rw [if_pos hc8] at h
    refine g_iload_n hC dX12_clear_34 rfl ?_
    cases h
    subst hk
    exact g_iret hC hR dX12_clear_35 (by decide) (by decide)
  · rw [if_neg hc8] at h
    refine g_aload_n hC dX12_clear_17 rfl ?_
    obtain ⟨ho9, h⟩ := gd_some h
    obtain ⟨q10, hq11, h⟩ := Option.bind_eq_some_iff.mp h
    refine g_getr (k := 0) (q := q10) hC ck_X12 (by decide) tw_984 rfl (by decide) dX12_clear_18 ho9 hq11 ?_
    refine g_sipush (v := (310 : Int32)) hC dX12_clear_21 (by decide) ?_
    refine g_iload_n hC dX12_clear_24 rfl ?_
    refine g_iadd hC dX12_clear_25 ?_
    refine g_iconst (v := (0 : Int32)) hC dX12_clear_26 (by decide) ?_
    obtain ⟨hx12, h⟩ := gd_some h
    refine g_iast hC dX12_clear_27 hx12.1 hx12.2 ?_
    refine g_name (fun S13 eS14 => ?_)
    have h := ltS_use eS14 h
    refine g_iinc (v := (1 : Int32)) (L' := [(2, .int (x2 + (1 : Int32))), (0, .ref x0), (1, .int x1)]) hC dX12_clear_28 rfl (by decide) (by decide) rfl ?_
    refine g_goto (tgt := 11) hC dX12_clear_31 (by decide) ?_
    cases h
    refine g_pick (L' := [(0, .ref x0), (1, .int x1), (2, .int (x2 + (1 : Int32)))]) [1, 2, 0] rfl ?_
    exact hk _ _ _ _ _ rfl
theorem w_X12_clear {b : Bd} {r : Int32 × Wd} (hC : CX b yX12_clear.cls cX12_clear 3 { frames := 2, cells := 0, slots := 0, locals := 48 }) (hin : yX12_clear.name = "<init>" → b.2.2.2.2.2.2.2.2.1.name = "<init>") (hR : RT b (some .int) (some (.int r.1)) r.2 0 0) {s : Cs} {c : (Int32 × Wd) ⊕ Cs} (h : B_X12_clear s = some c) (hk : N_X12_clear b r c) : ∀ pc L S kc ks, P_X12_clear s = some (pc, L, S, kc, ks) → G b pc L [] S kc ks := by
  intro pc L S kc ks hp
  unfold B_X12_clear at h
  split at h
  · cases hp
    exact w_X12_clear_0 hC hin hR h hk
  · cases hp
    exact w_X12_clear_1 hC hin hR h hk
  · cases h
theorem k_X12_clear {S : Wd} {a0 : Nat} {r : Int32} {S' : Wd} (h : f_X12_clear S a0 = some (r, S')) : Sp yX12_clear cX12_clear 3 (some .int) 2 48 0 0 [.ref a0] S (some (.int r)) S' := by
  unfold f_X12_clear at h
  refine Sp.of (by decide +kernel) (Nat.le_of_ble_eq_true rfl) ?_
  intro b hC hin hR
  exact ru_ind (P := fun s q0 => q0 = (r, S') → ∀ pc L S kc ks, P_X12_clear s = some (pc, L, S, kc, ks) → G b pc L [] S kc ks) (fun s q0 hB e => w_X12_clear (r := (r, S')) hC hin hR hB e) (fun s s' q0 hB ih e => w_X12_clear (r := (r, S')) hC hin hR hB (ih e)) h rfl _ _ _ _ _ rfl

theorem mi_X12_isSign : MI yX12_isSign cX12_isSign 1 (some .boolean) 1 := ⟨tw_1324, tw_14, by decide +kernel, by decide +kernel, by decide +kernel⟩
noncomputable def f_X12_isSign (S : Wd) (a0 : Int32) : Option (Int32 × Wd) := bd2 (f_X12_within S a0 (1 : Int32) (6 : Int32)) (fun r3 S2 => if r3 = 0 then (bd2 (f_X12_within S2 a0 (10 : Int32) (56 : Int32)) (fun r7 S6 => if r7 = 0 then (some ((0 : Int32), S6)) else (some ((1 : Int32), S6)))) else (some ((1 : Int32), S2)))
set_option maxRecDepth 100000 in
set_option maxHeartbeats 4000000 in
theorem k_X12_isSign {S : Wd} {a0 : Int32} {r : Int32} {S' : Wd} (h : f_X12_isSign S a0 = some (r, S')) : Sp yX12_isSign cX12_isSign 1 (some .boolean) 1 22 0 0 [.int a0] S (some (.int r)) S' := by
  unfold f_X12_isSign at h
  refine Sp.of (by decide +kernel) (Nat.le_of_ble_eq_true rfl) ?_
  intro b hC hin hR
  show G b 0 [(0, .int a0)] [] S 0 0
  refine g_iload_n hC dX12_isSign_0 rfl ?_
  refine g_iconst (v := (1 : Int32)) hC dX12_isSign_1 (by decide) ?_
  refine g_bipush (v := (6 : Int32)) hC dX12_isSign_2 (by decide) ?_
  obtain ⟨r3, S2, hr1, h⟩ := bd2_some h
  refine g_callS (rest := []) hC mi_X12_within (k_X12_within hr1) tw_1080 tw_1081 dX12_isSign_4 rfl rfl ⟨by decide, by decide⟩ (Nat.le_of_ble_eq_true rfl) ⟨by decide, by decide⟩ ?_
  refine g_if_ne (tgt := 21) hC dX12_isSign_7 (by decide) (fun hc4 => ?_) (fun hc4 => ?_)
  · rw [if_neg hc4] at h
    refine g_iconst (v := (1 : Int32)) hC dX12_isSign_21 (by decide) ?_
    refine g_goto (tgt := 26) hC dX12_isSign_22 (by decide) ?_
    cases h
    exact g_zret hC hR rfl dX12_isSign_26 (by decide) (by decide)
  · rw [if_pos hc4] at h
    refine g_iload_n hC dX12_isSign_10 rfl ?_
    refine g_bipush (v := (10 : Int32)) hC dX12_isSign_11 (by decide) ?_
    refine g_bipush (v := (56 : Int32)) hC dX12_isSign_13 (by decide) ?_
    obtain ⟨r7, S6, hr5, h⟩ := bd2_some h
    refine g_callS (rest := []) hC mi_X12_within (k_X12_within hr5) tw_1080 tw_1081 dX12_isSign_15 rfl rfl ⟨by decide, by decide⟩ (Nat.le_of_ble_eq_true rfl) ⟨by decide, by decide⟩ ?_
    refine g_if_eq (tgt := 25) hC dX12_isSign_18 (by decide) (fun hc8 => ?_) (fun hc8 => ?_)
    · rw [if_pos hc8] at h
      refine g_iconst (v := (0 : Int32)) hC dX12_isSign_25 (by decide) ?_
      cases h
      exact g_zret hC hR rfl dX12_isSign_26 (by decide) (by decide)
    · rw [if_neg hc8] at h
      refine g_iconst (v := (1 : Int32)) hC dX12_isSign_21 (by decide) ?_
      refine g_goto (tgt := 26) hC dX12_isSign_22 (by decide) ?_
      cases h
      exact g_zret hC hR rfl dX12_isSign_26 (by decide) (by decide)

theorem mi_X12_text : MI yX12_text cX12_text 3 (some .int) 1 := ⟨tw_1321, tw_14, by decide +kernel, by decide +kernel, by decide +kernel⟩
noncomputable def B_X12_text_0 (S : Wd) (a0 : Nat) (a1 : Int32) : Option ((Int32 × Wd) ⊕ Cs) := bd2 (f_X12_isSheet S a1) (fun r3 S2 => if r3 = 0 then (gd (ob S2 a0 12) (bd2 (f_X12_finding S2 a0 (-100001 : Int32)) (fun r26 S24 => some (.inl (r26, S24))))) else (gd (ob S2 a0 12) (Option.bind (wO S2 a0 4) (fun q6 => gd (ix S2 q6 100 a1) (if (wI S2 q6 a1.toNatClampNeg) = 0 then (gd (ob S2 a0 12) (bd2 (f_X12_finding S2 a0 (-100002 : Int32)) (fun r22 S20 => some (.inl (r22, S20))))) else (gd (ob S2 a0 12) (Option.bind (wO S2 a0 5) (fun q11 => gd (ix S2 q11 100 a1) (if (wI S2 q11 a1.toNatClampNeg) ≤ (14 : Int32) then (some (.inr (1, [a0], [a1, (0 : Int32)], S2))) else (gd (ob S2 a0 12) (bd2 (f_X12_finding S2 a0 (-100003 : Int32)) (fun r18 S16 => some (.inl (r18, S16))))))))))))))
noncomputable def B_X12_text_1 (S : Wd) (x0 : Nat) (x1 : Int32) (x2 : Int32) : Option ((Int32 × Wd) ⊕ Cs) := gd (ob S x0 12) (Option.bind (wO S x0 5) (fun q28 => gd (ix S q28 100 x1) (if (wI S q28 x1.toNatClampNeg) ≤ x2 then (gd (ob S x0 12) (Option.bind (f_X12_keep S x0) (fun S33 => gd (ob S33 x0 12) (Option.bind (wO S33 x0 0) (fun q36 => gd (ob S33 x0 12) (Option.bind (wO S33 x0 5) (fun q39 => gd (ix S33 q39 100 x1) (gd (ix S33 q36 100 (69 : Int32)) (ltS (sI S33 q36 (69 : Int32).toNatClampNeg (wI S33 q39 x1.toNatClampNeg)) (fun S43 => some (.inr (2, [x0], [x1, (0 : Int32)], S43)))))))))))) else (gd (ob S x0 12) (Option.bind (wO S x0 6) (fun q46 => gd (ix S q46 100 (((20 : Int32) * x1) + x2)) (bd2 (f_X12_isSign S (wI S q46 (((20 : Int32) * x1) + x2).toNatClampNeg)) (fun r51 S50 => if r51 = 0 then (gd (ob S50 x0 12) (bd2 (f_X12_finding S50 x0 (-100001 : Int32)) (fun r56 S54 => some (.inl (r56, S54))))) else (some (.inr (1, [x0], [x1, (x2 + (1 : Int32))], S50)))))))))))
noncomputable def B_X12_text_2 (S : Wd) (x0 : Nat) (x1 : Int32) (x2 : Int32) : Option ((Int32 × Wd) ⊕ Cs) := gd (ob S x0 12) (Option.bind (wO S x0 5) (fun q58 => gd (ix S q58 100 x1) (if (wI S q58 x1.toNatClampNeg) ≤ x2 then (gd (ob S x0 12) (Option.bind (wO S x0 5) (fun q63 => gd (ix S q63 100 x1) (some (.inl ((wI S q63 x1.toNatClampNeg), S)))))) else (gd (ob S x0 12) (Option.bind (wO S x0 0) (fun q67 => gd (ob S x0 12) (Option.bind (wO S x0 6) (fun q70 => gd (ix S q70 100 (((20 : Int32) * x1) + x2)) (gd (ix S q67 100 ((410 : Int32) + x2)) (ltS (sI S q67 ((410 : Int32) + x2).toNatClampNeg (wI S q70 (((20 : Int32) * x1) + x2).toNatClampNeg)) (fun S74 => some (.inr (2, [x0], [x1, (x2 + (1 : Int32))], S74)))))))))))))
noncomputable def B_X12_text : Cs → Option ((Int32 × Wd) ⊕ Cs)
  | (0, [a0], [a1], S) => B_X12_text_0 S a0 a1
  | (1, [x0], [x1, x2], S) => B_X12_text_1 S x0 x1 x2
  | (2, [x0], [x1, x2], S) => B_X12_text_2 S x0 x1 x2
  | _ => none
def P_X12_text : Cs → Option (Nat × List (Nat × Value) × Wd × Nat × Nat)
  | (0, [a0], [a1], S) => some (0, [(0, .ref a0), (1, .int a1)], S, 0, 0)
  | (1, [x0], [x1, x2], S) => some (50, [(0, .ref x0), (1, .int x1), (2, .int x2)], S, 0, 0)
  | (2, [x0], [x1, x2], S) => some (109, [(0, .ref x0), (1, .int x1), (2, .int x2)], S, 0, 0)
  | _ => none
noncomputable def f_X12_text (S : Wd) (a0 : Nat) (a1 : Int32) : Option (Int32 × Wd) := ru B_X12_text (0, [a0], [a1], S)
abbrev N_X12_text (b : Bd) (r : Int32 × Wd) (c : (Int32 × Wd) ⊕ Cs) : Prop := match c with
  | .inl r' => r' = r
  | .inr s' => ∀ pc L S kc ks, P_X12_text s' = some (pc, L, S, kc, ks) → G b pc L [] S kc ks
set_option maxRecDepth 100000 in
set_option maxHeartbeats 4000000 in
theorem w_X12_text_0 {b : Bd} {r : Int32 × Wd} (hC : CX b yX12_text.cls cX12_text 3 { frames := 2, cells := 0, slots := 0, locals := 42 }) (hin : yX12_text.name = "<init>" → b.2.2.2.2.2.2.2.2.1.name = "<init>") (hR : RT b (some .int) (some (.int r.1)) r.2 0 0) {S : Wd} {a0 : Nat} {a1 : Int32} {c : (Int32 × Wd) ⊕ Cs} (h : B_X12_text_0 S a0 a1 = some c) (hk : N_X12_text b r c) : G b 0 [(0, .ref a0), (1, .int a1)] [] S 0 0 := by
  unfold B_X12_text_0 at h
  refine g_iload_n hC dX12_text_0 rfl ?_
  obtain ⟨r3, S2, hr1, h⟩ := bd2_some h
  refine g_callS (rest := []) hC mi_X12_isSheet (k_X12_isSheet hr1) tw_1235 tw_1236 dX12_text_1 rfl rfl ⟨by decide, by decide⟩ (Nat.le_of_ble_eq_true rfl) ⟨by decide, by decide⟩ ?_
  refine g_if_ne (tgt := 14) hC dX12_text_4 (by decide) (fun hc4 => ?_) (fun hc4 => ?_)
  · rw [if_neg hc4] at h
    refine g_aload_n hC dX12_text_14 rfl ?_
    obtain ⟨ho5, h⟩ := gd_some h
    obtain ⟨q6, hq7, h⟩ := Option.bind_eq_some_iff.mp h
    refine g_getr (k := 4) (q := q6) hC ck_X12 (by decide) tw_988 rfl (by decide) dX12_text_15 ho5 hq7 ?_
    refine g_iload_n hC dX12_text_18 rfl ?_
    obtain ⟨hx8, h⟩ := gd_some h
    refine g_iald hC dX12_text_19 hx8.1 hx8.2 ?_
    refine g_if_ne (tgt := 30) hC dX12_text_20 (by decide) (fun hc9 => ?_) (fun hc9 => ?_)
    · rw [if_neg hc9] at h
      refine g_aload_n hC dX12_text_30 rfl ?_
      obtain ⟨ho10, h⟩ := gd_some h
      obtain ⟨q11, hq12, h⟩ := Option.bind_eq_some_iff.mp h
      refine g_getr (k := 5) (q := q11) hC ck_X12 (by decide) tw_989 rfl (by decide) dX12_text_31 ho10 hq12 ?_
      refine g_iload_n hC dX12_text_34 rfl ?_
      obtain ⟨hx13, h⟩ := gd_some h
      refine g_iald hC dX12_text_35 hx13.1 hx13.2 ?_
      refine g_bipush (v := (14 : Int32)) hC dX12_text_36 (by decide) ?_
      refine g_icmp_le (tgt := 48) hC dX12_text_38 (by decide) (fun hc14 => ?_) (fun hc14 => ?_)
      · rw [if_pos hc14] at h
        refine g_iconst (v := (0 : Int32)) hC dX12_text_48 (by decide) ?_
        refine g_istore_n (L' := [(2, .int (0 : Int32)), (0, .ref a0), (1, .int a1)]) hC dX12_text_49 (by decide) rfl ?_
        cases h
        refine g_pick (L' := [(0, .ref a0), (1, .int a1), (2, .int (0 : Int32))]) [1, 2, 0] rfl ?_
        exact hk _ _ _ _ _ rfl
      · rw [if_neg hc14] at h
        refine g_aload_n hC dX12_text_41 rfl ?_
        refine g_ldc hC tw_1130 dX12_text_42 ?_
        obtain ⟨ho17, h⟩ := gd_some h
        obtain ⟨r18, S16, hr15, h⟩ := bd2_some h
        refine g_callV (rest := []) hC mi_X12_finding (k_X12_finding hr15) ck_X12.1 (by decide) ho17 tw_1069 tw_1071 ts_24 dX12_text_44 rfl rfl ⟨by decide, by decide⟩ (Nat.le_of_ble_eq_true rfl) ⟨by decide, by decide⟩ ?_
        cases h
        subst hk
        exact g_iret hC hR dX12_text_47 (by decide) (by decide)
    · rw [if_pos hc9] at h
      refine g_aload_n hC dX12_text_23 rfl ?_
      refine g_ldc hC tw_1238 dX12_text_24 ?_
      obtain ⟨ho21, h⟩ := gd_some h
      obtain ⟨r22, S20, hr19, h⟩ := bd2_some h
      refine g_callV (rest := []) hC mi_X12_finding (k_X12_finding hr19) ck_X12.1 (by decide) ho21 tw_1069 tw_1071 ts_24 dX12_text_26 rfl rfl ⟨by decide, by decide⟩ (Nat.le_of_ble_eq_true rfl) ⟨by decide, by decide⟩ ?_
      cases h
      subst hk
      exact g_iret hC hR dX12_text_29 (by decide) (by decide)
  · rw [if_pos hc4] at h
    refine g_aload_n hC dX12_text_7 rfl ?_
    refine g_ldc hC tw_1083 dX12_text_8 ?_
    obtain ⟨ho25, h⟩ := gd_some h
    obtain ⟨r26, S24, hr23, h⟩ := bd2_some h
    refine g_callV (rest := []) hC mi_X12_finding (k_X12_finding hr23) ck_X12.1 (by decide) ho25 tw_1069 tw_1071 ts_24 dX12_text_10 rfl rfl ⟨by decide, by decide⟩ (Nat.le_of_ble_eq_true rfl) ⟨by decide, by decide⟩ ?_
    cases h
    subst hk
    exact g_iret hC hR dX12_text_13 (by decide) (by decide)
set_option maxRecDepth 100000 in
set_option maxHeartbeats 4000000 in
theorem w_X12_text_1 {b : Bd} {r : Int32 × Wd} (hC : CX b yX12_text.cls cX12_text 3 { frames := 2, cells := 0, slots := 0, locals := 42 }) (hin : yX12_text.name = "<init>" → b.2.2.2.2.2.2.2.2.1.name = "<init>") (hR : RT b (some .int) (some (.int r.1)) r.2 0 0) {S : Wd} {x0 : Nat} {x1 : Int32} {x2 : Int32} {c : (Int32 × Wd) ⊕ Cs} (h : B_X12_text_1 S x0 x1 x2 = some c) (hk : N_X12_text b r c) : G b 50 [(0, .ref x0), (1, .int x1), (2, .int x2)] [] S 0 0 := by
  unfold B_X12_text_1 at h
  refine g_iload_n hC dX12_text_50 rfl ?_
  refine g_aload_n hC dX12_text_51 rfl ?_
  obtain ⟨ho27, h⟩ := gd_some h
  obtain ⟨q28, hq29, h⟩ := Option.bind_eq_some_iff.mp h
  refine g_getr (k := 5) (q := q28) hC ck_X12 (by decide) tw_989 rfl (by decide) dX12_text_52 ho27 hq29 ?_
  refine g_iload_n hC dX12_text_55 rfl ?_
  obtain ⟨hx30, h⟩ := gd_some h
  refine g_iald hC dX12_text_56 hx30.1 hx30.2 ?_
  refine g_icmp_ge (tgt := 90) hC dX12_text_57 (by decide) (fun hc31 => ?_) (fun hc31 => ?_)
  · rw [if_pos hc31] at h
    refine g_aload_n hC dX12_text_90 rfl ?_
    obtain ⟨ho34, h⟩ := gd_some h
    obtain ⟨S33, hr32, h⟩ := Option.bind_eq_some_iff.mp h
    refine g_callV (rest := []) hC mi_X12_keep (k_X12_keep hr32) ck_X12.1 (by decide) ho34 tw_1084 tw_1086 ts_25 dX12_text_91 rfl rfl ⟨by decide, by decide⟩ (Nat.le_of_ble_eq_true rfl) ⟨by decide, by decide⟩ ?_
    refine g_aload_n hC dX12_text_94 rfl ?_
    obtain ⟨ho35, h⟩ := gd_some h
    obtain ⟨q36, hq37, h⟩ := Option.bind_eq_some_iff.mp h
    refine g_getr (k := 0) (q := q36) hC ck_X12 (by decide) tw_984 rfl (by decide) dX12_text_95 ho35 hq37 ?_
    refine g_bipush (v := (69 : Int32)) hC dX12_text_98 (by decide) ?_
    refine g_aload_n hC dX12_text_100 rfl ?_
    obtain ⟨ho38, h⟩ := gd_some h
    obtain ⟨q39, hq40, h⟩ := Option.bind_eq_some_iff.mp h
    refine g_getr (k := 5) (q := q39) hC ck_X12 (by decide) tw_989 rfl (by decide) dX12_text_101 ho38 hq40 ?_
    refine g_iload_n hC dX12_text_104 rfl ?_
    obtain ⟨hx41, h⟩ := gd_some h
    refine g_iald hC dX12_text_105 hx41.1 hx41.2 ?_
    obtain ⟨hx42, h⟩ := gd_some h
    refine g_iast hC dX12_text_106 hx42.1 hx42.2 ?_
    refine g_name (fun S43 eS44 => ?_)
    have h := ltS_use eS44 h
    refine g_iconst (v := (0 : Int32)) hC dX12_text_107 (by decide) ?_
    refine g_istore_n (L' := [(2, .int (0 : Int32)), (0, .ref x0), (1, .int x1)]) hC dX12_text_108 (by decide) rfl ?_
    cases h
    refine g_pick (L' := [(0, .ref x0), (1, .int x1), (2, .int (0 : Int32))]) [1, 2, 0] rfl ?_
    exact hk _ _ _ _ _ rfl
  · rw [if_neg hc31] at h
    refine g_aload_n hC dX12_text_60 rfl ?_
    obtain ⟨ho45, h⟩ := gd_some h
    obtain ⟨q46, hq47, h⟩ := Option.bind_eq_some_iff.mp h
    refine g_getr (k := 6) (q := q46) hC ck_X12 (by decide) tw_990 rfl (by decide) dX12_text_61 ho45 hq47 ?_
    refine g_bipush (v := (20 : Int32)) hC dX12_text_64 (by decide) ?_
    refine g_iload_n hC dX12_text_66 rfl ?_
    refine g_imul hC dX12_text_67 ?_
    refine g_iload_n hC dX12_text_68 rfl ?_
    refine g_iadd hC dX12_text_69 ?_
    obtain ⟨hx48, h⟩ := gd_some h
    refine g_iald hC dX12_text_70 hx48.1 hx48.2 ?_
    obtain ⟨r51, S50, hr49, h⟩ := bd2_some h
    refine g_callS (rest := []) hC mi_X12_isSign (k_X12_isSign hr49) tw_1322 tw_1323 dX12_text_71 rfl rfl ⟨by decide, by decide⟩ (Nat.le_of_ble_eq_true rfl) ⟨by decide, by decide⟩ ?_
    refine g_if_ne (tgt := 84) hC dX12_text_74 (by decide) (fun hc52 => ?_) (fun hc52 => ?_)
    · rw [if_neg hc52] at h
      refine g_iinc (v := (1 : Int32)) (L' := [(2, .int (x2 + (1 : Int32))), (0, .ref x0), (1, .int x1)]) hC dX12_text_84 rfl (by decide) (by decide) rfl ?_
      refine g_goto (tgt := 50) hC dX12_text_87 (by decide) ?_
      cases h
      refine g_pick (L' := [(0, .ref x0), (1, .int x1), (2, .int (x2 + (1 : Int32)))]) [1, 2, 0] rfl ?_
      exact hk _ _ _ _ _ rfl
    · rw [if_pos hc52] at h
      refine g_aload_n hC dX12_text_77 rfl ?_
      refine g_ldc hC tw_1083 dX12_text_78 ?_
      obtain ⟨ho55, h⟩ := gd_some h
      obtain ⟨r56, S54, hr53, h⟩ := bd2_some h
      refine g_callV (rest := []) hC mi_X12_finding (k_X12_finding hr53) ck_X12.1 (by decide) ho55 tw_1069 tw_1071 ts_24 dX12_text_80 rfl rfl ⟨by decide, by decide⟩ (Nat.le_of_ble_eq_true rfl) ⟨by decide, by decide⟩ ?_
      cases h
      subst hk
      exact g_iret hC hR dX12_text_83 (by decide) (by decide)
set_option maxRecDepth 100000 in
set_option maxHeartbeats 4000000 in
theorem w_X12_text_2 {b : Bd} {r : Int32 × Wd} (hC : CX b yX12_text.cls cX12_text 3 { frames := 2, cells := 0, slots := 0, locals := 42 }) (hin : yX12_text.name = "<init>" → b.2.2.2.2.2.2.2.2.1.name = "<init>") (hR : RT b (some .int) (some (.int r.1)) r.2 0 0) {S : Wd} {x0 : Nat} {x1 : Int32} {x2 : Int32} {c : (Int32 × Wd) ⊕ Cs} (h : B_X12_text_2 S x0 x1 x2 = some c) (hk : N_X12_text b r c) : G b 109 [(0, .ref x0), (1, .int x1), (2, .int x2)] [] S 0 0 := by
  unfold B_X12_text_2 at h
  refine g_iload_n hC dX12_text_109 rfl ?_
  refine g_aload_n hC dX12_text_110 rfl ?_
  obtain ⟨ho57, h⟩ := gd_some h
  obtain ⟨q58, hq59, h⟩ := Option.bind_eq_some_iff.mp h
  refine g_getr (k := 5) (q := q58) hC ck_X12 (by decide) tw_989 rfl (by decide) dX12_text_111 ho57 hq59 ?_
  refine g_iload_n hC dX12_text_114 rfl ?_
  obtain ⟨hx60, h⟩ := gd_some h
  refine g_iald hC dX12_text_115 hx60.1 hx60.2 ?_
  refine g_icmp_ge (tgt := 146) hC dX12_text_116 (by decide) (fun hc61 => ?_) (fun hc61 => ?_)
  · rw [if_pos hc61] at h
    refine g_aload_n hC dX12_text_146 rfl ?_
    obtain ⟨ho62, h⟩ := gd_some h
    obtain ⟨q63, hq64, h⟩ := Option.bind_eq_some_iff.mp h
    refine g_getr (k := 5) (q := q63) hC ck_X12 (by decide) tw_989 rfl (by decide) dX12_text_147 ho62 hq64 ?_
    refine g_iload_n hC dX12_text_150 rfl ?_
    obtain ⟨hx65, h⟩ := gd_some h
    refine g_iald hC dX12_text_151 hx65.1 hx65.2 ?_
    cases h
    subst hk
    exact g_iret hC hR dX12_text_152 (by decide) (by decide)
  · rw [if_neg hc61] at h
    refine g_aload_n hC dX12_text_119 rfl ?_
    obtain ⟨ho66, h⟩ := gd_some h
    obtain ⟨q67, hq68, h⟩ := Option.bind_eq_some_iff.mp h
    refine g_getr (k := 0) (q := q67) hC ck_X12 (by decide) tw_984 rfl (by decide) dX12_text_120 ho66 hq68 ?_
    refine g_sipush (v := (410 : Int32)) hC dX12_text_123 (by decide) ?_
    refine g_iload_n hC dX12_text_126 rfl ?_
    refine g_iadd hC dX12_text_127 ?_
    refine g_aload_n hC dX12_text_128 rfl ?_
    obtain ⟨ho69, h⟩ := gd_some h
    obtain ⟨q70, hq71, h⟩ := Option.bind_eq_some_iff.mp h
    refine g_getr (k := 6) (q := q70) hC ck_X12 (by decide) tw_990 rfl (by decide) dX12_text_129 ho69 hq71 ?_
    refine g_bipush (v := (20 : Int32)) hC dX12_text_132 (by decide) ?_
    refine g_iload_n hC dX12_text_134 rfl ?_
    refine g_imul hC dX12_text_135 ?_
    refine g_iload_n hC dX12_text_136 rfl ?_
    refine g_iadd hC dX12_text_137 ?_
    obtain ⟨hx72, h⟩ := gd_some h
    refine g_iald hC dX12_text_138 hx72.1 hx72.2 ?_
    obtain ⟨hx73, h⟩ := gd_some h
    refine g_iast hC dX12_text_139 hx73.1 hx73.2 ?_
    refine g_name (fun S74 eS75 => ?_)
    have h := ltS_use eS75 h
    refine g_iinc (v := (1 : Int32)) (L' := [(2, .int (x2 + (1 : Int32))), (0, .ref x0), (1, .int x1)]) hC dX12_text_140 rfl (by decide) (by decide) rfl ?_
    refine g_goto (tgt := 109) hC dX12_text_143 (by decide) ?_
    cases h
    refine g_pick (L' := [(0, .ref x0), (1, .int x1), (2, .int (x2 + (1 : Int32)))]) [1, 2, 0] rfl ?_
    exact hk _ _ _ _ _ rfl
theorem w_X12_text {b : Bd} {r : Int32 × Wd} (hC : CX b yX12_text.cls cX12_text 3 { frames := 2, cells := 0, slots := 0, locals := 42 }) (hin : yX12_text.name = "<init>" → b.2.2.2.2.2.2.2.2.1.name = "<init>") (hR : RT b (some .int) (some (.int r.1)) r.2 0 0) {s : Cs} {c : (Int32 × Wd) ⊕ Cs} (h : B_X12_text s = some c) (hk : N_X12_text b r c) : ∀ pc L S kc ks, P_X12_text s = some (pc, L, S, kc, ks) → G b pc L [] S kc ks := by
  intro pc L S kc ks hp
  unfold B_X12_text at h
  split at h
  · cases hp
    exact w_X12_text_0 hC hin hR h hk
  · cases hp
    exact w_X12_text_1 hC hin hR h hk
  · cases hp
    exact w_X12_text_2 hC hin hR h hk
  · cases h
theorem k_X12_text {S : Wd} {a0 : Nat} {a1 : Int32} {r : Int32} {S' : Wd} (h : f_X12_text S a0 a1 = some (r, S')) : Sp yX12_text cX12_text 3 (some .int) 2 42 0 0 [.ref a0, .int a1] S (some (.int r)) S' := by
  unfold f_X12_text at h
  refine Sp.of (by decide +kernel) (Nat.le_of_ble_eq_true rfl) ?_
  intro b hC hin hR
  exact ru_ind (P := fun s q0 => q0 = (r, S') → ∀ pc L S kc ks, P_X12_text s = some (pc, L, S, kc, ks) → G b pc L [] S kc ks) (fun s q0 hB e => w_X12_text (r := (r, S')) hC hin hR hB e) (fun s s' q0 hB ih e => w_X12_text (r := (r, S')) hC hin hR hB (ih e)) h rfl _ _ _ _ _ rfl

theorem mi_X12_wrongAt : MI yX12_wrongAt cX12_wrongAt 4 (some .int) 0 := ⟨tw_1332, tw_14, by decide +kernel, by decide +kernel, by decide +kernel⟩
noncomputable def B_X12_wrongAt_0 (S : Wd) (a0 : Nat) : Option ((Int32 × Wd) ⊕ Cs) := some (.inr (1, [a0], [(0 : Int32), (0 : Int32)], S))
noncomputable def B_X12_wrongAt_1 (S : Wd) (x0 : Nat) (x1 : Int32) (x2 : Int32) : Option ((Int32 × Wd) ⊕ Cs) := gd (ob S x0 12) (Option.bind (wO S x0 0) (fun q2 => gd (ix S q2 100 (69 : Int32)) (if (wI S q2 (69 : Int32).toNatClampNeg) ≤ x2 then (if x1 = (1 : Int32) then (some (.inl ((-1 : Int32), S))) else (gd (ob S x0 12) (Option.bind (wO S x0 0) (fun q8 => gd (ix S q8 100 (69 : Int32)) (if (wI S q8 (69 : Int32).toNatClampNeg) = 0 then (some (.inl ((-1 : Int32), S))) else (gd (ob S x0 12) (Option.bind (wO S x0 0) (fun q13 => gd (ix S q13 100 (69 : Int32)) (some (.inl ((wI S q13 (69 : Int32).toNatClampNeg), S))))))))))) else (gd (ob S x0 12) (Option.bind (wO S x0 0) (fun q17 => gd (ix S q17 100 ((410 : Int32) + x2)) (if (50 : Int32) ≤ (wI S q17 ((410 : Int32) + x2).toNatClampNeg) then (if (0 : Int32) = 0 then (if (2 : Int32) ≤ x1 then (if (0 : Int32) = 0 then (some (.inr (1, [x0], [(x1 + (-1 : Int32)), (x2 + (1 : Int32))], S))) else (none)) else (some (.inl (x2, S)))) else (none)) else (if (1 : Int32) = 0 then (none) else (if x1 = (5 : Int32) then (some (.inl (x2, S))) else (if (1 : Int32) = 0 then (none) else (some (.inr (1, [x0], [(x1 + (1 : Int32)), (x2 + (1 : Int32))], S)))))))))))))
noncomputable def B_X12_wrongAt : Cs → Option ((Int32 × Wd) ⊕ Cs)
  | (0, [a0], [], S) => B_X12_wrongAt_0 S a0
  | (1, [x0], [x1, x2], S) => B_X12_wrongAt_1 S x0 x1 x2
  | _ => none
def P_X12_wrongAt : Cs → Option (Nat × List (Nat × Value) × Wd × Nat × Nat)
  | (0, [a0], [], S) => some (0, [(0, .ref a0)], S, 0, 0)
  | (1, [x0], [x1, x2], S) => some (4, [(0, .ref x0), (1, .int x1), (2, .int x2)], S, 0, 0)
  | _ => none
noncomputable def f_X12_wrongAt (S : Wd) (a0 : Nat) : Option (Int32 × Wd) := ru B_X12_wrongAt (0, [a0], [], S)
abbrev N_X12_wrongAt (b : Bd) (r : Int32 × Wd) (c : (Int32 × Wd) ⊕ Cs) : Prop := match c with
  | .inl r' => r' = r
  | .inr s' => ∀ pc L S kc ks, P_X12_wrongAt s' = some (pc, L, S, kc, ks) → G b pc L [] S kc ks
set_option maxRecDepth 100000 in
set_option maxHeartbeats 4000000 in
theorem w_X12_wrongAt_0 {b : Bd} {r : Int32 × Wd} (hC : CX b yX12_wrongAt.cls cX12_wrongAt 4 { frames := 0, cells := 0, slots := 0, locals := 0 }) (hin : yX12_wrongAt.name = "<init>" → b.2.2.2.2.2.2.2.2.1.name = "<init>") (hR : RT b (some .int) (some (.int r.1)) r.2 0 0) {S : Wd} {a0 : Nat} {c : (Int32 × Wd) ⊕ Cs} (h : B_X12_wrongAt_0 S a0 = some c) (hk : N_X12_wrongAt b r c) : G b 0 [(0, .ref a0)] [] S 0 0 := by
  unfold B_X12_wrongAt_0 at h
  refine g_iconst (v := (0 : Int32)) hC dX12_wrongAt_0 (by decide) ?_
  refine g_istore_n (L' := [(1, .int (0 : Int32)), (0, .ref a0)]) hC dX12_wrongAt_1 (by decide) rfl ?_
  refine g_iconst (v := (0 : Int32)) hC dX12_wrongAt_2 (by decide) ?_
  refine g_istore_n (L' := [(2, .int (0 : Int32)), (1, .int (0 : Int32)), (0, .ref a0)]) hC dX12_wrongAt_3 (by decide) rfl ?_
  cases h
  refine g_pick (L' := [(0, .ref a0), (1, .int (0 : Int32)), (2, .int (0 : Int32))]) [2, 1, 0] rfl ?_
  exact hk _ _ _ _ _ rfl
set_option maxRecDepth 100000 in
set_option maxHeartbeats 4000000 in
theorem w_X12_wrongAt_1 {b : Bd} {r : Int32 × Wd} (hC : CX b yX12_wrongAt.cls cX12_wrongAt 4 { frames := 0, cells := 0, slots := 0, locals := 0 }) (hin : yX12_wrongAt.name = "<init>" → b.2.2.2.2.2.2.2.2.1.name = "<init>") (hR : RT b (some .int) (some (.int r.1)) r.2 0 0) {S : Wd} {x0 : Nat} {x1 : Int32} {x2 : Int32} {c : (Int32 × Wd) ⊕ Cs} (h : B_X12_wrongAt_1 S x0 x1 x2 = some c) (hk : N_X12_wrongAt b r c) : G b 4 [(0, .ref x0), (1, .int x1), (2, .int x2)] [] S 0 0 := by
  unfold B_X12_wrongAt_1 at h
  refine g_iload_n hC dX12_wrongAt_4 rfl ?_
  refine g_aload_n hC dX12_wrongAt_5 rfl ?_
  obtain ⟨ho1, h⟩ := gd_some h
  obtain ⟨q2, hq3, h⟩ := Option.bind_eq_some_iff.mp h
  refine g_getr (k := 0) (q := q2) hC ck_X12 (by decide) tw_984 rfl (by decide) dX12_wrongAt_6 ho1 hq3 ?_
  refine g_bipush (v := (69 : Int32)) hC dX12_wrongAt_9 (by decide) ?_
  obtain ⟨hx4, h⟩ := gd_some h
  refine g_iald hC dX12_wrongAt_11 hx4.1 hx4.2 ?_
  refine g_icmp_ge (tgt := 73) hC dX12_wrongAt_12 (by decide) (fun hc5 => ?_) (fun hc5 => ?_)
  · rw [if_pos hc5] at h
    refine g_iload_n hC dX12_wrongAt_73 rfl ?_
    refine g_iconst (v := (1 : Int32)) hC dX12_wrongAt_74 (by decide) ?_
    refine g_icmp_eq (tgt := 88) hC dX12_wrongAt_75 (by decide) (fun hc6 => ?_) (fun hc6 => ?_)
    · rw [if_pos hc6] at h
      refine g_iconst (v := (-1 : Int32)) hC dX12_wrongAt_88 (by decide) ?_
      refine g_goto (tgt := 99) hC dX12_wrongAt_89 (by decide) ?_
      cases h
      subst hk
      exact g_iret hC hR dX12_wrongAt_99 (by decide) (by decide)
    · rw [if_neg hc6] at h
      refine g_aload_n hC dX12_wrongAt_78 rfl ?_
      obtain ⟨ho7, h⟩ := gd_some h
      obtain ⟨q8, hq9, h⟩ := Option.bind_eq_some_iff.mp h
      refine g_getr (k := 0) (q := q8) hC ck_X12 (by decide) tw_984 rfl (by decide) dX12_wrongAt_79 ho7 hq9 ?_
      refine g_bipush (v := (69 : Int32)) hC dX12_wrongAt_82 (by decide) ?_
      obtain ⟨hx10, h⟩ := gd_some h
      refine g_iald hC dX12_wrongAt_84 hx10.1 hx10.2 ?_
      refine g_if_ne (tgt := 92) hC dX12_wrongAt_85 (by decide) (fun hc11 => ?_) (fun hc11 => ?_)
      · rw [if_neg hc11] at h
        refine g_aload_n hC dX12_wrongAt_92 rfl ?_
        obtain ⟨ho12, h⟩ := gd_some h
        obtain ⟨q13, hq14, h⟩ := Option.bind_eq_some_iff.mp h
        refine g_getr (k := 0) (q := q13) hC ck_X12 (by decide) tw_984 rfl (by decide) dX12_wrongAt_93 ho12 hq14 ?_
        refine g_bipush (v := (69 : Int32)) hC dX12_wrongAt_96 (by decide) ?_
        obtain ⟨hx15, h⟩ := gd_some h
        refine g_iald hC dX12_wrongAt_98 hx15.1 hx15.2 ?_
        cases h
        subst hk
        exact g_iret hC hR dX12_wrongAt_99 (by decide) (by decide)
      · rw [if_pos hc11] at h
        refine g_iconst (v := (-1 : Int32)) hC dX12_wrongAt_88 (by decide) ?_
        refine g_goto (tgt := 99) hC dX12_wrongAt_89 (by decide) ?_
        cases h
        subst hk
        exact g_iret hC hR dX12_wrongAt_99 (by decide) (by decide)
  · rw [if_neg hc5] at h
    refine g_aload_n hC dX12_wrongAt_15 rfl ?_
    obtain ⟨ho16, h⟩ := gd_some h
    obtain ⟨q17, hq18, h⟩ := Option.bind_eq_some_iff.mp h
    refine g_getr (k := 0) (q := q17) hC ck_X12 (by decide) tw_984 rfl (by decide) dX12_wrongAt_16 ho16 hq18 ?_
    refine g_sipush (v := (410 : Int32)) hC dX12_wrongAt_19 (by decide) ?_
    refine g_iload_n hC dX12_wrongAt_22 rfl ?_
    refine g_iadd hC dX12_wrongAt_23 ?_
    obtain ⟨hx19, h⟩ := gd_some h
    refine g_iald hC dX12_wrongAt_24 hx19.1 hx19.2 ?_
    refine g_bipush (v := (50 : Int32)) hC dX12_wrongAt_25 (by decide) ?_
    refine g_icmp_ge (tgt := 34) hC dX12_wrongAt_27 (by decide) (fun hc20 => ?_) (fun hc20 => ?_)
    · rw [if_pos hc20] at h
      refine g_iconst (v := (0 : Int32)) hC dX12_wrongAt_34 (by decide) ?_
      refine g_istore_n (L' := [(3, .int (0 : Int32)), (0, .ref x0), (1, .int x1), (2, .int x2)]) hC dX12_wrongAt_35 (by decide) rfl ?_
      refine g_iload_n hC dX12_wrongAt_36 rfl ?_
      refine g_if_eq (tgt := 48) hC dX12_wrongAt_37 (by decide) (fun hc21 => ?_) (fun hc21 => ?_)
      · rw [if_pos hc21] at h
        refine g_iload_n hC dX12_wrongAt_48 rfl ?_
        refine g_iconst (v := (2 : Int32)) hC dX12_wrongAt_49 (by decide) ?_
        refine g_icmp_ge (tgt := 55) hC dX12_wrongAt_50 (by decide) (fun hc22 => ?_) (fun hc22 => ?_)
        · rw [if_pos hc22] at h
          refine g_iload_n hC dX12_wrongAt_55 rfl ?_
          refine g_iload_n hC dX12_wrongAt_56 rfl ?_
          refine g_if_eq (tgt := 64) hC dX12_wrongAt_57 (by decide) (fun hc23 => ?_) (fun hc23 => ?_)
          · rw [if_pos hc23] at h
            refine g_iconst (v := (-1 : Int32)) hC dX12_wrongAt_64 (by decide) ?_
            refine g_iadd hC dX12_wrongAt_65 ?_
            refine g_istore_n (L' := [(1, .int (x1 + (-1 : Int32))), (3, .int (0 : Int32)), (0, .ref x0), (2, .int x2)]) hC dX12_wrongAt_66 (by decide) rfl ?_
            refine g_iinc (v := (1 : Int32)) (L' := [(2, .int (x2 + (1 : Int32))), (1, .int (x1 + (-1 : Int32))), (3, .int (0 : Int32)), (0, .ref x0)]) hC dX12_wrongAt_67 rfl (by decide) (by decide) rfl ?_
            refine g_goto (tgt := 4) hC dX12_wrongAt_70 (by decide) ?_
            cases h
            refine g_pick (L' := [(0, .ref x0), (1, .int (x1 + (-1 : Int32))), (2, .int (x2 + (1 : Int32)))]) [3, 1, 0] rfl ?_
            exact hk _ _ _ _ _ rfl
          · rw [if_neg hc23] at h
            cases h
        · rw [if_neg hc22] at h
          refine g_iload_n hC dX12_wrongAt_53 rfl ?_
          cases h
          subst hk
          exact g_iret hC hR dX12_wrongAt_54 (by decide) (by decide)
      · rw [if_neg hc21] at h
        cases h
    · rw [if_neg hc20] at h
      refine g_iconst (v := (1 : Int32)) hC dX12_wrongAt_30 (by decide) ?_
      refine g_goto (tgt := 35) hC dX12_wrongAt_31 (by decide) ?_
      refine g_istore_n (L' := [(3, .int (1 : Int32)), (0, .ref x0), (1, .int x1), (2, .int x2)]) hC dX12_wrongAt_35 (by decide) rfl ?_
      refine g_iload_n hC dX12_wrongAt_36 rfl ?_
      refine g_if_eq (tgt := 48) hC dX12_wrongAt_37 (by decide) (fun hc24 => ?_) (fun hc24 => ?_)
      · rw [if_pos hc24] at h
        cases h
      · rw [if_neg hc24] at h
        refine g_iload_n hC dX12_wrongAt_40 rfl ?_
        refine g_iconst (v := (5 : Int32)) hC dX12_wrongAt_41 (by decide) ?_
        refine g_icmp_ne (tgt := 55) hC dX12_wrongAt_42 (by decide) (fun hc25 => ?_) (fun hc25 => ?_)
        · rw [if_neg hc25] at h
          refine g_iload_n hC dX12_wrongAt_55 rfl ?_
          refine g_iload_n hC dX12_wrongAt_56 rfl ?_
          refine g_if_eq (tgt := 64) hC dX12_wrongAt_57 (by decide) (fun hc26 => ?_) (fun hc26 => ?_)
          · rw [if_pos hc26] at h
            cases h
          · rw [if_neg hc26] at h
            refine g_iconst (v := (1 : Int32)) hC dX12_wrongAt_60 (by decide) ?_
            refine g_goto (tgt := 65) hC dX12_wrongAt_61 (by decide) ?_
            refine g_iadd hC dX12_wrongAt_65 ?_
            refine g_istore_n (L' := [(1, .int (x1 + (1 : Int32))), (3, .int (1 : Int32)), (0, .ref x0), (2, .int x2)]) hC dX12_wrongAt_66 (by decide) rfl ?_
            refine g_iinc (v := (1 : Int32)) (L' := [(2, .int (x2 + (1 : Int32))), (1, .int (x1 + (1 : Int32))), (3, .int (1 : Int32)), (0, .ref x0)]) hC dX12_wrongAt_67 rfl (by decide) (by decide) rfl ?_
            refine g_goto (tgt := 4) hC dX12_wrongAt_70 (by decide) ?_
            cases h
            refine g_pick (L' := [(0, .ref x0), (1, .int (x1 + (1 : Int32))), (2, .int (x2 + (1 : Int32)))]) [3, 1, 0] rfl ?_
            exact hk _ _ _ _ _ rfl
        · rw [if_pos hc25] at h
          refine g_goto (tgt := 53) hC dX12_wrongAt_45 (by decide) ?_
          refine g_iload_n hC dX12_wrongAt_53 rfl ?_
          cases h
          subst hk
          exact g_iret hC hR dX12_wrongAt_54 (by decide) (by decide)
theorem w_X12_wrongAt {b : Bd} {r : Int32 × Wd} (hC : CX b yX12_wrongAt.cls cX12_wrongAt 4 { frames := 0, cells := 0, slots := 0, locals := 0 }) (hin : yX12_wrongAt.name = "<init>" → b.2.2.2.2.2.2.2.2.1.name = "<init>") (hR : RT b (some .int) (some (.int r.1)) r.2 0 0) {s : Cs} {c : (Int32 × Wd) ⊕ Cs} (h : B_X12_wrongAt s = some c) (hk : N_X12_wrongAt b r c) : ∀ pc L S kc ks, P_X12_wrongAt s = some (pc, L, S, kc, ks) → G b pc L [] S kc ks := by
  intro pc L S kc ks hp
  unfold B_X12_wrongAt at h
  split at h
  · cases hp
    exact w_X12_wrongAt_0 hC hin hR h hk
  · cases hp
    exact w_X12_wrongAt_1 hC hin hR h hk
  · cases h
theorem k_X12_wrongAt {S : Wd} {a0 : Nat} {r : Int32} {S' : Wd} (h : f_X12_wrongAt S a0 = some (r, S')) : Sp yX12_wrongAt cX12_wrongAt 4 (some .int) 0 0 0 0 [.ref a0] S (some (.int r)) S' := by
  unfold f_X12_wrongAt at h
  refine Sp.of (by decide +kernel) (Nat.le_of_ble_eq_true rfl) ?_
  intro b hC hin hR
  exact ru_ind (P := fun s q0 => q0 = (r, S') → ∀ pc L S kc ks, P_X12_wrongAt s = some (pc, L, S, kc, ks) → G b pc L [] S kc ks) (fun s q0 hB e => w_X12_wrongAt (r := (r, S')) hC hin hR hB e) (fun s s' q0 hB ih e => w_X12_wrongAt (r := (r, S')) hC hin hR hB (ih e)) h rfl _ _ _ _ _ rfl

theorem mi_X12_wrong : MI yX12_wrong cX12_wrong 1 (some .int) 0 := ⟨tw_1328, tw_14, by decide +kernel, by decide +kernel, by decide +kernel⟩
noncomputable def f_X12_wrong (S : Wd) (a0 : Nat) : Option (Int32 × Wd) := gd (ob S a0 12) (bd2 (f_X12_wrongAt S a0) (fun r4 S2 => some (r4, S2)))
set_option maxRecDepth 100000 in
set_option maxHeartbeats 4000000 in
theorem k_X12_wrong {S : Wd} {a0 : Nat} {r : Int32} {S' : Wd} (h : f_X12_wrong S a0 = some (r, S')) : Sp yX12_wrong cX12_wrong 1 (some .int) 1 23 0 0 [.ref a0] S (some (.int r)) S' := by
  unfold f_X12_wrong at h
  refine Sp.of (by decide +kernel) (Nat.le_of_ble_eq_true rfl) ?_
  intro b hC hin hR
  show G b 0 [(0, .ref a0)] [] S 0 0
  refine g_aload_n hC dX12_wrong_0 rfl ?_
  obtain ⟨ho3, h⟩ := gd_some h
  obtain ⟨r4, S2, hr1, h⟩ := bd2_some h
  refine g_callV (rest := []) hC mi_X12_wrongAt (k_X12_wrongAt hr1) ck_X12.1 (by decide) ho3 tw_1329 tw_1331 ts_47 dX12_wrong_1 rfl rfl ⟨by decide, by decide⟩ (Nat.le_of_ble_eq_true rfl) ⟨by decide, by decide⟩ ?_
  cases h
  exact g_iret hC hR dX12_wrong_4 (by decide) (by decide)

theorem mi_X12_joined : MI yX12_joined cX12_joined 3 (some .int) 3 := ⟨tw_1348, tw_14, by decide +kernel, by decide +kernel, by decide +kernel⟩
noncomputable def f_X12_joined (S : Wd) (a0 : Int32) (a1 : Int32) (a2 : Int32) : Option (Int32 × Wd) := if a0 = (50 : Int32) then (some ((a1 + a2), S)) else (if a0 = (51 : Int32) then (some ((a1 - a2), S)) else (if a0 = (52 : Int32) then (some ((a1 * a2), S)) else (if a0 = (53 : Int32) then (if a2 = 0 then (some ((0 : Int32), S)) else (gd (¬ a2 = 0) (some ((a1 / a2), S)))) else (if a0 = (54 : Int32) then (some ((mMin a1 a2), S)) else (if a0 = (55 : Int32) then (some ((mMax a1 a2), S)) else (if a2 ≤ a1 then (some ((0 : Int32), S)) else (some ((1 : Int32), S))))))))
set_option maxRecDepth 100000 in
set_option maxHeartbeats 4000000 in
theorem k_X12_joined {S : Wd} {a0 : Int32} {a1 : Int32} {a2 : Int32} {r : Int32} {S' : Wd} (h : f_X12_joined S a0 a1 a2 = some (r, S')) : Sp yX12_joined cX12_joined 3 (some .int) 1 13 0 0 [.int a0, .int a1, .int a2] S (some (.int r)) S' := by
  unfold f_X12_joined at h
  refine Sp.of (by decide +kernel) (Nat.le_of_ble_eq_true rfl) ?_
  intro b hC hin hR
  show G b 0 [(0, .int a0), (1, .int a1), (2, .int a2)] [] S 0 0
  refine g_iload_n hC dX12_joined_0 rfl ?_
  by_cases hc1 : a0 = (50 : Int32)
  · rw [if_pos hc1] at h
    refine g_tin (off := 39) (tgt := 40) hC dX12_joined_1 hc1 (by decide) (by decide) (by decide) (by decide) ?_
    refine g_iload_n hC dX12_joined_40 rfl ?_
    refine g_iload_n hC dX12_joined_41 rfl ?_
    refine g_iadd hC dX12_joined_42 ?_
    cases h
    exact g_iret hC hR dX12_joined_43 (by decide) (by decide)
  rw [if_neg hc1] at h
  by_cases hc2 : a0 = (51 : Int32)
  · rw [if_pos hc2] at h
    refine g_tin (off := 43) (tgt := 44) hC dX12_joined_1 hc2 (by decide) (by decide) (by decide) (by decide) ?_
    refine g_iload_n hC dX12_joined_44 rfl ?_
    refine g_iload_n hC dX12_joined_45 rfl ?_
    refine g_isub hC dX12_joined_46 ?_
    cases h
    exact g_iret hC hR dX12_joined_47 (by decide) (by decide)
  rw [if_neg hc2] at h
  by_cases hc3 : a0 = (52 : Int32)
  · rw [if_pos hc3] at h
    refine g_tin (off := 47) (tgt := 48) hC dX12_joined_1 hc3 (by decide) (by decide) (by decide) (by decide) ?_
    refine g_iload_n hC dX12_joined_48 rfl ?_
    refine g_iload_n hC dX12_joined_49 rfl ?_
    refine g_imul hC dX12_joined_50 ?_
    cases h
    exact g_iret hC hR dX12_joined_51 (by decide) (by decide)
  rw [if_neg hc3] at h
  by_cases hc4 : a0 = (53 : Int32)
  · rw [if_pos hc4] at h
    refine g_tin (off := 51) (tgt := 52) hC dX12_joined_1 hc4 (by decide) (by decide) (by decide) (by decide) ?_
    refine g_iload_n hC dX12_joined_52 rfl ?_
    refine g_if_ne (tgt := 60) hC dX12_joined_53 (by decide) (fun hc5 => ?_) (fun hc5 => ?_)
    · rw [if_neg hc5] at h
      refine g_iload_n hC dX12_joined_60 rfl ?_
      refine g_iload_n hC dX12_joined_61 rfl ?_
      obtain ⟨hz6, h⟩ := gd_some h
      refine g_idiv hC dX12_joined_62 hz6 ?_
      cases h
      exact g_iret hC hR dX12_joined_63 (by decide) (by decide)
    · rw [if_pos hc5] at h
      refine g_iconst (v := (0 : Int32)) hC dX12_joined_56 (by decide) ?_
      refine g_goto (tgt := 63) hC dX12_joined_57 (by decide) ?_
      cases h
      exact g_iret hC hR dX12_joined_63 (by decide) (by decide)
  rw [if_neg hc4] at h
  by_cases hc7 : a0 = (54 : Int32)
  · rw [if_pos hc7] at h
    refine g_tin (off := 63) (tgt := 64) hC dX12_joined_1 hc7 (by decide) (by decide) (by decide) (by decide) ?_
    refine g_iload_n hC dX12_joined_64 rfl ?_
    refine g_iload_n hC dX12_joined_65 rfl ?_
    refine g_mmin (st := []) hC tw_1097 tw_364 tw_5 tw_365 dX12_joined_66 (by decide) (Nat.le_of_ble_eq_true rfl) (by decide) (by decide) ?_
    cases h
    exact g_iret hC hR dX12_joined_69 (by decide) (by decide)
  rw [if_neg hc7] at h
  by_cases hc8 : a0 = (55 : Int32)
  · rw [if_pos hc8] at h
    refine g_tin (off := 69) (tgt := 70) hC dX12_joined_1 hc8 (by decide) (by decide) (by decide) (by decide) ?_
    refine g_iload_n hC dX12_joined_70 rfl ?_
    refine g_iload_n hC dX12_joined_71 rfl ?_
    refine g_mmax (st := []) hC tw_1218 tw_80 tw_5 tw_81 dX12_joined_72 (by decide) (Nat.le_of_ble_eq_true rfl) (by decide) (by decide) ?_
    cases h
    exact g_iret hC hR dX12_joined_75 (by decide) (by decide)
  rw [if_neg hc8] at h
  refine g_tout (tgt := 76) hC dX12_joined_1 (tout_of [(50 : Int32), (51 : Int32), (52 : Int32), (53 : Int32), (54 : Int32), (55 : Int32)] (by intro v hv; simp only [List.mem_cons, List.not_mem_nil, or_false] at hv; rcases hv with rfl | rfl | rfl | rfl | rfl | rfl <;> assumption) (by decide +kernel)) (by decide) ?_
  refine g_iload_n hC dX12_joined_76 rfl ?_
  refine g_iload_n hC dX12_joined_77 rfl ?_
  refine g_icmp_ge (tgt := 85) hC dX12_joined_78 (by decide) (fun hc9 => ?_) (fun hc9 => ?_)
  · rw [if_pos hc9] at h
    refine g_iconst (v := (0 : Int32)) hC dX12_joined_85 (by decide) ?_
    cases h
    exact g_iret hC hR dX12_joined_86 (by decide) (by decide)
  · rw [if_neg hc9] at h
    refine g_iconst (v := (1 : Int32)) hC dX12_joined_81 (by decide) ?_
    refine g_goto (tgt := 86) hC dX12_joined_82 (by decide) ?_
    cases h
    exact g_iret hC hR dX12_joined_86 (by decide) (by decide)

theorem mi_X12_contractsOf : MI yX12_contractsOf cX12_contractsOf 4 (some .int) 1 := ⟨tw_1345, tw_14, by decide +kernel, by decide +kernel, by decide +kernel⟩
noncomputable def B_X12_contractsOf_0 (S : Wd) (a0 : Nat) (a1 : Int32) : Option ((Int32 × Wd) ⊕ Cs) := some (.inr (1, [a0], [a1, (0 : Int32), (0 : Int32)], S))
noncomputable def B_X12_contractsOf_1 (S : Wd) (x0 : Nat) (x1 : Int32) (x2 : Int32) (x3 : Int32) : Option ((Int32 × Wd) ⊕ Cs) := gd (ob S x0 12) (Option.bind (wO S x0 0) (fun q2 => gd (ix S q2 100 (67 : Int32)) (if (wI S q2 (67 : Int32).toNatClampNeg) ≤ x3 then (some (.inl (x2, S))) else (gd (ob S x0 12) (Option.bind (wO S x0 0) (fun q7 => gd (ix S q7 100 ((240 : Int32) + x3)) (if (irm (wI S q7 ((240 : Int32) + x3).toNatClampNeg) (8 : Int32)) = x1 then (some (.inr (1, [x0], [x1, (x2 + (1 : Int32)), (x3 + (1 : Int32))], S))) else (some (.inr (1, [x0], [x1, (x2 + (0 : Int32)), (x3 + (1 : Int32))], S))))))))))
noncomputable def B_X12_contractsOf : Cs → Option ((Int32 × Wd) ⊕ Cs)
  | (0, [a0], [a1], S) => B_X12_contractsOf_0 S a0 a1
  | (1, [x0], [x1, x2, x3], S) => B_X12_contractsOf_1 S x0 x1 x2 x3
  | _ => none
def P_X12_contractsOf : Cs → Option (Nat × List (Nat × Value) × Wd × Nat × Nat)
  | (0, [a0], [a1], S) => some (0, [(0, .ref a0), (1, .int a1)], S, 0, 0)
  | (1, [x0], [x1, x2, x3], S) => some (4, [(0, .ref x0), (1, .int x1), (2, .int x2), (3, .int x3)], S, 0, 0)
  | _ => none
noncomputable def f_X12_contractsOf (S : Wd) (a0 : Nat) (a1 : Int32) : Option (Int32 × Wd) := ru B_X12_contractsOf (0, [a0], [a1], S)
abbrev N_X12_contractsOf (b : Bd) (r : Int32 × Wd) (c : (Int32 × Wd) ⊕ Cs) : Prop := match c with
  | .inl r' => r' = r
  | .inr s' => ∀ pc L S kc ks, P_X12_contractsOf s' = some (pc, L, S, kc, ks) → G b pc L [] S kc ks
set_option maxRecDepth 100000 in
set_option maxHeartbeats 4000000 in
theorem w_X12_contractsOf_0 {b : Bd} {r : Int32 × Wd} (hC : CX b yX12_contractsOf.cls cX12_contractsOf 4 { frames := 0, cells := 0, slots := 0, locals := 0 }) (hin : yX12_contractsOf.name = "<init>" → b.2.2.2.2.2.2.2.2.1.name = "<init>") (hR : RT b (some .int) (some (.int r.1)) r.2 0 0) {S : Wd} {a0 : Nat} {a1 : Int32} {c : (Int32 × Wd) ⊕ Cs} (h : B_X12_contractsOf_0 S a0 a1 = some c) (hk : N_X12_contractsOf b r c) : G b 0 [(0, .ref a0), (1, .int a1)] [] S 0 0 := by
  unfold B_X12_contractsOf_0 at h
  refine g_iconst (v := (0 : Int32)) hC dX12_contractsOf_0 (by decide) ?_
  refine g_istore_n (L' := [(2, .int (0 : Int32)), (0, .ref a0), (1, .int a1)]) hC dX12_contractsOf_1 (by decide) rfl ?_
  refine g_iconst (v := (0 : Int32)) hC dX12_contractsOf_2 (by decide) ?_
  refine g_istore_n (L' := [(3, .int (0 : Int32)), (2, .int (0 : Int32)), (0, .ref a0), (1, .int a1)]) hC dX12_contractsOf_3 (by decide) rfl ?_
  cases h
  refine g_pick (L' := [(0, .ref a0), (1, .int a1), (2, .int (0 : Int32)), (3, .int (0 : Int32))]) [2, 3, 1, 0] rfl ?_
  exact hk _ _ _ _ _ rfl
set_option maxRecDepth 100000 in
set_option maxHeartbeats 4000000 in
theorem w_X12_contractsOf_1 {b : Bd} {r : Int32 × Wd} (hC : CX b yX12_contractsOf.cls cX12_contractsOf 4 { frames := 0, cells := 0, slots := 0, locals := 0 }) (hin : yX12_contractsOf.name = "<init>" → b.2.2.2.2.2.2.2.2.1.name = "<init>") (hR : RT b (some .int) (some (.int r.1)) r.2 0 0) {S : Wd} {x0 : Nat} {x1 : Int32} {x2 : Int32} {x3 : Int32} {c : (Int32 × Wd) ⊕ Cs} (h : B_X12_contractsOf_1 S x0 x1 x2 x3 = some c) (hk : N_X12_contractsOf b r c) : G b 4 [(0, .ref x0), (1, .int x1), (2, .int x2), (3, .int x3)] [] S 0 0 := by
  unfold B_X12_contractsOf_1 at h
  refine g_iload_n hC dX12_contractsOf_4 rfl ?_
  refine g_aload_n hC dX12_contractsOf_5 rfl ?_
  obtain ⟨ho1, h⟩ := gd_some h
  obtain ⟨q2, hq3, h⟩ := Option.bind_eq_some_iff.mp h
  refine g_getr (k := 0) (q := q2) hC ck_X12 (by decide) tw_984 rfl (by decide) dX12_contractsOf_6 ho1 hq3 ?_
  refine g_bipush (v := (67 : Int32)) hC dX12_contractsOf_9 (by decide) ?_
  obtain ⟨hx4, h⟩ := gd_some h
  refine g_iald hC dX12_contractsOf_11 hx4.1 hx4.2 ?_
  refine g_icmp_ge (tgt := 46) hC dX12_contractsOf_12 (by decide) (fun hc5 => ?_) (fun hc5 => ?_)
  · rw [if_pos hc5] at h
    refine g_iload_n hC dX12_contractsOf_46 rfl ?_
    cases h
    subst hk
    exact g_iret hC hR dX12_contractsOf_47 (by decide) (by decide)
  · rw [if_neg hc5] at h
    refine g_iload_n hC dX12_contractsOf_15 rfl ?_
    refine g_aload_n hC dX12_contractsOf_16 rfl ?_
    obtain ⟨ho6, h⟩ := gd_some h
    obtain ⟨q7, hq8, h⟩ := Option.bind_eq_some_iff.mp h
    refine g_getr (k := 0) (q := q7) hC ck_X12 (by decide) tw_984 rfl (by decide) dX12_contractsOf_17 ho6 hq8 ?_
    refine g_sipush (v := (240 : Int32)) hC dX12_contractsOf_20 (by decide) ?_
    refine g_iload_n hC dX12_contractsOf_23 rfl ?_
    refine g_iadd hC dX12_contractsOf_24 ?_
    obtain ⟨hx9, h⟩ := gd_some h
    refine g_iald hC dX12_contractsOf_25 hx9.1 hx9.2 ?_
    refine g_bipush (v := (8 : Int32)) hC dX12_contractsOf_26 (by decide) ?_
    refine g_irm hC dX12_contractsOf_28 (by decide) ?_
    refine g_iload_n hC dX12_contractsOf_29 rfl ?_
    refine g_icmp_ne (tgt := 37) hC dX12_contractsOf_30 (by decide) (fun hc10 => ?_) (fun hc10 => ?_)
    · rw [if_neg hc10] at h
      refine g_iconst (v := (0 : Int32)) hC dX12_contractsOf_37 (by decide) ?_
      refine g_iadd hC dX12_contractsOf_38 ?_
      refine g_istore_n (L' := [(2, .int (x2 + (0 : Int32))), (0, .ref x0), (1, .int x1), (3, .int x3)]) hC dX12_contractsOf_39 (by decide) rfl ?_
      refine g_iinc (v := (1 : Int32)) (L' := [(3, .int (x3 + (1 : Int32))), (2, .int (x2 + (0 : Int32))), (0, .ref x0), (1, .int x1)]) hC dX12_contractsOf_40 rfl (by decide) (by decide) rfl ?_
      refine g_goto (tgt := 4) hC dX12_contractsOf_43 (by decide) ?_
      cases h
      refine g_pick (L' := [(0, .ref x0), (1, .int x1), (2, .int (x2 + (0 : Int32))), (3, .int (x3 + (1 : Int32)))]) [2, 3, 1, 0] rfl ?_
      exact hk _ _ _ _ _ rfl
    · rw [if_pos hc10] at h
      refine g_iconst (v := (1 : Int32)) hC dX12_contractsOf_33 (by decide) ?_
      refine g_goto (tgt := 38) hC dX12_contractsOf_34 (by decide) ?_
      refine g_iadd hC dX12_contractsOf_38 ?_
      refine g_istore_n (L' := [(2, .int (x2 + (1 : Int32))), (0, .ref x0), (1, .int x1), (3, .int x3)]) hC dX12_contractsOf_39 (by decide) rfl ?_
      refine g_iinc (v := (1 : Int32)) (L' := [(3, .int (x3 + (1 : Int32))), (2, .int (x2 + (1 : Int32))), (0, .ref x0), (1, .int x1)]) hC dX12_contractsOf_40 rfl (by decide) (by decide) rfl ?_
      refine g_goto (tgt := 4) hC dX12_contractsOf_43 (by decide) ?_
      cases h
      refine g_pick (L' := [(0, .ref x0), (1, .int x1), (2, .int (x2 + (1 : Int32))), (3, .int (x3 + (1 : Int32)))]) [2, 3, 1, 0] rfl ?_
      exact hk _ _ _ _ _ rfl
theorem w_X12_contractsOf {b : Bd} {r : Int32 × Wd} (hC : CX b yX12_contractsOf.cls cX12_contractsOf 4 { frames := 0, cells := 0, slots := 0, locals := 0 }) (hin : yX12_contractsOf.name = "<init>" → b.2.2.2.2.2.2.2.2.1.name = "<init>") (hR : RT b (some .int) (some (.int r.1)) r.2 0 0) {s : Cs} {c : (Int32 × Wd) ⊕ Cs} (h : B_X12_contractsOf s = some c) (hk : N_X12_contractsOf b r c) : ∀ pc L S kc ks, P_X12_contractsOf s = some (pc, L, S, kc, ks) → G b pc L [] S kc ks := by
  intro pc L S kc ks hp
  unfold B_X12_contractsOf at h
  split at h
  · cases hp
    exact w_X12_contractsOf_0 hC hin hR h hk
  · cases hp
    exact w_X12_contractsOf_1 hC hin hR h hk
  · cases h
theorem k_X12_contractsOf {S : Wd} {a0 : Nat} {a1 : Int32} {r : Int32} {S' : Wd} (h : f_X12_contractsOf S a0 a1 = some (r, S')) : Sp yX12_contractsOf cX12_contractsOf 4 (some .int) 0 0 0 0 [.ref a0, .int a1] S (some (.int r)) S' := by
  unfold f_X12_contractsOf at h
  refine Sp.of (by decide +kernel) (Nat.le_of_ble_eq_true rfl) ?_
  intro b hC hin hR
  exact ru_ind (P := fun s q0 => q0 = (r, S') → ∀ pc L S kc ks, P_X12_contractsOf s = some (pc, L, S, kc, ks) → G b pc L [] S kc ks) (fun s q0 hB e => w_X12_contractsOf (r := (r, S')) hC hin hR hB e) (fun s s' q0 hB ih e => w_X12_contractsOf (r := (r, S')) hC hin hR hB (ih e)) h rfl _ _ _ _ _ rfl

theorem mi_X12_readBy : MI yX12_readBy cX12_readBy 5 (some .int) 4 := ⟨tw_1341, tw_14, by decide +kernel, by decide +kernel, by decide +kernel⟩
noncomputable def f_X12_readBy (S : Wd) (a0 : Nat) (a1 : Int32) (a2 : Int32) (a3 : Int32) (a4 : Int32) : Option (Int32 × Wd) := if a1 = (1 : Int32) then (gd (ob S a0 12) (bd2 (f_X12_payOf S a0 a2) (fun r5 S3 => some (r5, S3)))) else (if a1 = (2 : Int32) then (some (a3, S)) else (if a1 = (3 : Int32) then (gd (ob S a0 12) (Option.bind (wO S a0 0) (fun q9 => bd2 (f_X12_ofLoad S a2 (4 : Int32)) (fun r13 S12 => gd (ix S12 q9 100 r13) (some ((wI S12 q9 r13.toNatClampNeg), S12)))))) else (if a1 = (4 : Int32) then (gd (ob S a0 12) (Option.bind (wO S a0 0) (fun q17 => bd2 (f_X12_ofLoad S a2 (2 : Int32)) (fun r21 S20 => gd (ix S20 q17 100 r21) (some ((wI S20 q17 r21.toNatClampNeg), S20)))))) else (if a1 = (5 : Int32) then (gd (ob S a0 12) (bd2 (f_X12_contractsOf S a0 a2) (fun r27 S25 => some (r27, S25)))) else (if a1 = (6 : Int32) then (gd (ob S a0 12) (bd2 (f_X12_endOf S a0 a2 a4) (fun r32 S30 => gd (ob S30 a0 12) (bd2 (f_X12_trustOf S30 a0 r32 (0 : Int32)) (fun r36 S34 => some (r36, S34)))))) else (some ((a1 - (10 : Int32)), S)))))))
set_option maxRecDepth 100000 in
set_option maxHeartbeats 4000000 in
theorem k_X12_readBy {S : Wd} {a0 : Nat} {a1 : Int32} {a2 : Int32} {a3 : Int32} {a4 : Int32} {r : Int32} {S' : Wd} (h : f_X12_readBy S a0 a1 a2 a3 a4 = some (r, S')) : Sp yX12_readBy cX12_readBy 5 (some .int) 2 42 0 0 [.ref a0, .int a1, .int a2, .int a3, .int a4] S (some (.int r)) S' := by
  unfold f_X12_readBy at h
  refine Sp.of (by decide +kernel) (Nat.le_of_ble_eq_true rfl) ?_
  intro b hC hin hR
  show G b 0 [(0, .ref a0), (1, .int a1), (2, .int a2), (3, .int a3), (4, .int a4)] [] S 0 0
  refine g_iload_n hC dX12_readBy_0 rfl ?_
  by_cases hc1 : a1 = (1 : Int32)
  · rw [if_pos hc1] at h
    refine g_tin (off := 39) (tgt := 40) hC dX12_readBy_1 hc1 (by decide) (by decide) (by decide) (by decide) ?_
    refine g_aload_n hC dX12_readBy_40 rfl ?_
    refine g_iload_n hC dX12_readBy_41 rfl ?_
    obtain ⟨ho4, h⟩ := gd_some h
    obtain ⟨r5, S3, hr2, h⟩ := bd2_some h
    refine g_callV (rest := []) hC mi_X12_payOf (k_X12_payOf hr2) ck_X12.1 (by decide) ho4 tw_1187 tw_1189 ts_37 dX12_readBy_42 rfl rfl ⟨by decide, by decide⟩ (Nat.le_of_ble_eq_true rfl) ⟨by decide, by decide⟩ ?_
    cases h
    exact g_iret hC hR dX12_readBy_45 (by decide) (by decide)
  rw [if_neg hc1] at h
  by_cases hc6 : a1 = (2 : Int32)
  · rw [if_pos hc6] at h
    refine g_tin (off := 45) (tgt := 46) hC dX12_readBy_1 hc6 (by decide) (by decide) (by decide) (by decide) ?_
    refine g_iload_n hC dX12_readBy_46 rfl ?_
    cases h
    exact g_iret hC hR dX12_readBy_47 (by decide) (by decide)
  rw [if_neg hc6] at h
  by_cases hc7 : a1 = (3 : Int32)
  · rw [if_pos hc7] at h
    refine g_tin (off := 47) (tgt := 48) hC dX12_readBy_1 hc7 (by decide) (by decide) (by decide) (by decide) ?_
    refine g_aload_n hC dX12_readBy_48 rfl ?_
    obtain ⟨ho8, h⟩ := gd_some h
    obtain ⟨q9, hq10, h⟩ := Option.bind_eq_some_iff.mp h
    refine g_getr (k := 0) (q := q9) hC ck_X12 (by decide) tw_984 rfl (by decide) dX12_readBy_49 ho8 hq10 ?_
    refine g_iload_n hC dX12_readBy_52 rfl ?_
    refine g_iconst (v := (4 : Int32)) hC dX12_readBy_53 (by decide) ?_
    obtain ⟨r13, S12, hr11, h⟩ := bd2_some h
    refine g_callS (rest := [.ref q9]) hC mi_X12_ofLoad (k_X12_ofLoad hr11) tw_1123 tw_1124 dX12_readBy_54 rfl rfl ⟨by decide, by decide⟩ (Nat.le_of_ble_eq_true rfl) ⟨by decide, by decide⟩ ?_
    obtain ⟨hx14, h⟩ := gd_some h
    refine g_iald hC dX12_readBy_57 hx14.1 hx14.2 ?_
    cases h
    exact g_iret hC hR dX12_readBy_58 (by decide) (by decide)
  rw [if_neg hc7] at h
  by_cases hc15 : a1 = (4 : Int32)
  · rw [if_pos hc15] at h
    refine g_tin (off := 58) (tgt := 59) hC dX12_readBy_1 hc15 (by decide) (by decide) (by decide) (by decide) ?_
    refine g_aload_n hC dX12_readBy_59 rfl ?_
    obtain ⟨ho16, h⟩ := gd_some h
    obtain ⟨q17, hq18, h⟩ := Option.bind_eq_some_iff.mp h
    refine g_getr (k := 0) (q := q17) hC ck_X12 (by decide) tw_984 rfl (by decide) dX12_readBy_60 ho16 hq18 ?_
    refine g_iload_n hC dX12_readBy_63 rfl ?_
    refine g_iconst (v := (2 : Int32)) hC dX12_readBy_64 (by decide) ?_
    obtain ⟨r21, S20, hr19, h⟩ := bd2_some h
    refine g_callS (rest := [.ref q17]) hC mi_X12_ofLoad (k_X12_ofLoad hr19) tw_1123 tw_1124 dX12_readBy_65 rfl rfl ⟨by decide, by decide⟩ (Nat.le_of_ble_eq_true rfl) ⟨by decide, by decide⟩ ?_
    obtain ⟨hx22, h⟩ := gd_some h
    refine g_iald hC dX12_readBy_68 hx22.1 hx22.2 ?_
    cases h
    exact g_iret hC hR dX12_readBy_69 (by decide) (by decide)
  rw [if_neg hc15] at h
  by_cases hc23 : a1 = (5 : Int32)
  · rw [if_pos hc23] at h
    refine g_tin (off := 69) (tgt := 70) hC dX12_readBy_1 hc23 (by decide) (by decide) (by decide) (by decide) ?_
    refine g_aload_n hC dX12_readBy_70 rfl ?_
    refine g_iload_n hC dX12_readBy_71 rfl ?_
    obtain ⟨ho26, h⟩ := gd_some h
    obtain ⟨r27, S25, hr24, h⟩ := bd2_some h
    refine g_callV (rest := []) hC mi_X12_contractsOf (k_X12_contractsOf hr24) ck_X12.1 (by decide) ho26 tw_1342 tw_1344 ts_49 dX12_readBy_72 rfl rfl ⟨by decide, by decide⟩ (Nat.le_of_ble_eq_true rfl) ⟨by decide, by decide⟩ ?_
    cases h
    exact g_iret hC hR dX12_readBy_75 (by decide) (by decide)
  rw [if_neg hc23] at h
  by_cases hc28 : a1 = (6 : Int32)
  · rw [if_pos hc28] at h
    refine g_tin (off := 75) (tgt := 76) hC dX12_readBy_1 hc28 (by decide) (by decide) (by decide) (by decide) ?_
    refine g_aload_n hC dX12_readBy_76 rfl ?_
    refine g_aload_n hC dX12_readBy_77 rfl ?_
    refine g_iload_n hC dX12_readBy_78 rfl ?_
    refine g_iload hC dX12_readBy_79 rfl ?_
    obtain ⟨ho31, h⟩ := gd_some h
    obtain ⟨r32, S30, hr29, h⟩ := bd2_some h
    refine g_callV (rest := [.ref a0]) hC mi_X12_endOf (k_X12_endOf hr29) ck_X12.1 (by decide) ho31 tw_1264 tw_1266 ts_43 dX12_readBy_81 rfl rfl ⟨by decide, by decide⟩ (Nat.le_of_ble_eq_true rfl) ⟨by decide, by decide⟩ ?_
    refine g_iconst (v := (0 : Int32)) hC dX12_readBy_84 (by decide) ?_
    obtain ⟨ho35, h⟩ := gd_some h
    obtain ⟨r36, S34, hr33, h⟩ := bd2_some h
    refine g_callV (rest := []) hC mi_X12_trustOf (k_X12_trustOf hr33) ck_X12.1 (by decide) ho35 tw_1289 tw_1291 ts_44 dX12_readBy_85 rfl rfl ⟨by decide, by decide⟩ (Nat.le_of_ble_eq_true rfl) ⟨by decide, by decide⟩ ?_
    cases h
    exact g_iret hC hR dX12_readBy_88 (by decide) (by decide)
  rw [if_neg hc28] at h
  refine g_tout (tgt := 89) hC dX12_readBy_1 (tout_of [(1 : Int32), (2 : Int32), (3 : Int32), (4 : Int32), (5 : Int32), (6 : Int32)] (by intro v hv; simp only [List.mem_cons, List.not_mem_nil, or_false] at hv; rcases hv with rfl | rfl | rfl | rfl | rfl | rfl <;> assumption) (by decide +kernel)) (by decide) ?_
  refine g_iload_n hC dX12_readBy_89 rfl ?_
  refine g_bipush (v := (10 : Int32)) hC dX12_readBy_90 (by decide) ?_
  refine g_isub hC dX12_readBy_92 ?_
  cases h
  exact g_iret hC hR dX12_readBy_93 (by decide) (by decide)

theorem mi_X12_claim : MI yX12_claim cX12_claim 7 (some .int) 3 := ⟨tw_1336, tw_14, by decide +kernel, by decide +kernel, by decide +kernel⟩
noncomputable def B_X12_claim_0 (S : Wd) (a0 : Nat) (a1 : Int32) (a2 : Int32) (a3 : Int32) : Option ((Int32 × Wd) ⊕ Cs) := gd (ob S a0 12) (bd2 (f_X12_isLoad S a0 a1) (fun r4 S2 => if r4 = 0 then (gd (ob S2 a0 12) (bd2 (f_X12_finding S2 a0 (-100001 : Int32)) (fun r9 S7 => some (.inl (r9, S7))))) else (bd2 (f_X12_within S2 a2 (0 : Int32) (4000 : Int32)) (fun r12 S11 => if r12 = 0 then (gd (ob S11 a0 12) (bd2 (f_X12_finding S11 a0 (-100001 : Int32)) (fun r17 S15 => some (.inl (r17, S15))))) else (bd2 (f_X12_isFirm S11 a3) (fun r20 S19 => if r20 = 0 then (gd (ob S19 a0 12) (bd2 (f_X12_finding S19 a0 (-100001 : Int32)) (fun r40 S38 => some (.inl (r40, S38))))) else (gd (ob S19 a0 12) (bd2 (f_X12_wrongAt S19 a0) (fun r25 S23 => if r25 < 0 then (gd (ob S23 a0 12) (Option.bind (wO S23 a0 24) (fun q28 => gd (ix S23 q28 100 (0 : Int32)) (ltS (sI S23 q28 (0 : Int32).toNatClampNeg (0 : Int32)) (fun S31 => some (.inr (1, [a0], [a1, a2, a3, (0 : Int32), (0 : Int32)], S31))))))) else (gd (ob S23 a0 12) (bd2 (f_X12_finding S23 a0 (-100008 : Int32)) (fun r36 S34 => some (.inl (r36, S34))))))))))))))
noncomputable def B_X12_claim_1 (S : Wd) (x0 : Nat) (x1 : Int32) (x2 : Int32) (x3 : Int32) (x4 : Int32) (x5 : Int32) : Option ((Int32 × Wd) ⊕ Cs) := gd (ob S x0 12) (Option.bind (wO S x0 0) (fun q42 => gd (ix S q42 100 (69 : Int32)) (if (wI S q42 (69 : Int32).toNatClampNeg) ≤ x5 then (gd (ob S x0 12) (Option.bind (wO S x0 24) (fun q47 => gd (ix S q47 100 (0 : Int32)) (some (.inl ((mMax (wI S q47 (0 : Int32).toNatClampNeg) (-99999 : Int32)), S)))))) else (gd (ob S x0 12) (Option.bind (wO S x0 0) (fun q51 => gd (ix S q51 100 ((410 : Int32) + x5)) (if (50 : Int32) ≤ (wI S q51 ((410 : Int32) + x5).toNatClampNeg) then (gd (ob S x0 12) (Option.bind (wO S x0 24) (fun q56 => gd (ob S x0 12) (Option.bind (wO S x0 24) (fun q59 => gd (ix S q59 100 ((x4 + (-1 : Int32)) - (1 : Int32))) (gd (ob S x0 12) (Option.bind (wO S x0 24) (fun q63 => gd (ix S q63 100 (x4 + (-1 : Int32))) (bd2 (f_X12_joined S (wI S q51 ((410 : Int32) + x5).toNatClampNeg) (wI S q59 ((x4 + (-1 : Int32)) - (1 : Int32)).toNatClampNeg) (wI S q63 (x4 + (-1 : Int32)).toNatClampNeg)) (fun r68 S67 => gd (ix S67 q56 100 ((x4 + (-1 : Int32)) - (1 : Int32))) (ltS (sI S67 q56 ((x4 + (-1 : Int32)) - (1 : Int32)).toNatClampNeg r68) (fun S70 => some (.inr (1, [x0], [x1, x2, x3, (x4 + (-1 : Int32)), (x5 + (1 : Int32))], S70)))))))))))))) else (gd (ob S x0 12) (Option.bind (wO S x0 24) (fun q73 => gd (ob S x0 12) (bd2 (f_X12_readBy S x0 (wI S q51 ((410 : Int32) + x5).toNatClampNeg) x1 x2 x3) (fun r78 S76 => gd (ix S76 q73 100 x4) (ltS (sI S76 q73 x4.toNatClampNeg r78) (fun S80 => some (.inr (1, [x0], [x1, x2, x3, (x4 + (1 : Int32)), (x5 + (1 : Int32))], S80))))))))))))))))
noncomputable def B_X12_claim : Cs → Option ((Int32 × Wd) ⊕ Cs)
  | (0, [a0], [a1, a2, a3], S) => B_X12_claim_0 S a0 a1 a2 a3
  | (1, [x0], [x1, x2, x3, x4, x5], S) => B_X12_claim_1 S x0 x1 x2 x3 x4 x5
  | _ => none
def P_X12_claim : Cs → Option (Nat × List (Nat × Value) × Wd × Nat × Nat)
  | (0, [a0], [a1, a2, a3], S) => some (0, [(0, .ref a0), (1, .int a1), (2, .int a2), (3, .int a3)], S, 0, 0)
  | (1, [x0], [x1, x2, x3, x4, x5], S) => some (60, [(0, .ref x0), (1, .int x1), (2, .int x2), (3, .int x3), (4, .int x4), (5, .int x5)], S, 0, 0)
  | _ => none
noncomputable def f_X12_claim (S : Wd) (a0 : Nat) (a1 : Int32) (a2 : Int32) (a3 : Int32) : Option (Int32 × Wd) := ru B_X12_claim (0, [a0], [a1, a2, a3], S)
abbrev N_X12_claim (b : Bd) (r : Int32 × Wd) (c : (Int32 × Wd) ⊕ Cs) : Prop := match c with
  | .inl r' => r' = r
  | .inr s' => ∀ pc L S kc ks, P_X12_claim s' = some (pc, L, S, kc, ks) → G b pc L [] S kc ks
set_option maxRecDepth 100000 in
set_option maxHeartbeats 4000000 in
theorem w_X12_claim_0 {b : Bd} {r : Int32 × Wd} (hC : CX b yX12_claim.cls cX12_claim 7 { frames := 3, cells := 0, slots := 0, locals := 66 }) (hin : yX12_claim.name = "<init>" → b.2.2.2.2.2.2.2.2.1.name = "<init>") (hR : RT b (some .int) (some (.int r.1)) r.2 0 0) {S : Wd} {a0 : Nat} {a1 : Int32} {a2 : Int32} {a3 : Int32} {c : (Int32 × Wd) ⊕ Cs} (h : B_X12_claim_0 S a0 a1 a2 a3 = some c) (hk : N_X12_claim b r c) : G b 0 [(0, .ref a0), (1, .int a1), (2, .int a2), (3, .int a3)] [] S 0 0 := by
  unfold B_X12_claim_0 at h
  refine g_aload_n hC dX12_claim_0 rfl ?_
  refine g_iload_n hC dX12_claim_1 rfl ?_
  obtain ⟨ho3, h⟩ := gd_some h
  obtain ⟨r4, S2, hr1, h⟩ := bd2_some h
  refine g_callV (rest := []) hC mi_X12_isLoad (k_X12_isLoad hr1) ck_X12.1 (by decide) ho3 tw_1135 tw_1137 ts_29 dX12_claim_2 rfl rfl ⟨by decide, by decide⟩ (Nat.le_of_ble_eq_true rfl) ⟨by decide, by decide⟩ ?_
  refine g_if_eq (tgt := 26) hC dX12_claim_5 (by decide) (fun hc5 => ?_) (fun hc5 => ?_)
  · rw [if_pos hc5] at h
    refine g_aload_n hC dX12_claim_26 rfl ?_
    refine g_ldc hC tw_1083 dX12_claim_27 ?_
    obtain ⟨ho8, h⟩ := gd_some h
    obtain ⟨r9, S7, hr6, h⟩ := bd2_some h
    refine g_callV (rest := []) hC mi_X12_finding (k_X12_finding hr6) ck_X12.1 (by decide) ho8 tw_1069 tw_1071 ts_24 dX12_claim_29 rfl rfl ⟨by decide, by decide⟩ (Nat.le_of_ble_eq_true rfl) ⟨by decide, by decide⟩ ?_
    cases h
    subst hk
    exact g_iret hC hR dX12_claim_32 (by decide) (by decide)
  · rw [if_neg hc5] at h
    refine g_iload_n hC dX12_claim_8 rfl ?_
    refine g_iconst (v := (0 : Int32)) hC dX12_claim_9 (by decide) ?_
    refine g_sipush (v := (4000 : Int32)) hC dX12_claim_10 (by decide) ?_
    obtain ⟨r12, S11, hr10, h⟩ := bd2_some h
    refine g_callS (rest := []) hC mi_X12_within (k_X12_within hr10) tw_1080 tw_1081 dX12_claim_13 rfl rfl ⟨by decide, by decide⟩ (Nat.le_of_ble_eq_true rfl) ⟨by decide, by decide⟩ ?_
    refine g_if_eq (tgt := 26) hC dX12_claim_16 (by decide) (fun hc13 => ?_) (fun hc13 => ?_)
    · rw [if_pos hc13] at h
      refine g_aload_n hC dX12_claim_26 rfl ?_
      refine g_ldc hC tw_1083 dX12_claim_27 ?_
      obtain ⟨ho16, h⟩ := gd_some h
      obtain ⟨r17, S15, hr14, h⟩ := bd2_some h
      refine g_callV (rest := []) hC mi_X12_finding (k_X12_finding hr14) ck_X12.1 (by decide) ho16 tw_1069 tw_1071 ts_24 dX12_claim_29 rfl rfl ⟨by decide, by decide⟩ (Nat.le_of_ble_eq_true rfl) ⟨by decide, by decide⟩ ?_
      cases h
      subst hk
      exact g_iret hC hR dX12_claim_32 (by decide) (by decide)
    · rw [if_neg hc13] at h
      refine g_iload_n hC dX12_claim_19 rfl ?_
      obtain ⟨r20, S19, hr18, h⟩ := bd2_some h
      refine g_callS (rest := []) hC mi_X12_isFirm (k_X12_isFirm hr18) tw_1257 tw_1258 dX12_claim_20 rfl rfl ⟨by decide, by decide⟩ (Nat.le_of_ble_eq_true rfl) ⟨by decide, by decide⟩ ?_
      refine g_if_ne (tgt := 33) hC dX12_claim_23 (by decide) (fun hc21 => ?_) (fun hc21 => ?_)
      · rw [if_neg hc21] at h
        refine g_aload_n hC dX12_claim_33 rfl ?_
        obtain ⟨ho24, h⟩ := gd_some h
        obtain ⟨r25, S23, hr22, h⟩ := bd2_some h
        refine g_callV (rest := []) hC mi_X12_wrongAt (k_X12_wrongAt hr22) ck_X12.1 (by decide) ho24 tw_1329 tw_1331 ts_47 dX12_claim_34 rfl rfl ⟨by decide, by decide⟩ (Nat.le_of_ble_eq_true rfl) ⟨by decide, by decide⟩ ?_
        refine g_if_lt (tgt := 47) hC dX12_claim_37 (by decide) (fun hc26 => ?_) (fun hc26 => ?_)
        · rw [if_pos hc26] at h
          refine g_aload_n hC dX12_claim_47 rfl ?_
          obtain ⟨ho27, h⟩ := gd_some h
          obtain ⟨q28, hq29, h⟩ := Option.bind_eq_some_iff.mp h
          refine g_getr (k := 24) (q := q28) hC ck_X12 (by decide) tw_1008 rfl (by decide) dX12_claim_48 ho27 hq29 ?_
          refine g_iconst (v := (0 : Int32)) hC dX12_claim_51 (by decide) ?_
          refine g_iconst (v := (0 : Int32)) hC dX12_claim_52 (by decide) ?_
          obtain ⟨hx30, h⟩ := gd_some h
          refine g_iast hC dX12_claim_53 hx30.1 hx30.2 ?_
          refine g_name (fun S31 eS32 => ?_)
          have h := ltS_use eS32 h
          refine g_iconst (v := (0 : Int32)) hC dX12_claim_54 (by decide) ?_
          refine g_istore (L' := [(4, .int (0 : Int32)), (0, .ref a0), (1, .int a1), (2, .int a2), (3, .int a3)]) hC dX12_claim_55 (by decide) rfl ?_
          refine g_iconst (v := (0 : Int32)) hC dX12_claim_57 (by decide) ?_
          refine g_istore (L' := [(5, .int (0 : Int32)), (4, .int (0 : Int32)), (0, .ref a0), (1, .int a1), (2, .int a2), (3, .int a3)]) hC dX12_claim_58 (by decide) rfl ?_
          cases h
          refine g_pick (L' := [(0, .ref a0), (1, .int a1), (2, .int a2), (3, .int a3), (4, .int (0 : Int32)), (5, .int (0 : Int32))]) [2, 3, 4, 5, 1, 0] rfl ?_
          exact hk _ _ _ _ _ rfl
        · rw [if_neg hc26] at h
          refine g_aload_n hC dX12_claim_40 rfl ?_
          refine g_ldc hC tw_1337 dX12_claim_41 ?_
          obtain ⟨ho35, h⟩ := gd_some h
          obtain ⟨r36, S34, hr33, h⟩ := bd2_some h
          refine g_callV (rest := []) hC mi_X12_finding (k_X12_finding hr33) ck_X12.1 (by decide) ho35 tw_1069 tw_1071 ts_24 dX12_claim_43 rfl rfl ⟨by decide, by decide⟩ (Nat.le_of_ble_eq_true rfl) ⟨by decide, by decide⟩ ?_
          cases h
          subst hk
          exact g_iret hC hR dX12_claim_46 (by decide) (by decide)
      · rw [if_pos hc21] at h
        refine g_aload_n hC dX12_claim_26 rfl ?_
        refine g_ldc hC tw_1083 dX12_claim_27 ?_
        obtain ⟨ho39, h⟩ := gd_some h
        obtain ⟨r40, S38, hr37, h⟩ := bd2_some h
        refine g_callV (rest := []) hC mi_X12_finding (k_X12_finding hr37) ck_X12.1 (by decide) ho39 tw_1069 tw_1071 ts_24 dX12_claim_29 rfl rfl ⟨by decide, by decide⟩ (Nat.le_of_ble_eq_true rfl) ⟨by decide, by decide⟩ ?_
        cases h
        subst hk
        exact g_iret hC hR dX12_claim_32 (by decide) (by decide)
set_option maxRecDepth 100000 in
set_option maxHeartbeats 4000000 in
theorem w_X12_claim_1 {b : Bd} {r : Int32 × Wd} (hC : CX b yX12_claim.cls cX12_claim 7 { frames := 3, cells := 0, slots := 0, locals := 66 }) (hin : yX12_claim.name = "<init>" → b.2.2.2.2.2.2.2.2.1.name = "<init>") (hR : RT b (some .int) (some (.int r.1)) r.2 0 0) {S : Wd} {x0 : Nat} {x1 : Int32} {x2 : Int32} {x3 : Int32} {x4 : Int32} {x5 : Int32} {c : (Int32 × Wd) ⊕ Cs} (h : B_X12_claim_1 S x0 x1 x2 x3 x4 x5 = some c) (hk : N_X12_claim b r c) : G b 60 [(0, .ref x0), (1, .int x1), (2, .int x2), (3, .int x3), (4, .int x4), (5, .int x5)] [] S 0 0 := by
  unfold B_X12_claim_1 at h
  refine g_iload hC dX12_claim_60 rfl ?_
  refine g_aload_n hC dX12_claim_62 rfl ?_
  obtain ⟨ho41, h⟩ := gd_some h
  obtain ⟨q42, hq43, h⟩ := Option.bind_eq_some_iff.mp h
  refine g_getr (k := 0) (q := q42) hC ck_X12 (by decide) tw_984 rfl (by decide) dX12_claim_63 ho41 hq43 ?_
  refine g_bipush (v := (69 : Int32)) hC dX12_claim_66 (by decide) ?_
  obtain ⟨hx44, h⟩ := gd_some h
  refine g_iald hC dX12_claim_68 hx44.1 hx44.2 ?_
  refine g_icmp_ge (tgt := 153) hC dX12_claim_69 (by decide) (fun hc45 => ?_) (fun hc45 => ?_)
  · rw [if_pos hc45] at h
    refine g_aload_n hC dX12_claim_153 rfl ?_
    obtain ⟨ho46, h⟩ := gd_some h
    obtain ⟨q47, hq48, h⟩ := Option.bind_eq_some_iff.mp h
    refine g_getr (k := 24) (q := q47) hC ck_X12 (by decide) tw_1008 rfl (by decide) dX12_claim_154 ho46 hq48 ?_
    refine g_iconst (v := (0 : Int32)) hC dX12_claim_157 (by decide) ?_
    obtain ⟨hx49, h⟩ := gd_some h
    refine g_iald hC dX12_claim_158 hx49.1 hx49.2 ?_
    refine g_ldc hC tw_1349 dX12_claim_159 ?_
    refine g_mmax (st := []) hC tw_1218 tw_80 tw_5 tw_81 dX12_claim_161 (by decide) (Nat.le_of_ble_eq_true rfl) (by decide) (by decide) ?_
    cases h
    subst hk
    exact g_iret hC hR dX12_claim_164 (by decide) (by decide)
  · rw [if_neg hc45] at h
    refine g_aload_n hC dX12_claim_72 rfl ?_
    obtain ⟨ho50, h⟩ := gd_some h
    obtain ⟨q51, hq52, h⟩ := Option.bind_eq_some_iff.mp h
    refine g_getr (k := 0) (q := q51) hC ck_X12 (by decide) tw_984 rfl (by decide) dX12_claim_73 ho50 hq52 ?_
    refine g_sipush (v := (410 : Int32)) hC dX12_claim_76 (by decide) ?_
    refine g_iload hC dX12_claim_79 rfl ?_
    refine g_iadd hC dX12_claim_81 ?_
    obtain ⟨hx53, h⟩ := gd_some h
    refine g_iald hC dX12_claim_82 hx53.1 hx53.2 ?_
    refine g_istore (L' := [(6, .int (wI S q51 ((410 : Int32) + x5).toNatClampNeg)), (0, .ref x0), (1, .int x1), (2, .int x2), (3, .int x3), (4, .int x4), (5, .int x5)]) hC dX12_claim_83 (by decide) rfl ?_
    refine g_iload hC dX12_claim_85 rfl ?_
    refine g_bipush (v := (50 : Int32)) hC dX12_claim_87 (by decide) ?_
    refine g_icmp_ge (tgt := 114) hC dX12_claim_89 (by decide) (fun hc54 => ?_) (fun hc54 => ?_)
    · rw [if_pos hc54] at h
      refine g_iinc (v := (-1 : Int32)) (L' := [(4, .int (x4 + (-1 : Int32))), (6, .int (wI S q51 ((410 : Int32) + x5).toNatClampNeg)), (0, .ref x0), (1, .int x1), (2, .int x2), (3, .int x3), (5, .int x5)]) hC dX12_claim_114 rfl (by decide) (by decide) rfl ?_
      refine g_aload_n hC dX12_claim_117 rfl ?_
      obtain ⟨ho55, h⟩ := gd_some h
      obtain ⟨q56, hq57, h⟩ := Option.bind_eq_some_iff.mp h
      refine g_getr (k := 24) (q := q56) hC ck_X12 (by decide) tw_1008 rfl (by decide) dX12_claim_118 ho55 hq57 ?_
      refine g_iload hC dX12_claim_121 rfl ?_
      refine g_iconst (v := (1 : Int32)) hC dX12_claim_123 (by decide) ?_
      refine g_isub hC dX12_claim_124 ?_
      refine g_iload hC dX12_claim_125 rfl ?_
      refine g_aload_n hC dX12_claim_127 rfl ?_
      obtain ⟨ho58, h⟩ := gd_some h
      obtain ⟨q59, hq60, h⟩ := Option.bind_eq_some_iff.mp h
      refine g_getr (k := 24) (q := q59) hC ck_X12 (by decide) tw_1008 rfl (by decide) dX12_claim_128 ho58 hq60 ?_
      refine g_iload hC dX12_claim_131 rfl ?_
      refine g_iconst (v := (1 : Int32)) hC dX12_claim_133 (by decide) ?_
      refine g_isub hC dX12_claim_134 ?_
      obtain ⟨hx61, h⟩ := gd_some h
      refine g_iald hC dX12_claim_135 hx61.1 hx61.2 ?_
      refine g_aload_n hC dX12_claim_136 rfl ?_
      obtain ⟨ho62, h⟩ := gd_some h
      obtain ⟨q63, hq64, h⟩ := Option.bind_eq_some_iff.mp h
      refine g_getr (k := 24) (q := q63) hC ck_X12 (by decide) tw_1008 rfl (by decide) dX12_claim_137 ho62 hq64 ?_
      refine g_iload hC dX12_claim_140 rfl ?_
      obtain ⟨hx65, h⟩ := gd_some h
      refine g_iald hC dX12_claim_142 hx65.1 hx65.2 ?_
      obtain ⟨r68, S67, hr66, h⟩ := bd2_some h
      refine g_callS (rest := [.int ((x4 + (-1 : Int32)) - (1 : Int32)), .ref q56]) hC mi_X12_joined (k_X12_joined hr66) tw_1346 tw_1347 dX12_claim_143 rfl rfl ⟨by decide, by decide⟩ (Nat.le_of_ble_eq_true rfl) ⟨by decide, by decide⟩ ?_
      obtain ⟨hx69, h⟩ := gd_some h
      refine g_iast hC dX12_claim_146 hx69.1 hx69.2 ?_
      refine g_name (fun S70 eS71 => ?_)
      have h := ltS_use eS71 h
      refine g_iinc (v := (1 : Int32)) (L' := [(5, .int (x5 + (1 : Int32))), (4, .int (x4 + (-1 : Int32))), (6, .int (wI S q51 ((410 : Int32) + x5).toNatClampNeg)), (0, .ref x0), (1, .int x1), (2, .int x2), (3, .int x3)]) hC dX12_claim_147 rfl (by decide) (by decide) rfl ?_
      refine g_goto (tgt := 60) hC dX12_claim_150 (by decide) ?_
      cases h
      refine g_pick (L' := [(0, .ref x0), (1, .int x1), (2, .int x2), (3, .int x3), (4, .int (x4 + (-1 : Int32))), (5, .int (x5 + (1 : Int32)))]) [3, 4, 5, 6, 1, 0] rfl ?_
      exact hk _ _ _ _ _ rfl
    · rw [if_neg hc54] at h
      refine g_aload_n hC dX12_claim_92 rfl ?_
      obtain ⟨ho72, h⟩ := gd_some h
      obtain ⟨q73, hq74, h⟩ := Option.bind_eq_some_iff.mp h
      refine g_getr (k := 24) (q := q73) hC ck_X12 (by decide) tw_1008 rfl (by decide) dX12_claim_93 ho72 hq74 ?_
      refine g_iload hC dX12_claim_96 rfl ?_
      refine g_aload_n hC dX12_claim_98 rfl ?_
      refine g_iload hC dX12_claim_99 rfl ?_
      refine g_iload_n hC dX12_claim_101 rfl ?_
      refine g_iload_n hC dX12_claim_102 rfl ?_
      refine g_iload_n hC dX12_claim_103 rfl ?_
      obtain ⟨ho77, h⟩ := gd_some h
      obtain ⟨r78, S76, hr75, h⟩ := bd2_some h
      refine g_callV (rest := [.int x4, .ref q73]) hC mi_X12_readBy (k_X12_readBy hr75) ck_X12.1 (by decide) ho77 tw_1338 tw_1340 ts_48 dX12_claim_104 rfl rfl ⟨by decide, by decide⟩ (Nat.le_of_ble_eq_true rfl) ⟨by decide, by decide⟩ ?_
      obtain ⟨hx79, h⟩ := gd_some h
      refine g_iast hC dX12_claim_107 hx79.1 hx79.2 ?_
      refine g_name (fun S80 eS81 => ?_)
      have h := ltS_use eS81 h
      refine g_iinc (v := (1 : Int32)) (L' := [(4, .int (x4 + (1 : Int32))), (6, .int (wI S q51 ((410 : Int32) + x5).toNatClampNeg)), (0, .ref x0), (1, .int x1), (2, .int x2), (3, .int x3), (5, .int x5)]) hC dX12_claim_108 rfl (by decide) (by decide) rfl ?_
      refine g_goto (tgt := 147) hC dX12_claim_111 (by decide) ?_
      refine g_iinc (v := (1 : Int32)) (L' := [(5, .int (x5 + (1 : Int32))), (4, .int (x4 + (1 : Int32))), (6, .int (wI S q51 ((410 : Int32) + x5).toNatClampNeg)), (0, .ref x0), (1, .int x1), (2, .int x2), (3, .int x3)]) hC dX12_claim_147 rfl (by decide) (by decide) rfl ?_
      refine g_goto (tgt := 60) hC dX12_claim_150 (by decide) ?_
      cases h
      refine g_pick (L' := [(0, .ref x0), (1, .int x1), (2, .int x2), (3, .int x3), (4, .int (x4 + (1 : Int32))), (5, .int (x5 + (1 : Int32)))]) [3, 4, 5, 6, 1, 0] rfl ?_
      exact hk _ _ _ _ _ rfl
theorem w_X12_claim {b : Bd} {r : Int32 × Wd} (hC : CX b yX12_claim.cls cX12_claim 7 { frames := 3, cells := 0, slots := 0, locals := 66 }) (hin : yX12_claim.name = "<init>" → b.2.2.2.2.2.2.2.2.1.name = "<init>") (hR : RT b (some .int) (some (.int r.1)) r.2 0 0) {s : Cs} {c : (Int32 × Wd) ⊕ Cs} (h : B_X12_claim s = some c) (hk : N_X12_claim b r c) : ∀ pc L S kc ks, P_X12_claim s = some (pc, L, S, kc, ks) → G b pc L [] S kc ks := by
  intro pc L S kc ks hp
  unfold B_X12_claim at h
  split at h
  · cases hp
    exact w_X12_claim_0 hC hin hR h hk
  · cases hp
    exact w_X12_claim_1 hC hin hR h hk
  · cases h
theorem k_X12_claim {S : Wd} {a0 : Nat} {a1 : Int32} {a2 : Int32} {a3 : Int32} {r : Int32} {S' : Wd} (h : f_X12_claim S a0 a1 a2 a3 = some (r, S')) : Sp yX12_claim cX12_claim 7 (some .int) 3 66 0 0 [.ref a0, .int a1, .int a2, .int a3] S (some (.int r)) S' := by
  unfold f_X12_claim at h
  refine Sp.of (by decide +kernel) (Nat.le_of_ble_eq_true rfl) ?_
  intro b hC hin hR
  exact ru_ind (P := fun s q0 => q0 = (r, S') → ∀ pc L S kc ks, P_X12_claim s = some (pc, L, S, kc, ks) → G b pc L [] S kc ks) (fun s q0 hB e => w_X12_claim (r := (r, S')) hC hin hR hB e) (fun s s' q0 hB ih e => w_X12_claim (r := (r, S')) hC hin hR hB (ih e)) h rfl _ _ _ _ _ rfl
