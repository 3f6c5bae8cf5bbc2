theorem nwm_28 : Cond.methodLinkNest RX11 9 yX3_init RX11 ∈ nwL := by simp [nwL]
theorem nwm_288 : Cond.methodLinkNest RX11 98 yX7_init RX11 ∈ nwL := by simp [nwL]
theorem nwm_362 : Cond.methodLinkNest RX10 26 yX11_isTown RX11 ∈ nwL := by simp [nwL]
theorem nwm_751 : Cond.methodLinkNest RX1 57 yX11_isFirm RX11 ∈ nwL := by simp [nwL]
theorem nwm_783 : Cond.methodLinkNest RX4 25 yX11_isFirm RX11 ∈ nwL := by simp [nwL]
theorem nwm_785 : Cond.methodLinkNest RX4 30 yX11_within RX11 ∈ nwL := by simp [nwL]
theorem nwm_856 : Cond.methodLinkNest RX9 47 yX11_within RX11 ∈ nwL := by simp [nwL]
theorem mi_X3_init : MI yX3_init cX3_init 1 none 0 := ⟨tw_30, tw_2, by decide +kernel, by decide +kernel, by decide +kernel⟩
noncomputable def f_X3_init (S : Wd) (a0 : Nat) : Option (Wd) := gd (nk S 103 (16 : Int32).toNatClampNeg) (ltS (sN S (16 : Int32).toNatClampNeg) (fun S2 => gd (ob S2 a0 3) (ltS (sO S2 a0 0 (some (wn S))) (fun S5 => gd (nk S5 103 (16 : Int32).toNatClampNeg) (ltS (sN S5 (16 : Int32).toNatClampNeg) (fun S8 => gd (ob S8 a0 3) (ltS (sO S8 a0 1 (some (wn S5))) (fun S11 => gd (nk S11 100 (16 : Int32).toNatClampNeg) (ltS (sN S11 (16 : Int32).toNatClampNeg) (fun S14 => gd (ob S14 a0 3) (ltS (sO S14 a0 2 (some (wn S11))) (fun S17 => some S17))))))))))))
set_option maxRecDepth 100000 in
set_option maxHeartbeats 4000000 in
theorem k_X3_init {S : Wd} {a0 : Nat} {S' : Wd} (h : f_X3_init S a0 = some S') : Sp yX3_init cX3_init 1 none 1 12 3 48 [.ref a0] S none S' := by
  unfold f_X3_init at h
  refine Sp.of (by decide +kernel) (Nat.le_of_ble_eq_true rfl) ?_
  intro b hC hin hR
  show G b 0 [(0, .ref a0)] [] S 0 0
  refine g_aload_n hC dX3_init_0 rfl ?_
  refine g_obj hC tw_31 tw_24 tw_25 dX3_init_1 (by decide) (Nat.le_of_ble_eq_true rfl) ?_
  refine g_aload_n hC dX3_init_4 rfl ?_
  refine g_bipush (v := (16 : Int32)) hC dX3_init_5 (by decide) ?_
  obtain ⟨hk1, h⟩ := gd_some h
  refine g_new3 hC tw_32 dX3_init_7 (by decide) (by decide) hk1.1 hk1.2 (by decide) (by decide) ?_
  refine g_name (fun S2 eS3 => ?_)
  have h := ltS_use eS3 h
  obtain ⟨ho4, h⟩ := gd_some h
  refine g_putrF (k := 0) hC (hin rfl) ck_X3 (by decide) tw_34 rfl rfl (by decide) rfl (Or.inr ⟨_, rfl⟩) dX3_init_10 ho4 ?_
  refine g_name (fun S5 eS6 => ?_)
  have h := ltS_use eS6 h
  refine g_aload_n hC dX3_init_13 rfl ?_
  refine g_bipush (v := (16 : Int32)) hC dX3_init_14 (by decide) ?_
  obtain ⟨hk7, h⟩ := gd_some h
  refine g_new3 hC tw_32 dX3_init_16 (by decide) (by decide) hk7.1 hk7.2 (by decide) (by decide) ?_
  refine g_name (fun S8 eS9 => ?_)
  have h := ltS_use eS9 h
  obtain ⟨ho10, h⟩ := gd_some h
  refine g_putrF (k := 1) hC (hin rfl) ck_X3 (by decide) tw_35 rfl rfl (by decide) rfl (Or.inr ⟨_, rfl⟩) dX3_init_19 ho10 ?_
  refine g_name (fun S11 eS12 => ?_)
  have h := ltS_use eS12 h
  refine g_aload_n hC dX3_init_22 rfl ?_
  refine g_bipush (v := (16 : Int32)) hC dX3_init_23 (by decide) ?_
  obtain ⟨hk13, h⟩ := gd_some h
  refine g_newi hC tw_53 dX3_init_25 (by decide) (by decide) hk13.1 hk13.2 (by decide) (by decide) ?_
  refine g_name (fun S14 eS15 => ?_)
  have h := ltS_use eS15 h
  obtain ⟨ho16, h⟩ := gd_some h
  refine g_putrF (k := 2) hC (hin rfl) ck_X3 (by decide) tw_36 rfl rfl (by decide) rfl (Or.inr ⟨_, rfl⟩) dX3_init_27 ho16 ?_
  refine g_name (fun S17 eS18 => ?_)
  have h := ltS_use eS18 h
  cases h
  exact g_vret hC hR dX3_init_30 (by decide) (by decide)

theorem mi_X10_init : MI yX10_init cX10_init 2 none 1 := ⟨tw_58, tw_3, by decide +kernel, by decide +kernel, by decide +kernel⟩
noncomputable def f_X10_init (S : Wd) (a0 : Nat) (a1 : Nat) : Option (Wd) := gd (nk S 100 (64 : Int32).toNatClampNeg) (ltS (sN S (64 : Int32).toNatClampNeg) (fun S2 => gd (ob S2 a0 10) (ltS (sO S2 a0 1 (some (wn S))) (fun S5 => gd (nk S5 100 (64 : Int32).toNatClampNeg) (ltS (sN S5 (64 : Int32).toNatClampNeg) (fun S8 => gd (ob S8 a0 10) (ltS (sO S8 a0 2 (some (wn S5))) (fun S11 => gd (ob S11 a0 10) (ltS (sI S11 a0 3 (-1 : Int32)) (fun S14 => gd (ob S14 a0 10) (ltS (sO S14 a0 0 (some a1)) (fun S17 => some S17))))))))))))
set_option maxRecDepth 100000 in
set_option maxHeartbeats 4000000 in
theorem k_X10_init {S : Wd} {a0 : Nat} {a1 : Nat} {S' : Wd} (h : f_X10_init S a0 a1 = some S') : Sp yX10_init cX10_init 2 none 1 12 2 128 [.ref a0, .ref a1] S none S' := by
  unfold f_X10_init at h
  refine Sp.of (by decide +kernel) (Nat.le_of_ble_eq_true rfl) ?_
  intro b hC hin hR
  show G b 0 [(0, .ref a0), (1, .ref a1)] [] S 0 0
  refine g_aload_n hC dX10_init_0 rfl ?_
  refine g_obj hC tw_59 tw_24 tw_25 dX10_init_1 (by decide) (Nat.le_of_ble_eq_true rfl) ?_
  refine g_aload_n hC dX10_init_4 rfl ?_
  refine g_bipush (v := (64 : Int32)) hC dX10_init_5 (by decide) ?_
  obtain ⟨hk1, h⟩ := gd_some h
  refine g_newi hC tw_53 dX10_init_7 (by decide) (by decide) hk1.1 hk1.2 (by decide) (by decide) ?_
  refine g_name (fun S2 eS3 => ?_)
  have h := ltS_use eS3 h
  obtain ⟨ho4, h⟩ := gd_some h
  refine g_putrF (k := 1) hC (hin rfl) ck_X10 (by decide) tw_61 rfl rfl (by decide) rfl (Or.inr ⟨_, rfl⟩) dX10_init_9 ho4 ?_
  refine g_name (fun S5 eS6 => ?_)
  have h := ltS_use eS6 h
  refine g_aload_n hC dX10_init_12 rfl ?_
  refine g_bipush (v := (64 : Int32)) hC dX10_init_13 (by decide) ?_
  obtain ⟨hk7, h⟩ := gd_some h
  refine g_newi hC tw_53 dX10_init_15 (by decide) (by decide) hk7.1 hk7.2 (by decide) (by decide) ?_
  refine g_name (fun S8 eS9 => ?_)
  have h := ltS_use eS9 h
  obtain ⟨ho10, h⟩ := gd_some h
  refine g_putrF (k := 2) hC (hin rfl) ck_X10 (by decide) tw_62 rfl rfl (by decide) rfl (Or.inr ⟨_, rfl⟩) dX10_init_17 ho10 ?_
  refine g_name (fun S11 eS12 => ?_)
  have h := ltS_use eS12 h
  refine g_aload_n hC dX10_init_20 rfl ?_
  refine g_iconst (v := (-1 : Int32)) hC dX10_init_21 (by decide) ?_
  obtain ⟨ho13, h⟩ := gd_some h
  refine g_puti (k := 3) hC ck_X10 (by decide) tw_63 rfl (by decide) rfl rfl dX10_init_22 ho13 ?_
  refine g_name (fun S14 eS15 => ?_)
  have h := ltS_use eS15 h
  refine g_aload_n hC dX10_init_25 rfl ?_
  refine g_aload_n hC dX10_init_26 rfl ?_
  obtain ⟨ho16, h⟩ := gd_some h
  refine g_putrF (k := 0) hC (hin rfl) ck_X10 (by decide) tw_60 rfl rfl (by decide) rfl (Or.inl ⟨_, rfl⟩) dX10_init_27 ho16 ?_
  refine g_name (fun S17 eS18 => ?_)
  have h := ltS_use eS18 h
  cases h
  exact g_vret hC hR dX10_init_30 (by decide) (by decide)

theorem mi_X8_init : MI yX8_init cX8_init 4 none 3 := ⟨tw_77, tw_4, by decide +kernel, by decide +kernel, by decide +kernel⟩
noncomputable def f_X8_init (S : Wd) (a0 : Nat) (a1 : Nat) (a2 : Int32) (a3 : Int32) : Option (Wd) := gd (ob S a0 8) (ltS (sO S a0 0 (some a1)) (fun S2 => gd (ob S2 a0 8) (ltS (sI S2 a0 1 a2) (fun S5 => gd (ob S5 a0 8) (ltS (sI S5 a0 2 a3) (fun S8 => gd (¬ ((1 : Int32) + (mMax (a2 * a3) (0 : Int32))) < 0 ∧ ((1 : Int32) + (mMax (a2 * a3) (0 : Int32))).toNatClampNeg ≤ 200) (gd (nk S8 100 ((1 : Int32) + (mMax (a2 * a3) (0 : Int32))).toNatClampNeg) (ltS (sN S8 ((1 : Int32) + (mMax (a2 * a3) (0 : Int32))).toNatClampNeg) (fun S12 => gd (ob S12 a0 8) (ltS (sO S12 a0 3 (some (wn S8))) (fun S15 => some S15)))))))))))
set_option maxRecDepth 100000 in
set_option maxHeartbeats 4000000 in
theorem k_X8_init {S : Wd} {a0 : Nat} {a1 : Nat} {a2 : Int32} {a3 : Int32} {S' : Wd} (h : f_X8_init S a0 a1 a2 a3 = some S') : Sp yX8_init cX8_init 4 none 1 15 1 200 [.ref a0, .ref a1, .int a2, .int a3] S none S' := by
  unfold f_X8_init at h
  refine Sp.of (by decide +kernel) (Nat.le_of_ble_eq_true rfl) ?_
  intro b hC hin hR
  show G b 0 [(0, .ref a0), (1, .ref a1), (2, .int a2), (3, .int a3)] [] S 0 0
  refine g_aload_n hC dX8_init_0 rfl ?_
  refine g_obj hC tw_78 tw_24 tw_25 dX8_init_1 (by decide) (Nat.le_of_ble_eq_true rfl) ?_
  refine g_aload_n hC dX8_init_4 rfl ?_
  refine g_aload_n hC dX8_init_5 rfl ?_
  obtain ⟨ho1, h⟩ := gd_some h
  refine g_putrF (k := 0) hC (hin rfl) ck_X8 (by decide) tw_82 rfl rfl (by decide) rfl (Or.inl ⟨_, rfl⟩) dX8_init_6 ho1 ?_
  refine g_name (fun S2 eS3 => ?_)
  have h := ltS_use eS3 h
  refine g_aload_n hC dX8_init_9 rfl ?_
  refine g_iload_n hC dX8_init_10 rfl ?_
  obtain ⟨ho4, h⟩ := gd_some h
  refine g_putiF (k := 1) hC (hin rfl) ck_X8 (by decide) tw_83 rfl rfl (by decide) rfl rfl dX8_init_11 ho4 ?_
  refine g_name (fun S5 eS6 => ?_)
  have h := ltS_use eS6 h
  refine g_aload_n hC dX8_init_14 rfl ?_
  refine g_iload_n hC dX8_init_15 rfl ?_
  obtain ⟨ho7, h⟩ := gd_some h
  refine g_putiF (k := 2) hC (hin rfl) ck_X8 (by decide) tw_84 rfl rfl (by decide) rfl rfl dX8_init_16 ho7 ?_
  refine g_name (fun S8 eS9 => ?_)
  have h := ltS_use eS9 h
  refine g_aload_n hC dX8_init_19 rfl ?_
  refine g_iconst (v := (1 : Int32)) hC dX8_init_20 (by decide) ?_
  refine g_iload_n hC dX8_init_21 rfl ?_
  refine g_iload_n hC dX8_init_22 rfl ?_
  refine g_imul hC dX8_init_23 ?_
  refine g_iconst (v := (0 : Int32)) hC dX8_init_24 (by decide) ?_
  refine g_mmax (st := [.int (1 : Int32), .ref a0]) hC tw_79 tw_80 tw_5 tw_81 dX8_init_25 (by decide) (Nat.le_of_ble_eq_true rfl) (by decide) (by decide) ?_
  refine g_iadd hC dX8_init_28 ?_
  obtain ⟨hn11, h⟩ := gd_some h
  obtain ⟨hk10, h⟩ := gd_some h
  refine g_newi hC tw_53 dX8_init_29 hn11.1 (Nat.le_trans hn11.2 (by decide)) hk10.1 hk10.2 (by decide) (Nat.le_trans (Nat.add_le_add_left hn11.2 _) (by decide)) ?_
  refine g_widen (kc' := 1) (ks' := 200) (by decide) (Nat.le_trans (Nat.add_le_add_left hn11.2 _) (by decide)) ?_
  refine g_name (fun S12 eS13 => ?_)
  have h := ltS_use eS13 h
  obtain ⟨ho14, h⟩ := gd_some h
  refine g_putrF (k := 3) hC (hin rfl) ck_X8 (by decide) tw_85 rfl rfl (by decide) rfl (Or.inr ⟨_, rfl⟩) dX8_init_31 ho14 ?_
  refine g_name (fun S15 eS16 => ?_)
  have h := ltS_use eS16 h
  cases h
  exact g_vret hC hR dX8_init_34 (by decide) (by decide)

theorem mi_X0_init : MI yX0_init cX0_init 4 none 3 := ⟨tw_99, tw_6, by decide +kernel, by decide +kernel, by decide +kernel⟩
noncomputable def f_X0_init (S : Wd) (a0 : Nat) (a1 : Nat) (a2 : Nat) (a3 : Nat) : Option (Wd) := gd (ob S a0 0) (ltS (sO S a0 0 (some a1)) (fun S2 => gd (ob S2 a0 0) (ltS (sO S2 a0 1 (some a2)) (fun S5 => gd (ob S5 a0 0) (ltS (sO S5 a0 2 (some a3)) (fun S8 => some S8))))))
set_option maxRecDepth 100000 in
set_option maxHeartbeats 4000000 in
theorem k_X0_init {S : Wd} {a0 : Nat} {a1 : Nat} {a2 : Nat} {a3 : Nat} {S' : Wd} (h : f_X0_init S a0 a1 a2 a3 = some S') : Sp yX0_init cX0_init 4 none 1 12 0 0 [.ref a0, .ref a1, .ref a2, .ref a3] S none S' := by
  unfold f_X0_init at h
  refine Sp.of (by decide +kernel) (Nat.le_of_ble_eq_true rfl) ?_
  intro b hC hin hR
  show G b 0 [(0, .ref a0), (1, .ref a1), (2, .ref a2), (3, .ref a3)] [] S 0 0
  refine g_aload_n hC dX0_init_0 rfl ?_
  refine g_obj hC tw_100 tw_24 tw_25 dX0_init_1 (by decide) (Nat.le_of_ble_eq_true rfl) ?_
  refine g_aload_n hC dX0_init_4 rfl ?_
  refine g_aload_n hC dX0_init_5 rfl ?_
  obtain ⟨ho1, h⟩ := gd_some h
  refine g_putrF (k := 0) hC (hin rfl) ck_X0 (by decide) tw_101 rfl rfl (by decide) rfl (Or.inl ⟨_, rfl⟩) dX0_init_6 ho1 ?_
  refine g_name (fun S2 eS3 => ?_)
  have h := ltS_use eS3 h
  refine g_aload_n hC dX0_init_9 rfl ?_
  refine g_aload_n hC dX0_init_10 rfl ?_
  obtain ⟨ho4, h⟩ := gd_some h
  refine g_putrF (k := 1) hC (hin rfl) ck_X0 (by decide) tw_102 rfl rfl (by decide) rfl (Or.inl ⟨_, rfl⟩) dX0_init_11 ho4 ?_
  refine g_name (fun S5 eS6 => ?_)
  have h := ltS_use eS6 h
  refine g_aload_n hC dX0_init_14 rfl ?_
  refine g_aload_n hC dX0_init_15 rfl ?_
  obtain ⟨ho7, h⟩ := gd_some h
  refine g_putrF (k := 2) hC (hin rfl) ck_X0 (by decide) tw_103 rfl rfl (by decide) rfl (Or.inl ⟨_, rfl⟩) dX0_init_16 ho7 ?_
  refine g_name (fun S8 eS9 => ?_)
  have h := ltS_use eS9 h
  cases h
  exact g_vret hC hR dX0_init_19 (by decide) (by decide)

theorem mi_X2_init : MI yX2_init cX2_init 5 none 4 := ⟨tw_142, tw_7, by decide +kernel, by decide +kernel, by decide +kernel⟩
noncomputable def f_X2_init (S : Wd) (a0 : Nat) (a1 : Nat) (a2 : Nat) (a3 : Nat) (a4 : Nat) : Option (Wd) := gd (nk S 100 (1792 : Int32).toNatClampNeg) (ltS (sN S (1792 : Int32).toNatClampNeg) (fun S2 => gd (ob S2 a0 2) (ltS (sO S2 a0 4 (some (wn S))) (fun S5 => gd (nk S5 100 (1536 : Int32).toNatClampNeg) (ltS (sN S5 (1536 : Int32).toNatClampNeg) (fun S8 => gd (ob S8 a0 2) (ltS (sO S8 a0 5 (some (wn S5))) (fun S11 => gd (nk S11 100 (6 : Int32).toNatClampNeg) (ltS (sN S11 (6 : Int32).toNatClampNeg) (fun S14 => gd (ob S14 a0 2) (ltS (sO S14 a0 6 (some (wn S11))) (fun S17 => gd (nk S17 100 (65 : Int32).toNatClampNeg) (ltS (sN S17 (65 : Int32).toNatClampNeg) (fun S20 => gd (ob S20 a0 2) (ltS (sO S20 a0 7 (some (wn S17))) (fun S23 => gd (nk S23 100 (65 : Int32).toNatClampNeg) (ltS (sN S23 (65 : Int32).toNatClampNeg) (fun S26 => gd (ob S26 a0 2) (ltS (sO S26 a0 8 (some (wn S23))) (fun S29 => gd (nk S29 100 (65 : Int32).toNatClampNeg) (ltS (sN S29 (65 : Int32).toNatClampNeg) (fun S32 => gd (ob S32 a0 2) (ltS (sO S32 a0 9 (some (wn S29))) (fun S35 => gd (ob S35 a0 2) (ltS (sI S35 a0 12 (-1 : Int32)) (fun S38 => gd (ob S38 a0 2) (ltS (sO S38 a0 0 (some a1)) (fun S41 => gd (ob S41 a0 2) (ltS (sO S41 a0 1 (some a2)) (fun S44 => gd (ob S44 a0 2) (ltS (sO S44 a0 2 (some a3)) (fun S47 => gd (ob S47 a0 2) (ltS (sO S47 a0 3 (some a4)) (fun S50 => some S50))))))))))))))))))))))))))))))))))
set_option maxRecDepth 100000 in
set_option maxHeartbeats 4000000 in
theorem k_X2_init {S : Wd} {a0 : Nat} {a1 : Nat} {a2 : Nat} {a3 : Nat} {a4 : Nat} {S' : Wd} (h : f_X2_init S a0 a1 a2 a3 a4 = some S') : Sp yX2_init cX2_init 5 none 1 12 6 3529 [.ref a0, .ref a1, .ref a2, .ref a3, .ref a4] S none S' := by
  unfold f_X2_init at h
  refine Sp.of (by decide +kernel) (Nat.le_of_ble_eq_true rfl) ?_
  intro b hC hin hR
  show G b 0 [(0, .ref a0), (1, .ref a1), (2, .ref a2), (3, .ref a3), (4, .ref a4)] [] S 0 0
  refine g_aload_n hC dX2_init_0 rfl ?_
  refine g_obj hC tw_143 tw_24 tw_25 dX2_init_1 (by decide) (Nat.le_of_ble_eq_true rfl) ?_
  refine g_aload_n hC dX2_init_4 rfl ?_
  refine g_sipush (v := (1792 : Int32)) hC dX2_init_5 (by decide) ?_
  obtain ⟨hk1, h⟩ := gd_some h
  refine g_newi hC tw_53 dX2_init_8 (by decide) (by decide) hk1.1 hk1.2 (by decide) (by decide) ?_
  refine g_name (fun S2 eS3 => ?_)
  have h := ltS_use eS3 h
  obtain ⟨ho4, h⟩ := gd_some h
  refine g_putrF (k := 4) hC (hin rfl) ck_X2 (by decide) tw_148 rfl rfl (by decide) rfl (Or.inr ⟨_, rfl⟩) dX2_init_10 ho4 ?_
  refine g_name (fun S5 eS6 => ?_)
  have h := ltS_use eS6 h
  refine g_aload_n hC dX2_init_13 rfl ?_
  refine g_sipush (v := (1536 : Int32)) hC dX2_init_14 (by decide) ?_
  obtain ⟨hk7, h⟩ := gd_some h
  refine g_newi hC tw_53 dX2_init_17 (by decide) (by decide) hk7.1 hk7.2 (by decide) (by decide) ?_
  refine g_name (fun S8 eS9 => ?_)
  have h := ltS_use eS9 h
  obtain ⟨ho10, h⟩ := gd_some h
  refine g_putrF (k := 5) hC (hin rfl) ck_X2 (by decide) tw_149 rfl rfl (by decide) rfl (Or.inr ⟨_, rfl⟩) dX2_init_19 ho10 ?_
  refine g_name (fun S11 eS12 => ?_)
  have h := ltS_use eS12 h
  refine g_aload_n hC dX2_init_22 rfl ?_
  refine g_bipush (v := (6 : Int32)) hC dX2_init_23 (by decide) ?_
  obtain ⟨hk13, h⟩ := gd_some h
  refine g_newi hC tw_53 dX2_init_25 (by decide) (by decide) hk13.1 hk13.2 (by decide) (by decide) ?_
  refine g_name (fun S14 eS15 => ?_)
  have h := ltS_use eS15 h
  obtain ⟨ho16, h⟩ := gd_some h
  refine g_putrF (k := 6) hC (hin rfl) ck_X2 (by decide) tw_150 rfl rfl (by decide) rfl (Or.inr ⟨_, rfl⟩) dX2_init_27 ho16 ?_
  refine g_name (fun S17 eS18 => ?_)
  have h := ltS_use eS18 h
  refine g_aload_n hC dX2_init_30 rfl ?_
  refine g_bipush (v := (65 : Int32)) hC dX2_init_31 (by decide) ?_
  obtain ⟨hk19, h⟩ := gd_some h
  refine g_newi hC tw_53 dX2_init_33 (by decide) (by decide) hk19.1 hk19.2 (by decide) (by decide) ?_
  refine g_name (fun S20 eS21 => ?_)
  have h := ltS_use eS21 h
  obtain ⟨ho22, h⟩ := gd_some h
  refine g_putrF (k := 7) hC (hin rfl) ck_X2 (by decide) tw_151 rfl rfl (by decide) rfl (Or.inr ⟨_, rfl⟩) dX2_init_35 ho22 ?_
  refine g_name (fun S23 eS24 => ?_)
  have h := ltS_use eS24 h
  refine g_aload_n hC dX2_init_38 rfl ?_
  refine g_bipush (v := (65 : Int32)) hC dX2_init_39 (by decide) ?_
  obtain ⟨hk25, h⟩ := gd_some h
  refine g_newi hC tw_53 dX2_init_41 (by decide) (by decide) hk25.1 hk25.2 (by decide) (by decide) ?_
  refine g_name (fun S26 eS27 => ?_)
  have h := ltS_use eS27 h
  obtain ⟨ho28, h⟩ := gd_some h
  refine g_putrF (k := 8) hC (hin rfl) ck_X2 (by decide) tw_152 rfl rfl (by decide) rfl (Or.inr ⟨_, rfl⟩) dX2_init_43 ho28 ?_
  refine g_name (fun S29 eS30 => ?_)
  have h := ltS_use eS30 h
  refine g_aload_n hC dX2_init_46 rfl ?_
  refine g_bipush (v := (65 : Int32)) hC dX2_init_47 (by decide) ?_
  obtain ⟨hk31, h⟩ := gd_some h
  refine g_newi hC tw_53 dX2_init_49 (by decide) (by decide) hk31.1 hk31.2 (by decide) (by decide) ?_
  refine g_name (fun S32 eS33 => ?_)
  have h := ltS_use eS33 h
  obtain ⟨ho34, h⟩ := gd_some h
  refine g_putrF (k := 9) hC (hin rfl) ck_X2 (by decide) tw_153 rfl rfl (by decide) rfl (Or.inr ⟨_, rfl⟩) dX2_init_51 ho34 ?_
  refine g_name (fun S35 eS36 => ?_)
  have h := ltS_use eS36 h
  refine g_aload_n hC dX2_init_54 rfl ?_
  refine g_iconst (v := (-1 : Int32)) hC dX2_init_55 (by decide) ?_
  obtain ⟨ho37, h⟩ := gd_some h
  refine g_puti (k := 12) hC ck_X2 (by decide) tw_156 rfl (by decide) rfl rfl dX2_init_56 ho37 ?_
  refine g_name (fun S38 eS39 => ?_)
  have h := ltS_use eS39 h
  refine g_aload_n hC dX2_init_59 rfl ?_
  refine g_aload_n hC dX2_init_60 rfl ?_
  obtain ⟨ho40, h⟩ := gd_some h
  refine g_putrF (k := 0) hC (hin rfl) ck_X2 (by decide) tw_144 rfl rfl (by decide) rfl (Or.inl ⟨_, rfl⟩) dX2_init_61 ho40 ?_
  refine g_name (fun S41 eS42 => ?_)
  have h := ltS_use eS42 h
  refine g_aload_n hC dX2_init_64 rfl ?_
  refine g_aload_n hC dX2_init_65 rfl ?_
  obtain ⟨ho43, h⟩ := gd_some h
  refine g_putrF (k := 1) hC (hin rfl) ck_X2 (by decide) tw_145 rfl rfl (by decide) rfl (Or.inl ⟨_, rfl⟩) dX2_init_66 ho43 ?_
  refine g_name (fun S44 eS45 => ?_)
  have h := ltS_use eS45 h
  refine g_aload_n hC dX2_init_69 rfl ?_
  refine g_aload_n hC dX2_init_70 rfl ?_
  obtain ⟨ho46, h⟩ := gd_some h
  refine g_putrF (k := 2) hC (hin rfl) ck_X2 (by decide) tw_146 rfl rfl (by decide) rfl (Or.inl ⟨_, rfl⟩) dX2_init_71 ho46 ?_
  refine g_name (fun S47 eS48 => ?_)
  have h := ltS_use eS48 h
  refine g_aload_n hC dX2_init_74 rfl ?_
  refine g_aload hC dX2_init_75 rfl ?_
  obtain ⟨ho49, h⟩ := gd_some h
  refine g_putrF (k := 3) hC (hin rfl) ck_X2 (by decide) tw_147 rfl rfl (by decide) rfl (Or.inl ⟨_, rfl⟩) dX2_init_77 ho49 ?_
  refine g_name (fun S50 eS51 => ?_)
  have h := ltS_use eS51 h
  cases h
  exact g_vret hC hR dX2_init_80 (by decide) (by decide)

theorem mi_X5_init : MI yX5_init cX5_init 2 none 1 := ⟨tw_188, tw_8, by decide +kernel, by decide +kernel, by decide +kernel⟩
noncomputable def f_X5_init (S : Wd) (a0 : Nat) (a1 : Nat) : Option (Wd) := gd (nk S 100 (40 : Int32).toNatClampNeg) (ltS (sN S (40 : Int32).toNatClampNeg) (fun S2 => gd (ob S2 a0 5) (ltS (sO S2 a0 1 (some (wn S))) (fun S5 => gd ((kT (wn S5)).1 = 8) (ltS (sN S5 0) (fun S8 => Option.bind (f_X8_init S8 (wn S5) a1 (3 : Int32) (40 : Int32)) (fun S11 => gd (ob S11 a0 5) (ltS (sO S11 a0 0 (some (wn S5))) (fun S13 => some S13)))))))))
set_option maxRecDepth 100000 in
set_option maxHeartbeats 4000000 in
theorem k_X5_init {S : Wd} {a0 : Nat} {a1 : Nat} {S' : Wd} (h : f_X5_init S a0 a1 = some S') : Sp yX5_init cX5_init 2 none 2 38 3 244 [.ref a0, .ref a1] S none S' := by
  unfold f_X5_init at h
  refine Sp.of (by decide +kernel) (Nat.le_of_ble_eq_true rfl) ?_
  intro b hC hin hR
  show G b 0 [(0, .ref a0), (1, .ref a1)] [] S 0 0
  refine g_aload_n hC dX5_init_0 rfl ?_
  refine g_obj hC tw_189 tw_24 tw_25 dX5_init_1 (by decide) (Nat.le_of_ble_eq_true rfl) ?_
  refine g_aload_n hC dX5_init_4 rfl ?_
  refine g_bipush (v := (40 : Int32)) hC dX5_init_5 (by decide) ?_
  obtain ⟨hk1, h⟩ := gd_some h
  refine g_newi hC tw_53 dX5_init_7 (by decide) (by decide) hk1.1 hk1.2 (by decide) (by decide) ?_
  refine g_name (fun S2 eS3 => ?_)
  have h := ltS_use eS3 h
  obtain ⟨ho4, h⟩ := gd_some h
  refine g_putrF (k := 1) hC (hin rfl) ck_X5 (by decide) tw_193 rfl rfl (by decide) rfl (Or.inr ⟨_, rfl⟩) dX5_init_9 ho4 ?_
  refine g_name (fun S5 eS6 => ?_)
  have h := ltS_use eS6 h
  refine g_aload_n hC dX5_init_12 rfl ?_
  obtain ⟨hk7, h⟩ := gd_some h
  refine g_new hC ck_X8 tw_190 tw_74 tw_4 dX5_init_13 hk7 (by decide) (by decide) ?_
  refine g_name (fun S8 eS9 => ?_)
  have h := ltS_use eS9 h
  refine g_dup hC dX5_init_16 rfl ?_
  refine g_aload_n hC dX5_init_17 rfl ?_
  refine g_iconst (v := (3 : Int32)) hC dX5_init_18 (by decide) ?_
  refine g_bipush (v := (40 : Int32)) hC dX5_init_19 (by decide) ?_
  obtain ⟨S11, hr10, h⟩ := Option.bind_eq_some_iff.mp h
  refine g_callI (rest := [.ref (wn S5), .ref a0]) hC mi_X8_init (k_X8_init hr10) rfl tw_191 tw_76 dX5_init_21 rfl rfl ⟨by decide, by decide⟩ (Nat.le_of_ble_eq_true rfl) ⟨by decide, by decide⟩ ?_
  obtain ⟨ho12, h⟩ := gd_some h
  refine g_putrF (k := 0) hC (hin rfl) ck_X5 (by decide) tw_192 rfl rfl (by decide) rfl (Or.inl ⟨_, rfl⟩) dX5_init_24 ho12 ?_
  refine g_name (fun S13 eS14 => ?_)
  have h := ltS_use eS14 h
  cases h
  exact g_vret hC hR dX5_init_27 (by decide) (by decide)

theorem mi_X1_init : MI yX1_init cX1_init 2 none 1 := ⟨tw_203, tw_9, by decide +kernel, by decide +kernel, by decide +kernel⟩
noncomputable def f_X1_init (S : Wd) (a0 : Nat) (a1 : Nat) : Option (Wd) := gd (nk S 100 (20 : Int32).toNatClampNeg) (ltS (sN S (20 : Int32).toNatClampNeg) (fun S2 => gd (ob S2 a0 1) (ltS (sO S2 a0 2 (some (wn S))) (fun S5 => gd (ob S5 a0 1) (ltS (sO S5 a0 0 (some a1)) (fun S8 => gd ((kT (wn S8)).1 = 8) (ltS (sN S8 0) (fun S11 => Option.bind (f_X8_init S11 (wn S8) a1 (3 : Int32) (20 : Int32)) (fun S14 => gd (ob S14 a0 1) (ltS (sO S14 a0 1 (some (wn S8))) (fun S16 => some S16)))))))))))
set_option maxRecDepth 100000 in
set_option maxHeartbeats 4000000 in
theorem k_X1_init {S : Wd} {a0 : Nat} {a1 : Nat} {S' : Wd} (h : f_X1_init S a0 a1 = some S') : Sp yX1_init cX1_init 2 none 2 38 3 224 [.ref a0, .ref a1] S none S' := by
  unfold f_X1_init at h
  refine Sp.of (by decide +kernel) (Nat.le_of_ble_eq_true rfl) ?_
  intro b hC hin hR
  show G b 0 [(0, .ref a0), (1, .ref a1)] [] S 0 0
  refine g_aload_n hC dX1_init_0 rfl ?_
  refine g_obj hC tw_204 tw_24 tw_25 dX1_init_1 (by decide) (Nat.le_of_ble_eq_true rfl) ?_
  refine g_aload_n hC dX1_init_4 rfl ?_
  refine g_bipush (v := (20 : Int32)) hC dX1_init_5 (by decide) ?_
  obtain ⟨hk1, h⟩ := gd_some h
  refine g_newi hC tw_53 dX1_init_7 (by decide) (by decide) hk1.1 hk1.2 (by decide) (by decide) ?_
  refine g_name (fun S2 eS3 => ?_)
  have h := ltS_use eS3 h
  obtain ⟨ho4, h⟩ := gd_some h
  refine g_putrF (k := 2) hC (hin rfl) ck_X1 (by decide) tw_209 rfl rfl (by decide) rfl (Or.inr ⟨_, rfl⟩) dX1_init_9 ho4 ?_
  refine g_name (fun S5 eS6 => ?_)
  have h := ltS_use eS6 h
  refine g_aload_n hC dX1_init_12 rfl ?_
  refine g_aload_n hC dX1_init_13 rfl ?_
  obtain ⟨ho7, h⟩ := gd_some h
  refine g_putrF (k := 0) hC (hin rfl) ck_X1 (by decide) tw_207 rfl rfl (by decide) rfl (Or.inl ⟨_, rfl⟩) dX1_init_14 ho7 ?_
  refine g_name (fun S8 eS9 => ?_)
  have h := ltS_use eS9 h
  refine g_aload_n hC dX1_init_17 rfl ?_
  obtain ⟨hk10, h⟩ := gd_some h
  refine g_new hC ck_X8 tw_205 tw_74 tw_4 dX1_init_18 hk10 (by decide) (by decide) ?_
  refine g_name (fun S11 eS12 => ?_)
  have h := ltS_use eS12 h
  refine g_dup hC dX1_init_21 rfl ?_
  refine g_aload_n hC dX1_init_22 rfl ?_
  refine g_iconst (v := (3 : Int32)) hC dX1_init_23 (by decide) ?_
  refine g_bipush (v := (20 : Int32)) hC dX1_init_24 (by decide) ?_
  obtain ⟨S14, hr13, h⟩ := Option.bind_eq_some_iff.mp h
  refine g_callI (rest := [.ref (wn S8), .ref a0]) hC mi_X8_init (k_X8_init hr13) rfl tw_206 tw_76 dX1_init_26 rfl rfl ⟨by decide, by decide⟩ (Nat.le_of_ble_eq_true rfl) ⟨by decide, by decide⟩ ?_
  obtain ⟨ho15, h⟩ := gd_some h
  refine g_putrF (k := 1) hC (hin rfl) ck_X1 (by decide) tw_208 rfl rfl (by decide) rfl (Or.inl ⟨_, rfl⟩) dX1_init_29 ho15 ?_
  refine g_name (fun S16 eS17 => ?_)
  have h := ltS_use eS17 h
  cases h
  exact g_vret hC hR dX1_init_32 (by decide) (by decide)

theorem mi_X6_init : MI yX6_init cX6_init 3 none 2 := ⟨tw_227, tw_10, by decide +kernel, by decide +kernel, by decide +kernel⟩
noncomputable def f_X6_init (S : Wd) (a0 : Nat) (a1 : Nat) (a2 : Nat) : Option (Wd) := gd (ob S a0 6) (ltS (sO S a0 0 (some a2)) (fun S2 => gd ((kT (wn S2)).1 = 8) (ltS (sN S2 0) (fun S5 => Option.bind (f_X8_init S5 (wn S2) a1 (3 : Int32) (30 : Int32)) (fun S8 => gd (ob S8 a0 6) (ltS (sO S8 a0 1 (some (wn S2))) (fun S10 => some S10)))))))
set_option maxRecDepth 100000 in
set_option maxHeartbeats 4000000 in
theorem k_X6_init {S : Wd} {a0 : Nat} {a1 : Nat} {a2 : Nat} {S' : Wd} (h : f_X6_init S a0 a1 a2 = some S') : Sp yX6_init cX6_init 3 none 2 38 2 204 [.ref a0, .ref a1, .ref a2] S none S' := by
  unfold f_X6_init at h
  refine Sp.of (by decide +kernel) (Nat.le_of_ble_eq_true rfl) ?_
  intro b hC hin hR
  show G b 0 [(0, .ref a0), (1, .ref a1), (2, .ref a2)] [] S 0 0
  refine g_aload_n hC dX6_init_0 rfl ?_
  refine g_obj hC tw_228 tw_24 tw_25 dX6_init_1 (by decide) (Nat.le_of_ble_eq_true rfl) ?_
  refine g_aload_n hC dX6_init_4 rfl ?_
  refine g_aload_n hC dX6_init_5 rfl ?_
  obtain ⟨ho1, h⟩ := gd_some h
  refine g_putrF (k := 0) hC (hin rfl) ck_X6 (by decide) tw_231 rfl rfl (by decide) rfl (Or.inl ⟨_, rfl⟩) dX6_init_6 ho1 ?_
  refine g_name (fun S2 eS3 => ?_)
  have h := ltS_use eS3 h
  refine g_aload_n hC dX6_init_9 rfl ?_
  obtain ⟨hk4, h⟩ := gd_some h
  refine g_new hC ck_X8 tw_229 tw_74 tw_4 dX6_init_10 hk4 (by decide) (by decide) ?_
  refine g_name (fun S5 eS6 => ?_)
  have h := ltS_use eS6 h
  refine g_dup hC dX6_init_13 rfl ?_
  refine g_aload_n hC dX6_init_14 rfl ?_
  refine g_iconst (v := (3 : Int32)) hC dX6_init_15 (by decide) ?_
  refine g_bipush (v := (30 : Int32)) hC dX6_init_16 (by decide) ?_
  obtain ⟨S8, hr7, h⟩ := Option.bind_eq_some_iff.mp h
  refine g_callI (rest := [.ref (wn S2), .ref a0]) hC mi_X8_init (k_X8_init hr7) rfl tw_230 tw_76 dX6_init_18 rfl rfl ⟨by decide, by decide⟩ (Nat.le_of_ble_eq_true rfl) ⟨by decide, by decide⟩ ?_
  obtain ⟨ho9, h⟩ := gd_some h
  refine g_putrF (k := 1) hC (hin rfl) ck_X6 (by decide) tw_232 rfl rfl (by decide) rfl (Or.inl ⟨_, rfl⟩) dX6_init_21 ho9 ?_
  refine g_name (fun S10 eS11 => ?_)
  have h := ltS_use eS11 h
  cases h
  exact g_vret hC hR dX6_init_24 (by decide) (by decide)

theorem mi_X4_init : MI yX4_init cX4_init 2 none 1 := ⟨tw_248, tw_11, by decide +kernel, by decide +kernel, by decide +kernel⟩
noncomputable def f_X4_init (S : Wd) (a0 : Nat) (a1 : Nat) : Option (Wd) := gd (nk S 100 (100 : Int32).toNatClampNeg) (ltS (sN S (100 : Int32).toNatClampNeg) (fun S2 => gd (ob S2 a0 4) (ltS (sO S2 a0 1 (some (wn S))) (fun S5 => gd (nk S5 100 (10 : Int32).toNatClampNeg) (ltS (sN S5 (10 : Int32).toNatClampNeg) (fun S8 => gd (ob S8 a0 4) (ltS (sO S8 a0 2 (some (wn S5))) (fun S11 => gd (nk S11 100 (10 : Int32).toNatClampNeg) (ltS (sN S11 (10 : Int32).toNatClampNeg) (fun S14 => gd (ob S14 a0 4) (ltS (sO S14 a0 3 (some (wn S11))) (fun S17 => gd (ob S17 a0 4) (ltS (sO S17 a0 0 (some a1)) (fun S20 => some S20))))))))))))))
set_option maxRecDepth 100000 in
set_option maxHeartbeats 4000000 in
theorem k_X4_init {S : Wd} {a0 : Nat} {a1 : Nat} {S' : Wd} (h : f_X4_init S a0 a1 = some S') : Sp yX4_init cX4_init 2 none 1 12 3 120 [.ref a0, .ref a1] S none S' := by
  unfold f_X4_init at h
  refine Sp.of (by decide +kernel) (Nat.le_of_ble_eq_true rfl) ?_
  intro b hC hin hR
  show G b 0 [(0, .ref a0), (1, .ref a1)] [] S 0 0
  refine g_aload_n hC dX4_init_0 rfl ?_
  refine g_obj hC tw_249 tw_24 tw_25 dX4_init_1 (by decide) (Nat.le_of_ble_eq_true rfl) ?_
  refine g_aload_n hC dX4_init_4 rfl ?_
  refine g_bipush (v := (100 : Int32)) hC dX4_init_5 (by decide) ?_
  obtain ⟨hk1, h⟩ := gd_some h
  refine g_newi hC tw_53 dX4_init_7 (by decide) (by decide) hk1.1 hk1.2 (by decide) (by decide) ?_
  refine g_name (fun S2 eS3 => ?_)
  have h := ltS_use eS3 h
  obtain ⟨ho4, h⟩ := gd_some h
  refine g_putrF (k := 1) hC (hin rfl) ck_X4 (by decide) tw_251 rfl rfl (by decide) rfl (Or.inr ⟨_, rfl⟩) dX4_init_9 ho4 ?_
  refine g_name (fun S5 eS6 => ?_)
  have h := ltS_use eS6 h
  refine g_aload_n hC dX4_init_12 rfl ?_
  refine g_bipush (v := (10 : Int32)) hC dX4_init_13 (by decide) ?_
  obtain ⟨hk7, h⟩ := gd_some h
  refine g_newi hC tw_53 dX4_init_15 (by decide) (by decide) hk7.1 hk7.2 (by decide) (by decide) ?_
  refine g_name (fun S8 eS9 => ?_)
  have h := ltS_use eS9 h
  obtain ⟨ho10, h⟩ := gd_some h
  refine g_putrF (k := 2) hC (hin rfl) ck_X4 (by decide) tw_252 rfl rfl (by decide) rfl (Or.inr ⟨_, rfl⟩) dX4_init_17 ho10 ?_
  refine g_name (fun S11 eS12 => ?_)
  have h := ltS_use eS12 h
  refine g_aload_n hC dX4_init_20 rfl ?_
  refine g_bipush (v := (10 : Int32)) hC dX4_init_21 (by decide) ?_
  obtain ⟨hk13, h⟩ := gd_some h
  refine g_newi hC tw_53 dX4_init_23 (by decide) (by decide) hk13.1 hk13.2 (by decide) (by decide) ?_
  refine g_name (fun S14 eS15 => ?_)
  have h := ltS_use eS15 h
  obtain ⟨ho16, h⟩ := gd_some h
  refine g_putrF (k := 3) hC (hin rfl) ck_X4 (by decide) tw_253 rfl rfl (by decide) rfl (Or.inr ⟨_, rfl⟩) dX4_init_25 ho16 ?_
  refine g_name (fun S17 eS18 => ?_)
  have h := ltS_use eS18 h
  refine g_aload_n hC dX4_init_28 rfl ?_
  refine g_aload_n hC dX4_init_29 rfl ?_
  obtain ⟨ho19, h⟩ := gd_some h
  refine g_putrF (k := 0) hC (hin rfl) ck_X4 (by decide) tw_250 rfl rfl (by decide) rfl (Or.inl ⟨_, rfl⟩) dX4_init_30 ho19 ?_
  refine g_name (fun S20 eS21 => ?_)
  have h := ltS_use eS21 h
  cases h
  exact g_vret hC hR dX4_init_33 (by decide) (by decide)

theorem mi_X9_init : MI yX9_init cX9_init 2 none 1 := ⟨tw_270, tw_12, by decide +kernel, by decide +kernel, by decide +kernel⟩
noncomputable def f_X9_init (S : Wd) (a0 : Nat) (a1 : Nat) : Option (Wd) := gd (nk S 100 (15 : Int32).toNatClampNeg) (ltS (sN S (15 : Int32).toNatClampNeg) (fun S2 => gd (ob S2 a0 9) (ltS (sO S2 a0 1 (some (wn S))) (fun S5 => gd (nk S5 100 (7 : Int32).toNatClampNeg) (ltS (sN S5 (7 : Int32).toNatClampNeg) (fun S8 => gd (ob S8 a0 9) (ltS (sO S8 a0 2 (some (wn S5))) (fun S11 => gd (nk S11 100 (5 : Int32).toNatClampNeg) (ltS (sN S11 (5 : Int32).toNatClampNeg) (fun S14 => gd (ob S14 a0 9) (ltS (sO S14 a0 3 (some (wn S11))) (fun S17 => gd (ob S17 a0 9) (ltS (sO S17 a0 0 (some a1)) (fun S20 => some S20))))))))))))))
set_option maxRecDepth 100000 in
set_option maxHeartbeats 4000000 in
theorem k_X9_init {S : Wd} {a0 : Nat} {a1 : Nat} {S' : Wd} (h : f_X9_init S a0 a1 = some S') : Sp yX9_init cX9_init 2 none 1 12 3 27 [.ref a0, .ref a1] S none S' := by
  unfold f_X9_init at h
  refine Sp.of (by decide +kernel) (Nat.le_of_ble_eq_true rfl) ?_
  intro b hC hin hR
  show G b 0 [(0, .ref a0), (1, .ref a1)] [] S 0 0
  refine g_aload_n hC dX9_init_0 rfl ?_
  refine g_obj hC tw_271 tw_24 tw_25 dX9_init_1 (by decide) (Nat.le_of_ble_eq_true rfl) ?_
  refine g_aload_n hC dX9_init_4 rfl ?_
  refine g_bipush (v := (15 : Int32)) hC dX9_init_5 (by decide) ?_
  obtain ⟨hk1, h⟩ := gd_some h
  refine g_newi hC tw_53 dX9_init_7 (by decide) (by decide) hk1.1 hk1.2 (by decide) (by decide) ?_
  refine g_name (fun S2 eS3 => ?_)
  have h := ltS_use eS3 h
  obtain ⟨ho4, h⟩ := gd_some h
  refine g_putrF (k := 1) hC (hin rfl) ck_X9 (by decide) tw_273 rfl rfl (by decide) rfl (Or.inr ⟨_, rfl⟩) dX9_init_9 ho4 ?_
  refine g_name (fun S5 eS6 => ?_)
  have h := ltS_use eS6 h
  refine g_aload_n hC dX9_init_12 rfl ?_
  refine g_bipush (v := (7 : Int32)) hC dX9_init_13 (by decide) ?_
  obtain ⟨hk7, h⟩ := gd_some h
  refine g_newi hC tw_53 dX9_init_15 (by decide) (by decide) hk7.1 hk7.2 (by decide) (by decide) ?_
  refine g_name (fun S8 eS9 => ?_)
  have h := ltS_use eS9 h
  obtain ⟨ho10, h⟩ := gd_some h
  refine g_putrF (k := 2) hC (hin rfl) ck_X9 (by decide) tw_274 rfl rfl (by decide) rfl (Or.inr ⟨_, rfl⟩) dX9_init_17 ho10 ?_
  refine g_name (fun S11 eS12 => ?_)
  have h := ltS_use eS12 h
  refine g_aload_n hC dX9_init_20 rfl ?_
  refine g_iconst (v := (5 : Int32)) hC dX9_init_21 (by decide) ?_
  obtain ⟨hk13, h⟩ := gd_some h
  refine g_newi hC tw_53 dX9_init_22 (by decide) (by decide) hk13.1 hk13.2 (by decide) (by decide) ?_
  refine g_name (fun S14 eS15 => ?_)
  have h := ltS_use eS15 h
  obtain ⟨ho16, h⟩ := gd_some h
  refine g_putrF (k := 3) hC (hin rfl) ck_X9 (by decide) tw_275 rfl rfl (by decide) rfl (Or.inr ⟨_, rfl⟩) dX9_init_24 ho16 ?_
  refine g_name (fun S17 eS18 => ?_)
  have h := ltS_use eS18 h
  refine g_aload_n hC dX9_init_27 rfl ?_
  refine g_aload_n hC dX9_init_28 rfl ?_
  obtain ⟨ho19, h⟩ := gd_some h
  refine g_putrF (k := 0) hC (hin rfl) ck_X9 (by decide) tw_272 rfl rfl (by decide) rfl (Or.inl ⟨_, rfl⟩) dX9_init_29 ho19 ?_
  refine g_name (fun S20 eS21 => ?_)
  have h := ltS_use eS21 h
  cases h
  exact g_vret hC hR dX9_init_32 (by decide) (by decide)

theorem mi_X7_init : MI yX7_init cX7_init 1 none 0 := ⟨tw_290, tw_13, by decide +kernel, by decide +kernel, by decide +kernel⟩
noncomputable def f_X7_init (S : Wd) (a0 : Nat) : Option (Wd) := gd (nk S 100 (20 : Int32).toNatClampNeg) (ltS (sN S (20 : Int32).toNatClampNeg) (fun S2 => gd (ob S2 a0 7) (ltS (sO S2 a0 0 (some (wn S))) (fun S5 => some S5))))
set_option maxRecDepth 100000 in
set_option maxHeartbeats 4000000 in
theorem k_X7_init {S : Wd} {a0 : Nat} {S' : Wd} (h : f_X7_init S a0 = some S') : Sp yX7_init cX7_init 1 none 1 12 1 20 [.ref a0] S none S' := by
  unfold f_X7_init at h
  refine Sp.of (by decide +kernel) (Nat.le_of_ble_eq_true rfl) ?_
  intro b hC hin hR
  show G b 0 [(0, .ref a0)] [] S 0 0
  refine g_aload_n hC dX7_init_0 rfl ?_
  refine g_obj hC tw_291 tw_24 tw_25 dX7_init_1 (by decide) (Nat.le_of_ble_eq_true rfl) ?_
  refine g_aload_n hC dX7_init_4 rfl ?_
  refine g_bipush (v := (20 : Int32)) hC dX7_init_5 (by decide) ?_
  obtain ⟨hk1, h⟩ := gd_some h
  refine g_newi hC tw_53 dX7_init_7 (by decide) (by decide) hk1.1 hk1.2 (by decide) (by decide) ?_
  refine g_name (fun S2 eS3 => ?_)
  have h := ltS_use eS3 h
  obtain ⟨ho4, h⟩ := gd_some h
  refine g_putrF (k := 0) hC (hin rfl) ck_X7 (by decide) tw_292 rfl rfl (by decide) rfl (Or.inr ⟨_, rfl⟩) dX7_init_9 ho4 ?_
  refine g_name (fun S5 eS6 => ?_)
  have h := ltS_use eS6 h
  cases h
  exact g_vret hC hR dX7_init_12 (by decide) (by decide)

theorem mi_X11_init : MI yX11_init cX11_init 2 none 0 := ⟨tw_22, tw_1, by decide +kernel, by decide +kernel, by decide +kernel⟩
noncomputable def f_X11_init (S : Wd) (a0 : Nat) : Option (Wd) := gd ((kT (wn S)).1 = 3) (ltS (sN S 0) (fun S2 => Option.bind (f_X3_init S2 (wn S)) (fun S5 => gd (ob S5 a0 11) (ltS (sO S5 a0 0 (some (wn S))) (fun S7 => gd ((kT (wn S7)).1 = 10) (ltS (sN S7 0) (fun S10 => gd (ob S10 a0 11) (Option.bind (wO S10 a0 0) (fun q13 => Option.bind (f_X10_init S10 (wn S7) q13) (fun S16 => gd (ob S16 a0 11) (ltS (sO S16 a0 1 (some (wn S7))) (fun S18 => gd ((kT (wn S18)).1 = 8) (ltS (sN S18 0) (fun S21 => gd (ob S21 a0 11) (Option.bind (wO S21 a0 0) (fun q24 => Option.bind (f_X8_init S21 (wn S18) q24 (7 : Int32) (6 : Int32)) (fun S27 => gd (ob S27 a0 11) (ltS (sO S27 a0 2 (some (wn S18))) (fun S29 => gd ((kT (wn S29)).1 = 8) (ltS (sN S29 0) (fun S32 => gd (ob S32 a0 11) (Option.bind (wO S32 a0 0) (fun q35 => Option.bind (f_X8_init S32 (wn S29) q35 (11 : Int32) (8 : Int32)) (fun S38 => gd (ob S38 a0 11) (ltS (sO S38 a0 3 (some (wn S29))) (fun S40 => gd ((kT (wn S40)).1 = 0) (ltS (sN S40 0) (fun S43 => gd (ob S43 a0 11) (Option.bind (wO S43 a0 1) (fun q46 => gd (ob S43 a0 11) (Option.bind (wO S43 a0 2) (fun q49 => gd (ob S43 a0 11) (Option.bind (wO S43 a0 3) (fun q52 => Option.bind (f_X0_init S43 (wn S40) q46 q49 q52) (fun S55 => gd (ob S55 a0 11) (ltS (sO S55 a0 4 (some (wn S40))) (fun S57 => gd ((kT (wn S57)).1 = 2) (ltS (sN S57 0) (fun S60 => gd (ob S60 a0 11) (Option.bind (wO S60 a0 0) (fun q63 => gd (ob S60 a0 11) (Option.bind (wO S60 a0 2) (fun q66 => gd (ob S60 a0 11) (Option.bind (wO S60 a0 3) (fun q69 => gd (ob S60 a0 11) (Option.bind (wO S60 a0 4) (fun q72 => Option.bind (f_X2_init S60 (wn S57) q63 q66 q69 q72) (fun S75 => gd (ob S75 a0 11) (ltS (sO S75 a0 5 (some (wn S57))) (fun S77 => gd ((kT (wn S77)).1 = 5) (ltS (sN S77 0) (fun S80 => gd (ob S80 a0 11) (Option.bind (wO S80 a0 0) (fun q83 => Option.bind (f_X5_init S80 (wn S77) q83) (fun S86 => gd (ob S86 a0 11) (ltS (sO S86 a0 6 (some (wn S77))) (fun S88 => gd ((kT (wn S88)).1 = 1) (ltS (sN S88 0) (fun S91 => gd (ob S91 a0 11) (Option.bind (wO S91 a0 0) (fun q94 => Option.bind (f_X1_init S91 (wn S88) q94) (fun S97 => gd (ob S97 a0 11) (ltS (sO S97 a0 7 (some (wn S88))) (fun S99 => gd ((kT (wn S99)).1 = 6) (ltS (sN S99 0) (fun S102 => gd (ob S102 a0 11) (Option.bind (wO S102 a0 0) (fun q105 => gd (ob S102 a0 11) (Option.bind (wO S102 a0 1) (fun q108 => Option.bind (f_X6_init S102 (wn S99) q105 q108) (fun S111 => gd (ob S111 a0 11) (ltS (sO S111 a0 8 (some (wn S99))) (fun S113 => gd ((kT (wn S113)).1 = 4) (ltS (sN S113 0) (fun S116 => gd (ob S116 a0 11) (Option.bind (wO S116 a0 0) (fun q119 => Option.bind (f_X4_init S116 (wn S113) q119) (fun S122 => gd (ob S122 a0 11) (ltS (sO S122 a0 9 (some (wn S113))) (fun S124 => gd ((kT (wn S124)).1 = 9) (ltS (sN S124 0) (fun S127 => gd (ob S127 a0 11) (Option.bind (wO S127 a0 0) (fun q130 => Option.bind (f_X9_init S127 (wn S124) q130) (fun S133 => gd (ob S133 a0 11) (ltS (sO S133 a0 10 (some (wn S124))) (fun S135 => gd (nk S135 102 (4 : Int32).toNatClampNeg) (ltS (sN S135 (4 : Int32).toNatClampNeg) (fun S138 => gd (ob S138 a0 11) (ltS (sO S138 a0 11 (some (wn S135))) (fun S141 => if (4 : Int32) ≤ (0 : Int32) then (none) else (gd (ob S141 a0 11) (Option.bind (wO S141 a0 11) (fun q145 => gd ((kT (wn S141)).1 = 7) (ltS (sN S141 0) (fun S148 => Option.bind (f_X7_init S148 (wn S141)) (fun S151 => gd (ix S151 q145 102 (0 : Int32)) (gd (ob S151 (wn S141) 7) (ltS (sO S151 q145 (0 : Int32).toNatClampNeg (some (wn S141))) (fun S154 => if (4 : Int32) ≤ ((0 : Int32) + (1 : Int32)) then (none) else (gd (ob S154 a0 11) (Option.bind (wO S154 a0 11) (fun q158 => gd ((kT (wn S154)).1 = 7) (ltS (sN S154 0) (fun S161 => Option.bind (f_X7_init S161 (wn S154)) (fun S164 => gd (ix S164 q158 102 ((0 : Int32) + (1 : Int32))) (gd (ob S164 (wn S154) 7) (ltS (sO S164 q158 ((0 : Int32) + (1 : Int32)).toNatClampNeg (some (wn S154))) (fun S167 => if (4 : Int32) ≤ (((0 : Int32) + (1 : Int32)) + (1 : Int32)) then (none) else (gd (ob S167 a0 11) (Option.bind (wO S167 a0 11) (fun q171 => gd ((kT (wn S167)).1 = 7) (ltS (sN S167 0) (fun S174 => Option.bind (f_X7_init S174 (wn S167)) (fun S177 => gd (ix S177 q171 102 (((0 : Int32) + (1 : Int32)) + (1 : Int32))) (gd (ob S177 (wn S167) 7) (ltS (sO S177 q171 (((0 : Int32) + (1 : Int32)) + (1 : Int32)).toNatClampNeg (some (wn S167))) (fun S180 => if (4 : Int32) ≤ ((((0 : Int32) + (1 : Int32)) + (1 : Int32)) + (1 : Int32)) then (none) else (gd (ob S180 a0 11) (Option.bind (wO S180 a0 11) (fun q184 => gd ((kT (wn S180)).1 = 7) (ltS (sN S180 0) (fun S187 => Option.bind (f_X7_init S187 (wn S180)) (fun S190 => gd (ix S190 q184 102 ((((0 : Int32) + (1 : Int32)) + (1 : Int32)) + (1 : Int32))) (gd (ob S190 (wn S180) 7) (ltS (sO S190 q184 ((((0 : Int32) + (1 : Int32)) + (1 : Int32)) + (1 : Int32)).toNatClampNeg (some (wn S180))) (fun S193 => if (4 : Int32) ≤ (((((0 : Int32) + (1 : Int32)) + (1 : Int32)) + (1 : Int32)) + (1 : Int32)) then (some S193) else (none))))))))))))))))))))))))))))))))))))))))))))))))))))))))))))))))))))))))))))))))))))))))))))))))))))))))))))))))))))))))))))))))
set_option maxRecDepth 100000 in
set_option maxHeartbeats 4000000 in
theorem k_X11_init {S : Wd} {a0 : Nat} {S' : Wd} (h : f_X11_init S a0 = some S') : Sp yX11_init cX11_init 2 none 3 60 47 5083 [.ref a0] S none S' := by
  unfold f_X11_init at h
  refine Sp.of (by decide +kernel) (Nat.le_of_ble_eq_true rfl) ?_
  intro b hC hin hR
  show G b 0 [(0, .ref a0)] [] S 0 0
  refine g_aload_n hC dX11_init_0 rfl ?_
  refine g_obj hC tw_23 tw_24 tw_25 dX11_init_1 (by decide) (Nat.le_of_ble_eq_true rfl) ?_
  refine g_aload_n hC dX11_init_4 rfl ?_
  obtain ⟨hk1, h⟩ := gd_some h
  refine g_new hC ck_X3 tw_26 tw_27 tw_2 dX11_init_5 hk1 (by decide) (by decide) ?_
  refine g_name (fun S2 eS3 => ?_)
  have h := ltS_use eS3 h
  refine g_dup hC dX11_init_8 rfl ?_
  obtain ⟨S5, hr4, h⟩ := Option.bind_eq_some_iff.mp h
  refine g_callIN (rest := [.ref (wn S), .ref a0]) hC mi_X3_init (k_X3_init hr4) rfl nwm_28 tw_29 dX11_init_9 rfl rfl ⟨by decide, by decide⟩ (Nat.le_of_ble_eq_true rfl) ⟨by decide, by decide⟩ ?_
  obtain ⟨ho6, h⟩ := gd_some h
  refine g_putrF (k := 0) hC (hin rfl) ck_X11 (by decide) tw_302 rfl rfl (by decide) rfl (Or.inl ⟨_, rfl⟩) dX11_init_12 ho6 ?_
  refine g_name (fun S7 eS8 => ?_)
  have h := ltS_use eS8 h
  refine g_aload_n hC dX11_init_15 rfl ?_
  obtain ⟨hk9, h⟩ := gd_some h
  refine g_new hC ck_X10 tw_54 tw_55 tw_3 dX11_init_16 hk9 (by decide) (by decide) ?_
  refine g_name (fun S10 eS11 => ?_)
  have h := ltS_use eS11 h
  refine g_dup hC dX11_init_19 rfl ?_
  refine g_aload_n hC dX11_init_20 rfl ?_
  obtain ⟨ho12, h⟩ := gd_some h
  obtain ⟨q13, hq14, h⟩ := Option.bind_eq_some_iff.mp h
  refine g_getr (k := 0) (q := q13) hC ck_X11 (by decide) tw_302 rfl (by decide) dX11_init_21 ho12 hq14 ?_
  obtain ⟨S16, hr15, h⟩ := Option.bind_eq_some_iff.mp h
  refine g_callI (rest := [.ref (wn S7), .ref a0]) hC mi_X10_init (k_X10_init hr15) rfl tw_56 tw_57 dX11_init_24 rfl rfl ⟨by decide, by decide⟩ (Nat.le_of_ble_eq_true rfl) ⟨by decide, by decide⟩ ?_
  obtain ⟨ho17, h⟩ := gd_some h
  refine g_putrF (k := 1) hC (hin rfl) ck_X11 (by decide) tw_303 rfl rfl (by decide) rfl (Or.inl ⟨_, rfl⟩) dX11_init_27 ho17 ?_
  refine g_name (fun S18 eS19 => ?_)
  have h := ltS_use eS19 h
  refine g_aload_n hC dX11_init_30 rfl ?_
  obtain ⟨hk20, h⟩ := gd_some h
  refine g_new hC ck_X8 tw_73 tw_74 tw_4 dX11_init_31 hk20 (by decide) (by decide) ?_
  refine g_name (fun S21 eS22 => ?_)
  have h := ltS_use eS22 h
  refine g_dup hC dX11_init_34 rfl ?_
  refine g_aload_n hC dX11_init_35 rfl ?_
  obtain ⟨ho23, h⟩ := gd_some h
  obtain ⟨q24, hq25, h⟩ := Option.bind_eq_some_iff.mp h
  refine g_getr (k := 0) (q := q24) hC ck_X11 (by decide) tw_302 rfl (by decide) dX11_init_36 ho23 hq25 ?_
  refine g_bipush (v := (7 : Int32)) hC dX11_init_39 (by decide) ?_
  refine g_bipush (v := (6 : Int32)) hC dX11_init_41 (by decide) ?_
  obtain ⟨S27, hr26, h⟩ := Option.bind_eq_some_iff.mp h
  refine g_callI (rest := [.ref (wn S18), .ref a0]) hC mi_X8_init (k_X8_init hr26) rfl tw_75 tw_76 dX11_init_43 rfl rfl ⟨by decide, by decide⟩ (Nat.le_of_ble_eq_true rfl) ⟨by decide, by decide⟩ ?_
  obtain ⟨ho28, h⟩ := gd_some h
  refine g_putrF (k := 2) hC (hin rfl) ck_X11 (by decide) tw_304 rfl rfl (by decide) rfl (Or.inl ⟨_, rfl⟩) dX11_init_46 ho28 ?_
  refine g_name (fun S29 eS30 => ?_)
  have h := ltS_use eS30 h
  refine g_aload_n hC dX11_init_49 rfl ?_
  obtain ⟨hk31, h⟩ := gd_some h
  refine g_new hC ck_X8 tw_73 tw_74 tw_4 dX11_init_50 hk31 (by decide) (by decide) ?_
  refine g_name (fun S32 eS33 => ?_)
  have h := ltS_use eS33 h
  refine g_dup hC dX11_init_53 rfl ?_
  refine g_aload_n hC dX11_init_54 rfl ?_
  obtain ⟨ho34, h⟩ := gd_some h
  obtain ⟨q35, hq36, h⟩ := Option.bind_eq_some_iff.mp h
  refine g_getr (k := 0) (q := q35) hC ck_X11 (by decide) tw_302 rfl (by decide) dX11_init_55 ho34 hq36 ?_
  refine g_bipush (v := (11 : Int32)) hC dX11_init_58 (by decide) ?_
  refine g_bipush (v := (8 : Int32)) hC dX11_init_60 (by decide) ?_
  obtain ⟨S38, hr37, h⟩ := Option.bind_eq_some_iff.mp h
  refine g_callI (rest := [.ref (wn S29), .ref a0]) hC mi_X8_init (k_X8_init hr37) rfl tw_75 tw_76 dX11_init_62 rfl rfl ⟨by decide, by decide⟩ (Nat.le_of_ble_eq_true rfl) ⟨by decide, by decide⟩ ?_
  obtain ⟨ho39, h⟩ := gd_some h
  refine g_putrF (k := 3) hC (hin rfl) ck_X11 (by decide) tw_305 rfl rfl (by decide) rfl (Or.inl ⟨_, rfl⟩) dX11_init_65 ho39 ?_
  refine g_name (fun S40 eS41 => ?_)
  have h := ltS_use eS41 h
  refine g_aload_n hC dX11_init_68 rfl ?_
  obtain ⟨hk42, h⟩ := gd_some h
  refine g_new hC ck_X0 tw_95 tw_96 tw_6 dX11_init_69 hk42 (by decide) (by decide) ?_
  refine g_name (fun S43 eS44 => ?_)
  have h := ltS_use eS44 h
  refine g_dup hC dX11_init_72 rfl ?_
  refine g_aload_n hC dX11_init_73 rfl ?_
  obtain ⟨ho45, h⟩ := gd_some h
  obtain ⟨q46, hq47, h⟩ := Option.bind_eq_some_iff.mp h
  refine g_getr (k := 1) (q := q46) hC ck_X11 (by decide) tw_303 rfl (by decide) dX11_init_74 ho45 hq47 ?_
  refine g_aload_n hC dX11_init_77 rfl ?_
  obtain ⟨ho48, h⟩ := gd_some h
  obtain ⟨q49, hq50, h⟩ := Option.bind_eq_some_iff.mp h
  refine g_getr (k := 2) (q := q49) hC ck_X11 (by decide) tw_304 rfl (by decide) dX11_init_78 ho48 hq50 ?_
  refine g_aload_n hC dX11_init_81 rfl ?_
  obtain ⟨ho51, h⟩ := gd_some h
  obtain ⟨q52, hq53, h⟩ := Option.bind_eq_some_iff.mp h
  refine g_getr (k := 3) (q := q52) hC ck_X11 (by decide) tw_305 rfl (by decide) dX11_init_82 ho51 hq53 ?_
  obtain ⟨S55, hr54, h⟩ := Option.bind_eq_some_iff.mp h
  refine g_callI (rest := [.ref (wn S40), .ref a0]) hC mi_X0_init (k_X0_init hr54) rfl tw_97 tw_98 dX11_init_85 rfl rfl ⟨by decide, by decide⟩ (Nat.le_of_ble_eq_true rfl) ⟨by decide, by decide⟩ ?_
  obtain ⟨ho56, h⟩ := gd_some h
  refine g_putrF (k := 4) hC (hin rfl) ck_X11 (by decide) tw_306 rfl rfl (by decide) rfl (Or.inl ⟨_, rfl⟩) dX11_init_88 ho56 ?_
  refine g_name (fun S57 eS58 => ?_)
  have h := ltS_use eS58 h
  refine g_aload_n hC dX11_init_91 rfl ?_
  obtain ⟨hk59, h⟩ := gd_some h
  refine g_new hC ck_X2 tw_138 tw_139 tw_7 dX11_init_92 hk59 (by decide) (by decide) ?_
  refine g_name (fun S60 eS61 => ?_)
  have h := ltS_use eS61 h
  refine g_dup hC dX11_init_95 rfl ?_
  refine g_aload_n hC dX11_init_96 rfl ?_
  obtain ⟨ho62, h⟩ := gd_some h
  obtain ⟨q63, hq64, h⟩ := Option.bind_eq_some_iff.mp h
  refine g_getr (k := 0) (q := q63) hC ck_X11 (by decide) tw_302 rfl (by decide) dX11_init_97 ho62 hq64 ?_
  refine g_aload_n hC dX11_init_100 rfl ?_
  obtain ⟨ho65, h⟩ := gd_some h
  obtain ⟨q66, hq67, h⟩ := Option.bind_eq_some_iff.mp h
  refine g_getr (k := 2) (q := q66) hC ck_X11 (by decide) tw_304 rfl (by decide) dX11_init_101 ho65 hq67 ?_
  refine g_aload_n hC dX11_init_104 rfl ?_
  obtain ⟨ho68, h⟩ := gd_some h
  obtain ⟨q69, hq70, h⟩ := Option.bind_eq_some_iff.mp h
  refine g_getr (k := 3) (q := q69) hC ck_X11 (by decide) tw_305 rfl (by decide) dX11_init_105 ho68 hq70 ?_
  refine g_aload_n hC dX11_init_108 rfl ?_
  obtain ⟨ho71, h⟩ := gd_some h
  obtain ⟨q72, hq73, h⟩ := Option.bind_eq_some_iff.mp h
  refine g_getr (k := 4) (q := q72) hC ck_X11 (by decide) tw_306 rfl (by decide) dX11_init_109 ho71 hq73 ?_
  obtain ⟨S75, hr74, h⟩ := Option.bind_eq_some_iff.mp h
  refine g_callI (rest := [.ref (wn S57), .ref a0]) hC mi_X2_init (k_X2_init hr74) rfl tw_140 tw_141 dX11_init_112 rfl rfl ⟨by decide, by decide⟩ (Nat.le_of_ble_eq_true rfl) ⟨by decide, by decide⟩ ?_
  obtain ⟨ho76, h⟩ := gd_some h
  refine g_putrF (k := 5) hC (hin rfl) ck_X11 (by decide) tw_307 rfl rfl (by decide) rfl (Or.inl ⟨_, rfl⟩) dX11_init_115 ho76 ?_
  refine g_name (fun S77 eS78 => ?_)
  have h := ltS_use eS78 h
  refine g_aload_n hC dX11_init_118 rfl ?_
  obtain ⟨hk79, h⟩ := gd_some h
  refine g_new hC ck_X5 tw_184 tw_185 tw_8 dX11_init_119 hk79 (by decide) (by decide) ?_
  refine g_name (fun S80 eS81 => ?_)
  have h := ltS_use eS81 h
  refine g_dup hC dX11_init_122 rfl ?_
  refine g_aload_n hC dX11_init_123 rfl ?_
  obtain ⟨ho82, h⟩ := gd_some h
  obtain ⟨q83, hq84, h⟩ := Option.bind_eq_some_iff.mp h
  refine g_getr (k := 0) (q := q83) hC ck_X11 (by decide) tw_302 rfl (by decide) dX11_init_124 ho82 hq84 ?_
  obtain ⟨S86, hr85, h⟩ := Option.bind_eq_some_iff.mp h
  refine g_callI (rest := [.ref (wn S77), .ref a0]) hC mi_X5_init (k_X5_init hr85) rfl tw_186 tw_187 dX11_init_127 rfl rfl ⟨by decide, by decide⟩ (Nat.le_of_ble_eq_true rfl) ⟨by decide, by decide⟩ ?_
  obtain ⟨ho87, h⟩ := gd_some h
  refine g_putrF (k := 6) hC (hin rfl) ck_X11 (by decide) tw_308 rfl rfl (by decide) rfl (Or.inl ⟨_, rfl⟩) dX11_init_130 ho87 ?_
  refine g_name (fun S88 eS89 => ?_)
  have h := ltS_use eS89 h
  refine g_aload_n hC dX11_init_133 rfl ?_
  obtain ⟨hk90, h⟩ := gd_some h
  refine g_new hC ck_X1 tw_199 tw_200 tw_9 dX11_init_134 hk90 (by decide) (by decide) ?_
  refine g_name (fun S91 eS92 => ?_)
  have h := ltS_use eS92 h
  refine g_dup hC dX11_init_137 rfl ?_
  refine g_aload_n hC dX11_init_138 rfl ?_
  obtain ⟨ho93, h⟩ := gd_some h
  obtain ⟨q94, hq95, h⟩ := Option.bind_eq_some_iff.mp h
  refine g_getr (k := 0) (q := q94) hC ck_X11 (by decide) tw_302 rfl (by decide) dX11_init_139 ho93 hq95 ?_
  obtain ⟨S97, hr96, h⟩ := Option.bind_eq_some_iff.mp h
  refine g_callI (rest := [.ref (wn S88), .ref a0]) hC mi_X1_init (k_X1_init hr96) rfl tw_201 tw_202 dX11_init_142 rfl rfl ⟨by decide, by decide⟩ (Nat.le_of_ble_eq_true rfl) ⟨by decide, by decide⟩ ?_
  obtain ⟨ho98, h⟩ := gd_some h
  refine g_putrF (k := 7) hC (hin rfl) ck_X11 (by decide) tw_309 rfl rfl (by decide) rfl (Or.inl ⟨_, rfl⟩) dX11_init_145 ho98 ?_
  refine g_name (fun S99 eS100 => ?_)
  have h := ltS_use eS100 h
  refine g_aload_n hC dX11_init_148 rfl ?_
  obtain ⟨hk101, h⟩ := gd_some h
  refine g_new hC ck_X6 tw_223 tw_224 tw_10 dX11_init_149 hk101 (by decide) (by decide) ?_
  refine g_name (fun S102 eS103 => ?_)
  have h := ltS_use eS103 h
  refine g_dup hC dX11_init_152 rfl ?_
  refine g_aload_n hC dX11_init_153 rfl ?_
  obtain ⟨ho104, h⟩ := gd_some h
  obtain ⟨q105, hq106, h⟩ := Option.bind_eq_some_iff.mp h
  refine g_getr (k := 0) (q := q105) hC ck_X11 (by decide) tw_302 rfl (by decide) dX11_init_154 ho104 hq106 ?_
  refine g_aload_n hC dX11_init_157 rfl ?_
  obtain ⟨ho107, h⟩ := gd_some h
  obtain ⟨q108, hq109, h⟩ := Option.bind_eq_some_iff.mp h
  refine g_getr (k := 1) (q := q108) hC ck_X11 (by decide) tw_303 rfl (by decide) dX11_init_158 ho107 hq109 ?_
  obtain ⟨S111, hr110, h⟩ := Option.bind_eq_some_iff.mp h
  refine g_callI (rest := [.ref (wn S99), .ref a0]) hC mi_X6_init (k_X6_init hr110) rfl tw_225 tw_226 dX11_init_161 rfl rfl ⟨by decide, by decide⟩ (Nat.le_of_ble_eq_true rfl) ⟨by decide, by decide⟩ ?_
  obtain ⟨ho112, h⟩ := gd_some h
  refine g_putrF (k := 8) hC (hin rfl) ck_X11 (by decide) tw_310 rfl rfl (by decide) rfl (Or.inl ⟨_, rfl⟩) dX11_init_164 ho112 ?_
  refine g_name (fun S113 eS114 => ?_)
  have h := ltS_use eS114 h
  refine g_aload_n hC dX11_init_167 rfl ?_
  obtain ⟨hk115, h⟩ := gd_some h
  refine g_new hC ck_X4 tw_244 tw_245 tw_11 dX11_init_168 hk115 (by decide) (by decide) ?_
  refine g_name (fun S116 eS117 => ?_)
  have h := ltS_use eS117 h
  refine g_dup hC dX11_init_171 rfl ?_
  refine g_aload_n hC dX11_init_172 rfl ?_
  obtain ⟨ho118, h⟩ := gd_some h
  obtain ⟨q119, hq120, h⟩ := Option.bind_eq_some_iff.mp h
  refine g_getr (k := 0) (q := q119) hC ck_X11 (by decide) tw_302 rfl (by decide) dX11_init_173 ho118 hq120 ?_
  obtain ⟨S122, hr121, h⟩ := Option.bind_eq_some_iff.mp h
  refine g_callI (rest := [.ref (wn S113), .ref a0]) hC mi_X4_init (k_X4_init hr121) rfl tw_246 tw_247 dX11_init_176 rfl rfl ⟨by decide, by decide⟩ (Nat.le_of_ble_eq_true rfl) ⟨by decide, by decide⟩ ?_
  obtain ⟨ho123, h⟩ := gd_some h
  refine g_putrF (k := 9) hC (hin rfl) ck_X11 (by decide) tw_311 rfl rfl (by decide) rfl (Or.inl ⟨_, rfl⟩) dX11_init_179 ho123 ?_
  refine g_name (fun S124 eS125 => ?_)
  have h := ltS_use eS125 h
  refine g_aload_n hC dX11_init_182 rfl ?_
  obtain ⟨hk126, h⟩ := gd_some h
  refine g_new hC ck_X9 tw_266 tw_267 tw_12 dX11_init_183 hk126 (by decide) (by decide) ?_
  refine g_name (fun S127 eS128 => ?_)
  have h := ltS_use eS128 h
  refine g_dup hC dX11_init_186 rfl ?_
  refine g_aload_n hC dX11_init_187 rfl ?_
  obtain ⟨ho129, h⟩ := gd_some h
  obtain ⟨q130, hq131, h⟩ := Option.bind_eq_some_iff.mp h
  refine g_getr (k := 0) (q := q130) hC ck_X11 (by decide) tw_302 rfl (by decide) dX11_init_188 ho129 hq131 ?_
  obtain ⟨S133, hr132, h⟩ := Option.bind_eq_some_iff.mp h
  refine g_callI (rest := [.ref (wn S124), .ref a0]) hC mi_X9_init (k_X9_init hr132) rfl tw_268 tw_269 dX11_init_191 rfl rfl ⟨by decide, by decide⟩ (Nat.le_of_ble_eq_true rfl) ⟨by decide, by decide⟩ ?_
  obtain ⟨ho134, h⟩ := gd_some h
  refine g_putrF (k := 10) hC (hin rfl) ck_X11 (by decide) tw_312 rfl rfl (by decide) rfl (Or.inl ⟨_, rfl⟩) dX11_init_194 ho134 ?_
  refine g_name (fun S135 eS136 => ?_)
  have h := ltS_use eS136 h
  refine g_aload_n hC dX11_init_197 rfl ?_
  refine g_iconst (v := (4 : Int32)) hC dX11_init_198 (by decide) ?_
  obtain ⟨hk137, h⟩ := gd_some h
  refine g_new2 hC tw_285 dX11_init_199 (by decide) (by decide) hk137.1 hk137.2 (by decide) (by decide) ?_
  refine g_name (fun S138 eS139 => ?_)
  have h := ltS_use eS139 h
  obtain ⟨ho140, h⟩ := gd_some h
  refine g_putrF (k := 11) hC (hin rfl) ck_X11 (by decide) tw_313 rfl rfl (by decide) rfl (Or.inr ⟨_, rfl⟩) dX11_init_202 ho140 ?_
  refine g_name (fun S141 eS142 => ?_)
  have h := ltS_use eS142 h
  refine g_iconst (v := (0 : Int32)) hC dX11_init_205 (by decide) ?_
  refine g_istore_n (L' := [(1, .int (0 : Int32)), (0, .ref a0)]) hC dX11_init_206 (by decide) rfl ?_
  refine g_iload_n hC dX11_init_207 rfl ?_
  refine g_iconst (v := (4 : Int32)) hC dX11_init_208 (by decide) ?_
  refine g_icmp_ge (tgt := 231) hC dX11_init_209 (by decide) (fun hc143 => ?_) (fun hc143 => ?_)
  · rw [if_pos hc143] at h
    cases h
  · rw [if_neg hc143] at h
    refine g_aload_n hC dX11_init_212 rfl ?_
    obtain ⟨ho144, h⟩ := gd_some h
    obtain ⟨q145, hq146, h⟩ := Option.bind_eq_some_iff.mp h
    refine g_getr (k := 11) (q := q145) hC ck_X11 (by decide) tw_313 rfl (by decide) dX11_init_213 ho144 hq146 ?_
    refine g_iload_n hC dX11_init_216 rfl ?_
    obtain ⟨hk147, h⟩ := gd_some h
    refine g_new hC ck_X7 tw_285 tw_287 tw_13 dX11_init_217 hk147 (by decide) (by decide) ?_
    refine g_name (fun S148 eS149 => ?_)
    have h := ltS_use eS149 h
    refine g_dup hC dX11_init_220 rfl ?_
    obtain ⟨S151, hr150, h⟩ := Option.bind_eq_some_iff.mp h
    refine g_callIN (rest := [.ref (wn S141), .int (0 : Int32), .ref q145]) hC mi_X7_init (k_X7_init hr150) rfl nwm_288 tw_289 dX11_init_221 rfl rfl ⟨by decide, by decide⟩ (Nat.le_of_ble_eq_true rfl) ⟨by decide, by decide⟩ ?_
    obtain ⟨hx152, h⟩ := gd_some h
    obtain ⟨ho153, h⟩ := gd_some h
    refine g_aast2 hC dX11_init_224 hx152.1 hx152.2 ho153 ?_
    refine g_name (fun S154 eS155 => ?_)
    have h := ltS_use eS155 h
    refine g_iinc (v := (1 : Int32)) (L' := [(1, .int ((0 : Int32) + (1 : Int32))), (0, .ref a0)]) hC dX11_init_225 rfl (by decide) (by decide) rfl ?_
    refine g_goto (tgt := 207) hC dX11_init_228 (by decide) ?_
    refine g_iload_n hC dX11_init_207 rfl ?_
    refine g_iconst (v := (4 : Int32)) hC dX11_init_208 (by decide) ?_
    refine g_icmp_ge (tgt := 231) hC dX11_init_209 (by decide) (fun hc156 => ?_) (fun hc156 => ?_)
    · rw [if_pos hc156] at h
      cases h
    · rw [if_neg hc156] at h
      refine g_aload_n hC dX11_init_212 rfl ?_
      obtain ⟨ho157, h⟩ := gd_some h
      obtain ⟨q158, hq159, h⟩ := Option.bind_eq_some_iff.mp h
      refine g_getr (k := 11) (q := q158) hC ck_X11 (by decide) tw_313 rfl (by decide) dX11_init_213 ho157 hq159 ?_
      refine g_iload_n hC dX11_init_216 rfl ?_
      obtain ⟨hk160, h⟩ := gd_some h
      refine g_new hC ck_X7 tw_285 tw_287 tw_13 dX11_init_217 hk160 (by decide) (by decide) ?_
      refine g_name (fun S161 eS162 => ?_)
      have h := ltS_use eS162 h
      refine g_dup hC dX11_init_220 rfl ?_
      obtain ⟨S164, hr163, h⟩ := Option.bind_eq_some_iff.mp h
      refine g_callIN (rest := [.ref (wn S154), .int ((0 : Int32) + (1 : Int32)), .ref q158]) hC mi_X7_init (k_X7_init hr163) rfl nwm_288 tw_289 dX11_init_221 rfl rfl ⟨by decide, by decide⟩ (Nat.le_of_ble_eq_true rfl) ⟨by decide, by decide⟩ ?_
      obtain ⟨hx165, h⟩ := gd_some h
      obtain ⟨ho166, h⟩ := gd_some h
      refine g_aast2 hC dX11_init_224 hx165.1 hx165.2 ho166 ?_
      refine g_name (fun S167 eS168 => ?_)
      have h := ltS_use eS168 h
      refine g_iinc (v := (1 : Int32)) (L' := [(1, .int (((0 : Int32) + (1 : Int32)) + (1 : Int32))), (0, .ref a0)]) hC dX11_init_225 rfl (by decide) (by decide) rfl ?_
      refine g_goto (tgt := 207) hC dX11_init_228 (by decide) ?_
      refine g_iload_n hC dX11_init_207 rfl ?_
      refine g_iconst (v := (4 : Int32)) hC dX11_init_208 (by decide) ?_
      refine g_icmp_ge (tgt := 231) hC dX11_init_209 (by decide) (fun hc169 => ?_) (fun hc169 => ?_)
      · rw [if_pos hc169] at h
        cases h
      · rw [if_neg hc169] at h
        refine g_aload_n hC dX11_init_212 rfl ?_
        obtain ⟨ho170, h⟩ := gd_some h
        obtain ⟨q171, hq172, h⟩ := Option.bind_eq_some_iff.mp h
        refine g_getr (k := 11) (q := q171) hC ck_X11 (by decide) tw_313 rfl (by decide) dX11_init_213 ho170 hq172 ?_
        refine g_iload_n hC dX11_init_216 rfl ?_
        obtain ⟨hk173, h⟩ := gd_some h
        refine g_new hC ck_X7 tw_285 tw_287 tw_13 dX11_init_217 hk173 (by decide) (by decide) ?_
        refine g_name (fun S174 eS175 => ?_)
        have h := ltS_use eS175 h
        refine g_dup hC dX11_init_220 rfl ?_
        obtain ⟨S177, hr176, h⟩ := Option.bind_eq_some_iff.mp h
        refine g_callIN (rest := [.ref (wn S167), .int (((0 : Int32) + (1 : Int32)) + (1 : Int32)), .ref q171]) hC mi_X7_init (k_X7_init hr176) rfl nwm_288 tw_289 dX11_init_221 rfl rfl ⟨by decide, by decide⟩ (Nat.le_of_ble_eq_true rfl) ⟨by decide, by decide⟩ ?_
        obtain ⟨hx178, h⟩ := gd_some h
        obtain ⟨ho179, h⟩ := gd_some h
        refine g_aast2 hC dX11_init_224 hx178.1 hx178.2 ho179 ?_
        refine g_name (fun S180 eS181 => ?_)
        have h := ltS_use eS181 h
        refine g_iinc (v := (1 : Int32)) (L' := [(1, .int ((((0 : Int32) + (1 : Int32)) + (1 : Int32)) + (1 : Int32))), (0, .ref a0)]) hC dX11_init_225 rfl (by decide) (by decide) rfl ?_
        refine g_goto (tgt := 207) hC dX11_init_228 (by decide) ?_
        refine g_iload_n hC dX11_init_207 rfl ?_
        refine g_iconst (v := (4 : Int32)) hC dX11_init_208 (by decide) ?_
        refine g_icmp_ge (tgt := 231) hC dX11_init_209 (by decide) (fun hc182 => ?_) (fun hc182 => ?_)
        · rw [if_pos hc182] at h
          cases h
        · rw [if_neg hc182] at h
          refine g_aload_n hC dX11_init_212 rfl ?_
          obtain ⟨ho183, h⟩ := gd_some h
          obtain ⟨q184, hq185, h⟩ := Option.bind_eq_some_iff.mp h
          refine g_getr (k := 11) (q := q184) hC ck_X11 (by decide) tw_313 rfl (by decide) dX11_init_213 ho183 hq185 ?_
          refine g_iload_n hC dX11_init_216 rfl ?_
          obtain ⟨hk186, h⟩ := gd_some h
          refine g_new hC ck_X7 tw_285 tw_287 tw_13 dX11_init_217 hk186 (by decide) (by decide) ?_
          refine g_name (fun S187 eS188 => ?_)
          have h := ltS_use eS188 h
          refine g_dup hC dX11_init_220 rfl ?_
          obtain ⟨S190, hr189, h⟩ := Option.bind_eq_some_iff.mp h
          refine g_callIN (rest := [.ref (wn S180), .int ((((0 : Int32) + (1 : Int32)) + (1 : Int32)) + (1 : Int32)), .ref q184]) hC mi_X7_init (k_X7_init hr189) rfl nwm_288 tw_289 dX11_init_221 rfl rfl ⟨by decide, by decide⟩ (Nat.le_of_ble_eq_true rfl) ⟨by decide, by decide⟩ ?_
          obtain ⟨hx191, h⟩ := gd_some h
          obtain ⟨ho192, h⟩ := gd_some h
          refine g_aast2 hC dX11_init_224 hx191.1 hx191.2 ho192 ?_
          refine g_name (fun S193 eS194 => ?_)
          have h := ltS_use eS194 h
          refine g_iinc (v := (1 : Int32)) (L' := [(1, .int (((((0 : Int32) + (1 : Int32)) + (1 : Int32)) + (1 : Int32)) + (1 : Int32))), (0, .ref a0)]) hC dX11_init_225 rfl (by decide) (by decide) rfl ?_
          refine g_goto (tgt := 207) hC dX11_init_228 (by decide) ?_
          refine g_iload_n hC dX11_init_207 rfl ?_
          refine g_iconst (v := (4 : Int32)) hC dX11_init_208 (by decide) ?_
          refine g_icmp_ge (tgt := 231) hC dX11_init_209 (by decide) (fun hc195 => ?_) (fun hc195 => ?_)
          · rw [if_pos hc195] at h
            cases h
            exact g_vret hC hR dX11_init_231 (by decide) (by decide)
          · rw [if_neg hc195] at h
            cases h

theorem mi_X11_within : MI yX11_within cX11_within 3 (some .boolean) 3 := ⟨tw_351, tw_1, by decide +kernel, by decide +kernel, by decide +kernel⟩
noncomputable def f_X11_within (S : Wd) (a0 : Int32) (a1 : Int32) (a2 : Int32) : Option (Int32 × Wd) := if a0 < a1 then (some ((0 : Int32), S)) else (if a2 < a0 then (some ((0 : Int32), S)) else (some ((1 : Int32), S)))
set_option maxRecDepth 100000 in
set_option maxHeartbeats 4000000 in
theorem k_X11_within {S : Wd} {a0 : Int32} {a1 : Int32} {a2 : Int32} {r : Int32} {S' : Wd} (h : f_X11_within S a0 a1 a2 = some (r, S')) : Sp yX11_within cX11_within 3 (some .boolean) 0 0 0 0 [.int a0, .int a1, .int a2] S (some (.int r)) S' := by
  unfold f_X11_within at h
  refine Sp.of (by decide +kernel) (Nat.le_of_ble_eq_true rfl) ?_
  intro b hC hin hR
  show G b 0 [(0, .int a0), (1, .int a1), (2, .int a2)] [] S 0 0
  refine g_iload_n hC dX11_within_0 rfl ?_
  refine g_iload_n hC dX11_within_1 rfl ?_
  refine g_icmp_lt (tgt := 14) hC dX11_within_2 (by decide) (fun hc1 => ?_) (fun hc1 => ?_)
  · rw [if_pos hc1] at h
    refine g_iconst (v := (0 : Int32)) hC dX11_within_14 (by decide) ?_
    cases h
    exact g_zret hC hR rfl dX11_within_15 (by decide) (by decide)
  · rw [if_neg hc1] at h
    refine g_iload_n hC dX11_within_5 rfl ?_
    refine g_iload_n hC dX11_within_6 rfl ?_
    refine g_icmp_gt (tgt := 14) hC dX11_within_7 (by decide) (fun hc2 => ?_) (fun hc2 => ?_)
    · rw [if_pos hc2] at h
      refine g_iconst (v := (0 : Int32)) hC dX11_within_14 (by decide) ?_
      cases h
      exact g_zret hC hR rfl dX11_within_15 (by decide) (by decide)
    · rw [if_neg hc2] at h
      refine g_iconst (v := (1 : Int32)) hC dX11_within_10 (by decide) ?_
      refine g_goto (tgt := 15) hC dX11_within_11 (by decide) ?_
      cases h
      exact g_zret hC hR rfl dX11_within_15 (by decide) (by decide)

theorem mi_X11_isTown : MI yX11_isTown cX11_isTown 1 (some .boolean) 1 := ⟨tw_348, tw_1, by decide +kernel, by decide +kernel, by decide +kernel⟩
noncomputable def f_X11_isTown (S : Wd) (a0 : Int32) : Option (Int32 × Wd) := bd2 (f_X11_within S a0 (0 : Int32) (7 : Int32)) (fun r3 S2 => gd (narrow .boolean (.int r3) = .int r3) (some (r3, S2)))
set_option maxRecDepth 100000 in
set_option maxHeartbeats 4000000 in
theorem k_X11_isTown {S : Wd} {a0 : Int32} {r : Int32} {S' : Wd} (h : f_X11_isTown S a0 = some (r, S')) : Sp yX11_isTown cX11_isTown 1 (some .boolean) 1 22 0 0 [.int a0] S (some (.int r)) S' := by
  unfold f_X11_isTown at h
  refine Sp.of (by decide +kernel) (Nat.le_of_ble_eq_true rfl) ?_
  intro b hC hin hR
  show G b 0 [(0, .int a0)] [] S 0 0
  refine g_iload_n hC dX11_isTown_0 rfl ?_
  refine g_iconst (v := (0 : Int32)) hC dX11_isTown_1 (by decide) ?_
  refine g_bipush (v := (7 : Int32)) hC dX11_isTown_2 (by decide) ?_
  obtain ⟨r3, S2, hr1, h⟩ := bd2_some h
  refine g_callS (rest := []) hC mi_X11_within (k_X11_within hr1) tw_349 tw_350 dX11_isTown_4 rfl rfl ⟨by decide, by decide⟩ (Nat.le_of_ble_eq_true rfl) ⟨by decide, by decide⟩ ?_
  obtain ⟨hv4, h⟩ := gd_some h
  cases h
  exact g_zret hC hR hv4 dX11_isTown_7 (by decide) (by decide)

theorem mi_X11_told : MI yX11_told cX11_told 2 (some .int) 1 := ⟨tw_356, tw_1, by decide +kernel, by decide +kernel, by decide +kernel⟩
noncomputable def f_X11_told (S : Wd) (a0 : Nat) (a1 : Int32) : Option (Int32 × Wd) := if (-99999 : Int32) ≤ a1 then (some (a1, S)) else (gd (ob S a0 11) (gd (ob S a0 11) (ltS (sI S a0 12 ((wI S a0 12) + (1 : Int32))) (fun S4 => some (a1, S4)))))
set_option maxRecDepth 100000 in
set_option maxHeartbeats 4000000 in
theorem k_X11_told {S : Wd} {a0 : Nat} {a1 : Int32} {r : Int32} {S' : Wd} (h : f_X11_told S a0 a1 = some (r, S')) : Sp yX11_told cX11_told 2 (some .int) 0 0 0 0 [.ref a0, .int a1] S (some (.int r)) S' := by
  unfold f_X11_told at h
  refine Sp.of (by decide +kernel) (Nat.le_of_ble_eq_true rfl) ?_
  intro b hC hin hR
  show G b 0 [(0, .ref a0), (1, .int a1)] [] S 0 0
  refine g_iload_n hC dX11_told_0 rfl ?_
  refine g_ldcw hC tw_357 dX11_told_1 ?_
  refine g_icmp_ge (tgt := 17) hC dX11_told_4 (by decide) (fun hc1 => ?_) (fun hc1 => ?_)
  · rw [if_pos hc1] at h
    refine g_iload_n hC dX11_told_17 rfl ?_
    cases h
    exact g_iret hC hR dX11_told_18 (by decide) (by decide)
  · rw [if_neg hc1] at h
    refine g_aload_n hC dX11_told_7 rfl ?_
    refine g_dup hC dX11_told_8 rfl ?_
    obtain ⟨ho2, h⟩ := gd_some h
    refine g_geti (k := 12) hC ck_X11 (by decide) tw_314 rfl (by decide) dX11_told_9 ho2 ?_
    refine g_iconst (v := (1 : Int32)) hC dX11_told_12 (by decide) ?_
    refine g_iadd hC dX11_told_13 ?_
    obtain ⟨ho3, h⟩ := gd_some h
    refine g_puti (k := 12) hC ck_X11 (by decide) tw_314 rfl (by decide) rfl rfl dX11_told_14 ho3 ?_
    refine g_name (fun S4 eS5 => ?_)
    have h := ltS_use eS5 h
    refine g_iload_n hC dX11_told_17 rfl ?_
    cases h
    exact g_iret hC hR dX11_told_18 (by decide) (by decide)

theorem mi_J7_checkLength_df160 : MI yJ7_checkLength_df160 cJ7_checkLength_df160 2 none 2 := ⟨tw_379, tw_15, by decide +kernel, by decide +kernel, by decide +kernel⟩
noncomputable def f_J7_checkLength_df160 (S : Wd) (a0 : Int32) (a1 : Int32) : Option (Wd) := if a0 ≤ a1 then (some S) else (none)
set_option maxRecDepth 100000 in
set_option maxHeartbeats 4000000 in
theorem k_J7_checkLength_df160 {S : Wd} {a0 : Int32} {a1 : Int32} {S' : Wd} (h : f_J7_checkLength_df160 S a0 a1 = some S') : Sp yJ7_checkLength_df160 cJ7_checkLength_df160 2 none 0 0 0 0 [.int a0, .int a1] S none S' := by
  unfold f_J7_checkLength_df160 at h
  refine Sp.of (by decide +kernel) (Nat.le_of_ble_eq_true rfl) ?_
  intro b hC hin hR
  show G b 0 [(0, .int a0), (1, .int a1)] [] S 0 0
  refine g_iload_n hC dJ7_checkLength_df160_0 rfl ?_
  refine g_iload_n hC dJ7_checkLength_df160_1 rfl ?_
  refine g_icmp_ge (tgt := 37) hC dJ7_checkLength_df160_2 (by decide) (fun hc1 => ?_) (fun hc1 => ?_)
  · rw [if_pos hc1] at h
    cases h
    exact g_vret hC hR dJ7_checkLength_df160_37 (by decide) (by decide)
  · rw [if_neg hc1] at h
    cases h

theorem mi_J7_copyOfRangeInt_feecc : MI yJ7_copyOfRangeInt_feecc cJ7_copyOfRangeInt_feecc 5 (some (.array .int)) 3 := ⟨tw_376, tw_15, by decide +kernel, by decide +kernel, by decide +kernel⟩
noncomputable def f_J7_copyOfRangeInt_feecc (S : Wd) (a0 : Nat) (a1 : Int32) (a2 : Int32) : Option (Nat × Wd) := Option.bind (f_J7_checkLength_df160 S a1 a2) (fun S2 => gd (¬ (a2 - a1) < 0 ∧ (a2 - a1).toNatClampNeg ≤ 200) (gd (nk S2 100 (a2 - a1).toNatClampNeg) (ltS (sN S2 (a2 - a1).toNatClampNeg) (fun S5 => gd (ob S5 a0 100) (gd (ob S5 a0 100) (gd (ob S5 (wn S2) 100) (gd (¬ a1 < 0 ∧ ¬ (0 : Int32) < 0 ∧ ¬ (mMin ((Int32.ofNat (wlen S5 a0)) - a1) (a2 - a1)) < 0 ∧ a1.toNatClampNeg + (mMin ((Int32.ofNat (wlen S5 a0)) - a1) (a2 - a1)).toNatClampNeg ≤ wlen S5 a0 ∧ (0 : Int32).toNatClampNeg + (mMin ((Int32.ofNat (wlen S5 a0)) - a1) (a2 - a1)).toNatClampNeg ≤ wlen S5 (wn S2)) (ltS (sA S5 (wn S2) (va_cpy (wI S5 a0) (wI S5 (wn S2)) a1.toNatClampNeg (0 : Int32).toNatClampNeg (mMin ((Int32.ofNat (wlen S5 a0)) - a1) (a2 - a1)).toNatClampNeg)) (fun S11 => some ((wn S2), S11))))))))))
set_option maxRecDepth 100000 in
set_option maxHeartbeats 4000000 in
theorem k_J7_copyOfRangeInt_feecc {S : Wd} {a0 : Nat} {a1 : Int32} {a2 : Int32} {r : Nat} {S' : Wd} (h : f_J7_copyOfRangeInt_feecc S a0 a1 a2 = some (r, S')) : Sp yJ7_copyOfRangeInt_feecc cJ7_copyOfRangeInt_feecc 5 (some (.array .int)) 1 30 1 200 [.ref a0, .int a1, .int a2] S (some (.ref r)) S' := by
  unfold f_J7_copyOfRangeInt_feecc at h
  refine Sp.of (by decide +kernel) (Nat.le_of_ble_eq_true rfl) ?_
  intro b hC hin hR
  show G b 0 [(0, .ref a0), (1, .int a1), (2, .int a2)] [] S 0 0
  refine g_iload_n hC dJ7_copyOfRangeInt_feecc_0 rfl ?_
  refine g_iload_n hC dJ7_copyOfRangeInt_feecc_1 rfl ?_
  obtain ⟨S2, hr1, h⟩ := Option.bind_eq_some_iff.mp h
  refine g_callS (rest := []) hC mi_J7_checkLength_df160 (k_J7_checkLength_df160 hr1) tw_377 tw_378 dJ7_copyOfRangeInt_feecc_2 rfl rfl ⟨by decide, by decide⟩ (Nat.le_of_ble_eq_true rfl) ⟨by decide, by decide⟩ ?_
  refine g_iload_n hC dJ7_copyOfRangeInt_feecc_5 rfl ?_
  refine g_iload_n hC dJ7_copyOfRangeInt_feecc_6 rfl ?_
  refine g_isub hC dJ7_copyOfRangeInt_feecc_7 ?_
  refine g_istore_n (L' := [(3, .int (a2 - a1)), (0, .ref a0), (1, .int a1), (2, .int a2)]) hC dJ7_copyOfRangeInt_feecc_8 (by decide) rfl ?_
  refine g_iload_n hC dJ7_copyOfRangeInt_feecc_9 rfl ?_
  obtain ⟨hn4, h⟩ := gd_some h
  obtain ⟨hk3, h⟩ := gd_some h
  refine g_newi hC tw_53 dJ7_copyOfRangeInt_feecc_10 hn4.1 (Nat.le_trans hn4.2 (by decide)) hk3.1 hk3.2 (by decide) (Nat.le_trans (Nat.add_le_add_left hn4.2 _) (by decide)) ?_
  refine g_widen (kc' := 1) (ks' := 200) (by decide) (Nat.le_trans (Nat.add_le_add_left hn4.2 _) (by decide)) ?_
  refine g_name (fun S5 eS6 => ?_)
  have h := ltS_use eS6 h
  refine g_astore (L' := [(4, .ref (wn S2)), (3, .int (a2 - a1)), (0, .ref a0), (1, .int a1), (2, .int a2)]) hC dJ7_copyOfRangeInt_feecc_12 (by decide) rfl ?_
  refine g_aload_n hC dJ7_copyOfRangeInt_feecc_14 rfl ?_
  refine g_iload_n hC dJ7_copyOfRangeInt_feecc_15 rfl ?_
  refine g_aload hC dJ7_copyOfRangeInt_feecc_16 rfl ?_
  refine g_iconst (v := (0 : Int32)) hC dJ7_copyOfRangeInt_feecc_18 (by decide) ?_
  refine g_aload_n hC dJ7_copyOfRangeInt_feecc_19 rfl ?_
  obtain ⟨ho7, h⟩ := gd_some h
  refine g_alen hC dJ7_copyOfRangeInt_feecc_20 ho7 ?_
  refine g_iload_n hC dJ7_copyOfRangeInt_feecc_21 rfl ?_
  refine g_isub hC dJ7_copyOfRangeInt_feecc_22 ?_
  refine g_iload_n hC dJ7_copyOfRangeInt_feecc_23 rfl ?_
  refine g_mmin (st := [.int (0 : Int32), .ref (wn S2), .int a1, .ref a0]) hC tw_380 tw_364 tw_5 tw_365 dJ7_copyOfRangeInt_feecc_24 (by decide) (Nat.le_of_ble_eq_true rfl) (by decide) (by decide) ?_
  obtain ⟨ho8, h⟩ := gd_some h
  obtain ⟨ho9, h⟩ := gd_some h
  obtain ⟨hn10, h⟩ := gd_some h
  refine g_copy hC tw_381 tw_383 tw_382 tw_16 dJ7_copyOfRangeInt_feecc_27 ho8 ho9 hn10.1 hn10.2.1 hn10.2.2.1 hn10.2.2.2.1 hn10.2.2.2.2 (by decide) (Nat.le_of_ble_eq_true rfl) ?_
  refine g_name (fun S11 eS12 => ?_)
  have h := ltS_use eS12 h
  refine g_aload hC dJ7_copyOfRangeInt_feecc_30 rfl ?_
  cases h
  exact g_aret hC hR dJ7_copyOfRangeInt_feecc_32 (by decide) (by decide)

theorem mi_J7_copyOfRange_feecc : MI yJ7_copyOfRange_feecc cJ7_copyOfRange_feecc 3 (some (.array .int)) 3 := ⟨tw_373, tw_15, by decide +kernel, by decide +kernel, by decide +kernel⟩
noncomputable def f_J7_copyOfRange_feecc (S : Wd) (a0 : Nat) (a1 : Int32) (a2 : Int32) : Option (Nat × Wd) := if a1 = 0 then (gd (ob S a0 100) (if a2 = (Int32.ofNat (wlen S a0)) then (gd (ob S a0 100) (gd (wlen S a0 ≤ 200) (gd (nk S 100 (wlen S a0)) (ltS (sA (sN S (wlen S a0)) (wn S) (wI S a0)) (fun S10 => gd (ob S10 (wn S) 100) (some ((wn S), S10))))))) else (bd2 (f_J7_copyOfRangeInt_feecc S a0 a1 a2) (fun r15 S14 => some (r15, S14))))) else (bd2 (f_J7_copyOfRangeInt_feecc S a0 a1 a2) (fun r4 S3 => some (r4, S3)))
set_option maxRecDepth 100000 in
set_option maxHeartbeats 4000000 in
theorem k_J7_copyOfRange_feecc {S : Wd} {a0 : Nat} {a1 : Int32} {a2 : Int32} {r : Nat} {S' : Wd} (h : f_J7_copyOfRange_feecc S a0 a1 a2 = some (r, S')) : Sp yJ7_copyOfRange_feecc cJ7_copyOfRange_feecc 3 (some (.array .int)) 2 54 1 200 [.ref a0, .int a1, .int a2] S (some (.ref r)) S' := by
  unfold f_J7_copyOfRange_feecc at h
  refine Sp.of (by decide +kernel) (Nat.le_of_ble_eq_true rfl) ?_
  intro b hC hin hR
  show G b 0 [(0, .ref a0), (1, .int a1), (2, .int a2)] [] S 0 0
  refine g_iload_n hC dJ7_copyOfRange_feecc_0 rfl ?_
  refine g_if_ne (tgt := 10) hC dJ7_copyOfRange_feecc_1 (by decide) (fun hc1 => ?_) (fun hc1 => ?_)
  · rw [if_neg hc1] at h
    refine g_aload_n hC dJ7_copyOfRange_feecc_10 rfl ?_
    refine g_iload_n hC dJ7_copyOfRange_feecc_11 rfl ?_
    refine g_iload_n hC dJ7_copyOfRange_feecc_12 rfl ?_
    obtain ⟨r4, S3, hr2, h⟩ := bd2_some h
    refine g_callS (rest := []) hC mi_J7_copyOfRangeInt_feecc (k_J7_copyOfRangeInt_feecc hr2) tw_374 tw_375 dJ7_copyOfRange_feecc_13 rfl rfl ⟨by decide, by decide⟩ (Nat.le_of_ble_eq_true rfl) ⟨by decide, by decide⟩ ?_
    cases h
    exact g_aret hC hR dJ7_copyOfRange_feecc_16 (by decide) (by decide)
  · rw [if_pos hc1] at h
    refine g_iload_n hC dJ7_copyOfRange_feecc_4 rfl ?_
    refine g_aload_n hC dJ7_copyOfRange_feecc_5 rfl ?_
    obtain ⟨ho5, h⟩ := gd_some h
    refine g_alen hC dJ7_copyOfRange_feecc_6 ho5 ?_
    refine g_icmp_eq (tgt := 17) hC dJ7_copyOfRange_feecc_7 (by decide) (fun hc6 => ?_) (fun hc6 => ?_)
    · rw [if_pos hc6] at h
      refine g_aload_n hC dJ7_copyOfRange_feecc_17 rfl ?_
      obtain ⟨ho7, h⟩ := gd_some h
      obtain ⟨hn9, h⟩ := gd_some h
      obtain ⟨hk8, h⟩ := gd_some h
      refine g_clone hC tw_384 tw_385 tw_386 tw_387 tw_388 dJ7_copyOfRange_feecc_18 ho7 hk8.1 hk8.2 (by decide) (Nat.le_of_ble_eq_true rfl) (by decide) (Nat.le_trans (Nat.add_le_add_left hn9 _) (by decide)) ?_
      refine g_widen (kc' := 1) (ks' := 200) (by decide) (Nat.le_trans (Nat.add_le_add_left hn9 _) (by decide)) ?_
      refine g_name (fun S10 eS11 => ?_)
      have h := ltS_use eS11 h
      obtain ⟨ho12, h⟩ := gd_some h
      refine g_cast hC tw_390 dJ7_copyOfRange_feecc_21 ho12 ?_
      cases h
      exact g_aret hC hR dJ7_copyOfRange_feecc_24 (by decide) (by decide)
    · rw [if_neg hc6] at h
      refine g_aload_n hC dJ7_copyOfRange_feecc_10 rfl ?_
      refine g_iload_n hC dJ7_copyOfRange_feecc_11 rfl ?_
      refine g_iload_n hC dJ7_copyOfRange_feecc_12 rfl ?_
      obtain ⟨r15, S14, hr13, h⟩ := bd2_some h
      refine g_callS (rest := []) hC mi_J7_copyOfRangeInt_feecc (k_J7_copyOfRangeInt_feecc hr13) tw_374 tw_375 dJ7_copyOfRange_feecc_13 rfl rfl ⟨by decide, by decide⟩ (Nat.le_of_ble_eq_true rfl) ⟨by decide, by decide⟩ ?_
      cases h
      exact g_aret hC hR dJ7_copyOfRange_feecc_16 (by decide) (by decide)

theorem mi_X3_keep : MI yX3_keep cX3_keep 4 none 3 := ⟨tw_370, tw_2, by decide +kernel, by decide +kernel, by decide +kernel⟩
noncomputable def f_X3_keep (S : Wd) (a0 : Nat) (a1 : Nat) (a2 : Int32) (a3 : Int32) : Option (Wd) := if a2 < 0 then (some S) else (if a3 < 0 then (some S) else (gd (ob S a1 100) (if a2 ≤ ((Int32.ofNat (wlen S a1)) - a3) then (gd (ob S a0 3) (Option.bind (wO S a0 0) (fun q6 => gd (ob S a0 3) (gd (ix S q6 103 (wI S a0 4)) (gd (ob S a1 100) (ltS (sO S q6 (wI S a0 4).toNatClampNeg (some a1)) (fun S11 => gd (ob S11 a0 3) (Option.bind (wO S11 a0 1) (fun q14 => gd (ob S11 a0 3) (bd2 (f_J7_copyOfRange_feecc S11 a1 a2 (a2 + a3)) (fun r19 S18 => gd (ix S18 q14 103 (wI S11 a0 4)) (gd (ob S18 r19 100) (ltS (sO S18 q14 (wI S11 a0 4).toNatClampNeg (some r19)) (fun S22 => gd (ob S22 a0 3) (Option.bind (wO S22 a0 2) (fun q25 => gd (ob S22 a0 3) (gd (ix S22 q25 100 (wI S22 a0 4)) (ltS (sI S22 q25 (wI S22 a0 4).toNatClampNeg a2) (fun S29 => gd (ob S29 a0 3) (gd (ob S29 a0 3) (ltS (sI S29 a0 4 (irm ((wI S29 a0 4) + (1 : Int32)) (16 : Int32))) (fun S33 => gd (ob S33 a0 3) (gd (ob S33 a0 3) (ltS (sI S33 a0 3 (mMin ((wI S33 a0 3) + (1 : Int32)) (16 : Int32))) (fun S37 => gd (ob S37 a0 3) (gd (ob S37 a0 3) (ltS (sI S37 a0 5 ((wI S37 a0 5) + (1 : Int32))) (fun S41 => some S41)))))))))))))))))))))))))))) else (some S))))
set_option maxRecDepth 100000 in
set_option maxHeartbeats 4000000 in
theorem k_X3_keep {S : Wd} {a0 : Nat} {a1 : Nat} {a2 : Int32} {a3 : Int32} {S' : Wd} (h : f_X3_keep S a0 a1 a2 a3 = some S') : Sp yX3_keep cX3_keep 4 none 3 76 1 200 [.ref a0, .ref a1, .int a2, .int a3] S none S' := by
  unfold f_X3_keep at h
  refine Sp.of (by decide +kernel) (Nat.le_of_ble_eq_true rfl) ?_
  intro b hC hin hR
  show G b 0 [(0, .ref a0), (1, .ref a1), (2, .int a2), (3, .int a3)] [] S 0 0
  refine g_iload_n hC dX3_keep_0 rfl ?_
  refine g_if_lt (tgt := 16) hC dX3_keep_1 (by decide) (fun hc1 => ?_) (fun hc1 => ?_)
  · rw [if_pos hc1] at h
    cases h
    exact g_vret hC hR dX3_keep_16 (by decide) (by decide)
  · rw [if_neg hc1] at h
    refine g_iload_n hC dX3_keep_4 rfl ?_
    refine g_if_lt (tgt := 16) hC dX3_keep_5 (by decide) (fun hc2 => ?_) (fun hc2 => ?_)
    · rw [if_pos hc2] at h
      cases h
      exact g_vret hC hR dX3_keep_16 (by decide) (by decide)
    · rw [if_neg hc2] at h
      refine g_iload_n hC dX3_keep_8 rfl ?_
      refine g_aload_n hC dX3_keep_9 rfl ?_
      obtain ⟨ho3, h⟩ := gd_some h
      refine g_alen hC dX3_keep_10 ho3 ?_
      refine g_iload_n hC dX3_keep_11 rfl ?_
      refine g_isub hC dX3_keep_12 ?_
      refine g_icmp_le (tgt := 17) hC dX3_keep_13 (by decide) (fun hc4 => ?_) (fun hc4 => ?_)
      · rw [if_pos hc4] at h
        refine g_aload_n hC dX3_keep_17 rfl ?_
        obtain ⟨ho5, h⟩ := gd_some h
        obtain ⟨q6, hq7, h⟩ := Option.bind_eq_some_iff.mp h
        refine g_getr (k := 0) (q := q6) hC ck_X3 (by decide) tw_34 rfl (by decide) dX3_keep_18 ho5 hq7 ?_
        refine g_aload_n hC dX3_keep_21 rfl ?_
        obtain ⟨ho8, h⟩ := gd_some h
        refine g_geti (k := 4) hC ck_X3 (by decide) tw_38 rfl (by decide) dX3_keep_22 ho8 ?_
        refine g_aload_n hC dX3_keep_25 rfl ?_
        obtain ⟨hx9, h⟩ := gd_some h
        obtain ⟨ho10, h⟩ := gd_some h
        refine g_aast3 hC dX3_keep_26 hx9.1 hx9.2 ho10 ?_
        refine g_name (fun S11 eS12 => ?_)
        have h := ltS_use eS12 h
        refine g_aload_n hC dX3_keep_27 rfl ?_
        obtain ⟨ho13, h⟩ := gd_some h
        obtain ⟨q14, hq15, h⟩ := Option.bind_eq_some_iff.mp h
        refine g_getr (k := 1) (q := q14) hC ck_X3 (by decide) tw_35 rfl (by decide) dX3_keep_28 ho13 hq15 ?_
        refine g_aload_n hC dX3_keep_31 rfl ?_
        obtain ⟨ho16, h⟩ := gd_some h
        refine g_geti (k := 4) hC ck_X3 (by decide) tw_38 rfl (by decide) dX3_keep_32 ho16 ?_
        refine g_aload_n hC dX3_keep_35 rfl ?_
        refine g_iload_n hC dX3_keep_36 rfl ?_
        refine g_iload_n hC dX3_keep_37 rfl ?_
        refine g_iload_n hC dX3_keep_38 rfl ?_
        refine g_iadd hC dX3_keep_39 ?_
        obtain ⟨r19, S18, hr17, h⟩ := bd2_some h
        refine g_callS (rest := [.int (wI S11 a0 4), .ref q14]) hC mi_J7_copyOfRange_feecc (k_J7_copyOfRange_feecc hr17) tw_371 tw_372 dX3_keep_40 rfl rfl ⟨by decide, by decide⟩ (Nat.le_of_ble_eq_true rfl) ⟨by decide, by decide⟩ ?_
        obtain ⟨hx20, h⟩ := gd_some h
        obtain ⟨ho21, h⟩ := gd_some h
        refine g_aast3 hC dX3_keep_43 hx20.1 hx20.2 ho21 ?_
        refine g_name (fun S22 eS23 => ?_)
        have h := ltS_use eS23 h
        refine g_aload_n hC dX3_keep_44 rfl ?_
        obtain ⟨ho24, h⟩ := gd_some h
        obtain ⟨q25, hq26, h⟩ := Option.bind_eq_some_iff.mp h
        refine g_getr (k := 2) (q := q25) hC ck_X3 (by decide) tw_36 rfl (by decide) dX3_keep_45 ho24 hq26 ?_
        refine g_aload_n hC dX3_keep_48 rfl ?_
        obtain ⟨ho27, h⟩ := gd_some h
        refine g_geti (k := 4) hC ck_X3 (by decide) tw_38 rfl (by decide) dX3_keep_49 ho27 ?_
        refine g_iload_n hC dX3_keep_52 rfl ?_
        obtain ⟨hx28, h⟩ := gd_some h
        refine g_iast hC dX3_keep_53 hx28.1 hx28.2 ?_
        refine g_name (fun S29 eS30 => ?_)
        have h := ltS_use eS30 h
        refine g_aload_n hC dX3_keep_54 rfl ?_
        refine g_aload_n hC dX3_keep_55 rfl ?_
        obtain ⟨ho31, h⟩ := gd_some h
        refine g_geti (k := 4) hC ck_X3 (by decide) tw_38 rfl (by decide) dX3_keep_56 ho31 ?_
        refine g_iconst (v := (1 : Int32)) hC dX3_keep_59 (by decide) ?_
        refine g_iadd hC dX3_keep_60 ?_
        refine g_bipush (v := (16 : Int32)) hC dX3_keep_61 (by decide) ?_
        refine g_irm hC dX3_keep_63 (by decide) ?_
        obtain ⟨ho32, h⟩ := gd_some h
        refine g_puti (k := 4) hC ck_X3 (by decide) tw_38 rfl (by decide) rfl rfl dX3_keep_64 ho32 ?_
        refine g_name (fun S33 eS34 => ?_)
        have h := ltS_use eS34 h
        refine g_aload_n hC dX3_keep_67 rfl ?_
        refine g_aload_n hC dX3_keep_68 rfl ?_
        obtain ⟨ho35, h⟩ := gd_some h
        refine g_geti (k := 3) hC ck_X3 (by decide) tw_37 rfl (by decide) dX3_keep_69 ho35 ?_
        refine g_iconst (v := (1 : Int32)) hC dX3_keep_72 (by decide) ?_
        refine g_iadd hC dX3_keep_73 ?_
        refine g_bipush (v := (16 : Int32)) hC dX3_keep_74 (by decide) ?_
        refine g_mmin (st := [.ref a0]) hC tw_391 tw_364 tw_5 tw_365 dX3_keep_76 (by decide) (Nat.le_of_ble_eq_true rfl) (by decide) (by decide) ?_
        obtain ⟨ho36, h⟩ := gd_some h
        refine g_puti (k := 3) hC ck_X3 (by decide) tw_37 rfl (by decide) rfl rfl dX3_keep_79 ho36 ?_
        refine g_name (fun S37 eS38 => ?_)
        have h := ltS_use eS38 h
        refine g_aload_n hC dX3_keep_82 rfl ?_
        refine g_dup hC dX3_keep_83 rfl ?_
        obtain ⟨ho39, h⟩ := gd_some h
        refine g_geti (k := 5) hC ck_X3 (by decide) tw_39 rfl (by decide) dX3_keep_84 ho39 ?_
        refine g_iconst (v := (1 : Int32)) hC dX3_keep_87 (by decide) ?_
        refine g_iadd hC dX3_keep_88 ?_
        obtain ⟨ho40, h⟩ := gd_some h
        refine g_puti (k := 5) hC ck_X3 (by decide) tw_39 rfl (by decide) rfl rfl dX3_keep_89 ho40 ?_
        refine g_name (fun S41 eS42 => ?_)
        have h := ltS_use eS42 h
        cases h
        exact g_vret hC hR dX3_keep_92 (by decide) (by decide)
      · rw [if_neg hc4] at h
        cases h
        exact g_vret hC hR dX3_keep_16 (by decide) (by decide)

theorem mi_X10_join : MI yX10_join cX10_join 6 (some .int) 3 := ⟨tw_361, tw_3, by decide +kernel, by decide +kernel, by decide +kernel⟩
noncomputable def f_X10_join (S : Wd) (a0 : Nat) (a1 : Int32) (a2 : Int32) (a3 : Int32) : Option (Int32 × Wd) := bd2 (f_X11_isTown S a1) (fun r3 S2 => if r3 = 0 then (some ((0 : Int32), S2)) else (bd2 (f_X11_isTown S2 a2) (fun r7 S6 => if r7 = 0 then (some ((0 : Int32), S6)) else (gd (ob S6 a0 10) (Option.bind (wO S6 a0 1) (fun q10 => gd (ix S6 q10 100 (((mMin a1 a2) * (8 : Int32)) + (mMax a1 a2))) (gd (ob S6 a0 10) (Option.bind (wO S6 a0 0) (fun q14 => gd (ob S6 a0 10) (Option.bind (wO S6 a0 1) (fun q17 => gd (ob S6 q14 3) (Option.bind (f_X3_keep S6 q14 q17 (((mMin a1 a2) * (8 : Int32)) + (mMax a1 a2)) (1 : Int32)) (fun S20 => gd (ob S20 a0 10) (Option.bind (wO S20 a0 1) (fun q23 => gd (ix S20 q23 100 (((mMin a1 a2) * (8 : Int32)) + (mMax a1 a2))) (ltS (sI S20 q23 (((mMin a1 a2) * (8 : Int32)) + (mMax a1 a2)).toNatClampNeg a3) (fun S26 => some ((wI S6 q10 (((mMin a1 a2) * (8 : Int32)) + (mMax a1 a2)).toNatClampNeg), S26))))))))))))))))))
set_option maxRecDepth 100000 in
set_option maxHeartbeats 4000000 in
theorem k_X10_join {S : Wd} {a0 : Nat} {a1 : Int32} {a2 : Int32} {a3 : Int32} {r : Int32} {S' : Wd} (h : f_X10_join S a0 a1 a2 a3 = some (r, S')) : Sp yX10_join cX10_join 6 (some .int) 4 99 1 200 [.ref a0, .int a1, .int a2, .int a3] S (some (.int r)) S' := by
  unfold f_X10_join at h
  refine Sp.of (by decide +kernel) (Nat.le_of_ble_eq_true rfl) ?_
  intro b hC hin hR
  show G b 0 [(0, .ref a0), (1, .int a1), (2, .int a2), (3, .int a3)] [] S 0 0
  refine g_iload_n hC dX10_join_0 rfl ?_
  obtain ⟨r3, S2, hr1, h⟩ := bd2_some h
  refine g_callSN (rest := []) hC mi_X11_isTown (k_X11_isTown hr1) nwm_362 tw_347 dX10_join_1 rfl rfl ⟨by decide, by decide⟩ (Nat.le_of_ble_eq_true rfl) ⟨by decide, by decide⟩ ?_
  refine g_if_eq (tgt := 14) hC dX10_join_4 (by decide) (fun hc4 => ?_) (fun hc4 => ?_)
  · rw [if_pos hc4] at h
    refine g_iconst (v := (0 : Int32)) hC dX10_join_14 (by decide) ?_
    cases h
    exact g_iret hC hR dX10_join_15 (by decide) (by decide)
  · rw [if_neg hc4] at h
    refine g_iload_n hC dX10_join_7 rfl ?_
    obtain ⟨r7, S6, hr5, h⟩ := bd2_some h
    refine g_callSN (rest := []) hC mi_X11_isTown (k_X11_isTown hr5) nwm_362 tw_347 dX10_join_8 rfl rfl ⟨by decide, by decide⟩ (Nat.le_of_ble_eq_true rfl) ⟨by decide, by decide⟩ ?_
    refine g_if_ne (tgt := 16) hC dX10_join_11 (by decide) (fun hc8 => ?_) (fun hc8 => ?_)
    · rw [if_neg hc8] at h
      refine g_iload_n hC dX10_join_16 rfl ?_
      refine g_iload_n hC dX10_join_17 rfl ?_
      refine g_mmin (st := []) hC tw_363 tw_364 tw_5 tw_365 dX10_join_18 (by decide) (Nat.le_of_ble_eq_true rfl) (by decide) (by decide) ?_
      refine g_bipush (v := (8 : Int32)) hC dX10_join_21 (by decide) ?_
      refine g_imul hC dX10_join_23 ?_
      refine g_iload_n hC dX10_join_24 rfl ?_
      refine g_iload_n hC dX10_join_25 rfl ?_
      refine g_mmax (st := [.int ((mMin a1 a2) * (8 : Int32))]) hC tw_366 tw_80 tw_5 tw_81 dX10_join_26 (by decide) (Nat.le_of_ble_eq_true rfl) (by decide) (by decide) ?_
      refine g_iadd hC dX10_join_29 ?_
      refine g_istore (L' := [(4, .int (((mMin a1 a2) * (8 : Int32)) + (mMax a1 a2))), (0, .ref a0), (1, .int a1), (2, .int a2), (3, .int a3)]) hC dX10_join_30 (by decide) rfl ?_
      refine g_aload_n hC dX10_join_32 rfl ?_
      obtain ⟨ho9, h⟩ := gd_some h
      obtain ⟨q10, hq11, h⟩ := Option.bind_eq_some_iff.mp h
      refine g_getr (k := 1) (q := q10) hC ck_X10 (by decide) tw_61 rfl (by decide) dX10_join_33 ho9 hq11 ?_
      refine g_iload hC dX10_join_36 rfl ?_
      obtain ⟨hx12, h⟩ := gd_some h
      refine g_iald hC dX10_join_38 hx12.1 hx12.2 ?_
      refine g_istore (L' := [(5, .int (wI S6 q10 (((mMin a1 a2) * (8 : Int32)) + (mMax a1 a2)).toNatClampNeg)), (4, .int (((mMin a1 a2) * (8 : Int32)) + (mMax a1 a2))), (0, .ref a0), (1, .int a1), (2, .int a2), (3, .int a3)]) hC dX10_join_39 (by decide) rfl ?_
      refine g_aload_n hC dX10_join_41 rfl ?_
      obtain ⟨ho13, h⟩ := gd_some h
      obtain ⟨q14, hq15, h⟩ := Option.bind_eq_some_iff.mp h
      refine g_getr (k := 0) (q := q14) hC ck_X10 (by decide) tw_60 rfl (by decide) dX10_join_42 ho13 hq15 ?_
      refine g_aload_n hC dX10_join_45 rfl ?_
      obtain ⟨ho16, h⟩ := gd_some h
      obtain ⟨q17, hq18, h⟩ := Option.bind_eq_some_iff.mp h
      refine g_getr (k := 1) (q := q17) hC ck_X10 (by decide) tw_61 rfl (by decide) dX10_join_46 ho16 hq18 ?_
      refine g_iload hC dX10_join_49 rfl ?_
      refine g_iconst (v := (1 : Int32)) hC dX10_join_51 (by decide) ?_
      obtain ⟨ho21, h⟩ := gd_some h
      obtain ⟨S20, hr19, h⟩ := Option.bind_eq_some_iff.mp h
      refine g_callV (rest := []) hC mi_X3_keep (k_X3_keep hr19) ck_X3.1 (by decide) ho21 tw_367 tw_368 tw_369 dX10_join_52 rfl rfl ⟨by decide, by decide⟩ (Nat.le_of_ble_eq_true rfl) ⟨by decide, by decide⟩ ?_
      refine g_aload_n hC dX10_join_55 rfl ?_
      obtain ⟨ho22, h⟩ := gd_some h
      obtain ⟨q23, hq24, h⟩ := Option.bind_eq_some_iff.mp h
      refine g_getr (k := 1) (q := q23) hC ck_X10 (by decide) tw_61 rfl (by decide) dX10_join_56 ho22 hq24 ?_
      refine g_iload hC dX10_join_59 rfl ?_
      refine g_iload_n hC dX10_join_61 rfl ?_
      obtain ⟨hx25, h⟩ := gd_some h
      refine g_iast hC dX10_join_62 hx25.1 hx25.2 ?_
      refine g_name (fun S26 eS27 => ?_)
      have h := ltS_use eS27 h
      refine g_iload hC dX10_join_63 rfl ?_
      cases h
      exact g_iret hC hR dX10_join_65 (by decide) (by decide)
    · rw [if_pos hc8] at h
      refine g_iconst (v := (0 : Int32)) hC dX10_join_14 (by decide) ?_
      cases h
      exact g_iret hC hR dX10_join_15 (by decide) (by decide)

theorem mi_X11_road : MI yX11_road cX11_road 4 (some .int) 3 := ⟨tw_345, tw_1, by decide +kernel, by decide +kernel, by decide +kernel⟩
noncomputable def f_X11_road (S : Wd) (a0 : Nat) (a1 : Int32) (a2 : Int32) (a3 : Int32) : Option (Int32 × Wd) := bd2 (f_X11_isTown S a1) (fun r3 S2 => if r3 = 0 then (gd (ob S2 a0 11) (bd2 (f_X11_told S2 a0 (-100001 : Int32)) (fun r8 S6 => some (r8, S6)))) else (bd2 (f_X11_isTown S2 a2) (fun r11 S10 => if r11 = 0 then (gd (ob S10 a0 11) (bd2 (f_X11_told S10 a0 (-100001 : Int32)) (fun r16 S14 => some (r16, S14)))) else (if a1 = a2 then (gd (ob S10 a0 11) (bd2 (f_X11_told S10 a0 (-100001 : Int32)) (fun r21 S19 => some (r21, S19)))) else (bd2 (f_X11_within S10 a3 (0 : Int32) (400 : Int32)) (fun r24 S23 => if r24 = 0 then (gd (ob S23 a0 11) (bd2 (f_X11_told S23 a0 (-100001 : Int32)) (fun r36 S34 => some (r36, S34)))) else (gd (ob S23 a0 11) (Option.bind (wO S23 a0 1) (fun q27 => gd (ob S23 q27 10) (bd2 (f_X10_join S23 q27 a1 a2 a3) (fun r32 S30 => some (r32, S30))))))))))))
set_option maxRecDepth 100000 in
set_option maxHeartbeats 4000000 in
theorem k_X11_road {S : Wd} {a0 : Nat} {a1 : Int32} {a2 : Int32} {a3 : Int32} {r : Int32} {S' : Wd} (h : f_X11_road S a0 a1 a2 a3 = some (r, S')) : Sp yX11_road cX11_road 4 (some .int) 5 124 1 200 [.ref a0, .int a1, .int a2, .int a3] S (some (.int r)) S' := by
  unfold f_X11_road at h
  refine Sp.of (by decide +kernel) (Nat.le_of_ble_eq_true rfl) ?_
  intro b hC hin hR
  show G b 0 [(0, .ref a0), (1, .int a1), (2, .int a2), (3, .int a3)] [] S 0 0
  refine g_iload_n hC dX11_road_0 rfl ?_
  obtain ⟨r3, S2, hr1, h⟩ := bd2_some h
  refine g_callS (rest := []) hC mi_X11_isTown (k_X11_isTown hr1) tw_346 tw_347 dX11_road_1 rfl rfl ⟨by decide, by decide⟩ (Nat.le_of_ble_eq_true rfl) ⟨by decide, by decide⟩ ?_
  refine g_if_eq (tgt := 30) hC dX11_road_4 (by decide) (fun hc4 => ?_) (fun hc4 => ?_)
  · rw [if_pos hc4] at h
    refine g_aload_n hC dX11_road_30 rfl ?_
    refine g_ldc hC tw_352 dX11_road_31 ?_
    obtain ⟨ho7, h⟩ := gd_some h
    obtain ⟨r8, S6, hr5, h⟩ := bd2_some h
    refine g_callV (rest := []) hC mi_X11_told (k_X11_told hr5) ck_X11.1 (by decide) ho7 tw_353 tw_355 ts_0 dX11_road_33 rfl rfl ⟨by decide, by decide⟩ (Nat.le_of_ble_eq_true rfl) ⟨by decide, by decide⟩ ?_
    cases h
    exact g_iret hC hR dX11_road_36 (by decide) (by decide)
  · rw [if_neg hc4] at h
    refine g_iload_n hC dX11_road_7 rfl ?_
    obtain ⟨r11, S10, hr9, h⟩ := bd2_some h
    refine g_callS (rest := []) hC mi_X11_isTown (k_X11_isTown hr9) tw_346 tw_347 dX11_road_8 rfl rfl ⟨by decide, by decide⟩ (Nat.le_of_ble_eq_true rfl) ⟨by decide, by decide⟩ ?_
    refine g_if_eq (tgt := 30) hC dX11_road_11 (by decide) (fun hc12 => ?_) (fun hc12 => ?_)
    · rw [if_pos hc12] at h
      refine g_aload_n hC dX11_road_30 rfl ?_
      refine g_ldc hC tw_352 dX11_road_31 ?_
      obtain ⟨ho15, h⟩ := gd_some h
      obtain ⟨r16, S14, hr13, h⟩ := bd2_some h
      refine g_callV (rest := []) hC mi_X11_told (k_X11_told hr13) ck_X11.1 (by decide) ho15 tw_353 tw_355 ts_0 dX11_road_33 rfl rfl ⟨by decide, by decide⟩ (Nat.le_of_ble_eq_true rfl) ⟨by decide, by decide⟩ ?_
      cases h
      exact g_iret hC hR dX11_road_36 (by decide) (by decide)
    · rw [if_neg hc12] at h
      refine g_iload_n hC dX11_road_14 rfl ?_
      refine g_iload_n hC dX11_road_15 rfl ?_
      refine g_icmp_eq (tgt := 30) hC dX11_road_16 (by decide) (fun hc17 => ?_) (fun hc17 => ?_)
      · rw [if_pos hc17] at h
        refine g_aload_n hC dX11_road_30 rfl ?_
        refine g_ldc hC tw_352 dX11_road_31 ?_
        obtain ⟨ho20, h⟩ := gd_some h
        obtain ⟨r21, S19, hr18, h⟩ := bd2_some h
        refine g_callV (rest := []) hC mi_X11_told (k_X11_told hr18) ck_X11.1 (by decide) ho20 tw_353 tw_355 ts_0 dX11_road_33 rfl rfl ⟨by decide, by decide⟩ (Nat.le_of_ble_eq_true rfl) ⟨by decide, by decide⟩ ?_
        cases h
        exact g_iret hC hR dX11_road_36 (by decide) (by decide)
      · rw [if_neg hc17] at h
        refine g_iload_n hC dX11_road_19 rfl ?_
        refine g_iconst (v := (0 : Int32)) hC dX11_road_20 (by decide) ?_
        refine g_sipush (v := (400 : Int32)) hC dX11_road_21 (by decide) ?_
        obtain ⟨r24, S23, hr22, h⟩ := bd2_some h
        refine g_callS (rest := []) hC mi_X11_within (k_X11_within hr22) tw_349 tw_350 dX11_road_24 rfl rfl ⟨by decide, by decide⟩ (Nat.le_of_ble_eq_true rfl) ⟨by decide, by decide⟩ ?_
        refine g_if_ne (tgt := 37) hC dX11_road_27 (by decide) (fun hc25 => ?_) (fun hc25 => ?_)
        · rw [if_neg hc25] at h
          refine g_aload_n hC dX11_road_37 rfl ?_
          obtain ⟨ho26, h⟩ := gd_some h
          obtain ⟨q27, hq28, h⟩ := Option.bind_eq_some_iff.mp h
          refine g_getr (k := 1) (q := q27) hC ck_X11 (by decide) tw_303 rfl (by decide) dX11_road_38 ho26 hq28 ?_
          refine g_iload_n hC dX11_road_41 rfl ?_
          refine g_iload_n hC dX11_road_42 rfl ?_
          refine g_iload_n hC dX11_road_43 rfl ?_
          obtain ⟨ho31, h⟩ := gd_some h
          obtain ⟨r32, S30, hr29, h⟩ := bd2_some h
          refine g_callV (rest := []) hC mi_X10_join (k_X10_join hr29) ck_X10.1 (by decide) ho31 tw_358 tw_359 tw_360 dX11_road_44 rfl rfl ⟨by decide, by decide⟩ (Nat.le_of_ble_eq_true rfl) ⟨by decide, by decide⟩ ?_
          cases h
          exact g_iret hC hR dX11_road_47 (by decide) (by decide)
        · rw [if_pos hc25] at h
          refine g_aload_n hC dX11_road_30 rfl ?_
          refine g_ldc hC tw_352 dX11_road_31 ?_
          obtain ⟨ho35, h⟩ := gd_some h
          obtain ⟨r36, S34, hr33, h⟩ := bd2_some h
          refine g_callV (rest := []) hC mi_X11_told (k_X11_told hr33) ck_X11.1 (by decide) ho35 tw_353 tw_355 ts_0 dX11_road_33 rfl rfl ⟨by decide, by decide⟩ (Nat.le_of_ble_eq_true rfl) ⟨by decide, by decide⟩ ?_
          cases h
          exact g_iret hC hR dX11_road_36 (by decide) (by decide)

theorem mi_X3_changes : MI yX3_changes cX3_changes 1 (some .int) 0 := ⟨tw_403, tw_2, by decide +kernel, by decide +kernel, by decide +kernel⟩
noncomputable def f_X3_changes (S : Wd) (a0 : Nat) : Option (Int32 × Wd) := gd (ob S a0 3) (some ((wI S a0 5), S))
set_option maxRecDepth 100000 in
set_option maxHeartbeats 4000000 in
theorem k_X3_changes {S : Wd} {a0 : Nat} {r : Int32} {S' : Wd} (h : f_X3_changes S a0 = some (r, S')) : Sp yX3_changes cX3_changes 1 (some .int) 0 0 0 0 [.ref a0] S (some (.int r)) S' := by
  unfold f_X3_changes at h
  refine Sp.of (by decide +kernel) (Nat.le_of_ble_eq_true rfl) ?_
  intro b hC hin hR
  show G b 0 [(0, .ref a0)] [] S 0 0
  refine g_aload_n hC dX3_changes_0 rfl ?_
  obtain ⟨ho1, h⟩ := gd_some h
  refine g_geti (k := 5) hC ck_X3 (by decide) tw_39 rfl (by decide) dX3_changes_1 ho1 ?_
  cases h
  exact g_iret hC hR dX3_changes_4 (by decide) (by decide)

theorem mi_X10_shortenBy : MI yX10_shortenBy cX10_shortenBy 5 none 1 := ⟨tw_408, tw_3, by decide +kernel, by decide +kernel, by decide +kernel⟩
noncomputable def B_X10_shortenBy_0 (S : Wd) (a0 : Nat) (a1 : Int32) : Option ((Wd) ⊕ Cs) := some (.inr (1, [a0], [a1, (0 : Int32)], S))
noncomputable def B_X10_shortenBy_1 (S : Wd) (x0 : Nat) (x1 : Int32) (x2 : Int32) : Option ((Wd) ⊕ Cs) := if (8 : Int32) ≤ x2 then (some (.inl S)) else (some (.inr (2, [x0], [x1, x2, (0 : Int32)], S)))
noncomputable def B_X10_shortenBy_2 (S : Wd) (x0 : Nat) (x1 : Int32) (x2 : Int32) (x3 : Int32) : Option ((Wd) ⊕ Cs) := if (8 : Int32) ≤ x3 then (some (.inr (1, [x0], [x1, (x2 + (1 : Int32))], S))) else (gd (ob S x0 10) (Option.bind (wO S x0 2) (fun q4 => gd (ix S q4 100 ((x2 * (8 : Int32)) + x1)) (gd (ob S x0 10) (Option.bind (wO S x0 2) (fun q8 => gd (ix S q8 100 ((x1 * (8 : Int32)) + x3)) (gd (ob S x0 10) (Option.bind (wO S x0 2) (fun q12 => gd (ix S q12 100 ((x2 * (8 : Int32)) + x3)) (if (wI S q12 ((x2 * (8 : Int32)) + x3).toNatClampNeg) ≤ ((wI S q4 ((x2 * (8 : Int32)) + x1).toNatClampNeg) + (wI S q8 ((x1 * (8 : Int32)) + x3).toNatClampNeg)) then (some (.inr (2, [x0], [x1, x2, (x3 + (1 : Int32))], S))) else (gd (ob S x0 10) (Option.bind (wO S x0 2) (fun q17 => gd (ix S q17 100 ((x2 * (8 : Int32)) + x3)) (ltS (sI S q17 ((x2 * (8 : Int32)) + x3).toNatClampNeg ((wI S q4 ((x2 * (8 : Int32)) + x1).toNatClampNeg) + (wI S q8 ((x1 * (8 : Int32)) + x3).toNatClampNeg))) (fun S20 => some (.inr (2, [x0], [x1, x2, (x3 + (1 : Int32))], S20)))))))))))))))))
noncomputable def B_X10_shortenBy : Cs → Option ((Wd) ⊕ Cs)
  | (0, [a0], [a1], S) => B_X10_shortenBy_0 S a0 a1
  | (1, [x0], [x1, x2], S) => B_X10_shortenBy_1 S x0 x1 x2
  | (2, [x0], [x1, x2, x3], S) => B_X10_shortenBy_2 S x0 x1 x2 x3
  | _ => none
def P_X10_shortenBy : Cs → Option (Nat × List (Nat × Value) × Wd × Nat × Nat)
  | (0, [a0], [a1], S) => some (0, [(0, .ref a0), (1, .int a1)], S, 0, 0)
  | (1, [x0], [x1, x2], S) => some (2, [(0, .ref x0), (1, .int x1), (2, .int x2)], S, 0, 0)
  | (2, [x0], [x1, x2, x3], S) => some (10, [(0, .ref x0), (1, .int x1), (2, .int x2), (3, .int x3)], S, 0, 0)
  | _ => none
noncomputable def f_X10_shortenBy (S : Wd) (a0 : Nat) (a1 : Int32) : Option (Wd) := ru B_X10_shortenBy (0, [a0], [a1], S)
abbrev N_X10_shortenBy (b : Bd) (r : Wd) (c : (Wd) ⊕ Cs) : Prop := match c with
  | .inl r' => r' = r
  | .inr s' => ∀ pc L S kc ks, P_X10_shortenBy s' = some (pc, L, S, kc, ks) → G b pc L [] S kc ks
set_option maxRecDepth 100000 in
set_option maxHeartbeats 4000000 in
theorem w_X10_shortenBy_0 {b : Bd} {r : Wd} (hC : CX b yX10_shortenBy.cls cX10_shortenBy 5 { frames := 0, cells := 0, slots := 0, locals := 0 }) (hin : yX10_shortenBy.name = "<init>" → b.2.2.2.2.2.2.2.2.1.name = "<init>") (hR : RT b none none r 0 0) {S : Wd} {a0 : Nat} {a1 : Int32} {c : (Wd) ⊕ Cs} (h : B_X10_shortenBy_0 S a0 a1 = some c) (hk : N_X10_shortenBy b r c) : G b 0 [(0, .ref a0), (1, .int a1)] [] S 0 0 := by
  unfold B_X10_shortenBy_0 at h
  refine g_iconst (v := (0 : Int32)) hC dX10_shortenBy_0 (by decide) ?_
  refine g_istore_n (L' := [(2, .int (0 : Int32)), (0, .ref a0), (1, .int a1)]) hC dX10_shortenBy_1 (by decide) rfl ?_
  cases h
  refine g_pick (L' := [(0, .ref a0), (1, .int a1), (2, .int (0 : Int32))]) [1, 2, 0] rfl ?_
  exact hk _ _ _ _ _ rfl
set_option maxRecDepth 100000 in
set_option maxHeartbeats 4000000 in
theorem w_X10_shortenBy_1 {b : Bd} {r : Wd} (hC : CX b yX10_shortenBy.cls cX10_shortenBy 5 { frames := 0, cells := 0, slots := 0, locals := 0 }) (hin : yX10_shortenBy.name = "<init>" → b.2.2.2.2.2.2.2.2.1.name = "<init>") (hR : RT b none none r 0 0) {S : Wd} {x0 : Nat} {x1 : Int32} {x2 : Int32} {c : (Wd) ⊕ Cs} (h : B_X10_shortenBy_1 S x0 x1 x2 = some c) (hk : N_X10_shortenBy b r c) : G b 2 [(0, .ref x0), (1, .int x1), (2, .int x2)] [] S 0 0 := by
  unfold B_X10_shortenBy_1 at h
  refine g_iload_n hC dX10_shortenBy_2 rfl ?_
  refine g_bipush (v := (8 : Int32)) hC dX10_shortenBy_3 (by decide) ?_
  refine g_icmp_ge (tgt := 82) hC dX10_shortenBy_5 (by decide) (fun hc1 => ?_) (fun hc1 => ?_)
  · rw [if_pos hc1] at h
    cases h
    subst hk
    exact g_vret hC hR dX10_shortenBy_82 (by decide) (by decide)
  · rw [if_neg hc1] at h
    refine g_iconst (v := (0 : Int32)) hC dX10_shortenBy_8 (by decide) ?_
    refine g_istore_n (L' := [(3, .int (0 : Int32)), (0, .ref x0), (1, .int x1), (2, .int x2)]) hC dX10_shortenBy_9 (by decide) rfl ?_
    cases h
    refine g_pick (L' := [(0, .ref x0), (1, .int x1), (2, .int x2), (3, .int (0 : Int32))]) [1, 2, 3, 0] rfl ?_
    exact hk _ _ _ _ _ rfl
set_option maxRecDepth 100000 in
set_option maxHeartbeats 4000000 in
theorem w_X10_shortenBy_2 {b : Bd} {r : Wd} (hC : CX b yX10_shortenBy.cls cX10_shortenBy 5 { frames := 0, cells := 0, slots := 0, locals := 0 }) (hin : yX10_shortenBy.name = "<init>" → b.2.2.2.2.2.2.2.2.1.name = "<init>") (hR : RT b none none r 0 0) {S : Wd} {x0 : Nat} {x1 : Int32} {x2 : Int32} {x3 : Int32} {c : (Wd) ⊕ Cs} (h : B_X10_shortenBy_2 S x0 x1 x2 x3 = some c) (hk : N_X10_shortenBy b r c) : G b 10 [(0, .ref x0), (1, .int x1), (2, .int x2), (3, .int x3)] [] S 0 0 := by
  unfold B_X10_shortenBy_2 at h
  refine g_iload_n hC dX10_shortenBy_10 rfl ?_
  refine g_bipush (v := (8 : Int32)) hC dX10_shortenBy_11 (by decide) ?_
  refine g_icmp_ge (tgt := 76) hC dX10_shortenBy_13 (by decide) (fun hc2 => ?_) (fun hc2 => ?_)
  · rw [if_pos hc2] at h
    refine g_iinc (v := (1 : Int32)) (L' := [(2, .int (x2 + (1 : Int32))), (0, .ref x0), (1, .int x1), (3, .int x3)]) hC dX10_shortenBy_76 rfl (by decide) (by decide) rfl ?_
    refine g_goto (tgt := 2) hC dX10_shortenBy_79 (by decide) ?_
    cases h
    refine g_pick (L' := [(0, .ref x0), (1, .int x1), (2, .int (x2 + (1 : Int32)))]) [1, 2, 0] rfl ?_
    exact hk _ _ _ _ _ rfl
  · rw [if_neg hc2] at h
    refine g_aload_n hC dX10_shortenBy_16 rfl ?_
    obtain ⟨ho3, h⟩ := gd_some h
    obtain ⟨q4, hq5, h⟩ := Option.bind_eq_some_iff.mp h
    refine g_getr (k := 2) (q := q4) hC ck_X10 (by decide) tw_62 rfl (by decide) dX10_shortenBy_17 ho3 hq5 ?_
    refine g_iload_n hC dX10_shortenBy_20 rfl ?_
    refine g_bipush (v := (8 : Int32)) hC dX10_shortenBy_21 (by decide) ?_
    refine g_imul hC dX10_shortenBy_23 ?_
    refine g_iload_n hC dX10_shortenBy_24 rfl ?_
    refine g_iadd hC dX10_shortenBy_25 ?_
    obtain ⟨hx6, h⟩ := gd_some h
    refine g_iald hC dX10_shortenBy_26 hx6.1 hx6.2 ?_
    refine g_aload_n hC dX10_shortenBy_27 rfl ?_
    obtain ⟨ho7, h⟩ := gd_some h
    obtain ⟨q8, hq9, h⟩ := Option.bind_eq_some_iff.mp h
    refine g_getr (k := 2) (q := q8) hC ck_X10 (by decide) tw_62 rfl (by decide) dX10_shortenBy_28 ho7 hq9 ?_
    refine g_iload_n hC dX10_shortenBy_31 rfl ?_
    refine g_bipush (v := (8 : Int32)) hC dX10_shortenBy_32 (by decide) ?_
    refine g_imul hC dX10_shortenBy_34 ?_
    refine g_iload_n hC dX10_shortenBy_35 rfl ?_
    refine g_iadd hC dX10_shortenBy_36 ?_
    obtain ⟨hx10, h⟩ := gd_some h
    refine g_iald hC dX10_shortenBy_37 hx10.1 hx10.2 ?_
    refine g_iadd hC dX10_shortenBy_38 ?_
    refine g_istore (L' := [(4, .int ((wI S q4 ((x2 * (8 : Int32)) + x1).toNatClampNeg) + (wI S q8 ((x1 * (8 : Int32)) + x3).toNatClampNeg))), (0, .ref x0), (1, .int x1), (2, .int x2), (3, .int x3)]) hC dX10_shortenBy_39 (by decide) rfl ?_
    refine g_iload hC dX10_shortenBy_41 rfl ?_
    refine g_aload_n hC dX10_shortenBy_43 rfl ?_
    obtain ⟨ho11, h⟩ := gd_some h
    obtain ⟨q12, hq13, h⟩ := Option.bind_eq_some_iff.mp h
    refine g_getr (k := 2) (q := q12) hC ck_X10 (by decide) tw_62 rfl (by decide) dX10_shortenBy_44 ho11 hq13 ?_
    refine g_iload_n hC dX10_shortenBy_47 rfl ?_
    refine g_bipush (v := (8 : Int32)) hC dX10_shortenBy_48 (by decide) ?_
    refine g_imul hC dX10_shortenBy_50 ?_
    refine g_iload_n hC dX10_shortenBy_51 rfl ?_
    refine g_iadd hC dX10_shortenBy_52 ?_
    obtain ⟨hx14, h⟩ := gd_some h
    refine g_iald hC dX10_shortenBy_53 hx14.1 hx14.2 ?_
    refine g_icmp_ge (tgt := 70) hC dX10_shortenBy_54 (by decide) (fun hc15 => ?_) (fun hc15 => ?_)
    · rw [if_pos hc15] at h
      refine g_iinc (v := (1 : Int32)) (L' := [(3, .int (x3 + (1 : Int32))), (4, .int ((wI S q4 ((x2 * (8 : Int32)) + x1).toNatClampNeg) + (wI S q8 ((x1 * (8 : Int32)) + x3).toNatClampNeg))), (0, .ref x0), (1, .int x1), (2, .int x2)]) hC dX10_shortenBy_70 rfl (by decide) (by decide) rfl ?_
      refine g_goto (tgt := 10) hC dX10_shortenBy_73 (by decide) ?_
      cases h
      refine g_pick (L' := [(0, .ref x0), (1, .int x1), (2, .int x2), (3, .int (x3 + (1 : Int32)))]) [2, 3, 4, 0] rfl ?_
      exact hk _ _ _ _ _ rfl
    · rw [if_neg hc15] at h
      refine g_aload_n hC dX10_shortenBy_57 rfl ?_
      obtain ⟨ho16, h⟩ := gd_some h
      obtain ⟨q17, hq18, h⟩ := Option.bind_eq_some_iff.mp h
      refine g_getr (k := 2) (q := q17) hC ck_X10 (by decide) tw_62 rfl (by decide) dX10_shortenBy_58 ho16 hq18 ?_
      refine g_iload_n hC dX10_shortenBy_61 rfl ?_
      refine g_bipush (v := (8 : Int32)) hC dX10_shortenBy_62 (by decide) ?_
      refine g_imul hC dX10_shortenBy_64 ?_
      refine g_iload_n hC dX10_shortenBy_65 rfl ?_
      refine g_iadd hC dX10_shortenBy_66 ?_
      refine g_iload hC dX10_shortenBy_67 rfl ?_
      obtain ⟨hx19, h⟩ := gd_some h
      refine g_iast hC dX10_shortenBy_69 hx19.1 hx19.2 ?_
      refine g_name (fun S20 eS21 => ?_)
      have h := ltS_use eS21 h
      refine g_iinc (v := (1 : Int32)) (L' := [(3, .int (x3 + (1 : Int32))), (4, .int ((wI S q4 ((x2 * (8 : Int32)) + x1).toNatClampNeg) + (wI S q8 ((x1 * (8 : Int32)) + x3).toNatClampNeg))), (0, .ref x0), (1, .int x1), (2, .int x2)]) hC dX10_shortenBy_70 rfl (by decide) (by decide) rfl ?_
      refine g_goto (tgt := 10) hC dX10_shortenBy_73 (by decide) ?_
      cases h
      refine g_pick (L' := [(0, .ref x0), (1, .int x1), (2, .int x2), (3, .int (x3 + (1 : Int32)))]) [2, 3, 4, 0] rfl ?_
      exact hk _ _ _ _ _ rfl
theorem w_X10_shortenBy {b : Bd} {r : Wd} (hC : CX b yX10_shortenBy.cls cX10_shortenBy 5 { frames := 0, cells := 0, slots := 0, locals := 0 }) (hin : yX10_shortenBy.name = "<init>" → b.2.2.2.2.2.2.2.2.1.name = "<init>") (hR : RT b none none r 0 0) {s : Cs} {c : (Wd) ⊕ Cs} (h : B_X10_shortenBy s = some c) (hk : N_X10_shortenBy b r c) : ∀ pc L S kc ks, P_X10_shortenBy s = some (pc, L, S, kc, ks) → G b pc L [] S kc ks := by
  intro pc L S kc ks hp
  unfold B_X10_shortenBy at h
  split at h
  · cases hp
    exact w_X10_shortenBy_0 hC hin hR h hk
  · cases hp
    exact w_X10_shortenBy_1 hC hin hR h hk
  · cases hp
    exact w_X10_shortenBy_2 hC hin hR h hk
  · cases h
theorem k_X10_shortenBy {S : Wd} {a0 : Nat} {a1 : Int32} {S' : Wd} (h : f_X10_shortenBy S a0 a1 = some S') : Sp yX10_shortenBy cX10_shortenBy 5 none 0 0 0 0 [.ref a0, .int a1] S none S' := by
  unfold f_X10_shortenBy at h
  refine Sp.of (by decide +kernel) (Nat.le_of_ble_eq_true rfl) ?_
  intro b hC hin hR
  exact ru_ind (P := fun s q0 => q0 = S' → ∀ pc L S kc ks, P_X10_shortenBy s = some (pc, L, S, kc, ks) → G b pc L [] S kc ks) (fun s q0 hB e => w_X10_shortenBy (r := S') hC hin hR hB e) (fun s s' q0 hB ih e => w_X10_shortenBy (r := S') hC hin hR hB (ih e)) h rfl _ _ _ _ _ rfl

theorem mi_X10_measure : MI yX10_measure cX10_measure 4 none 0 := ⟨tw_399, tw_3, by decide +kernel, by decide +kernel, by decide +kernel⟩
noncomputable def B_X10_measure_0 (S : Wd) (a0 : Nat) : Option ((Wd) ⊕ Cs) := gd (ob S a0 10) (gd (ob S a0 10) (Option.bind (wO S a0 0) (fun q3 => gd (ob S q3 3) (bd2 (f_X3_changes S q3) (fun r8 S6 => if (wI S a0 3) = r8 then (some (.inl S6)) else (gd (ob S6 a0 10) (Option.bind (wO S6 a0 0) (fun q11 => gd (ob S6 q11 3) (bd2 (f_X3_changes S6 q11) (fun r16 S14 => gd (ob S14 a0 10) (ltS (sI S14 a0 3 r16) (fun S18 => some (.inr (1, [a0], [(0 : Int32)], S18))))))))))))))
noncomputable def B_X10_measure_1 (S : Wd) (x0 : Nat) (x1 : Int32) : Option ((Wd) ⊕ Cs) := if (8 : Int32) ≤ x1 then (some (.inr (3, [x0], [(0 : Int32)], S))) else (some (.inr (2, [x0], [x1, (0 : Int32)], S)))
noncomputable def B_X10_measure_2 (S : Wd) (x0 : Nat) (x1 : Int32) (x2 : Int32) : Option ((Wd) ⊕ Cs) := if (8 : Int32) ≤ x2 then (some (.inr (1, [x0], [(x1 + (1 : Int32))], S))) else (gd (ob S x0 10) (Option.bind (wO S x0 1) (fun q23 => gd (ix S q23 100 (((mMin x1 x2) * (8 : Int32)) + (mMax x1 x2))) (gd (ob S x0 10) (Option.bind (wO S x0 2) (fun q27 => if x1 = x2 then (gd (ix S q27 100 ((x1 * (8 : Int32)) + x2)) (ltS (sI S q27 ((x1 * (8 : Int32)) + x2).toNatClampNeg (0 : Int32)) (fun S38 => some (.inr (2, [x0], [x1, (x2 + (1 : Int32))], S38))))) else (if (wI S q23 (((mMin x1 x2) * (8 : Int32)) + (mMax x1 x2)).toNatClampNeg) = 0 then (gd (ix S q27 100 ((x1 * (8 : Int32)) + x2)) (ltS (sI S q27 ((x1 * (8 : Int32)) + x2).toNatClampNeg (1000000 : Int32)) (fun S35 => some (.inr (2, [x0], [x1, (x2 + (1 : Int32))], S35))))) else (gd (ix S q27 100 ((x1 * (8 : Int32)) + x2)) (ltS (sI S q27 ((x1 * (8 : Int32)) + x2).toNatClampNeg (wI S q23 (((mMin x1 x2) * (8 : Int32)) + (mMax x1 x2)).toNatClampNeg)) (fun S32 => some (.inr (2, [x0], [x1, (x2 + (1 : Int32))], S32))))))))))))
noncomputable def B_X10_measure_3 (S : Wd) (x0 : Nat) (x1 : Int32) : Option ((Wd) ⊕ Cs) := if (8 : Int32) ≤ x1 then (some (.inl S)) else (gd (ob S x0 10) (Option.bind (f_X10_shortenBy S x0 x1) (fun S42 => some (.inr (3, [x0], [(x1 + (1 : Int32))], S42)))))
noncomputable def B_X10_measure : Cs → Option ((Wd) ⊕ Cs)
  | (0, [a0], [], S) => B_X10_measure_0 S a0
  | (1, [x0], [x1], S) => B_X10_measure_1 S x0 x1
  | (2, [x0], [x1, x2], S) => B_X10_measure_2 S x0 x1 x2
  | (3, [x0], [x1], S) => B_X10_measure_3 S x0 x1
  | _ => none
def P_X10_measure : Cs → Option (Nat × List (Nat × Value) × Wd × Nat × Nat)
  | (0, [a0], [], S) => some (0, [(0, .ref a0)], S, 0, 0)
  | (1, [x0], [x1], S) => some (28, [(0, .ref x0), (1, .int x1)], S, 0, 0)
  | (2, [x0], [x1, x2], S) => some (36, [(0, .ref x0), (1, .int x1), (2, .int x2)], S, 0, 0)
  | (3, [x0], [x1], S) => some (106, [(0, .ref x0), (1, .int x1)], S, 0, 0)
  | _ => none
noncomputable def f_X10_measure (S : Wd) (a0 : Nat) : Option (Wd) := ru B_X10_measure (0, [a0], [], S)
abbrev N_X10_measure (b : Bd) (r : Wd) (c : (Wd) ⊕ Cs) : Prop := match c with
  | .inl r' => r' = r
  | .inr s' => ∀ pc L S kc ks, P_X10_measure s' = some (pc, L, S, kc, ks) → G b pc L [] S kc ks
set_option maxRecDepth 100000 in
set_option maxHeartbeats 4000000 in
theorem w_X10_measure_0 {b : Bd} {r : Wd} (hC : CX b yX10_measure.cls cX10_measure 4 { frames := 1, cells := 0, slots := 0, locals := 24 }) (hin : yX10_measure.name = "<init>" → b.2.2.2.2.2.2.2.2.1.name = "<init>") (hR : RT b none none r 0 0) {S : Wd} {a0 : Nat} {c : (Wd) ⊕ Cs} (h : B_X10_measure_0 S a0 = some c) (hk : N_X10_measure b r c) : G b 0 [(0, .ref a0)] [] S 0 0 := by
  unfold B_X10_measure_0 at h
  refine g_aload_n hC dX10_measure_0 rfl ?_
  obtain ⟨ho1, h⟩ := gd_some h
  refine g_geti (k := 3) hC ck_X10 (by decide) tw_63 rfl (by decide) dX10_measure_1 ho1 ?_
  refine g_aload_n hC dX10_measure_4 rfl ?_
  obtain ⟨ho2, h⟩ := gd_some h
  obtain ⟨q3, hq4, h⟩ := Option.bind_eq_some_iff.mp h
  refine g_getr (k := 0) (q := q3) hC ck_X10 (by decide) tw_60 rfl (by decide) dX10_measure_5 ho2 hq4 ?_
  obtain ⟨ho7, h⟩ := gd_some h
  obtain ⟨r8, S6, hr5, h⟩ := bd2_some h
  refine g_callV (rest := [.int (wI S a0 3)]) hC mi_X3_changes (k_X3_changes hr5) ck_X3.1 (by decide) ho7 tw_400 tw_401 tw_402 dX10_measure_8 rfl rfl ⟨by decide, by decide⟩ (Nat.le_of_ble_eq_true rfl) ⟨by decide, by decide⟩ ?_
  refine g_icmp_ne (tgt := 15) hC dX10_measure_11 (by decide) (fun hc9 => ?_) (fun hc9 => ?_)
  · rw [if_neg hc9] at h
    refine g_aload_n hC dX10_measure_15 rfl ?_
    refine g_aload_n hC dX10_measure_16 rfl ?_
    obtain ⟨ho10, h⟩ := gd_some h
    obtain ⟨q11, hq12, h⟩ := Option.bind_eq_some_iff.mp h
    refine g_getr (k := 0) (q := q11) hC ck_X10 (by decide) tw_60 rfl (by decide) dX10_measure_17 ho10 hq12 ?_
    obtain ⟨ho15, h⟩ := gd_some h
    obtain ⟨r16, S14, hr13, h⟩ := bd2_some h
    refine g_callV (rest := [.ref a0]) hC mi_X3_changes (k_X3_changes hr13) ck_X3.1 (by decide) ho15 tw_400 tw_401 tw_402 dX10_measure_20 rfl rfl ⟨by decide, by decide⟩ (Nat.le_of_ble_eq_true rfl) ⟨by decide, by decide⟩ ?_
    obtain ⟨ho17, h⟩ := gd_some h
    refine g_puti (k := 3) hC ck_X10 (by decide) tw_63 rfl (by decide) rfl rfl dX10_measure_23 ho17 ?_
    refine g_name (fun S18 eS19 => ?_)
    have h := ltS_use eS19 h
    refine g_iconst (v := (0 : Int32)) hC dX10_measure_26 (by decide) ?_
    refine g_istore_n (L' := [(1, .int (0 : Int32)), (0, .ref a0)]) hC dX10_measure_27 (by decide) rfl ?_
    cases h
    refine g_pick (L' := [(0, .ref a0), (1, .int (0 : Int32))]) [1, 0] rfl ?_
    exact hk _ _ _ _ _ rfl
  · rw [if_pos hc9] at h
    cases h
    subst hk
    exact g_vret hC hR dX10_measure_14 (by decide) (by decide)
set_option maxRecDepth 100000 in
set_option maxHeartbeats 4000000 in
theorem w_X10_measure_1 {b : Bd} {r : Wd} (hC : CX b yX10_measure.cls cX10_measure 4 { frames := 1, cells := 0, slots := 0, locals := 24 }) (hin : yX10_measure.name = "<init>" → b.2.2.2.2.2.2.2.2.1.name = "<init>") (hR : RT b none none r 0 0) {S : Wd} {x0 : Nat} {x1 : Int32} {c : (Wd) ⊕ Cs} (h : B_X10_measure_1 S x0 x1 = some c) (hk : N_X10_measure b r c) : G b 28 [(0, .ref x0), (1, .int x1)] [] S 0 0 := by
  unfold B_X10_measure_1 at h
  refine g_iload_n hC dX10_measure_28 rfl ?_
  refine g_bipush (v := (8 : Int32)) hC dX10_measure_29 (by decide) ?_
  refine g_icmp_ge (tgt := 104) hC dX10_measure_31 (by decide) (fun hc20 => ?_) (fun hc20 => ?_)
  · rw [if_pos hc20] at h
    refine g_iconst (v := (0 : Int32)) hC dX10_measure_104 (by decide) ?_
    refine g_istore_n (L' := [(1, .int (0 : Int32)), (0, .ref x0)]) hC dX10_measure_105 (by decide) rfl ?_
    cases h
    refine g_pick (L' := [(0, .ref x0), (1, .int (0 : Int32))]) [1, 0] rfl ?_
    exact hk _ _ _ _ _ rfl
  · rw [if_neg hc20] at h
    refine g_iconst (v := (0 : Int32)) hC dX10_measure_34 (by decide) ?_
    refine g_istore_n (L' := [(2, .int (0 : Int32)), (0, .ref x0), (1, .int x1)]) hC dX10_measure_35 (by decide) rfl ?_
    cases h
    refine g_pick (L' := [(0, .ref x0), (1, .int x1), (2, .int (0 : Int32))]) [1, 2, 0] rfl ?_
    exact hk _ _ _ _ _ rfl
set_option maxRecDepth 100000 in
set_option maxHeartbeats 4000000 in
theorem w_X10_measure_2 {b : Bd} {r : Wd} (hC : CX b yX10_measure.cls cX10_measure 4 { frames := 1, cells := 0, slots := 0, locals := 24 }) (hin : yX10_measure.name = "<init>" → b.2.2.2.2.2.2.2.2.1.name = "<init>") (hR : RT b none none r 0 0) {S : Wd} {x0 : Nat} {x1 : Int32} {x2 : Int32} {c : (Wd) ⊕ Cs} (h : B_X10_measure_2 S x0 x1 x2 = some c) (hk : N_X10_measure b r c) : G b 36 [(0, .ref x0), (1, .int x1), (2, .int x2)] [] S 0 0 := by
  unfold B_X10_measure_2 at h
  refine g_iload_n hC dX10_measure_36 rfl ?_
  refine g_bipush (v := (8 : Int32)) hC dX10_measure_37 (by decide) ?_
  refine g_icmp_ge (tgt := 98) hC dX10_measure_39 (by decide) (fun hc21 => ?_) (fun hc21 => ?_)
  · rw [if_pos hc21] at h
    refine g_iinc (v := (1 : Int32)) (L' := [(1, .int (x1 + (1 : Int32))), (0, .ref x0), (2, .int x2)]) hC dX10_measure_98 rfl (by decide) (by decide) rfl ?_
    refine g_goto (tgt := 28) hC dX10_measure_101 (by decide) ?_
    cases h
    refine g_pick (L' := [(0, .ref x0), (1, .int (x1 + (1 : Int32)))]) [1, 0] rfl ?_
    exact hk _ _ _ _ _ rfl
  · rw [if_neg hc21] at h
    refine g_aload_n hC dX10_measure_42 rfl ?_
    obtain ⟨ho22, h⟩ := gd_some h
    obtain ⟨q23, hq24, h⟩ := Option.bind_eq_some_iff.mp h
    refine g_getr (k := 1) (q := q23) hC ck_X10 (by decide) tw_61 rfl (by decide) dX10_measure_43 ho22 hq24 ?_
    refine g_iload_n hC dX10_measure_46 rfl ?_
    refine g_iload_n hC dX10_measure_47 rfl ?_
    refine g_mmin (st := [.ref q23]) hC tw_363 tw_364 tw_5 tw_365 dX10_measure_48 (by decide) (Nat.le_of_ble_eq_true rfl) (by decide) (by decide) ?_
    refine g_bipush (v := (8 : Int32)) hC dX10_measure_51 (by decide) ?_
    refine g_imul hC dX10_measure_53 ?_
    refine g_iload_n hC dX10_measure_54 rfl ?_
    refine g_iload_n hC dX10_measure_55 rfl ?_
    refine g_mmax (st := [.int ((mMin x1 x2) * (8 : Int32)), .ref q23]) hC tw_366 tw_80 tw_5 tw_81 dX10_measure_56 (by decide) (Nat.le_of_ble_eq_true rfl) (by decide) (by decide) ?_
    refine g_iadd hC dX10_measure_59 ?_
    obtain ⟨hx25, h⟩ := gd_some h
    refine g_iald hC dX10_measure_60 hx25.1 hx25.2 ?_
    refine g_istore_n (L' := [(3, .int (wI S q23 (((mMin x1 x2) * (8 : Int32)) + (mMax x1 x2)).toNatClampNeg)), (0, .ref x0), (1, .int x1), (2, .int x2)]) hC dX10_measure_61 (by decide) rfl ?_
    refine g_aload_n hC dX10_measure_62 rfl ?_
    obtain ⟨ho26, h⟩ := gd_some h
    obtain ⟨q27, hq28, h⟩ := Option.bind_eq_some_iff.mp h
    refine g_getr (k := 2) (q := q27) hC ck_X10 (by decide) tw_62 rfl (by decide) dX10_measure_63 ho26 hq28 ?_
    refine g_iload_n hC dX10_measure_66 rfl ?_
    refine g_bipush (v := (8 : Int32)) hC dX10_measure_67 (by decide) ?_
    refine g_imul hC dX10_measure_69 ?_
    refine g_iload_n hC dX10_measure_70 rfl ?_
    refine g_iadd hC dX10_measure_71 ?_
    refine g_iload_n hC dX10_measure_72 rfl ?_
    refine g_iload_n hC dX10_measure_73 rfl ?_
    refine g_icmp_ne (tgt := 81) hC dX10_measure_74 (by decide) (fun hc29 => ?_) (fun hc29 => ?_)
    · rw [if_neg hc29] at h
      refine g_iload_n hC dX10_measure_81 rfl ?_
      refine g_if_ne (tgt := 90) hC dX10_measure_82 (by decide) (fun hc30 => ?_) (fun hc30 => ?_)
      · rw [if_neg hc30] at h
        refine g_iload_n hC dX10_measure_90 rfl ?_
        obtain ⟨hx31, h⟩ := gd_some h
        refine g_iast hC dX10_measure_91 hx31.1 hx31.2 ?_
        refine g_name (fun S32 eS33 => ?_)
        have h := ltS_use eS33 h
        refine g_iinc (v := (1 : Int32)) (L' := [(2, .int (x2 + (1 : Int32))), (3, .int (wI S q23 (((mMin x1 x2) * (8 : Int32)) + (mMax x1 x2)).toNatClampNeg)), (0, .ref x0), (1, .int x1)]) hC dX10_measure_92 rfl (by decide) (by decide) rfl ?_
        refine g_goto (tgt := 36) hC dX10_measure_95 (by decide) ?_
        cases h
        refine g_pick (L' := [(0, .ref x0), (1, .int x1), (2, .int (x2 + (1 : Int32)))]) [2, 3, 0] rfl ?_
        exact hk _ _ _ _ _ rfl
      · rw [if_pos hc30] at h
        refine g_ldc hC tw_404 dX10_measure_85 ?_
        refine g_goto (tgt := 91) hC dX10_measure_87 (by decide) ?_
        obtain ⟨hx34, h⟩ := gd_some h
        refine g_iast hC dX10_measure_91 hx34.1 hx34.2 ?_
        refine g_name (fun S35 eS36 => ?_)
        have h := ltS_use eS36 h
        refine g_iinc (v := (1 : Int32)) (L' := [(2, .int (x2 + (1 : Int32))), (3, .int (wI S q23 (((mMin x1 x2) * (8 : Int32)) + (mMax x1 x2)).toNatClampNeg)), (0, .ref x0), (1, .int x1)]) hC dX10_measure_92 rfl (by decide) (by decide) rfl ?_
        refine g_goto (tgt := 36) hC dX10_measure_95 (by decide) ?_
        cases h
        refine g_pick (L' := [(0, .ref x0), (1, .int x1), (2, .int (x2 + (1 : Int32)))]) [2, 3, 0] rfl ?_
        exact hk _ _ _ _ _ rfl
    · rw [if_pos hc29] at h
      refine g_iconst (v := (0 : Int32)) hC dX10_measure_77 (by decide) ?_
      refine g_goto (tgt := 91) hC dX10_measure_78 (by decide) ?_
      obtain ⟨hx37, h⟩ := gd_some h
      refine g_iast hC dX10_measure_91 hx37.1 hx37.2 ?_
      refine g_name (fun S38 eS39 => ?_)
      have h := ltS_use eS39 h
      refine g_iinc (v := (1 : Int32)) (L' := [(2, .int (x2 + (1 : Int32))), (3, .int (wI S q23 (((mMin x1 x2) * (8 : Int32)) + (mMax x1 x2)).toNatClampNeg)), (0, .ref x0), (1, .int x1)]) hC dX10_measure_92 rfl (by decide) (by decide) rfl ?_
      refine g_goto (tgt := 36) hC dX10_measure_95 (by decide) ?_
      cases h
      refine g_pick (L' := [(0, .ref x0), (1, .int x1), (2, .int (x2 + (1 : Int32)))]) [2, 3, 0] rfl ?_
      exact hk _ _ _ _ _ rfl
set_option maxRecDepth 100000 in
set_option maxHeartbeats 4000000 in
theorem w_X10_measure_3 {b : Bd} {r : Wd} (hC : CX b yX10_measure.cls cX10_measure 4 { frames := 1, cells := 0, slots := 0, locals := 24 }) (hin : yX10_measure.name = "<init>" → b.2.2.2.2.2.2.2.2.1.name = "<init>") (hR : RT b none none r 0 0) {S : Wd} {x0 : Nat} {x1 : Int32} {c : (Wd) ⊕ Cs} (h : B_X10_measure_3 S x0 x1 = some c) (hk : N_X10_measure b r c) : G b 106 [(0, .ref x0), (1, .int x1)] [] S 0 0 := by
  unfold B_X10_measure_3 at h
  refine g_iload_n hC dX10_measure_106 rfl ?_
  refine g_bipush (v := (8 : Int32)) hC dX10_measure_107 (by decide) ?_
  refine g_icmp_ge (tgt := 123) hC dX10_measure_109 (by decide) (fun hc40 => ?_) (fun hc40 => ?_)
  · rw [if_pos hc40] at h
    cases h
    subst hk
    exact g_vret hC hR dX10_measure_123 (by decide) (by decide)
  · rw [if_neg hc40] at h
    refine g_aload_n hC dX10_measure_112 rfl ?_
    refine g_iload_n hC dX10_measure_113 rfl ?_
    obtain ⟨ho43, h⟩ := gd_some h
    obtain ⟨S42, hr41, h⟩ := Option.bind_eq_some_iff.mp h
    refine g_callV (rest := []) hC mi_X10_shortenBy (k_X10_shortenBy hr41) ck_X10.1 (by decide) ho43 tw_405 tw_407 ts_1 dX10_measure_114 rfl rfl ⟨by decide, by decide⟩ (Nat.le_of_ble_eq_true rfl) ⟨by decide, by decide⟩ ?_
    refine g_iinc (v := (1 : Int32)) (L' := [(1, .int (x1 + (1 : Int32))), (0, .ref x0)]) hC dX10_measure_117 rfl (by decide) (by decide) rfl ?_
    refine g_goto (tgt := 106) hC dX10_measure_120 (by decide) ?_
    cases h
    refine g_pick (L' := [(0, .ref x0), (1, .int (x1 + (1 : Int32)))]) [1, 0] rfl ?_
    exact hk _ _ _ _ _ rfl
theorem w_X10_measure {b : Bd} {r : Wd} (hC : CX b yX10_measure.cls cX10_measure 4 { frames := 1, cells := 0, slots := 0, locals := 24 }) (hin : yX10_measure.name = "<init>" → b.2.2.2.2.2.2.2.2.1.name = "<init>") (hR : RT b none none r 0 0) {s : Cs} {c : (Wd) ⊕ Cs} (h : B_X10_measure s = some c) (hk : N_X10_measure b r c) : ∀ pc L S kc ks, P_X10_measure s = some (pc, L, S, kc, ks) → G b pc L [] S kc ks := by
  intro pc L S kc ks hp
  unfold B_X10_measure at h
  split at h
  · cases hp
    exact w_X10_measure_0 hC hin hR h hk
  · cases hp
    exact w_X10_measure_1 hC hin hR h hk
  · cases hp
    exact w_X10_measure_2 hC hin hR h hk
  · cases hp
    exact w_X10_measure_3 hC hin hR h hk
  · cases h
theorem k_X10_measure {S : Wd} {a0 : Nat} {S' : Wd} (h : f_X10_measure S a0 = some S') : Sp yX10_measure cX10_measure 4 none 1 24 0 0 [.ref a0] S none S' := by
  unfold f_X10_measure at h
  refine Sp.of (by decide +kernel) (Nat.le_of_ble_eq_true rfl) ?_
  intro b hC hin hR
  exact ru_ind (P := fun s q0 => q0 = S' → ∀ pc L S kc ks, P_X10_measure s = some (pc, L, S, kc, ks) → G b pc L [] S kc ks) (fun s q0 hB e => w_X10_measure (r := S') hC hin hR hB e) (fun s s' q0 hB ih e => w_X10_measure (r := S') hC hin hR hB (ih e)) h rfl _ _ _ _ _ rfl

theorem mi_X10_between : MI yX10_between cX10_between 4 (some .int) 2 := ⟨tw_412, tw_3, by decide +kernel, by decide +kernel, by decide +kernel⟩
noncomputable def f_X10_between (S : Wd) (a0 : Nat) (a1 : Int32) (a2 : Int32) : Option (Int32 × Wd) := if a1 < 0 then (if (0 : Int32) = 0 then (some ((1000000 : Int32), S)) else (none)) else (if (8 : Int32) ≤ a1 then (if (0 : Int32) = 0 then (some ((1000000 : Int32), S)) else (none)) else (if a2 < 0 then (if (0 : Int32) = 0 then (some ((1000000 : Int32), S)) else (none)) else (if (8 : Int32) ≤ a2 then (if (0 : Int32) = 0 then (some ((1000000 : Int32), S)) else (none)) else (if (1 : Int32) = 0 then (none) else (gd (ob S a0 10) (Option.bind (wO S a0 2) (fun q11 => gd (ix S q11 100 ((a1 * (8 : Int32)) + a2)) (some ((wI S q11 ((a1 * (8 : Int32)) + a2).toNatClampNeg), S)))))))))
set_option maxRecDepth 100000 in
set_option maxHeartbeats 4000000 in
theorem k_X10_between {S : Wd} {a0 : Nat} {a1 : Int32} {a2 : Int32} {r : Int32} {S' : Wd} (h : f_X10_between S a0 a1 a2 = some (r, S')) : Sp yX10_between cX10_between 4 (some .int) 0 0 0 0 [.ref a0, .int a1, .int a2] S (some (.int r)) S' := by
  unfold f_X10_between at h
  refine Sp.of (by decide +kernel) (Nat.le_of_ble_eq_true rfl) ?_
  intro b hC hin hR
  show G b 0 [(0, .ref a0), (1, .int a1), (2, .int a2)] [] S 0 0
  refine g_iload_n hC dX10_between_0 rfl ?_
  refine g_if_lt (tgt := 24) hC dX10_between_1 (by decide) (fun hc1 => ?_) (fun hc1 => ?_)
  · rw [if_pos hc1] at h
    refine g_iconst (v := (0 : Int32)) hC dX10_between_24 (by decide) ?_
    refine g_istore_n (L' := [(3, .int (0 : Int32)), (0, .ref a0), (1, .int a1), (2, .int a2)]) hC dX10_between_25 (by decide) rfl ?_
    refine g_iload_n hC dX10_between_26 rfl ?_
    refine g_if_eq (tgt := 44) hC dX10_between_27 (by decide) (fun hc2 => ?_) (fun hc2 => ?_)
    · rw [if_pos hc2] at h
      refine g_ldc hC tw_404 dX10_between_44 ?_
      cases h
      exact g_iret hC hR dX10_between_46 (by decide) (by decide)
    · rw [if_neg hc2] at h
      cases h
  · rw [if_neg hc1] at h
    refine g_iload_n hC dX10_between_4 rfl ?_
    refine g_bipush (v := (8 : Int32)) hC dX10_between_5 (by decide) ?_
    refine g_icmp_ge (tgt := 24) hC dX10_between_7 (by decide) (fun hc3 => ?_) (fun hc3 => ?_)
    · rw [if_pos hc3] at h
      refine g_iconst (v := (0 : Int32)) hC dX10_between_24 (by decide) ?_
      refine g_istore_n (L' := [(3, .int (0 : Int32)), (0, .ref a0), (1, .int a1), (2, .int a2)]) hC dX10_between_25 (by decide) rfl ?_
      refine g_iload_n hC dX10_between_26 rfl ?_
      refine g_if_eq (tgt := 44) hC dX10_between_27 (by decide) (fun hc4 => ?_) (fun hc4 => ?_)
      · rw [if_pos hc4] at h
        refine g_ldc hC tw_404 dX10_between_44 ?_
        cases h
        exact g_iret hC hR dX10_between_46 (by decide) (by decide)
      · rw [if_neg hc4] at h
        cases h
    · rw [if_neg hc3] at h
      refine g_iload_n hC dX10_between_10 rfl ?_
      refine g_if_lt (tgt := 24) hC dX10_between_11 (by decide) (fun hc5 => ?_) (fun hc5 => ?_)
      · rw [if_pos hc5] at h
        refine g_iconst (v := (0 : Int32)) hC dX10_between_24 (by decide) ?_
        refine g_istore_n (L' := [(3, .int (0 : Int32)), (0, .ref a0), (1, .int a1), (2, .int a2)]) hC dX10_between_25 (by decide) rfl ?_
        refine g_iload_n hC dX10_between_26 rfl ?_
        refine g_if_eq (tgt := 44) hC dX10_between_27 (by decide) (fun hc6 => ?_) (fun hc6 => ?_)
        · rw [if_pos hc6] at h
          refine g_ldc hC tw_404 dX10_between_44 ?_
          cases h
          exact g_iret hC hR dX10_between_46 (by decide) (by decide)
        · rw [if_neg hc6] at h
          cases h
      · rw [if_neg hc5] at h
        refine g_iload_n hC dX10_between_14 rfl ?_
        refine g_bipush (v := (8 : Int32)) hC dX10_between_15 (by decide) ?_
        refine g_icmp_ge (tgt := 24) hC dX10_between_17 (by decide) (fun hc7 => ?_) (fun hc7 => ?_)
        · rw [if_pos hc7] at h
          refine g_iconst (v := (0 : Int32)) hC dX10_between_24 (by decide) ?_
          refine g_istore_n (L' := [(3, .int (0 : Int32)), (0, .ref a0), (1, .int a1), (2, .int a2)]) hC dX10_between_25 (by decide) rfl ?_
          refine g_iload_n hC dX10_between_26 rfl ?_
          refine g_if_eq (tgt := 44) hC dX10_between_27 (by decide) (fun hc8 => ?_) (fun hc8 => ?_)
          · rw [if_pos hc8] at h
            refine g_ldc hC tw_404 dX10_between_44 ?_
            cases h
            exact g_iret hC hR dX10_between_46 (by decide) (by decide)
          · rw [if_neg hc8] at h
            cases h
        · rw [if_neg hc7] at h
          refine g_iconst (v := (1 : Int32)) hC dX10_between_20 (by decide) ?_
          refine g_goto (tgt := 25) hC dX10_between_21 (by decide) ?_
          refine g_istore_n (L' := [(3, .int (1 : Int32)), (0, .ref a0), (1, .int a1), (2, .int a2)]) hC dX10_between_25 (by decide) rfl ?_
          refine g_iload_n hC dX10_between_26 rfl ?_
          refine g_if_eq (tgt := 44) hC dX10_between_27 (by decide) (fun hc9 => ?_) (fun hc9 => ?_)
          · rw [if_pos hc9] at h
            cases h
          · rw [if_neg hc9] at h
            refine g_aload_n hC dX10_between_30 rfl ?_
            obtain ⟨ho10, h⟩ := gd_some h
            obtain ⟨q11, hq12, h⟩ := Option.bind_eq_some_iff.mp h
            refine g_getr (k := 2) (q := q11) hC ck_X10 (by decide) tw_62 rfl (by decide) dX10_between_31 ho10 hq12 ?_
            refine g_iload_n hC dX10_between_34 rfl ?_
            refine g_bipush (v := (8 : Int32)) hC dX10_between_35 (by decide) ?_
            refine g_imul hC dX10_between_37 ?_
            refine g_iload_n hC dX10_between_38 rfl ?_
            refine g_iadd hC dX10_between_39 ?_
            obtain ⟨hx13, h⟩ := gd_some h
            refine g_iald hC dX10_between_40 hx13.1 hx13.2 ?_
            refine g_goto (tgt := 46) hC dX10_between_41 (by decide) ?_
            cases h
            exact g_iret hC hR dX10_between_46 (by decide) (by decide)

theorem mi_X11_far : MI yX11_far cX11_far 4 (some .int) 2 := ⟨tw_395, tw_1, by decide +kernel, by decide +kernel, by decide +kernel⟩
noncomputable def f_X11_far (S : Wd) (a0 : Nat) (a1 : Int32) (a2 : Int32) : Option (Int32 × Wd) := bd2 (f_X11_isTown S a1) (fun r3 S2 => if r3 = 0 then (gd (ob S2 a0 11) (bd2 (f_X11_told S2 a0 (-100001 : Int32)) (fun r8 S6 => some (r8, S6)))) else (bd2 (f_X11_isTown S2 a2) (fun r11 S10 => if r11 = 0 then (gd (ob S10 a0 11) (bd2 (f_X11_told S10 a0 (-100001 : Int32)) (fun r38 S36 => some (r38, S36)))) else (gd (ob S10 a0 11) (Option.bind (wO S10 a0 1) (fun q14 => gd (ob S10 q14 10) (Option.bind (f_X10_measure S10 q14) (fun S17 => gd (ob S17 a0 11) (Option.bind (wO S17 a0 1) (fun q20 => gd (ob S17 q20 10) (bd2 (f_X10_between S17 q20 a1 a2) (fun r25 S23 => if r25 = (1000000 : Int32) then (gd (ob S23 a0 11) (bd2 (f_X11_told S23 a0 (-100006 : Int32)) (fun r34 S32 => some (r34, S32)))) else (gd (ob S23 a0 11) (bd2 (f_X11_told S23 a0 r25) (fun r30 S28 => some (r30, S28))))))))))))))))
set_option maxRecDepth 100000 in
set_option maxHeartbeats 4000000 in
theorem k_X11_far {S : Wd} {a0 : Nat} {a1 : Int32} {a2 : Int32} {r : Int32} {S' : Wd} (h : f_X11_far S a0 a1 a2 = some (r, S')) : Sp yX11_far cX11_far 4 (some .int) 2 47 0 0 [.ref a0, .int a1, .int a2] S (some (.int r)) S' := by
  unfold f_X11_far at h
  refine Sp.of (by decide +kernel) (Nat.le_of_ble_eq_true rfl) ?_
  intro b hC hin hR
  show G b 0 [(0, .ref a0), (1, .int a1), (2, .int a2)] [] S 0 0
  refine g_iload_n hC dX11_far_0 rfl ?_
  obtain ⟨r3, S2, hr1, h⟩ := bd2_some h
  refine g_callS (rest := []) hC mi_X11_isTown (k_X11_isTown hr1) tw_346 tw_347 dX11_far_1 rfl rfl ⟨by decide, by decide⟩ (Nat.le_of_ble_eq_true rfl) ⟨by decide, by decide⟩ ?_
  refine g_if_eq (tgt := 14) hC dX11_far_4 (by decide) (fun hc4 => ?_) (fun hc4 => ?_)
  · rw [if_pos hc4] at h
    refine g_aload_n hC dX11_far_14 rfl ?_
    refine g_ldc hC tw_352 dX11_far_15 ?_
    obtain ⟨ho7, h⟩ := gd_some h
    obtain ⟨r8, S6, hr5, h⟩ := bd2_some h
    refine g_callV (rest := []) hC mi_X11_told (k_X11_told hr5) ck_X11.1 (by decide) ho7 tw_353 tw_355 ts_0 dX11_far_17 rfl rfl ⟨by decide, by decide⟩ (Nat.le_of_ble_eq_true rfl) ⟨by decide, by decide⟩ ?_
    cases h
    exact g_iret hC hR dX11_far_20 (by decide) (by decide)
  · rw [if_neg hc4] at h
    refine g_iload_n hC dX11_far_7 rfl ?_
    obtain ⟨r11, S10, hr9, h⟩ := bd2_some h
    refine g_callS (rest := []) hC mi_X11_isTown (k_X11_isTown hr9) tw_346 tw_347 dX11_far_8 rfl rfl ⟨by decide, by decide⟩ (Nat.le_of_ble_eq_true rfl) ⟨by decide, by decide⟩ ?_
    refine g_if_ne (tgt := 21) hC dX11_far_11 (by decide) (fun hc12 => ?_) (fun hc12 => ?_)
    · rw [if_neg hc12] at h
      refine g_aload_n hC dX11_far_21 rfl ?_
      obtain ⟨ho13, h⟩ := gd_some h
      obtain ⟨q14, hq15, h⟩ := Option.bind_eq_some_iff.mp h
      refine g_getr (k := 1) (q := q14) hC ck_X11 (by decide) tw_303 rfl (by decide) dX11_far_22 ho13 hq15 ?_
      obtain ⟨ho18, h⟩ := gd_some h
      obtain ⟨S17, hr16, h⟩ := Option.bind_eq_some_iff.mp h
      refine g_callV (rest := []) hC mi_X10_measure (k_X10_measure hr16) ck_X10.1 (by decide) ho18 tw_396 tw_397 tw_398 dX11_far_25 rfl rfl ⟨by decide, by decide⟩ (Nat.le_of_ble_eq_true rfl) ⟨by decide, by decide⟩ ?_
      refine g_aload_n hC dX11_far_28 rfl ?_
      obtain ⟨ho19, h⟩ := gd_some h
      obtain ⟨q20, hq21, h⟩ := Option.bind_eq_some_iff.mp h
      refine g_getr (k := 1) (q := q20) hC ck_X11 (by decide) tw_303 rfl (by decide) dX11_far_29 ho19 hq21 ?_
      refine g_iload_n hC dX11_far_32 rfl ?_
      refine g_iload_n hC dX11_far_33 rfl ?_
      obtain ⟨ho24, h⟩ := gd_some h
      obtain ⟨r25, S23, hr22, h⟩ := bd2_some h
      refine g_callV (rest := []) hC mi_X10_between (k_X10_between hr22) ck_X10.1 (by decide) ho24 tw_409 tw_410 tw_411 dX11_far_34 rfl rfl ⟨by decide, by decide⟩ (Nat.le_of_ble_eq_true rfl) ⟨by decide, by decide⟩ ?_
      refine g_istore_n (L' := [(3, .int r25), (0, .ref a0), (1, .int a1), (2, .int a2)]) hC dX11_far_37 (by decide) rfl ?_
      refine g_aload_n hC dX11_far_38 rfl ?_
      refine g_iload_n hC dX11_far_39 rfl ?_
      refine g_ldc hC tw_413 dX11_far_40 ?_
      refine g_icmp_ne (tgt := 50) hC dX11_far_42 (by decide) (fun hc26 => ?_) (fun hc26 => ?_)
      · rw [if_neg hc26] at h
        refine g_iload_n hC dX11_far_50 rfl ?_
        obtain ⟨ho29, h⟩ := gd_some h
        obtain ⟨r30, S28, hr27, h⟩ := bd2_some h
        refine g_callV (rest := []) hC mi_X11_told (k_X11_told hr27) ck_X11.1 (by decide) ho29 tw_353 tw_355 ts_0 dX11_far_51 rfl rfl ⟨by decide, by decide⟩ (Nat.le_of_ble_eq_true rfl) ⟨by decide, by decide⟩ ?_
        cases h
        exact g_iret hC hR dX11_far_54 (by decide) (by decide)
      · rw [if_pos hc26] at h
        refine g_ldc hC tw_414 dX11_far_45 ?_
        refine g_goto (tgt := 51) hC dX11_far_47 (by decide) ?_
        obtain ⟨ho33, h⟩ := gd_some h
        obtain ⟨r34, S32, hr31, h⟩ := bd2_some h
        refine g_callV (rest := []) hC mi_X11_told (k_X11_told hr31) ck_X11.1 (by decide) ho33 tw_353 tw_355 ts_0 dX11_far_51 rfl rfl ⟨by decide, by decide⟩ (Nat.le_of_ble_eq_true rfl) ⟨by decide, by decide⟩ ?_
        cases h
        exact g_iret hC hR dX11_far_54 (by decide) (by decide)
    · rw [if_pos hc12] at h
      refine g_aload_n hC dX11_far_14 rfl ?_
      refine g_ldc hC tw_352 dX11_far_15 ?_
      obtain ⟨ho37, h⟩ := gd_some h
      obtain ⟨r38, S36, hr35, h⟩ := bd2_some h
      refine g_callV (rest := []) hC mi_X11_told (k_X11_told hr35) ck_X11.1 (by decide) ho37 tw_353 tw_355 ts_0 dX11_far_17 rfl rfl ⟨by decide, by decide⟩ (Nat.le_of_ble_eq_true rfl) ⟨by decide, by decide⟩ ?_
      cases h
      exact g_iret hC hR dX11_far_20 (by decide) (by decide)
