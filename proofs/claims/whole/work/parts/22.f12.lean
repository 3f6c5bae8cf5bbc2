theorem mi_X12_sheet : MI yX12_sheet cX12_sheet 5 (some .int) 3 := ⟨tw_1353, tw_14, by decide +kernel, by decide +kernel, by decide +kernel⟩
noncomputable def B_X12_sheet_0 (S : Wd) (a0 : Nat) (a1 : Int32) (a2 : Int32) (a3 : Int32) : Option ((Int32 × Wd) ⊕ Cs) := bd2 (f_X12_isSheet S a1) (fun r3 S2 => if r3 = 0 then (gd (ob S2 a0 12) (bd2 (f_X12_finding S2 a0 (-100001 : Int32)) (fun r8 S6 => some (.inl (r8, S6))))) else (if a2 = 0 then (if 0 ≤ a3 then (if a3 ≤ (20 : Int32) then (gd (ob S2 a0 12) (Option.bind (wO S2 a0 4) (fun q13 => gd (ix S2 q13 100 a1) (ltS (sI S2 q13 a1.toNatClampNeg a2) (fun S16 => gd (ob S16 a0 12) (Option.bind (wO S16 a0 5) (fun q19 => if a2 = 0 then (gd (ix S16 q19 100 a1) (ltS (sI S16 q19 a1.toNatClampNeg (0 : Int32)) (fun S26 => some (.inr (1, [a0], [a1, a2, a3, (0 : Int32)], S26))))) else (gd (ix S16 q19 100 a1) (ltS (sI S16 q19 a1.toNatClampNeg a3) (fun S23 => some (.inr (1, [a0], [a1, a2, a3, (0 : Int32)], S23)))))))))))) else (gd (ob S2 a0 12) (bd2 (f_X12_finding S2 a0 (-100001 : Int32)) (fun r31 S29 => some (.inl (r31, S29)))))) else (gd (ob S2 a0 12) (bd2 (f_X12_finding S2 a0 (-100003 : Int32)) (fun r35 S33 => some (.inl (r35, S33)))))) else (if a2 = (8 : Int32) then (if 0 ≤ a3 then (if a3 ≤ (20 : Int32) then (gd (ob S2 a0 12) (Option.bind (wO S2 a0 4) (fun q40 => gd (ix S2 q40 100 a1) (ltS (sI S2 q40 a1.toNatClampNeg a2) (fun S43 => gd (ob S43 a0 12) (Option.bind (wO S43 a0 5) (fun q46 => if a2 = 0 then (gd (ix S43 q46 100 a1) (ltS (sI S43 q46 a1.toNatClampNeg (0 : Int32)) (fun S53 => some (.inr (1, [a0], [a1, a2, a3, (0 : Int32)], S53))))) else (gd (ix S43 q46 100 a1) (ltS (sI S43 q46 a1.toNatClampNeg a3) (fun S50 => some (.inr (1, [a0], [a1, a2, a3, (0 : Int32)], S50)))))))))))) else (gd (ob S2 a0 12) (bd2 (f_X12_finding S2 a0 (-100001 : Int32)) (fun r58 S56 => some (.inl (r58, S56)))))) else (gd (ob S2 a0 12) (bd2 (f_X12_finding S2 a0 (-100003 : Int32)) (fun r62 S60 => some (.inl (r62, S60)))))) else (if a2 = (16 : Int32) then (if 0 ≤ a3 then (if a3 ≤ (20 : Int32) then (gd (ob S2 a0 12) (Option.bind (wO S2 a0 4) (fun q67 => gd (ix S2 q67 100 a1) (ltS (sI S2 q67 a1.toNatClampNeg a2) (fun S70 => gd (ob S70 a0 12) (Option.bind (wO S70 a0 5) (fun q73 => if a2 = 0 then (gd (ix S70 q73 100 a1) (ltS (sI S70 q73 a1.toNatClampNeg (0 : Int32)) (fun S80 => some (.inr (1, [a0], [a1, a2, a3, (0 : Int32)], S80))))) else (gd (ix S70 q73 100 a1) (ltS (sI S70 q73 a1.toNatClampNeg a3) (fun S77 => some (.inr (1, [a0], [a1, a2, a3, (0 : Int32)], S77)))))))))))) else (gd (ob S2 a0 12) (bd2 (f_X12_finding S2 a0 (-100001 : Int32)) (fun r85 S83 => some (.inl (r85, S83)))))) else (gd (ob S2 a0 12) (bd2 (f_X12_finding S2 a0 (-100003 : Int32)) (fun r89 S87 => some (.inl (r89, S87)))))) else (if a2 = (32 : Int32) then (if 0 ≤ a3 then (if a3 ≤ (20 : Int32) then (gd (ob S2 a0 12) (Option.bind (wO S2 a0 4) (fun q94 => gd (ix S2 q94 100 a1) (ltS (sI S2 q94 a1.toNatClampNeg a2) (fun S97 => gd (ob S97 a0 12) (Option.bind (wO S97 a0 5) (fun q100 => if a2 = 0 then (gd (ix S97 q100 100 a1) (ltS (sI S97 q100 a1.toNatClampNeg (0 : Int32)) (fun S107 => some (.inr (1, [a0], [a1, a2, a3, (0 : Int32)], S107))))) else (gd (ix S97 q100 100 a1) (ltS (sI S97 q100 a1.toNatClampNeg a3) (fun S104 => some (.inr (1, [a0], [a1, a2, a3, (0 : Int32)], S104)))))))))))) else (gd (ob S2 a0 12) (bd2 (f_X12_finding S2 a0 (-100001 : Int32)) (fun r112 S110 => some (.inl (r112, S110)))))) else (gd (ob S2 a0 12) (bd2 (f_X12_finding S2 a0 (-100003 : Int32)) (fun r116 S114 => some (.inl (r116, S114)))))) else (gd (ob S2 a0 12) (bd2 (f_X12_finding S2 a0 (-100001 : Int32)) (fun r120 S118 => some (.inl (r120, S118))))))))))
noncomputable def B_X12_sheet_1 (S : Wd) (x0 : Nat) (x1 : Int32) (x2 : Int32) (x3 : Int32) (x4 : Int32) : Option ((Int32 × Wd) ⊕ Cs) := if (20 : Int32) ≤ x4 then (gd (ob S x0 12) (Option.bind (wO S x0 5) (fun q123 => gd (ix S q123 100 x1) (some (.inl ((wI S q123 x1.toNatClampNeg), S)))))) else (gd (ob S x0 12) (Option.bind (wO S x0 6) (fun q127 => gd (ix S q127 100 (((20 : Int32) * x1) + x4)) (ltS (sI S q127 (((20 : Int32) * x1) + x4).toNatClampNeg (0 : Int32)) (fun S130 => some (.inr (1, [x0], [x1, x2, x3, (x4 + (1 : Int32))], S130)))))))
noncomputable def B_X12_sheet : Cs → Option ((Int32 × Wd) ⊕ Cs)
  | (0, [a0], [a1, a2, a3], S) => B_X12_sheet_0 S a0 a1 a2 a3
  | (1, [x0], [x1, x2, x3, x4], S) => B_X12_sheet_1 S x0 x1 x2 x3 x4
  | _ => none
def P_X12_sheet : Cs → Option (Nat × List (Nat × Value) × Wd × Nat × Nat)
  | (0, [a0], [a1, a2, a3], S) => some (0, [(0, .ref a0), (1, .int a1), (2, .int a2), (3, .int a3)], S, 0, 0)
  | (1, [x0], [x1, x2, x3, x4], S) => some (85, [(0, .ref x0), (1, .int x1), (2, .int x2), (3, .int x3), (4, .int x4)], S, 0, 0)
  | _ => none
noncomputable def f_X12_sheet (S : Wd) (a0 : Nat) (a1 : Int32) (a2 : Int32) (a3 : Int32) : Option (Int32 × Wd) := ru B_X12_sheet (0, [a0], [a1, a2, a3], S)
abbrev N_X12_sheet (b : Bd) (r : Int32 × Wd) (c : (Int32 × Wd) ⊕ Cs) : Prop := match c with
  | .inl r' => r' = r
  | .inr s' => ∀ pc L S kc ks, P_X12_sheet s' = some (pc, L, S, kc, ks) → G b pc L [] S kc ks
set_option maxRecDepth 100000 in
set_option maxHeartbeats 4000000 in
theorem w_X12_sheet_0 {b : Bd} {r : Int32 × Wd} (hC : CX b yX12_sheet.cls cX12_sheet 5 { frames := 2, cells := 0, slots := 0, locals := 42 }) (hin : yX12_sheet.name = "<init>" → b.2.2.2.2.2.2.2.2.1.name = "<init>") (hR : RT b (some .int) (some (.int r.1)) r.2 0 0) {S : Wd} {a0 : Nat} {a1 : Int32} {a2 : Int32} {a3 : Int32} {c : (Int32 × Wd) ⊕ Cs} (h : B_X12_sheet_0 S a0 a1 a2 a3 = some c) (hk : N_X12_sheet b r c) : G b 0 [(0, .ref a0), (1, .int a1), (2, .int a2), (3, .int a3)] [] S 0 0 := by
  unfold B_X12_sheet_0 at h
  refine g_iload_n hC dX12_sheet_0 rfl ?_
  obtain ⟨r3, S2, hr1, h⟩ := bd2_some h
  refine g_callS (rest := []) hC mi_X12_isSheet (k_X12_isSheet hr1) tw_1235 tw_1236 dX12_sheet_1 rfl rfl ⟨by decide, by decide⟩ (Nat.le_of_ble_eq_true rfl) ⟨by decide, by decide⟩ ?_
  refine g_if_eq (tgt := 29) hC dX12_sheet_4 (by decide) (fun hc4 => ?_) (fun hc4 => ?_)
  · rw [if_pos hc4] at h
    refine g_aload_n hC dX12_sheet_29 rfl ?_
    refine g_ldc hC tw_1083 dX12_sheet_30 ?_
    obtain ⟨ho7, h⟩ := gd_some h
    obtain ⟨r8, S6, hr5, h⟩ := bd2_some h
    refine g_callV (rest := []) hC mi_X12_finding (k_X12_finding hr5) ck_X12.1 (by decide) ho7 tw_1069 tw_1071 ts_24 dX12_sheet_32 rfl rfl ⟨by decide, by decide⟩ (Nat.le_of_ble_eq_true rfl) ⟨by decide, by decide⟩ ?_
    cases h
    subst hk
    exact g_iret hC hR dX12_sheet_35 (by decide) (by decide)
  · rw [if_neg hc4] at h
    refine g_iload_n hC dX12_sheet_7 rfl ?_
    refine g_if_eq (tgt := 36) hC dX12_sheet_8 (by decide) (fun hc9 => ?_) (fun hc9 => ?_)
    · rw [if_pos hc9] at h
      refine g_iload_n hC dX12_sheet_36 rfl ?_
      refine g_if_ge (tgt := 47) hC dX12_sheet_37 (by decide) (fun hc10 => ?_) (fun hc10 => ?_)
      · rw [if_pos hc10] at h
        refine g_iload_n hC dX12_sheet_47 rfl ?_
        refine g_bipush (v := (20 : Int32)) hC dX12_sheet_48 (by decide) ?_
        refine g_icmp_le (tgt := 60) hC dX12_sheet_50 (by decide) (fun hc11 => ?_) (fun hc11 => ?_)
        · rw [if_pos hc11] at h
          refine g_aload_n hC dX12_sheet_60 rfl ?_
          obtain ⟨ho12, h⟩ := gd_some h
          obtain ⟨q13, hq14, h⟩ := Option.bind_eq_some_iff.mp h
          refine g_getr (k := 4) (q := q13) hC ck_X12 (by decide) tw_988 rfl (by decide) dX12_sheet_61 ho12 hq14 ?_
          refine g_iload_n hC dX12_sheet_64 rfl ?_
          refine g_iload_n hC dX12_sheet_65 rfl ?_
          obtain ⟨hx15, h⟩ := gd_some h
          refine g_iast hC dX12_sheet_66 hx15.1 hx15.2 ?_
          refine g_name (fun S16 eS17 => ?_)
          have h := ltS_use eS17 h
          refine g_aload_n hC dX12_sheet_67 rfl ?_
          obtain ⟨ho18, h⟩ := gd_some h
          obtain ⟨q19, hq20, h⟩ := Option.bind_eq_some_iff.mp h
          refine g_getr (k := 5) (q := q19) hC ck_X12 (by decide) tw_989 rfl (by decide) dX12_sheet_68 ho18 hq20 ?_
          refine g_iload_n hC dX12_sheet_71 rfl ?_
          refine g_iload_n hC dX12_sheet_72 rfl ?_
          refine g_if_ne (tgt := 80) hC dX12_sheet_73 (by decide) (fun hc21 => ?_) (fun hc21 => ?_)
          · rw [if_neg hc21] at h
            refine g_iload_n hC dX12_sheet_80 rfl ?_
            obtain ⟨hx22, h⟩ := gd_some h
            refine g_iast hC dX12_sheet_81 hx22.1 hx22.2 ?_
            refine g_name (fun S23 eS24 => ?_)
            have h := ltS_use eS24 h
            refine g_iconst (v := (0 : Int32)) hC dX12_sheet_82 (by decide) ?_
            refine g_istore (L' := [(4, .int (0 : Int32)), (0, .ref a0), (1, .int a1), (2, .int a2), (3, .int a3)]) hC dX12_sheet_83 (by decide) rfl ?_
            cases h
            refine g_pick (L' := [(0, .ref a0), (1, .int a1), (2, .int a2), (3, .int a3), (4, .int (0 : Int32))]) [1, 2, 3, 4, 0] rfl ?_
            exact hk _ _ _ _ _ rfl
          · rw [if_pos hc21] at h
            refine g_iconst (v := (0 : Int32)) hC dX12_sheet_76 (by decide) ?_
            refine g_goto (tgt := 81) hC dX12_sheet_77 (by decide) ?_
            obtain ⟨hx25, h⟩ := gd_some h
            refine g_iast hC dX12_sheet_81 hx25.1 hx25.2 ?_
            refine g_name (fun S26 eS27 => ?_)
            have h := ltS_use eS27 h
            refine g_iconst (v := (0 : Int32)) hC dX12_sheet_82 (by decide) ?_
            refine g_istore (L' := [(4, .int (0 : Int32)), (0, .ref a0), (1, .int a1), (2, .int a2), (3, .int a3)]) hC dX12_sheet_83 (by decide) rfl ?_
            cases h
            refine g_pick (L' := [(0, .ref a0), (1, .int a1), (2, .int a2), (3, .int a3), (4, .int (0 : Int32))]) [1, 2, 3, 4, 0] rfl ?_
            exact hk _ _ _ _ _ rfl
        · rw [if_neg hc11] at h
          refine g_aload_n hC dX12_sheet_53 rfl ?_
          refine g_ldc hC tw_1083 dX12_sheet_54 ?_
          obtain ⟨ho30, h⟩ := gd_some h
          obtain ⟨r31, S29, hr28, h⟩ := bd2_some h
          refine g_callV (rest := []) hC mi_X12_finding (k_X12_finding hr28) ck_X12.1 (by decide) ho30 tw_1069 tw_1071 ts_24 dX12_sheet_56 rfl rfl ⟨by decide, by decide⟩ (Nat.le_of_ble_eq_true rfl) ⟨by decide, by decide⟩ ?_
          cases h
          subst hk
          exact g_iret hC hR dX12_sheet_59 (by decide) (by decide)
      · rw [if_neg hc10] at h
        refine g_aload_n hC dX12_sheet_40 rfl ?_
        refine g_ldc hC tw_1130 dX12_sheet_41 ?_
        obtain ⟨ho34, h⟩ := gd_some h
        obtain ⟨r35, S33, hr32, h⟩ := bd2_some h
        refine g_callV (rest := []) hC mi_X12_finding (k_X12_finding hr32) ck_X12.1 (by decide) ho34 tw_1069 tw_1071 ts_24 dX12_sheet_43 rfl rfl ⟨by decide, by decide⟩ (Nat.le_of_ble_eq_true rfl) ⟨by decide, by decide⟩ ?_
        cases h
        subst hk
        exact g_iret hC hR dX12_sheet_46 (by decide) (by decide)
    · rw [if_neg hc9] at h
      refine g_iload_n hC dX12_sheet_11 rfl ?_
      refine g_bipush (v := (8 : Int32)) hC dX12_sheet_12 (by decide) ?_
      refine g_icmp_eq (tgt := 36) hC dX12_sheet_14 (by decide) (fun hc36 => ?_) (fun hc36 => ?_)
      · rw [if_pos hc36] at h
        refine g_iload_n hC dX12_sheet_36 rfl ?_
        refine g_if_ge (tgt := 47) hC dX12_sheet_37 (by decide) (fun hc37 => ?_) (fun hc37 => ?_)
        · rw [if_pos hc37] at h
          refine g_iload_n hC dX12_sheet_47 rfl ?_
          refine g_bipush (v := (20 : Int32)) hC dX12_sheet_48 (by decide) ?_
          refine g_icmp_le (tgt := 60) hC dX12_sheet_50 (by decide) (fun hc38 => ?_) (fun hc38 => ?_)
          · rw [if_pos hc38] at h
            refine g_aload_n hC dX12_sheet_60 rfl ?_
            obtain ⟨ho39, h⟩ := gd_some h
            obtain ⟨q40, hq41, h⟩ := Option.bind_eq_some_iff.mp h
            refine g_getr (k := 4) (q := q40) hC ck_X12 (by decide) tw_988 rfl (by decide) dX12_sheet_61 ho39 hq41 ?_
            refine g_iload_n hC dX12_sheet_64 rfl ?_
            refine g_iload_n hC dX12_sheet_65 rfl ?_
            obtain ⟨hx42, h⟩ := gd_some h
            refine g_iast hC dX12_sheet_66 hx42.1 hx42.2 ?_
            refine g_name (fun S43 eS44 => ?_)
            have h := ltS_use eS44 h
            refine g_aload_n hC dX12_sheet_67 rfl ?_
            obtain ⟨ho45, h⟩ := gd_some h
            obtain ⟨q46, hq47, h⟩ := Option.bind_eq_some_iff.mp h
            refine g_getr (k := 5) (q := q46) hC ck_X12 (by decide) tw_989 rfl (by decide) dX12_sheet_68 ho45 hq47 ?_
            refine g_iload_n hC dX12_sheet_71 rfl ?_
            refine g_iload_n hC dX12_sheet_72 rfl ?_
            refine g_if_ne (tgt := 80) hC dX12_sheet_73 (by decide) (fun hc48 => ?_) (fun hc48 => ?_)
            · rw [if_neg hc48] at h
              refine g_iload_n hC dX12_sheet_80 rfl ?_
              obtain ⟨hx49, h⟩ := gd_some h
              refine g_iast hC dX12_sheet_81 hx49.1 hx49.2 ?_
              refine g_name (fun S50 eS51 => ?_)
              have h := ltS_use eS51 h
              refine g_iconst (v := (0 : Int32)) hC dX12_sheet_82 (by decide) ?_
              refine g_istore (L' := [(4, .int (0 : Int32)), (0, .ref a0), (1, .int a1), (2, .int a2), (3, .int a3)]) hC dX12_sheet_83 (by decide) rfl ?_
              cases h
              refine g_pick (L' := [(0, .ref a0), (1, .int a1), (2, .int a2), (3, .int a3), (4, .int (0 : Int32))]) [1, 2, 3, 4, 0] rfl ?_
              exact hk _ _ _ _ _ rfl
            · rw [if_pos hc48] at h
              refine g_iconst (v := (0 : Int32)) hC dX12_sheet_76 (by decide) ?_
              refine g_goto (tgt := 81) hC dX12_sheet_77 (by decide) ?_
              obtain ⟨hx52, h⟩ := gd_some h
              refine g_iast hC dX12_sheet_81 hx52.1 hx52.2 ?_
              refine g_name (fun S53 eS54 => ?_)
              have h := ltS_use eS54 h
              refine g_iconst (v := (0 : Int32)) hC dX12_sheet_82 (by decide) ?_
              refine g_istore (L' := [(4, .int (0 : Int32)), (0, .ref a0), (1, .int a1), (2, .int a2), (3, .int a3)]) hC dX12_sheet_83 (by decide) rfl ?_
              cases h
              refine g_pick (L' := [(0, .ref a0), (1, .int a1), (2, .int a2), (3, .int a3), (4, .int (0 : Int32))]) [1, 2, 3, 4, 0] rfl ?_
              exact hk _ _ _ _ _ rfl
          · rw [if_neg hc38] at h
            refine g_aload_n hC dX12_sheet_53 rfl ?_
            refine g_ldc hC tw_1083 dX12_sheet_54 ?_
            obtain ⟨ho57, h⟩ := gd_some h
            obtain ⟨r58, S56, hr55, h⟩ := bd2_some h
            refine g_callV (rest := []) hC mi_X12_finding (k_X12_finding hr55) ck_X12.1 (by decide) ho57 tw_1069 tw_1071 ts_24 dX12_sheet_56 rfl rfl ⟨by decide, by decide⟩ (Nat.le_of_ble_eq_true rfl) ⟨by decide, by decide⟩ ?_
            cases h
            subst hk
            exact g_iret hC hR dX12_sheet_59 (by decide) (by decide)
        · rw [if_neg hc37] at h
          refine g_aload_n hC dX12_sheet_40 rfl ?_
          refine g_ldc hC tw_1130 dX12_sheet_41 ?_
          obtain ⟨ho61, h⟩ := gd_some h
          obtain ⟨r62, S60, hr59, h⟩ := bd2_some h
          refine g_callV (rest := []) hC mi_X12_finding (k_X12_finding hr59) ck_X12.1 (by decide) ho61 tw_1069 tw_1071 ts_24 dX12_sheet_43 rfl rfl ⟨by decide, by decide⟩ (Nat.le_of_ble_eq_true rfl) ⟨by decide, by decide⟩ ?_
          cases h
          subst hk
          exact g_iret hC hR dX12_sheet_46 (by decide) (by decide)
      · rw [if_neg hc36] at h
        refine g_iload_n hC dX12_sheet_17 rfl ?_
        refine g_bipush (v := (16 : Int32)) hC dX12_sheet_18 (by decide) ?_
        refine g_icmp_eq (tgt := 36) hC dX12_sheet_20 (by decide) (fun hc63 => ?_) (fun hc63 => ?_)
        · rw [if_pos hc63] at h
          refine g_iload_n hC dX12_sheet_36 rfl ?_
          refine g_if_ge (tgt := 47) hC dX12_sheet_37 (by decide) (fun hc64 => ?_) (fun hc64 => ?_)
          · rw [if_pos hc64] at h
            refine g_iload_n hC dX12_sheet_47 rfl ?_
            refine g_bipush (v := (20 : Int32)) hC dX12_sheet_48 (by decide) ?_
            refine g_icmp_le (tgt := 60) hC dX12_sheet_50 (by decide) (fun hc65 => ?_) (fun hc65 => ?_)
            · rw [if_pos hc65] at h
              refine g_aload_n hC dX12_sheet_60 rfl ?_
              obtain ⟨ho66, h⟩ := gd_some h
              obtain ⟨q67, hq68, h⟩ := Option.bind_eq_some_iff.mp h
              refine g_getr (k := 4) (q := q67) hC ck_X12 (by decide) tw_988 rfl (by decide) dX12_sheet_61 ho66 hq68 ?_
              refine g_iload_n hC dX12_sheet_64 rfl ?_
              refine g_iload_n hC dX12_sheet_65 rfl ?_
              obtain ⟨hx69, h⟩ := gd_some h
              refine g_iast hC dX12_sheet_66 hx69.1 hx69.2 ?_
              refine g_name (fun S70 eS71 => ?_)
              have h := ltS_use eS71 h
              refine g_aload_n hC dX12_sheet_67 rfl ?_
              obtain ⟨ho72, h⟩ := gd_some h
              obtain ⟨q73, hq74, h⟩ := Option.bind_eq_some_iff.mp h
              refine g_getr (k := 5) (q := q73) hC ck_X12 (by decide) tw_989 rfl (by decide) dX12_sheet_68 ho72 hq74 ?_
              refine g_iload_n hC dX12_sheet_71 rfl ?_
              refine g_iload_n hC dX12_sheet_72 rfl ?_
              refine g_if_ne (tgt := 80) hC dX12_sheet_73 (by decide) (fun hc75 => ?_) (fun hc75 => ?_)
              · rw [if_neg hc75] at h
                refine g_iload_n hC dX12_sheet_80 rfl ?_
                obtain ⟨hx76, h⟩ := gd_some h
                refine g_iast hC dX12_sheet_81 hx76.1 hx76.2 ?_
                refine g_name (fun S77 eS78 => ?_)
                have h := ltS_use eS78 h
                refine g_iconst (v := (0 : Int32)) hC dX12_sheet_82 (by decide) ?_
                refine g_istore (L' := [(4, .int (0 : Int32)), (0, .ref a0), (1, .int a1), (2, .int a2), (3, .int a3)]) hC dX12_sheet_83 (by decide) rfl ?_
                cases h
                refine g_pick (L' := [(0, .ref a0), (1, .int a1), (2, .int a2), (3, .int a3), (4, .int (0 : Int32))]) [1, 2, 3, 4, 0] rfl ?_
                exact hk _ _ _ _ _ rfl
              · rw [if_pos hc75] at h
                refine g_iconst (v := (0 : Int32)) hC dX12_sheet_76 (by decide) ?_
                refine g_goto (tgt := 81) hC dX12_sheet_77 (by decide) ?_
                obtain ⟨hx79, h⟩ := gd_some h
                refine g_iast hC dX12_sheet_81 hx79.1 hx79.2 ?_
                refine g_name (fun S80 eS81 => ?_)
                have h := ltS_use eS81 h
                refine g_iconst (v := (0 : Int32)) hC dX12_sheet_82 (by decide) ?_
                refine g_istore (L' := [(4, .int (0 : Int32)), (0, .ref a0), (1, .int a1), (2, .int a2), (3, .int a3)]) hC dX12_sheet_83 (by decide) rfl ?_
                cases h
                refine g_pick (L' := [(0, .ref a0), (1, .int a1), (2, .int a2), (3, .int a3), (4, .int (0 : Int32))]) [1, 2, 3, 4, 0] rfl ?_
                exact hk _ _ _ _ _ rfl
            · rw [if_neg hc65] at h
              refine g_aload_n hC dX12_sheet_53 rfl ?_
              refine g_ldc hC tw_1083 dX12_sheet_54 ?_
              obtain ⟨ho84, h⟩ := gd_some h
              obtain ⟨r85, S83, hr82, h⟩ := bd2_some h
              refine g_callV (rest := []) hC mi_X12_finding (k_X12_finding hr82) ck_X12.1 (by decide) ho84 tw_1069 tw_1071 ts_24 dX12_sheet_56 rfl rfl ⟨by decide, by decide⟩ (Nat.le_of_ble_eq_true rfl) ⟨by decide, by decide⟩ ?_
              cases h
              subst hk
              exact g_iret hC hR dX12_sheet_59 (by decide) (by decide)
          · rw [if_neg hc64] at h
            refine g_aload_n hC dX12_sheet_40 rfl ?_
            refine g_ldc hC tw_1130 dX12_sheet_41 ?_
            obtain ⟨ho88, h⟩ := gd_some h
            obtain ⟨r89, S87, hr86, h⟩ := bd2_some h
            refine g_callV (rest := []) hC mi_X12_finding (k_X12_finding hr86) ck_X12.1 (by decide) ho88 tw_1069 tw_1071 ts_24 dX12_sheet_43 rfl rfl ⟨by decide, by decide⟩ (Nat.le_of_ble_eq_true rfl) ⟨by decide, by decide⟩ ?_
            cases h
            subst hk
            exact g_iret hC hR dX12_sheet_46 (by decide) (by decide)
        · rw [if_neg hc63] at h
          refine g_iload_n hC dX12_sheet_23 rfl ?_
          refine g_bipush (v := (32 : Int32)) hC dX12_sheet_24 (by decide) ?_
          refine g_icmp_eq (tgt := 36) hC dX12_sheet_26 (by decide) (fun hc90 => ?_) (fun hc90 => ?_)
          · rw [if_pos hc90] at h
            refine g_iload_n hC dX12_sheet_36 rfl ?_
            refine g_if_ge (tgt := 47) hC dX12_sheet_37 (by decide) (fun hc91 => ?_) (fun hc91 => ?_)
            · rw [if_pos hc91] at h
              refine g_iload_n hC dX12_sheet_47 rfl ?_
              refine g_bipush (v := (20 : Int32)) hC dX12_sheet_48 (by decide) ?_
              refine g_icmp_le (tgt := 60) hC dX12_sheet_50 (by decide) (fun hc92 => ?_) (fun hc92 => ?_)
              · rw [if_pos hc92] at h
                refine g_aload_n hC dX12_sheet_60 rfl ?_
                obtain ⟨ho93, h⟩ := gd_some h
                obtain ⟨q94, hq95, h⟩ := Option.bind_eq_some_iff.mp h
                refine g_getr (k := 4) (q := q94) hC ck_X12 (by decide) tw_988 rfl (by decide) dX12_sheet_61 ho93 hq95 ?_
                refine g_iload_n hC dX12_sheet_64 rfl ?_
                refine g_iload_n hC dX12_sheet_65 rfl ?_
                obtain ⟨hx96, h⟩ := gd_some h
                refine g_iast hC dX12_sheet_66 hx96.1 hx96.2 ?_
                refine g_name (fun S97 eS98 => ?_)
                have h := ltS_use eS98 h
                refine g_aload_n hC dX12_sheet_67 rfl ?_
                obtain ⟨ho99, h⟩ := gd_some h
                obtain ⟨q100, hq101, h⟩ := Option.bind_eq_some_iff.mp h
                refine g_getr (k := 5) (q := q100) hC ck_X12 (by decide) tw_989 rfl (by decide) dX12_sheet_68 ho99 hq101 ?_
                refine g_iload_n hC dX12_sheet_71 rfl ?_
                refine g_iload_n hC dX12_sheet_72 rfl ?_
                refine g_if_ne (tgt := 80) hC dX12_sheet_73 (by decide) (fun hc102 => ?_) (fun hc102 => ?_)
                · rw [if_neg hc102] at h
                  refine g_iload_n hC dX12_sheet_80 rfl ?_
                  obtain ⟨hx103, h⟩ := gd_some h
                  refine g_iast hC dX12_sheet_81 hx103.1 hx103.2 ?_
                  refine g_name (fun S104 eS105 => ?_)
                  have h := ltS_use eS105 h
                  refine g_iconst (v := (0 : Int32)) hC dX12_sheet_82 (by decide) ?_
                  refine g_istore (L' := [(4, .int (0 : Int32)), (0, .ref a0), (1, .int a1), (2, .int a2), (3, .int a3)]) hC dX12_sheet_83 (by decide) rfl ?_
                  cases h
                  refine g_pick (L' := [(0, .ref a0), (1, .int a1), (2, .int a2), (3, .int a3), (4, .int (0 : Int32))]) [1, 2, 3, 4, 0] rfl ?_
                  exact hk _ _ _ _ _ rfl
                · rw [if_pos hc102] at h
                  refine g_iconst (v := (0 : Int32)) hC dX12_sheet_76 (by decide) ?_
                  refine g_goto (tgt := 81) hC dX12_sheet_77 (by decide) ?_
                  obtain ⟨hx106, h⟩ := gd_some h
                  refine g_iast hC dX12_sheet_81 hx106.1 hx106.2 ?_
                  refine g_name (fun S107 eS108 => ?_)
                  have h := ltS_use eS108 h
                  refine g_iconst (v := (0 : Int32)) hC dX12_sheet_82 (by decide) ?_
                  refine g_istore (L' := [(4, .int (0 : Int32)), (0, .ref a0), (1, .int a1), (2, .int a2), (3, .int a3)]) hC dX12_sheet_83 (by decide) rfl ?_
                  cases h
                  refine g_pick (L' := [(0, .ref a0), (1, .int a1), (2, .int a2), (3, .int a3), (4, .int (0 : Int32))]) [1, 2, 3, 4, 0] rfl ?_
                  exact hk _ _ _ _ _ rfl
              · rw [if_neg hc92] at h
                refine g_aload_n hC dX12_sheet_53 rfl ?_
                refine g_ldc hC tw_1083 dX12_sheet_54 ?_
                obtain ⟨ho111, h⟩ := gd_some h
                obtain ⟨r112, S110, hr109, h⟩ := bd2_some h
                refine g_callV (rest := []) hC mi_X12_finding (k_X12_finding hr109) ck_X12.1 (by decide) ho111 tw_1069 tw_1071 ts_24 dX12_sheet_56 rfl rfl ⟨by decide, by decide⟩ (Nat.le_of_ble_eq_true rfl) ⟨by decide, by decide⟩ ?_
                cases h
                subst hk
                exact g_iret hC hR dX12_sheet_59 (by decide) (by decide)
            · rw [if_neg hc91] at h
              refine g_aload_n hC dX12_sheet_40 rfl ?_
              refine g_ldc hC tw_1130 dX12_sheet_41 ?_
              obtain ⟨ho115, h⟩ := gd_some h
              obtain ⟨r116, S114, hr113, h⟩ := bd2_some h
              refine g_callV (rest := []) hC mi_X12_finding (k_X12_finding hr113) ck_X12.1 (by decide) ho115 tw_1069 tw_1071 ts_24 dX12_sheet_43 rfl rfl ⟨by decide, by decide⟩ (Nat.le_of_ble_eq_true rfl) ⟨by decide, by decide⟩ ?_
              cases h
              subst hk
              exact g_iret hC hR dX12_sheet_46 (by decide) (by decide)
          · rw [if_neg hc90] at h
            refine g_aload_n hC dX12_sheet_29 rfl ?_
            refine g_ldc hC tw_1083 dX12_sheet_30 ?_
            obtain ⟨ho119, h⟩ := gd_some h
            obtain ⟨r120, S118, hr117, h⟩ := bd2_some h
            refine g_callV (rest := []) hC mi_X12_finding (k_X12_finding hr117) ck_X12.1 (by decide) ho119 tw_1069 tw_1071 ts_24 dX12_sheet_32 rfl rfl ⟨by decide, by decide⟩ (Nat.le_of_ble_eq_true rfl) ⟨by decide, by decide⟩ ?_
            cases h
            subst hk
            exact g_iret hC hR dX12_sheet_35 (by decide) (by decide)
set_option maxRecDepth 100000 in
set_option maxHeartbeats 4000000 in
theorem w_X12_sheet_1 {b : Bd} {r : Int32 × Wd} (hC : CX b yX12_sheet.cls cX12_sheet 5 { frames := 2, cells := 0, slots := 0, locals := 42 }) (hin : yX12_sheet.name = "<init>" → b.2.2.2.2.2.2.2.2.1.name = "<init>") (hR : RT b (some .int) (some (.int r.1)) r.2 0 0) {S : Wd} {x0 : Nat} {x1 : Int32} {x2 : Int32} {x3 : Int32} {x4 : Int32} {c : (Int32 × Wd) ⊕ Cs} (h : B_X12_sheet_1 S x0 x1 x2 x3 x4 = some c) (hk : N_X12_sheet b r c) : G b 85 [(0, .ref x0), (1, .int x1), (2, .int x2), (3, .int x3), (4, .int x4)] [] S 0 0 := by
  unfold B_X12_sheet_1 at h
  refine g_iload hC dX12_sheet_85 rfl ?_
  refine g_bipush (v := (20 : Int32)) hC dX12_sheet_87 (by decide) ?_
  refine g_icmp_ge (tgt := 111) hC dX12_sheet_89 (by decide) (fun hc121 => ?_) (fun hc121 => ?_)
  · rw [if_pos hc121] at h
    refine g_aload_n hC dX12_sheet_111 rfl ?_
    obtain ⟨ho122, h⟩ := gd_some h
    obtain ⟨q123, hq124, h⟩ := Option.bind_eq_some_iff.mp h
    refine g_getr (k := 5) (q := q123) hC ck_X12 (by decide) tw_989 rfl (by decide) dX12_sheet_112 ho122 hq124 ?_
    refine g_iload_n hC dX12_sheet_115 rfl ?_
    obtain ⟨hx125, h⟩ := gd_some h
    refine g_iald hC dX12_sheet_116 hx125.1 hx125.2 ?_
    cases h
    subst hk
    exact g_iret hC hR dX12_sheet_117 (by decide) (by decide)
  · rw [if_neg hc121] at h
    refine g_aload_n hC dX12_sheet_92 rfl ?_
    obtain ⟨ho126, h⟩ := gd_some h
    obtain ⟨q127, hq128, h⟩ := Option.bind_eq_some_iff.mp h
    refine g_getr (k := 6) (q := q127) hC ck_X12 (by decide) tw_990 rfl (by decide) dX12_sheet_93 ho126 hq128 ?_
    refine g_bipush (v := (20 : Int32)) hC dX12_sheet_96 (by decide) ?_
    refine g_iload_n hC dX12_sheet_98 rfl ?_
    refine g_imul hC dX12_sheet_99 ?_
    refine g_iload hC dX12_sheet_100 rfl ?_
    refine g_iadd hC dX12_sheet_102 ?_
    refine g_iconst (v := (0 : Int32)) hC dX12_sheet_103 (by decide) ?_
    obtain ⟨hx129, h⟩ := gd_some h
    refine g_iast hC dX12_sheet_104 hx129.1 hx129.2 ?_
    refine g_name (fun S130 eS131 => ?_)
    have h := ltS_use eS131 h
    refine g_iinc (v := (1 : Int32)) (L' := [(4, .int (x4 + (1 : Int32))), (0, .ref x0), (1, .int x1), (2, .int x2), (3, .int x3)]) hC dX12_sheet_105 rfl (by decide) (by decide) rfl ?_
    refine g_goto (tgt := 85) hC dX12_sheet_108 (by decide) ?_
    cases h
    refine g_pick (L' := [(0, .ref x0), (1, .int x1), (2, .int x2), (3, .int x3), (4, .int (x4 + (1 : Int32)))]) [1, 2, 3, 4, 0] rfl ?_
    exact hk _ _ _ _ _ rfl
theorem w_X12_sheet {b : Bd} {r : Int32 × Wd} (hC : CX b yX12_sheet.cls cX12_sheet 5 { frames := 2, cells := 0, slots := 0, locals := 42 }) (hin : yX12_sheet.name = "<init>" → b.2.2.2.2.2.2.2.2.1.name = "<init>") (hR : RT b (some .int) (some (.int r.1)) r.2 0 0) {s : Cs} {c : (Int32 × Wd) ⊕ Cs} (h : B_X12_sheet s = some c) (hk : N_X12_sheet b r c) : ∀ pc L S kc ks, P_X12_sheet s = some (pc, L, S, kc, ks) → G b pc L [] S kc ks := by
  intro pc L S kc ks hp
  unfold B_X12_sheet at h
  split at h
  · cases hp
    exact w_X12_sheet_0 hC hin hR h hk
  · cases hp
    exact w_X12_sheet_1 hC hin hR h hk
  · cases h
theorem k_X12_sheet {S : Wd} {a0 : Nat} {a1 : Int32} {a2 : Int32} {a3 : Int32} {r : Int32} {S' : Wd} (h : f_X12_sheet S a0 a1 a2 a3 = some (r, S')) : Sp yX12_sheet cX12_sheet 5 (some .int) 2 42 0 0 [.ref a0, .int a1, .int a2, .int a3] S (some (.int r)) S' := by
  unfold f_X12_sheet at h
  refine Sp.of (by decide +kernel) (Nat.le_of_ble_eq_true rfl) ?_
  intro b hC hin hR
  exact ru_ind (P := fun s q0 => q0 = (r, S') → ∀ pc L S kc ks, P_X12_sheet s = some (pc, L, S, kc, ks) → G b pc L [] S kc ks) (fun s q0 hB e => w_X12_sheet (r := (r, S')) hC hin hR hB e) (fun s s' q0 hB ih e => w_X12_sheet (r := (r, S')) hC hin hR hB (ih e)) h rfl _ _ _ _ _ rfl

theorem mi_X12_put : MI yX12_put cX12_put 5 (some .int) 3 := ⟨tw_1357, tw_14, by decide +kernel, by decide +kernel, by decide +kernel⟩
noncomputable def f_X12_put (S : Wd) (a0 : Nat) (a1 : Int32) (a2 : Int32) (a3 : Int32) : Option (Int32 × Wd) := bd2 (f_X12_isSheet S a1) (fun r3 S2 => if r3 = 0 then (gd (ob S2 a0 12) (bd2 (f_X12_finding S2 a0 (-100001 : Int32)) (fun r39 S37 => some (r39, S37)))) else (gd (ob S2 a0 12) (Option.bind (wO S2 a0 4) (fun q6 => gd (ix S2 q6 100 a1) (if (wI S2 q6 a1.toNatClampNeg) = 0 then (gd (ob S2 a0 12) (bd2 (f_X12_finding S2 a0 (-100002 : Int32)) (fun r35 S33 => some (r35, S33)))) else (gd (ob S2 a0 12) (Option.bind (wO S2 a0 5) (fun q11 => gd (ix S2 q11 100 a1) (bd2 (f_X12_within S2 a2 (0 : Int32) ((wI S2 q11 a1.toNatClampNeg) - (1 : Int32))) (fun r16 S15 => if r16 = 0 then (gd (ob S15 a0 12) (bd2 (f_X12_finding S15 a0 (-100001 : Int32)) (fun r31 S29 => some (r31, S29)))) else (gd (ob S15 a0 12) (Option.bind (wO S15 a0 4) (fun q19 => gd (ix S15 q19 100 a1) (gd (ob S15 a0 12) (Option.bind (wO S15 a0 6) (fun q23 => gd (ix S15 q23 100 (((20 : Int32) * a1) + a2)) (ltS (sI S15 q23 (((20 : Int32) * a1) + a2).toNatClampNeg ((a3 <<< (((32 : Int32) - (wI S15 q19 a1.toNatClampNeg)) &&& 31)) >>> (((32 : Int32) - (wI S15 q19 a1.toNatClampNeg)) &&& 31))) (fun S26 => some ((0 : Int32), S26)))))))))))))))))))
set_option maxRecDepth 100000 in
set_option maxHeartbeats 4000000 in
theorem k_X12_put {S : Wd} {a0 : Nat} {a1 : Int32} {a2 : Int32} {a3 : Int32} {r : Int32} {S' : Wd} (h : f_X12_put S a0 a1 a2 a3 = some (r, S')) : Sp yX12_put cX12_put 5 (some .int) 2 42 0 0 [.ref a0, .int a1, .int a2, .int a3] S (some (.int r)) S' := by
  unfold f_X12_put at h
  refine Sp.of (by decide +kernel) (Nat.le_of_ble_eq_true rfl) ?_
  intro b hC hin hR
  show G b 0 [(0, .ref a0), (1, .int a1), (2, .int a2), (3, .int a3)] [] S 0 0
  refine g_iload_n hC dX12_put_0 rfl ?_
  obtain ⟨r3, S2, hr1, h⟩ := bd2_some h
  refine g_callS (rest := []) hC mi_X12_isSheet (k_X12_isSheet hr1) tw_1235 tw_1236 dX12_put_1 rfl rfl ⟨by decide, by decide⟩ (Nat.le_of_ble_eq_true rfl) ⟨by decide, by decide⟩ ?_
  refine g_if_ne (tgt := 14) hC dX12_put_4 (by decide) (fun hc4 => ?_) (fun hc4 => ?_)
  · rw [if_neg hc4] at h
    refine g_aload_n hC dX12_put_14 rfl ?_
    obtain ⟨ho5, h⟩ := gd_some h
    obtain ⟨q6, hq7, h⟩ := Option.bind_eq_some_iff.mp h
    refine g_getr (k := 4) (q := q6) hC ck_X12 (by decide) tw_988 rfl (by decide) dX12_put_15 ho5 hq7 ?_
    refine g_iload_n hC dX12_put_18 rfl ?_
    obtain ⟨hx8, h⟩ := gd_some h
    refine g_iald hC dX12_put_19 hx8.1 hx8.2 ?_
    refine g_if_ne (tgt := 30) hC dX12_put_20 (by decide) (fun hc9 => ?_) (fun hc9 => ?_)
    · rw [if_neg hc9] at h
      refine g_iload_n hC dX12_put_30 rfl ?_
      refine g_iconst (v := (0 : Int32)) hC dX12_put_31 (by decide) ?_
      refine g_aload_n hC dX12_put_32 rfl ?_
      obtain ⟨ho10, h⟩ := gd_some h
      obtain ⟨q11, hq12, h⟩ := Option.bind_eq_some_iff.mp h
      refine g_getr (k := 5) (q := q11) hC ck_X12 (by decide) tw_989 rfl (by decide) dX12_put_33 ho10 hq12 ?_
      refine g_iload_n hC dX12_put_36 rfl ?_
      obtain ⟨hx13, h⟩ := gd_some h
      refine g_iald hC dX12_put_37 hx13.1 hx13.2 ?_
      refine g_iconst (v := (1 : Int32)) hC dX12_put_38 (by decide) ?_
      refine g_isub hC dX12_put_39 ?_
      obtain ⟨r16, S15, hr14, h⟩ := bd2_some h
      refine g_callS (rest := []) hC mi_X12_within (k_X12_within hr14) tw_1080 tw_1081 dX12_put_40 rfl rfl ⟨by decide, by decide⟩ (Nat.le_of_ble_eq_true rfl) ⟨by decide, by decide⟩ ?_
      refine g_if_ne (tgt := 53) hC dX12_put_43 (by decide) (fun hc17 => ?_) (fun hc17 => ?_)
      · rw [if_neg hc17] at h
        refine g_bipush (v := (32 : Int32)) hC dX12_put_53 (by decide) ?_
        refine g_aload_n hC dX12_put_55 rfl ?_
        obtain ⟨ho18, h⟩ := gd_some h
        obtain ⟨q19, hq20, h⟩ := Option.bind_eq_some_iff.mp h
        refine g_getr (k := 4) (q := q19) hC ck_X12 (by decide) tw_988 rfl (by decide) dX12_put_56 ho18 hq20 ?_
        refine g_iload_n hC dX12_put_59 rfl ?_
        obtain ⟨hx21, h⟩ := gd_some h
        refine g_iald hC dX12_put_60 hx21.1 hx21.2 ?_
        refine g_isub hC dX12_put_61 ?_
        refine g_istore (L' := [(4, .int ((32 : Int32) - (wI S15 q19 a1.toNatClampNeg))), (0, .ref a0), (1, .int a1), (2, .int a2), (3, .int a3)]) hC dX12_put_62 (by decide) rfl ?_
        refine g_aload_n hC dX12_put_64 rfl ?_
        obtain ⟨ho22, h⟩ := gd_some h
        obtain ⟨q23, hq24, h⟩ := Option.bind_eq_some_iff.mp h
        refine g_getr (k := 6) (q := q23) hC ck_X12 (by decide) tw_990 rfl (by decide) dX12_put_65 ho22 hq24 ?_
        refine g_bipush (v := (20 : Int32)) hC dX12_put_68 (by decide) ?_
        refine g_iload_n hC dX12_put_70 rfl ?_
        refine g_imul hC dX12_put_71 ?_
        refine g_iload_n hC dX12_put_72 rfl ?_
        refine g_iadd hC dX12_put_73 ?_
        refine g_iload_n hC dX12_put_74 rfl ?_
        refine g_iload hC dX12_put_75 rfl ?_
        refine g_ishl hC dX12_put_77 ?_
        refine g_iload hC dX12_put_78 rfl ?_
        refine g_ishr hC dX12_put_80 ?_
        obtain ⟨hx25, h⟩ := gd_some h
        refine g_iast hC dX12_put_81 hx25.1 hx25.2 ?_
        refine g_name (fun S26 eS27 => ?_)
        have h := ltS_use eS27 h
        refine g_iconst (v := (0 : Int32)) hC dX12_put_82 (by decide) ?_
        cases h
        exact g_iret hC hR dX12_put_83 (by decide) (by decide)
      · rw [if_pos hc17] at h
        refine g_aload_n hC dX12_put_46 rfl ?_
        refine g_ldc hC tw_1083 dX12_put_47 ?_
        obtain ⟨ho30, h⟩ := gd_some h
        obtain ⟨r31, S29, hr28, h⟩ := bd2_some h
        refine g_callV (rest := []) hC mi_X12_finding (k_X12_finding hr28) ck_X12.1 (by decide) ho30 tw_1069 tw_1071 ts_24 dX12_put_49 rfl rfl ⟨by decide, by decide⟩ (Nat.le_of_ble_eq_true rfl) ⟨by decide, by decide⟩ ?_
        cases h
        exact g_iret hC hR dX12_put_52 (by decide) (by decide)
    · rw [if_pos hc9] at h
      refine g_aload_n hC dX12_put_23 rfl ?_
      refine g_ldc hC tw_1238 dX12_put_24 ?_
      obtain ⟨ho34, h⟩ := gd_some h
      obtain ⟨r35, S33, hr32, h⟩ := bd2_some h
      refine g_callV (rest := []) hC mi_X12_finding (k_X12_finding hr32) ck_X12.1 (by decide) ho34 tw_1069 tw_1071 ts_24 dX12_put_26 rfl rfl ⟨by decide, by decide⟩ (Nat.le_of_ble_eq_true rfl) ⟨by decide, by decide⟩ ?_
      cases h
      exact g_iret hC hR dX12_put_29 (by decide) (by decide)
  · rw [if_pos hc4] at h
    refine g_aload_n hC dX12_put_7 rfl ?_
    refine g_ldc hC tw_1083 dX12_put_8 ?_
    obtain ⟨ho38, h⟩ := gd_some h
    obtain ⟨r39, S37, hr36, h⟩ := bd2_some h
    refine g_callV (rest := []) hC mi_X12_finding (k_X12_finding hr36) ck_X12.1 (by decide) ho38 tw_1069 tw_1071 ts_24 dX12_put_10 rfl rfl ⟨by decide, by decide⟩ (Nat.le_of_ble_eq_true rfl) ⟨by decide, by decide⟩ ?_
    cases h
    exact g_iret hC hR dX12_put_13 (by decide) (by decide)

theorem mi_X12_copy : MI yX12_copy cX12_copy 7 (some .int) 5 := ⟨tw_1361, tw_14, by decide +kernel, by decide +kernel, by decide +kernel⟩
noncomputable def B_X12_copy_0 (S : Wd) (a0 : Nat) (a1 : Int32) (a2 : Int32) (a3 : Int32) (a4 : Int32) (a5 : Int32) : Option ((Int32 × Wd) ⊕ Cs) := bd2 (f_X12_isSheet S a1) (fun r3 S2 => if r3 = 0 then (gd (ob S2 a0 12) (bd2 (f_X12_finding S2 a0 (-100001 : Int32)) (fun r8 S6 => some (.inl (r8, S6))))) else (bd2 (f_X12_isSheet S2 a3) (fun r11 S10 => if r11 = 0 then (gd (ob S10 a0 12) (bd2 (f_X12_finding S10 a0 (-100001 : Int32)) (fun r80 S78 => some (.inl (r80, S78))))) else (gd (ob S10 a0 12) (Option.bind (wO S10 a0 4) (fun q14 => gd (ix S10 q14 100 a1) (if (wI S10 q14 a1.toNatClampNeg) = 0 then (gd (ob S10 a0 12) (bd2 (f_X12_finding S10 a0 (-100002 : Int32)) (fun r21 S19 => some (.inl (r21, S19))))) else (gd (ob S10 a0 12) (Option.bind (wO S10 a0 4) (fun q23 => gd (ix S10 q23 100 a3) (if (wI S10 q23 a3.toNatClampNeg) = 0 then (gd (ob S10 a0 12) (bd2 (f_X12_finding S10 a0 (-100002 : Int32)) (fun r76 S74 => some (.inl (r76, S74))))) else (gd (ob S10 a0 12) (Option.bind (wO S10 a0 4) (fun q28 => gd (ix S10 q28 100 a1) (gd (ob S10 a0 12) (Option.bind (wO S10 a0 4) (fun q32 => gd (ix S10 q32 100 a3) (if (wI S10 q28 a1.toNatClampNeg) = (wI S10 q32 a3.toNatClampNeg) then (if a2 < 0 then (gd (ob S10 a0 12) (bd2 (f_X12_finding S10 a0 (-100001 : Int32)) (fun r40 S38 => some (.inl (r40, S38))))) else (if a4 < 0 then (gd (ob S10 a0 12) (bd2 (f_X12_finding S10 a0 (-100001 : Int32)) (fun r45 S43 => some (.inl (r45, S43))))) else (if a5 < 0 then (gd (ob S10 a0 12) (bd2 (f_X12_finding S10 a0 (-100001 : Int32)) (fun r50 S48 => some (.inl (r50, S48))))) else (gd (ob S10 a0 12) (Option.bind (wO S10 a0 5) (fun q52 => gd (ix S10 q52 100 a1) (if 0 < (lg_cmp (a2.toInt64 + a5.toInt64) ((wI S10 q52 a1.toNatClampNeg).toInt64)) then (gd (ob S10 a0 12) (bd2 (f_X12_finding S10 a0 (-100001 : Int32)) (fun r59 S57 => some (.inl (r59, S57))))) else (gd (ob S10 a0 12) (Option.bind (wO S10 a0 5) (fun q61 => gd (ix S10 q61 100 a3) (if (lg_cmp (a4.toInt64 + a5.toInt64) ((wI S10 q61 a3.toNatClampNeg).toInt64)) ≤ 0 then (some (.inr (1, [a0], [a1, a2, a3, a4, a5, (0 : Int32)], S10))) else (gd (ob S10 a0 12) (bd2 (f_X12_finding S10 a0 (-100001 : Int32)) (fun r68 S66 => some (.inl (r68, S66)))))))))))))))) else (gd (ob S10 a0 12) (bd2 (f_X12_finding S10 a0 (-100004 : Int32)) (fun r72 S70 => some (.inl (r72, S70)))))))))))))))))))))))
noncomputable def B_X12_copy_1 (S : Wd) (x0 : Nat) (x1 : Int32) (x2 : Int32) (x3 : Int32) (x4 : Int32) (x5 : Int32) (x6 : Int32) : Option ((Int32 × Wd) ⊕ Cs) := if x5 ≤ x6 then (some (.inr (2, [x0], [x1, x2, x3, x4, x5, (0 : Int32)], S))) else (gd (ob S x0 12) (Option.bind (wO S x0 25) (fun q83 => gd (ob S x0 12) (Option.bind (wO S x0 6) (fun q86 => gd (ix S q86 100 ((((20 : Int32) * x1) + x2) + x6)) (gd (ix S q83 100 x6) (ltS (sI S q83 x6.toNatClampNeg (wI S q86 ((((20 : Int32) * x1) + x2) + x6).toNatClampNeg)) (fun S90 => some (.inr (1, [x0], [x1, x2, x3, x4, x5, (x6 + (1 : Int32))], S90))))))))))
noncomputable def B_X12_copy_2 (S : Wd) (x0 : Nat) (x1 : Int32) (x2 : Int32) (x3 : Int32) (x4 : Int32) (x5 : Int32) (x6 : Int32) : Option ((Int32 × Wd) ⊕ Cs) := if x5 ≤ x6 then (some (.inl (x5, S))) else (gd (ob S x0 12) (Option.bind (wO S x0 6) (fun q94 => gd (ob S x0 12) (Option.bind (wO S x0 25) (fun q97 => gd (ix S q97 100 x6) (gd (ix S q94 100 ((((20 : Int32) * x3) + x4) + x6)) (ltS (sI S q94 ((((20 : Int32) * x3) + x4) + x6).toNatClampNeg (wI S q97 x6.toNatClampNeg)) (fun S101 => some (.inr (2, [x0], [x1, x2, x3, x4, x5, (x6 + (1 : Int32))], S101))))))))))
noncomputable def B_X12_copy : Cs → Option ((Int32 × Wd) ⊕ Cs)
  | (0, [a0], [a1, a2, a3, a4, a5], S) => B_X12_copy_0 S a0 a1 a2 a3 a4 a5
  | (1, [x0], [x1, x2, x3, x4, x5, x6], S) => B_X12_copy_1 S x0 x1 x2 x3 x4 x5 x6
  | (2, [x0], [x1, x2, x3, x4, x5, x6], S) => B_X12_copy_2 S x0 x1 x2 x3 x4 x5 x6
  | _ => none
def P_X12_copy : Cs → Option (Nat × List (Nat × Value) × Wd × Nat × Nat)
  | (0, [a0], [a1, a2, a3, a4, a5], S) => some (0, [(0, .ref a0), (1, .int a1), (2, .int a2), (3, .int a3), (4, .int a4), (5, .int a5)], S, 0, 0)
  | (1, [x0], [x1, x2, x3, x4, x5, x6], S) => some (127, [(0, .ref x0), (1, .int x1), (2, .int x2), (3, .int x3), (4, .int x4), (5, .int x5), (6, .int x6)], S, 0, 0)
  | (2, [x0], [x1, x2, x3, x4, x5, x6], S) => some (164, [(0, .ref x0), (1, .int x1), (2, .int x2), (3, .int x3), (4, .int x4), (5, .int x5), (6, .int x6)], S, 0, 0)
  | _ => none
noncomputable def f_X12_copy (S : Wd) (a0 : Nat) (a1 : Int32) (a2 : Int32) (a3 : Int32) (a4 : Int32) (a5 : Int32) : Option (Int32 × Wd) := ru B_X12_copy (0, [a0], [a1, a2, a3, a4, a5], S)
abbrev N_X12_copy (b : Bd) (r : Int32 × Wd) (c : (Int32 × Wd) ⊕ Cs) : Prop := match c with
  | .inl r' => r' = r
  | .inr s' => ∀ pc L S kc ks, P_X12_copy s' = some (pc, L, S, kc, ks) → G b pc L [] S kc ks
set_option maxRecDepth 100000 in
set_option maxHeartbeats 4000000 in
theorem w_X12_copy_0 {b : Bd} {r : Int32 × Wd} (hC : CX b yX12_copy.cls cX12_copy 7 { frames := 2, cells := 0, slots := 0, locals := 42 }) (hin : yX12_copy.name = "<init>" → b.2.2.2.2.2.2.2.2.1.name = "<init>") (hR : RT b (some .int) (some (.int r.1)) r.2 0 0) {S : Wd} {a0 : Nat} {a1 : Int32} {a2 : Int32} {a3 : Int32} {a4 : Int32} {a5 : Int32} {c : (Int32 × Wd) ⊕ Cs} (h : B_X12_copy_0 S a0 a1 a2 a3 a4 a5 = some c) (hk : N_X12_copy b r c) : G b 0 [(0, .ref a0), (1, .int a1), (2, .int a2), (3, .int a3), (4, .int a4), (5, .int a5)] [] S 0 0 := by
  unfold B_X12_copy_0 at h
  refine g_iload_n hC dX12_copy_0 rfl ?_
  obtain ⟨r3, S2, hr1, h⟩ := bd2_some h
  refine g_callS (rest := []) hC mi_X12_isSheet (k_X12_isSheet hr1) tw_1235 tw_1236 dX12_copy_1 rfl rfl ⟨by decide, by decide⟩ (Nat.le_of_ble_eq_true rfl) ⟨by decide, by decide⟩ ?_
  refine g_if_eq (tgt := 14) hC dX12_copy_4 (by decide) (fun hc4 => ?_) (fun hc4 => ?_)
  · rw [if_pos hc4] at h
    refine g_aload_n hC dX12_copy_14 rfl ?_
    refine g_ldc hC tw_1083 dX12_copy_15 ?_
    obtain ⟨ho7, h⟩ := gd_some h
    obtain ⟨r8, S6, hr5, h⟩ := bd2_some h
    refine g_callV (rest := []) hC mi_X12_finding (k_X12_finding hr5) ck_X12.1 (by decide) ho7 tw_1069 tw_1071 ts_24 dX12_copy_17 rfl rfl ⟨by decide, by decide⟩ (Nat.le_of_ble_eq_true rfl) ⟨by decide, by decide⟩ ?_
    cases h
    subst hk
    exact g_iret hC hR dX12_copy_20 (by decide) (by decide)
  · rw [if_neg hc4] at h
    refine g_iload_n hC dX12_copy_7 rfl ?_
    obtain ⟨r11, S10, hr9, h⟩ := bd2_some h
    refine g_callS (rest := []) hC mi_X12_isSheet (k_X12_isSheet hr9) tw_1235 tw_1236 dX12_copy_8 rfl rfl ⟨by decide, by decide⟩ (Nat.le_of_ble_eq_true rfl) ⟨by decide, by decide⟩ ?_
    refine g_if_ne (tgt := 21) hC dX12_copy_11 (by decide) (fun hc12 => ?_) (fun hc12 => ?_)
    · rw [if_neg hc12] at h
      refine g_aload_n hC dX12_copy_21 rfl ?_
      obtain ⟨ho13, h⟩ := gd_some h
      obtain ⟨q14, hq15, h⟩ := Option.bind_eq_some_iff.mp h
      refine g_getr (k := 4) (q := q14) hC ck_X12 (by decide) tw_988 rfl (by decide) dX12_copy_22 ho13 hq15 ?_
      refine g_iload_n hC dX12_copy_25 rfl ?_
      obtain ⟨hx16, h⟩ := gd_some h
      refine g_iald hC dX12_copy_26 hx16.1 hx16.2 ?_
      refine g_if_eq (tgt := 39) hC dX12_copy_27 (by decide) (fun hc17 => ?_) (fun hc17 => ?_)
      · rw [if_pos hc17] at h
        refine g_aload_n hC dX12_copy_39 rfl ?_
        refine g_ldc hC tw_1238 dX12_copy_40 ?_
        obtain ⟨ho20, h⟩ := gd_some h
        obtain ⟨r21, S19, hr18, h⟩ := bd2_some h
        refine g_callV (rest := []) hC mi_X12_finding (k_X12_finding hr18) ck_X12.1 (by decide) ho20 tw_1069 tw_1071 ts_24 dX12_copy_42 rfl rfl ⟨by decide, by decide⟩ (Nat.le_of_ble_eq_true rfl) ⟨by decide, by decide⟩ ?_
        cases h
        subst hk
        exact g_iret hC hR dX12_copy_45 (by decide) (by decide)
      · rw [if_neg hc17] at h
        refine g_aload_n hC dX12_copy_30 rfl ?_
        obtain ⟨ho22, h⟩ := gd_some h
        obtain ⟨q23, hq24, h⟩ := Option.bind_eq_some_iff.mp h
        refine g_getr (k := 4) (q := q23) hC ck_X12 (by decide) tw_988 rfl (by decide) dX12_copy_31 ho22 hq24 ?_
        refine g_iload_n hC dX12_copy_34 rfl ?_
        obtain ⟨hx25, h⟩ := gd_some h
        refine g_iald hC dX12_copy_35 hx25.1 hx25.2 ?_
        refine g_if_ne (tgt := 46) hC dX12_copy_36 (by decide) (fun hc26 => ?_) (fun hc26 => ?_)
        · rw [if_neg hc26] at h
          refine g_aload_n hC dX12_copy_46 rfl ?_
          obtain ⟨ho27, h⟩ := gd_some h
          obtain ⟨q28, hq29, h⟩ := Option.bind_eq_some_iff.mp h
          refine g_getr (k := 4) (q := q28) hC ck_X12 (by decide) tw_988 rfl (by decide) dX12_copy_47 ho27 hq29 ?_
          refine g_iload_n hC dX12_copy_50 rfl ?_
          obtain ⟨hx30, h⟩ := gd_some h
          refine g_iald hC dX12_copy_51 hx30.1 hx30.2 ?_
          refine g_aload_n hC dX12_copy_52 rfl ?_
          obtain ⟨ho31, h⟩ := gd_some h
          obtain ⟨q32, hq33, h⟩ := Option.bind_eq_some_iff.mp h
          refine g_getr (k := 4) (q := q32) hC ck_X12 (by decide) tw_988 rfl (by decide) dX12_copy_53 ho31 hq33 ?_
          refine g_iload_n hC dX12_copy_56 rfl ?_
          obtain ⟨hx34, h⟩ := gd_some h
          refine g_iald hC dX12_copy_57 hx34.1 hx34.2 ?_
          refine g_icmp_eq (tgt := 68) hC dX12_copy_58 (by decide) (fun hc35 => ?_) (fun hc35 => ?_)
          · rw [if_pos hc35] at h
            refine g_iload_n hC dX12_copy_68 rfl ?_
            refine g_if_lt (tgt := 117) hC dX12_copy_69 (by decide) (fun hc36 => ?_) (fun hc36 => ?_)
            · rw [if_pos hc36] at h
              refine g_aload_n hC dX12_copy_117 rfl ?_
              refine g_ldc hC tw_1083 dX12_copy_118 ?_
              obtain ⟨ho39, h⟩ := gd_some h
              obtain ⟨r40, S38, hr37, h⟩ := bd2_some h
              refine g_callV (rest := []) hC mi_X12_finding (k_X12_finding hr37) ck_X12.1 (by decide) ho39 tw_1069 tw_1071 ts_24 dX12_copy_120 rfl rfl ⟨by decide, by decide⟩ (Nat.le_of_ble_eq_true rfl) ⟨by decide, by decide⟩ ?_
              cases h
              subst hk
              exact g_iret hC hR dX12_copy_123 (by decide) (by decide)
            · rw [if_neg hc36] at h
              refine g_iload hC dX12_copy_72 rfl ?_
              refine g_if_lt (tgt := 117) hC dX12_copy_74 (by decide) (fun hc41 => ?_) (fun hc41 => ?_)
              · rw [if_pos hc41] at h
                refine g_aload_n hC dX12_copy_117 rfl ?_
                refine g_ldc hC tw_1083 dX12_copy_118 ?_
                obtain ⟨ho44, h⟩ := gd_some h
                obtain ⟨r45, S43, hr42, h⟩ := bd2_some h
                refine g_callV (rest := []) hC mi_X12_finding (k_X12_finding hr42) ck_X12.1 (by decide) ho44 tw_1069 tw_1071 ts_24 dX12_copy_120 rfl rfl ⟨by decide, by decide⟩ (Nat.le_of_ble_eq_true rfl) ⟨by decide, by decide⟩ ?_
                cases h
                subst hk
                exact g_iret hC hR dX12_copy_123 (by decide) (by decide)
              · rw [if_neg hc41] at h
                refine g_iload hC dX12_copy_77 rfl ?_
                refine g_if_lt (tgt := 117) hC dX12_copy_79 (by decide) (fun hc46 => ?_) (fun hc46 => ?_)
                · rw [if_pos hc46] at h
                  refine g_aload_n hC dX12_copy_117 rfl ?_
                  refine g_ldc hC tw_1083 dX12_copy_118 ?_
                  obtain ⟨ho49, h⟩ := gd_some h
                  obtain ⟨r50, S48, hr47, h⟩ := bd2_some h
                  refine g_callV (rest := []) hC mi_X12_finding (k_X12_finding hr47) ck_X12.1 (by decide) ho49 tw_1069 tw_1071 ts_24 dX12_copy_120 rfl rfl ⟨by decide, by decide⟩ (Nat.le_of_ble_eq_true rfl) ⟨by decide, by decide⟩ ?_
                  cases h
                  subst hk
                  exact g_iret hC hR dX12_copy_123 (by decide) (by decide)
                · rw [if_neg hc46] at h
                  refine g_iload_n hC dX12_copy_82 rfl ?_
                  refine g_i2l hC dX12_copy_83 ?_
                  refine g_iload hC dX12_copy_84 rfl ?_
                  refine g_i2l hC dX12_copy_86 ?_
                  refine g_ladd hC dX12_copy_87 ?_
                  refine g_aload_n hC dX12_copy_88 rfl ?_
                  obtain ⟨ho51, h⟩ := gd_some h
                  obtain ⟨q52, hq53, h⟩ := Option.bind_eq_some_iff.mp h
                  refine g_getr (k := 5) (q := q52) hC ck_X12 (by decide) tw_989 rfl (by decide) dX12_copy_89 ho51 hq53 ?_
                  refine g_iload_n hC dX12_copy_92 rfl ?_
                  obtain ⟨hx54, h⟩ := gd_some h
                  refine g_iald hC dX12_copy_93 hx54.1 hx54.2 ?_
                  refine g_i2l hC dX12_copy_94 ?_
                  refine g_lcmp hC dX12_copy_95 ?_
                  refine g_if_gt (tgt := 117) hC dX12_copy_96 (by decide) (fun hc55 => ?_) (fun hc55 => ?_)
                  · rw [if_pos hc55] at h
                    refine g_aload_n hC dX12_copy_117 rfl ?_
                    refine g_ldc hC tw_1083 dX12_copy_118 ?_
                    obtain ⟨ho58, h⟩ := gd_some h
                    obtain ⟨r59, S57, hr56, h⟩ := bd2_some h
                    refine g_callV (rest := []) hC mi_X12_finding (k_X12_finding hr56) ck_X12.1 (by decide) ho58 tw_1069 tw_1071 ts_24 dX12_copy_120 rfl rfl ⟨by decide, by decide⟩ (Nat.le_of_ble_eq_true rfl) ⟨by decide, by decide⟩ ?_
                    cases h
                    subst hk
                    exact g_iret hC hR dX12_copy_123 (by decide) (by decide)
                  · rw [if_neg hc55] at h
                    refine g_iload hC dX12_copy_99 rfl ?_
                    refine g_i2l hC dX12_copy_101 ?_
                    refine g_iload hC dX12_copy_102 rfl ?_
                    refine g_i2l hC dX12_copy_104 ?_
                    refine g_ladd hC dX12_copy_105 ?_
                    refine g_aload_n hC dX12_copy_106 rfl ?_
                    obtain ⟨ho60, h⟩ := gd_some h
                    obtain ⟨q61, hq62, h⟩ := Option.bind_eq_some_iff.mp h
                    refine g_getr (k := 5) (q := q61) hC ck_X12 (by decide) tw_989 rfl (by decide) dX12_copy_107 ho60 hq62 ?_
                    refine g_iload_n hC dX12_copy_110 rfl ?_
                    obtain ⟨hx63, h⟩ := gd_some h
                    refine g_iald hC dX12_copy_111 hx63.1 hx63.2 ?_
                    refine g_i2l hC dX12_copy_112 ?_
                    refine g_lcmp hC dX12_copy_113 ?_
                    refine g_if_le (tgt := 124) hC dX12_copy_114 (by decide) (fun hc64 => ?_) (fun hc64 => ?_)
                    · rw [if_pos hc64] at h
                      refine g_iconst (v := (0 : Int32)) hC dX12_copy_124 (by decide) ?_
                      refine g_istore (L' := [(6, .int (0 : Int32)), (0, .ref a0), (1, .int a1), (2, .int a2), (3, .int a3), (4, .int a4), (5, .int a5)]) hC dX12_copy_125 (by decide) rfl ?_
                      cases h
                      refine g_pick (L' := [(0, .ref a0), (1, .int a1), (2, .int a2), (3, .int a3), (4, .int a4), (5, .int a5), (6, .int (0 : Int32))]) [1, 2, 3, 4, 5, 6, 0] rfl ?_
                      exact hk _ _ _ _ _ rfl
                    · rw [if_neg hc64] at h
                      refine g_aload_n hC dX12_copy_117 rfl ?_
                      refine g_ldc hC tw_1083 dX12_copy_118 ?_
                      obtain ⟨ho67, h⟩ := gd_some h
                      obtain ⟨r68, S66, hr65, h⟩ := bd2_some h
                      refine g_callV (rest := []) hC mi_X12_finding (k_X12_finding hr65) ck_X12.1 (by decide) ho67 tw_1069 tw_1071 ts_24 dX12_copy_120 rfl rfl ⟨by decide, by decide⟩ (Nat.le_of_ble_eq_true rfl) ⟨by decide, by decide⟩ ?_
                      cases h
                      subst hk
                      exact g_iret hC hR dX12_copy_123 (by decide) (by decide)
          · rw [if_neg hc35] at h
            refine g_aload_n hC dX12_copy_61 rfl ?_
            refine g_ldc hC tw_1118 dX12_copy_62 ?_
            obtain ⟨ho71, h⟩ := gd_some h
            obtain ⟨r72, S70, hr69, h⟩ := bd2_some h
            refine g_callV (rest := []) hC mi_X12_finding (k_X12_finding hr69) ck_X12.1 (by decide) ho71 tw_1069 tw_1071 ts_24 dX12_copy_64 rfl rfl ⟨by decide, by decide⟩ (Nat.le_of_ble_eq_true rfl) ⟨by decide, by decide⟩ ?_
            cases h
            subst hk
            exact g_iret hC hR dX12_copy_67 (by decide) (by decide)
        · rw [if_pos hc26] at h
          refine g_aload_n hC dX12_copy_39 rfl ?_
          refine g_ldc hC tw_1238 dX12_copy_40 ?_
          obtain ⟨ho75, h⟩ := gd_some h
          obtain ⟨r76, S74, hr73, h⟩ := bd2_some h
          refine g_callV (rest := []) hC mi_X12_finding (k_X12_finding hr73) ck_X12.1 (by decide) ho75 tw_1069 tw_1071 ts_24 dX12_copy_42 rfl rfl ⟨by decide, by decide⟩ (Nat.le_of_ble_eq_true rfl) ⟨by decide, by decide⟩ ?_
          cases h
          subst hk
          exact g_iret hC hR dX12_copy_45 (by decide) (by decide)
    · rw [if_pos hc12] at h
      refine g_aload_n hC dX12_copy_14 rfl ?_
      refine g_ldc hC tw_1083 dX12_copy_15 ?_
      obtain ⟨ho79, h⟩ := gd_some h
      obtain ⟨r80, S78, hr77, h⟩ := bd2_some h
      refine g_callV (rest := []) hC mi_X12_finding (k_X12_finding hr77) ck_X12.1 (by decide) ho79 tw_1069 tw_1071 ts_24 dX12_copy_17 rfl rfl ⟨by decide, by decide⟩ (Nat.le_of_ble_eq_true rfl) ⟨by decide, by decide⟩ ?_
      cases h
      subst hk
      exact g_iret hC hR dX12_copy_20 (by decide) (by decide)
set_option maxRecDepth 100000 in
set_option maxHeartbeats 4000000 in
theorem w_X12_copy_1 {b : Bd} {r : Int32 × Wd} (hC : CX b yX12_copy.cls cX12_copy 7 { frames := 2, cells := 0, slots := 0, locals := 42 }) (hin : yX12_copy.name = "<init>" → b.2.2.2.2.2.2.2.2.1.name = "<init>") (hR : RT b (some .int) (some (.int r.1)) r.2 0 0) {S : Wd} {x0 : Nat} {x1 : Int32} {x2 : Int32} {x3 : Int32} {x4 : Int32} {x5 : Int32} {x6 : Int32} {c : (Int32 × Wd) ⊕ Cs} (h : B_X12_copy_1 S x0 x1 x2 x3 x4 x5 x6 = some c) (hk : N_X12_copy b r c) : G b 127 [(0, .ref x0), (1, .int x1), (2, .int x2), (3, .int x3), (4, .int x4), (5, .int x5), (6, .int x6)] [] S 0 0 := by
  unfold B_X12_copy_1 at h
  refine g_iload hC dX12_copy_127 rfl ?_
  refine g_iload hC dX12_copy_129 rfl ?_
  refine g_icmp_ge (tgt := 161) hC dX12_copy_131 (by decide) (fun hc81 => ?_) (fun hc81 => ?_)
  · rw [if_pos hc81] at h
    refine g_iconst (v := (0 : Int32)) hC dX12_copy_161 (by decide) ?_
    refine g_istore (L' := [(6, .int (0 : Int32)), (0, .ref x0), (1, .int x1), (2, .int x2), (3, .int x3), (4, .int x4), (5, .int x5)]) hC dX12_copy_162 (by decide) rfl ?_
    cases h
    refine g_pick (L' := [(0, .ref x0), (1, .int x1), (2, .int x2), (3, .int x3), (4, .int x4), (5, .int x5), (6, .int (0 : Int32))]) [1, 2, 3, 4, 5, 6, 0] rfl ?_
    exact hk _ _ _ _ _ rfl
  · rw [if_neg hc81] at h
    refine g_aload_n hC dX12_copy_134 rfl ?_
    obtain ⟨ho82, h⟩ := gd_some h
    obtain ⟨q83, hq84, h⟩ := Option.bind_eq_some_iff.mp h
    refine g_getr (k := 25) (q := q83) hC ck_X12 (by decide) tw_1009 rfl (by decide) dX12_copy_135 ho82 hq84 ?_
    refine g_iload hC dX12_copy_138 rfl ?_
    refine g_aload_n hC dX12_copy_140 rfl ?_
    obtain ⟨ho85, h⟩ := gd_some h
    obtain ⟨q86, hq87, h⟩ := Option.bind_eq_some_iff.mp h
    refine g_getr (k := 6) (q := q86) hC ck_X12 (by decide) tw_990 rfl (by decide) dX12_copy_141 ho85 hq87 ?_
    refine g_bipush (v := (20 : Int32)) hC dX12_copy_144 (by decide) ?_
    refine g_iload_n hC dX12_copy_146 rfl ?_
    refine g_imul hC dX12_copy_147 ?_
    refine g_iload_n hC dX12_copy_148 rfl ?_
    refine g_iadd hC dX12_copy_149 ?_
    refine g_iload hC dX12_copy_150 rfl ?_
    refine g_iadd hC dX12_copy_152 ?_
    obtain ⟨hx88, h⟩ := gd_some h
    refine g_iald hC dX12_copy_153 hx88.1 hx88.2 ?_
    obtain ⟨hx89, h⟩ := gd_some h
    refine g_iast hC dX12_copy_154 hx89.1 hx89.2 ?_
    refine g_name (fun S90 eS91 => ?_)
    have h := ltS_use eS91 h
    refine g_iinc (v := (1 : Int32)) (L' := [(6, .int (x6 + (1 : Int32))), (0, .ref x0), (1, .int x1), (2, .int x2), (3, .int x3), (4, .int x4), (5, .int x5)]) hC dX12_copy_155 rfl (by decide) (by decide) rfl ?_
    refine g_goto (tgt := 127) hC dX12_copy_158 (by decide) ?_
    cases h
    refine g_pick (L' := [(0, .ref x0), (1, .int x1), (2, .int x2), (3, .int x3), (4, .int x4), (5, .int x5), (6, .int (x6 + (1 : Int32)))]) [1, 2, 3, 4, 5, 6, 0] rfl ?_
    exact hk _ _ _ _ _ rfl
set_option maxRecDepth 100000 in
set_option maxHeartbeats 4000000 in
theorem w_X12_copy_2 {b : Bd} {r : Int32 × Wd} (hC : CX b yX12_copy.cls cX12_copy 7 { frames := 2, cells := 0, slots := 0, locals := 42 }) (hin : yX12_copy.name = "<init>" → b.2.2.2.2.2.2.2.2.1.name = "<init>") (hR : RT b (some .int) (some (.int r.1)) r.2 0 0) {S : Wd} {x0 : Nat} {x1 : Int32} {x2 : Int32} {x3 : Int32} {x4 : Int32} {x5 : Int32} {x6 : Int32} {c : (Int32 × Wd) ⊕ Cs} (h : B_X12_copy_2 S x0 x1 x2 x3 x4 x5 x6 = some c) (hk : N_X12_copy b r c) : G b 164 [(0, .ref x0), (1, .int x1), (2, .int x2), (3, .int x3), (4, .int x4), (5, .int x5), (6, .int x6)] [] S 0 0 := by
  unfold B_X12_copy_2 at h
  refine g_iload hC dX12_copy_164 rfl ?_
  refine g_iload hC dX12_copy_166 rfl ?_
  refine g_icmp_ge (tgt := 199) hC dX12_copy_168 (by decide) (fun hc92 => ?_) (fun hc92 => ?_)
  · rw [if_pos hc92] at h
    refine g_iload hC dX12_copy_199 rfl ?_
    cases h
    subst hk
    exact g_iret hC hR dX12_copy_201 (by decide) (by decide)
  · rw [if_neg hc92] at h
    refine g_aload_n hC dX12_copy_171 rfl ?_
    obtain ⟨ho93, h⟩ := gd_some h
    obtain ⟨q94, hq95, h⟩ := Option.bind_eq_some_iff.mp h
    refine g_getr (k := 6) (q := q94) hC ck_X12 (by decide) tw_990 rfl (by decide) dX12_copy_172 ho93 hq95 ?_
    refine g_bipush (v := (20 : Int32)) hC dX12_copy_175 (by decide) ?_
    refine g_iload_n hC dX12_copy_177 rfl ?_
    refine g_imul hC dX12_copy_178 ?_
    refine g_iload hC dX12_copy_179 rfl ?_
    refine g_iadd hC dX12_copy_181 ?_
    refine g_iload hC dX12_copy_182 rfl ?_
    refine g_iadd hC dX12_copy_184 ?_
    refine g_aload_n hC dX12_copy_185 rfl ?_
    obtain ⟨ho96, h⟩ := gd_some h
    obtain ⟨q97, hq98, h⟩ := Option.bind_eq_some_iff.mp h
    refine g_getr (k := 25) (q := q97) hC ck_X12 (by decide) tw_1009 rfl (by decide) dX12_copy_186 ho96 hq98 ?_
    refine g_iload hC dX12_copy_189 rfl ?_
    obtain ⟨hx99, h⟩ := gd_some h
    refine g_iald hC dX12_copy_191 hx99.1 hx99.2 ?_
    obtain ⟨hx100, h⟩ := gd_some h
    refine g_iast hC dX12_copy_192 hx100.1 hx100.2 ?_
    refine g_name (fun S101 eS102 => ?_)
    have h := ltS_use eS102 h
    refine g_iinc (v := (1 : Int32)) (L' := [(6, .int (x6 + (1 : Int32))), (0, .ref x0), (1, .int x1), (2, .int x2), (3, .int x3), (4, .int x4), (5, .int x5)]) hC dX12_copy_193 rfl (by decide) (by decide) rfl ?_
    refine g_goto (tgt := 164) hC dX12_copy_196 (by decide) ?_
    cases h
    refine g_pick (L' := [(0, .ref x0), (1, .int x1), (2, .int x2), (3, .int x3), (4, .int x4), (5, .int x5), (6, .int (x6 + (1 : Int32)))]) [1, 2, 3, 4, 5, 6, 0] rfl ?_
    exact hk _ _ _ _ _ rfl
theorem w_X12_copy {b : Bd} {r : Int32 × Wd} (hC : CX b yX12_copy.cls cX12_copy 7 { frames := 2, cells := 0, slots := 0, locals := 42 }) (hin : yX12_copy.name = "<init>" → b.2.2.2.2.2.2.2.2.1.name = "<init>") (hR : RT b (some .int) (some (.int r.1)) r.2 0 0) {s : Cs} {c : (Int32 × Wd) ⊕ Cs} (h : B_X12_copy s = some c) (hk : N_X12_copy b r c) : ∀ pc L S kc ks, P_X12_copy s = some (pc, L, S, kc, ks) → G b pc L [] S kc ks := by
  intro pc L S kc ks hp
  unfold B_X12_copy at h
  split at h
  · cases hp
    exact w_X12_copy_0 hC hin hR h hk
  · cases hp
    exact w_X12_copy_1 hC hin hR h hk
  · cases hp
    exact w_X12_copy_2 hC hin hR h hk
  · cases h
theorem k_X12_copy {S : Wd} {a0 : Nat} {a1 : Int32} {a2 : Int32} {a3 : Int32} {a4 : Int32} {a5 : Int32} {r : Int32} {S' : Wd} (h : f_X12_copy S a0 a1 a2 a3 a4 a5 = some (r, S')) : Sp yX12_copy cX12_copy 7 (some .int) 2 42 0 0 [.ref a0, .int a1, .int a2, .int a3, .int a4, .int a5] S (some (.int r)) S' := by
  unfold f_X12_copy at h
  refine Sp.of (by decide +kernel) (Nat.le_of_ble_eq_true rfl) ?_
  intro b hC hin hR
  exact ru_ind (P := fun s q0 => q0 = (r, S') → ∀ pc L S kc ks, P_X12_copy s = some (pc, L, S, kc, ks) → G b pc L [] S kc ks) (fun s q0 hB e => w_X12_copy (r := (r, S')) hC hin hR hB e) (fun s s' q0 hB ih e => w_X12_copy (r := (r, S')) hC hin hR hB (ih e)) h rfl _ _ _ _ _ rfl

theorem mi_X12_all : MI yX12_all cX12_all 2 (some .int) 1 := ⟨tw_1365, tw_14, by decide +kernel, by decide +kernel, by decide +kernel⟩
noncomputable def f_X12_all (S : Wd) (a0 : Nat) (a1 : Int32) : Option (Int32 × Wd) := bd2 (f_X12_within S a1 (0 : Int32) (4 : Int32)) (fun r3 S2 => if r3 = 0 then (if a1 = (5 : Int32) then (gd (ob S2 a0 12) (some ((wI S2 a0 3), S2))) else (gd (ob S2 a0 12) (bd2 (f_X12_finding S2 a0 (-100001 : Int32)) (fun r9 S7 => some (r9, S7))))) else (gd (ob S2 a0 12) (Option.bind (wO S2 a0 0) (fun q12 => gd (ix S2 q12 100 ((64 : Int32) + a1)) (some ((wI S2 q12 ((64 : Int32) + a1).toNatClampNeg), S2))))))
set_option maxRecDepth 100000 in
set_option maxHeartbeats 4000000 in
theorem k_X12_all {S : Wd} {a0 : Nat} {a1 : Int32} {r : Int32} {S' : Wd} (h : f_X12_all S a0 a1 = some (r, S')) : Sp yX12_all cX12_all 2 (some .int) 1 22 0 0 [.ref a0, .int a1] S (some (.int r)) S' := by
  unfold f_X12_all at h
  refine Sp.of (by decide +kernel) (Nat.le_of_ble_eq_true rfl) ?_
  intro b hC hin hR
  show G b 0 [(0, .ref a0), (1, .int a1)] [] S 0 0
  refine g_iload_n hC dX12_all_0 rfl ?_
  refine g_iconst (v := (0 : Int32)) hC dX12_all_1 (by decide) ?_
  refine g_iconst (v := (4 : Int32)) hC dX12_all_2 (by decide) ?_
  obtain ⟨r3, S2, hr1, h⟩ := bd2_some h
  refine g_callS (rest := []) hC mi_X12_within (k_X12_within hr1) tw_1080 tw_1081 dX12_all_3 rfl rfl ⟨by decide, by decide⟩ (Nat.le_of_ble_eq_true rfl) ⟨by decide, by decide⟩ ?_
  refine g_if_eq (tgt := 21) hC dX12_all_6 (by decide) (fun hc4 => ?_) (fun hc4 => ?_)
  · rw [if_pos hc4] at h
    refine g_iload_n hC dX12_all_21 rfl ?_
    refine g_iconst (v := (5 : Int32)) hC dX12_all_22 (by decide) ?_
    refine g_icmp_ne (tgt := 33) hC dX12_all_23 (by decide) (fun hc5 => ?_) (fun hc5 => ?_)
    · rw [if_neg hc5] at h
      refine g_aload_n hC dX12_all_33 rfl ?_
      refine g_ldc hC tw_1083 dX12_all_34 ?_
      obtain ⟨ho8, h⟩ := gd_some h
      obtain ⟨r9, S7, hr6, h⟩ := bd2_some h
      refine g_callV (rest := []) hC mi_X12_finding (k_X12_finding hr6) ck_X12.1 (by decide) ho8 tw_1069 tw_1071 ts_24 dX12_all_36 rfl rfl ⟨by decide, by decide⟩ (Nat.le_of_ble_eq_true rfl) ⟨by decide, by decide⟩ ?_
      cases h
      exact g_iret hC hR dX12_all_39 (by decide) (by decide)
    · rw [if_pos hc5] at h
      refine g_aload_n hC dX12_all_26 rfl ?_
      obtain ⟨ho10, h⟩ := gd_some h
      refine g_geti (k := 3) hC ck_X12 (by decide) tw_987 rfl (by decide) dX12_all_27 ho10 ?_
      refine g_goto (tgt := 39) hC dX12_all_30 (by decide) ?_
      cases h
      exact g_iret hC hR dX12_all_39 (by decide) (by decide)
  · rw [if_neg hc4] at h
    refine g_aload_n hC dX12_all_9 rfl ?_
    obtain ⟨ho11, h⟩ := gd_some h
    obtain ⟨q12, hq13, h⟩ := Option.bind_eq_some_iff.mp h
    refine g_getr (k := 0) (q := q12) hC ck_X12 (by decide) tw_984 rfl (by decide) dX12_all_10 ho11 hq13 ?_
    refine g_bipush (v := (64 : Int32)) hC dX12_all_13 (by decide) ?_
    refine g_iload_n hC dX12_all_15 rfl ?_
    refine g_iadd hC dX12_all_16 ?_
    obtain ⟨hx14, h⟩ := gd_some h
    refine g_iald hC dX12_all_17 hx14.1 hx14.2 ?_
    refine g_goto (tgt := 39) hC dX12_all_18 (by decide) ?_
    cases h
    exact g_iret hC hR dX12_all_39 (by decide) (by decide)
