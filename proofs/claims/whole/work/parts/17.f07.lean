theorem mi_X12_findFar : MI yX12_findFar cX12_findFar 3 none 0 := ⟨tw_1095, tw_14, by decide +kernel, by decide +kernel, by decide +kernel⟩
noncomputable def B_X12_findFar_0 (S : Wd) (a0 : Nat) : Option ((Wd) ⊕ Cs) := some (.inr (1, [a0], [(0 : Int32)], S))
noncomputable def B_X12_findFar_1 (S : Wd) (x0 : Nat) (x1 : Int32) : Option ((Wd) ⊕ Cs) := if (64 : Int32) ≤ x1 then (some (.inr (2, [x0], [(0 : Int32)], S))) else (gd (ob S x0 12) (Option.bind (wO S x0 7) (fun q3 => if (x1 / (8 : Int32)) = (irm x1 (8 : Int32)) then (gd (ix S q3 100 x1) (ltS (sI S q3 x1.toNatClampNeg (0 : Int32)) (fun S22 => some (.inr (1, [x0], [(x1 + (1 : Int32))], S22))))) else (gd (ob S x0 12) (Option.bind (wO S x0 0) (fun q7 => gd (ix S q7 100 ((0 : Int32) + x1)) (if (wI S q7 ((0 : Int32) + x1).toNatClampNeg) = 0 then (gd (ix S q3 100 x1) (ltS (sI S q3 x1.toNatClampNeg (1000000 : Int32)) (fun S19 => some (.inr (1, [x0], [(x1 + (1 : Int32))], S19))))) else (gd (ob S x0 12) (Option.bind (wO S x0 0) (fun q12 => gd (ix S q12 100 ((0 : Int32) + x1)) (gd (ix S q3 100 x1) (ltS (sI S q3 x1.toNatClampNeg (wI S q12 ((0 : Int32) + x1).toNatClampNeg)) (fun S16 => some (.inr (1, [x0], [(x1 + (1 : Int32))], S16)))))))))))))))
noncomputable def B_X12_findFar_2 (S : Wd) (x0 : Nat) (x1 : Int32) : Option ((Wd) ⊕ Cs) := if (8 : Int32) ≤ x1 then (some (.inl S)) else (some (.inr (3, [x0], [x1, (0 : Int32)], S)))
noncomputable def B_X12_findFar_3 (S : Wd) (x0 : Nat) (x1 : Int32) (x2 : Int32) : Option ((Wd) ⊕ Cs) := if (64 : Int32) ≤ x2 then (some (.inr (2, [x0], [(x1 + (1 : Int32))], S))) else (gd (ob S x0 12) (Option.bind (wO S x0 7) (fun q27 => gd (ob S x0 12) (Option.bind (wO S x0 7) (fun q30 => gd (ix S q30 100 x2) (gd (ob S x0 12) (Option.bind (wO S x0 7) (fun q34 => gd (ix S q34 100 (((x2 / (8 : Int32)) * (8 : Int32)) + x1)) (gd (ob S x0 12) (Option.bind (wO S x0 7) (fun q38 => gd (ix S q38 100 (((8 : Int32) * x1) + (irm x2 (8 : Int32)))) (gd (ix S q27 100 x2) (ltS (sI S q27 x2.toNatClampNeg (mMin (wI S q30 x2.toNatClampNeg) ((wI S q34 (((x2 / (8 : Int32)) * (8 : Int32)) + x1).toNatClampNeg) + (wI S q38 (((8 : Int32) * x1) + (irm x2 (8 : Int32))).toNatClampNeg)))) (fun S42 => some (.inr (3, [x0], [x1, (x2 + (1 : Int32))], S42))))))))))))))))
noncomputable def B_X12_findFar : Cs → Option ((Wd) ⊕ Cs)
  | (0, [a0], [], S) => B_X12_findFar_0 S a0
  | (1, [x0], [x1], S) => B_X12_findFar_1 S x0 x1
  | (2, [x0], [x1], S) => B_X12_findFar_2 S x0 x1
  | (3, [x0], [x1, x2], S) => B_X12_findFar_3 S x0 x1 x2
  | _ => none
def P_X12_findFar : Cs → Option (Nat × List (Nat × Value) × Wd × Nat × Nat)
  | (0, [a0], [], S) => some (0, [(0, .ref a0)], S, 0, 0)
  | (1, [x0], [x1], S) => some (2, [(0, .ref x0), (1, .int x1)], S, 0, 0)
  | (2, [x0], [x1], S) => some (61, [(0, .ref x0), (1, .int x1)], S, 0, 0)
  | (3, [x0], [x1, x2], S) => some (69, [(0, .ref x0), (1, .int x1), (2, .int x2)], S, 0, 0)
  | _ => none
noncomputable def f_X12_findFar (S : Wd) (a0 : Nat) : Option (Wd) := ru B_X12_findFar (0, [a0], [], S)
abbrev N_X12_findFar (b : Bd) (r : Wd) (c : (Wd) ⊕ Cs) : Prop := match c with
  | .inl r' => r' = r
  | .inr s' => ∀ pc L S kc ks, P_X12_findFar s' = some (pc, L, S, kc, ks) → G b pc L [] S kc ks
set_option maxRecDepth 100000 in
set_option maxHeartbeats 4000000 in
theorem w_X12_findFar_0 {b : Bd} {r : Wd} (hC : CX b yX12_findFar.cls cX12_findFar 3 { frames := 1, cells := 0, slots := 0, locals := 15 }) (hin : yX12_findFar.name = "<init>" → b.2.2.2.2.2.2.2.2.1.name = "<init>") (hR : RT b none none r 0 0) {S : Wd} {a0 : Nat} {c : (Wd) ⊕ Cs} (h : B_X12_findFar_0 S a0 = some c) (hk : N_X12_findFar b r c) : G b 0 [(0, .ref a0)] [] S 0 0 := by
  unfold B_X12_findFar_0 at h
  refine g_iconst (v := (0 : Int32)) hC dX12_findFar_0 (by decide) ?_
  refine g_istore_n (L' := [(1, .int (0 : Int32)), (0, .ref a0)]) hC dX12_findFar_1 (by decide) rfl ?_
  cases h
  refine g_pick (L' := [(0, .ref a0), (1, .int (0 : Int32))]) [1, 0] rfl ?_
  exact hk _ _ _ _ _ rfl
set_option maxRecDepth 100000 in
set_option maxHeartbeats 4000000 in
theorem w_X12_findFar_1 {b : Bd} {r : Wd} (hC : CX b yX12_findFar.cls cX12_findFar 3 { frames := 1, cells := 0, slots := 0, locals := 15 }) (hin : yX12_findFar.name = "<init>" → b.2.2.2.2.2.2.2.2.1.name = "<init>") (hR : RT b none none r 0 0) {S : Wd} {x0 : Nat} {x1 : Int32} {c : (Wd) ⊕ Cs} (h : B_X12_findFar_1 S x0 x1 = some c) (hk : N_X12_findFar b r c) : G b 2 [(0, .ref x0), (1, .int x1)] [] S 0 0 := by
  unfold B_X12_findFar_1 at h
  refine g_iload_n hC dX12_findFar_2 rfl ?_
  refine g_bipush (v := (64 : Int32)) hC dX12_findFar_3 (by decide) ?_
  refine g_icmp_ge (tgt := 59) hC dX12_findFar_5 (by decide) (fun hc1 => ?_) (fun hc1 => ?_)
  · rw [if_pos hc1] at h
    refine g_iconst (v := (0 : Int32)) hC dX12_findFar_59 (by decide) ?_
    refine g_istore_n (L' := [(1, .int (0 : Int32)), (0, .ref x0)]) hC dX12_findFar_60 (by decide) rfl ?_
    cases h
    refine g_pick (L' := [(0, .ref x0), (1, .int (0 : Int32))]) [1, 0] rfl ?_
    exact hk _ _ _ _ _ rfl
  · rw [if_neg hc1] at h
    refine g_aload_n hC dX12_findFar_8 rfl ?_
    obtain ⟨ho2, h⟩ := gd_some h
    obtain ⟨q3, hq4, h⟩ := Option.bind_eq_some_iff.mp h
    refine g_getr (k := 7) (q := q3) hC ck_X12 (by decide) tw_991 rfl (by decide) dX12_findFar_9 ho2 hq4 ?_
    refine g_iload_n hC dX12_findFar_12 rfl ?_
    refine g_iload_n hC dX12_findFar_13 rfl ?_
    refine g_bipush (v := (8 : Int32)) hC dX12_findFar_14 (by decide) ?_
    refine g_idiv hC dX12_findFar_16 (by decide) ?_
    refine g_iload_n hC dX12_findFar_17 rfl ?_
    refine g_bipush (v := (8 : Int32)) hC dX12_findFar_18 (by decide) ?_
    refine g_irm hC dX12_findFar_20 (by decide) ?_
    refine g_icmp_ne (tgt := 28) hC dX12_findFar_21 (by decide) (fun hc5 => ?_) (fun hc5 => ?_)
    · rw [if_neg hc5] at h
      refine g_aload_n hC dX12_findFar_28 rfl ?_
      obtain ⟨ho6, h⟩ := gd_some h
      obtain ⟨q7, hq8, h⟩ := Option.bind_eq_some_iff.mp h
      refine g_getr (k := 0) (q := q7) hC ck_X12 (by decide) tw_984 rfl (by decide) dX12_findFar_29 ho6 hq8 ?_
      refine g_iconst (v := (0 : Int32)) hC dX12_findFar_32 (by decide) ?_
      refine g_iload_n hC dX12_findFar_33 rfl ?_
      refine g_iadd hC dX12_findFar_34 ?_
      obtain ⟨hx9, h⟩ := gd_some h
      refine g_iald hC dX12_findFar_35 hx9.1 hx9.2 ?_
      refine g_if_ne (tgt := 44) hC dX12_findFar_36 (by decide) (fun hc10 => ?_) (fun hc10 => ?_)
      · rw [if_neg hc10] at h
        refine g_aload_n hC dX12_findFar_44 rfl ?_
        obtain ⟨ho11, h⟩ := gd_some h
        obtain ⟨q12, hq13, h⟩ := Option.bind_eq_some_iff.mp h
        refine g_getr (k := 0) (q := q12) hC ck_X12 (by decide) tw_984 rfl (by decide) dX12_findFar_45 ho11 hq13 ?_
        refine g_iconst (v := (0 : Int32)) hC dX12_findFar_48 (by decide) ?_
        refine g_iload_n hC dX12_findFar_49 rfl ?_
        refine g_iadd hC dX12_findFar_50 ?_
        obtain ⟨hx14, h⟩ := gd_some h
        refine g_iald hC dX12_findFar_51 hx14.1 hx14.2 ?_
        obtain ⟨hx15, h⟩ := gd_some h
        refine g_iast hC dX12_findFar_52 hx15.1 hx15.2 ?_
        refine g_name (fun S16 eS17 => ?_)
        have h := ltS_use eS17 h
        refine g_iinc (v := (1 : Int32)) (L' := [(1, .int (x1 + (1 : Int32))), (0, .ref x0)]) hC dX12_findFar_53 rfl (by decide) (by decide) rfl ?_
        refine g_goto (tgt := 2) hC dX12_findFar_56 (by decide) ?_
        cases h
        refine g_pick (L' := [(0, .ref x0), (1, .int (x1 + (1 : Int32)))]) [1, 0] rfl ?_
        exact hk _ _ _ _ _ rfl
      · rw [if_pos hc10] at h
        refine g_ldc hC tw_1096 dX12_findFar_39 ?_
        refine g_goto (tgt := 52) hC dX12_findFar_41 (by decide) ?_
        obtain ⟨hx18, h⟩ := gd_some h
        refine g_iast hC dX12_findFar_52 hx18.1 hx18.2 ?_
        refine g_name (fun S19 eS20 => ?_)
        have h := ltS_use eS20 h
        refine g_iinc (v := (1 : Int32)) (L' := [(1, .int (x1 + (1 : Int32))), (0, .ref x0)]) hC dX12_findFar_53 rfl (by decide) (by decide) rfl ?_
        refine g_goto (tgt := 2) hC dX12_findFar_56 (by decide) ?_
        cases h
        refine g_pick (L' := [(0, .ref x0), (1, .int (x1 + (1 : Int32)))]) [1, 0] rfl ?_
        exact hk _ _ _ _ _ rfl
    · rw [if_pos hc5] at h
      refine g_iconst (v := (0 : Int32)) hC dX12_findFar_24 (by decide) ?_
      refine g_goto (tgt := 52) hC dX12_findFar_25 (by decide) ?_
      obtain ⟨hx21, h⟩ := gd_some h
      refine g_iast hC dX12_findFar_52 hx21.1 hx21.2 ?_
      refine g_name (fun S22 eS23 => ?_)
      have h := ltS_use eS23 h
      refine g_iinc (v := (1 : Int32)) (L' := [(1, .int (x1 + (1 : Int32))), (0, .ref x0)]) hC dX12_findFar_53 rfl (by decide) (by decide) rfl ?_
      refine g_goto (tgt := 2) hC dX12_findFar_56 (by decide) ?_
      cases h
      refine g_pick (L' := [(0, .ref x0), (1, .int (x1 + (1 : Int32)))]) [1, 0] rfl ?_
      exact hk _ _ _ _ _ rfl
set_option maxRecDepth 100000 in
set_option maxHeartbeats 4000000 in
theorem w_X12_findFar_2 {b : Bd} {r : Wd} (hC : CX b yX12_findFar.cls cX12_findFar 3 { frames := 1, cells := 0, slots := 0, locals := 15 }) (hin : yX12_findFar.name = "<init>" → b.2.2.2.2.2.2.2.2.1.name = "<init>") (hR : RT b none none r 0 0) {S : Wd} {x0 : Nat} {x1 : Int32} {c : (Wd) ⊕ Cs} (h : B_X12_findFar_2 S x0 x1 = some c) (hk : N_X12_findFar b r c) : G b 61 [(0, .ref x0), (1, .int x1)] [] S 0 0 := by
  unfold B_X12_findFar_2 at h
  refine g_iload_n hC dX12_findFar_61 rfl ?_
  refine g_bipush (v := (8 : Int32)) hC dX12_findFar_62 (by decide) ?_
  refine g_icmp_ge (tgt := 131) hC dX12_findFar_64 (by decide) (fun hc24 => ?_) (fun hc24 => ?_)
  · rw [if_pos hc24] at h
    cases h
    subst hk
    exact g_vret hC hR dX12_findFar_131 (by decide) (by decide)
  · rw [if_neg hc24] at h
    refine g_iconst (v := (0 : Int32)) hC dX12_findFar_67 (by decide) ?_
    refine g_istore_n (L' := [(2, .int (0 : Int32)), (0, .ref x0), (1, .int x1)]) hC dX12_findFar_68 (by decide) rfl ?_
    cases h
    refine g_pick (L' := [(0, .ref x0), (1, .int x1), (2, .int (0 : Int32))]) [1, 2, 0] rfl ?_
    exact hk _ _ _ _ _ rfl
set_option maxRecDepth 100000 in
set_option maxHeartbeats 4000000 in
theorem w_X12_findFar_3 {b : Bd} {r : Wd} (hC : CX b yX12_findFar.cls cX12_findFar 3 { frames := 1, cells := 0, slots := 0, locals := 15 }) (hin : yX12_findFar.name = "<init>" → b.2.2.2.2.2.2.2.2.1.name = "<init>") (hR : RT b none none r 0 0) {S : Wd} {x0 : Nat} {x1 : Int32} {x2 : Int32} {c : (Wd) ⊕ Cs} (h : B_X12_findFar_3 S x0 x1 x2 = some c) (hk : N_X12_findFar b r c) : G b 69 [(0, .ref x0), (1, .int x1), (2, .int x2)] [] S 0 0 := by
  unfold B_X12_findFar_3 at h
  refine g_iload_n hC dX12_findFar_69 rfl ?_
  refine g_bipush (v := (64 : Int32)) hC dX12_findFar_70 (by decide) ?_
  refine g_icmp_ge (tgt := 125) hC dX12_findFar_72 (by decide) (fun hc25 => ?_) (fun hc25 => ?_)
  · rw [if_pos hc25] at h
    refine g_iinc (v := (1 : Int32)) (L' := [(1, .int (x1 + (1 : Int32))), (0, .ref x0), (2, .int x2)]) hC dX12_findFar_125 rfl (by decide) (by decide) rfl ?_
    refine g_goto (tgt := 61) hC dX12_findFar_128 (by decide) ?_
    cases h
    refine g_pick (L' := [(0, .ref x0), (1, .int (x1 + (1 : Int32)))]) [1, 0] rfl ?_
    exact hk _ _ _ _ _ rfl
  · rw [if_neg hc25] at h
    refine g_aload_n hC dX12_findFar_75 rfl ?_
    obtain ⟨ho26, h⟩ := gd_some h
    obtain ⟨q27, hq28, h⟩ := Option.bind_eq_some_iff.mp h
    refine g_getr (k := 7) (q := q27) hC ck_X12 (by decide) tw_991 rfl (by decide) dX12_findFar_76 ho26 hq28 ?_
    refine g_iload_n hC dX12_findFar_79 rfl ?_
    refine g_aload_n hC dX12_findFar_80 rfl ?_
    obtain ⟨ho29, h⟩ := gd_some h
    obtain ⟨q30, hq31, h⟩ := Option.bind_eq_some_iff.mp h
    refine g_getr (k := 7) (q := q30) hC ck_X12 (by decide) tw_991 rfl (by decide) dX12_findFar_81 ho29 hq31 ?_
    refine g_iload_n hC dX12_findFar_84 rfl ?_
    obtain ⟨hx32, h⟩ := gd_some h
    refine g_iald hC dX12_findFar_85 hx32.1 hx32.2 ?_
    refine g_aload_n hC dX12_findFar_86 rfl ?_
    obtain ⟨ho33, h⟩ := gd_some h
    obtain ⟨q34, hq35, h⟩ := Option.bind_eq_some_iff.mp h
    refine g_getr (k := 7) (q := q34) hC ck_X12 (by decide) tw_991 rfl (by decide) dX12_findFar_87 ho33 hq35 ?_
    refine g_iload_n hC dX12_findFar_90 rfl ?_
    refine g_bipush (v := (8 : Int32)) hC dX12_findFar_91 (by decide) ?_
    refine g_idiv hC dX12_findFar_93 (by decide) ?_
    refine g_bipush (v := (8 : Int32)) hC dX12_findFar_94 (by decide) ?_
    refine g_imul hC dX12_findFar_96 ?_
    refine g_iload_n hC dX12_findFar_97 rfl ?_
    refine g_iadd hC dX12_findFar_98 ?_
    obtain ⟨hx36, h⟩ := gd_some h
    refine g_iald hC dX12_findFar_99 hx36.1 hx36.2 ?_
    refine g_aload_n hC dX12_findFar_100 rfl ?_
    obtain ⟨ho37, h⟩ := gd_some h
    obtain ⟨q38, hq39, h⟩ := Option.bind_eq_some_iff.mp h
    refine g_getr (k := 7) (q := q38) hC ck_X12 (by decide) tw_991 rfl (by decide) dX12_findFar_101 ho37 hq39 ?_
    refine g_bipush (v := (8 : Int32)) hC dX12_findFar_104 (by decide) ?_
    refine g_iload_n hC dX12_findFar_106 rfl ?_
    refine g_imul hC dX12_findFar_107 ?_
    refine g_iload_n hC dX12_findFar_108 rfl ?_
    refine g_bipush (v := (8 : Int32)) hC dX12_findFar_109 (by decide) ?_
    refine g_irm hC dX12_findFar_111 (by decide) ?_
    refine g_iadd hC dX12_findFar_112 ?_
    obtain ⟨hx40, h⟩ := gd_some h
    refine g_iald hC dX12_findFar_113 hx40.1 hx40.2 ?_
    refine g_iadd hC dX12_findFar_114 ?_
    refine g_mmin (st := [.int x2, .ref q27]) hC tw_1097 tw_364 tw_5 tw_365 dX12_findFar_115 (by decide) (Nat.le_of_ble_eq_true rfl) (by decide) (by decide) ?_
    obtain ⟨hx41, h⟩ := gd_some h
    refine g_iast hC dX12_findFar_118 hx41.1 hx41.2 ?_
    refine g_name (fun S42 eS43 => ?_)
    have h := ltS_use eS43 h
    refine g_iinc (v := (1 : Int32)) (L' := [(2, .int (x2 + (1 : Int32))), (0, .ref x0), (1, .int x1)]) hC dX12_findFar_119 rfl (by decide) (by decide) rfl ?_
    refine g_goto (tgt := 69) hC dX12_findFar_122 (by decide) ?_
    cases h
    refine g_pick (L' := [(0, .ref x0), (1, .int x1), (2, .int (x2 + (1 : Int32)))]) [1, 2, 0] rfl ?_
    exact hk _ _ _ _ _ rfl
theorem w_X12_findFar {b : Bd} {r : Wd} (hC : CX b yX12_findFar.cls cX12_findFar 3 { frames := 1, cells := 0, slots := 0, locals := 15 }) (hin : yX12_findFar.name = "<init>" → b.2.2.2.2.2.2.2.2.1.name = "<init>") (hR : RT b none none r 0 0) {s : Cs} {c : (Wd) ⊕ Cs} (h : B_X12_findFar s = some c) (hk : N_X12_findFar b r c) : ∀ pc L S kc ks, P_X12_findFar s = some (pc, L, S, kc, ks) → G b pc L [] S kc ks := by
  intro pc L S kc ks hp
  unfold B_X12_findFar at h
  split at h
  · cases hp
    exact w_X12_findFar_0 hC hin hR h hk
  · cases hp
    exact w_X12_findFar_1 hC hin hR h hk
  · cases hp
    exact w_X12_findFar_2 hC hin hR h hk
  · cases hp
    exact w_X12_findFar_3 hC hin hR h hk
  · cases h
theorem k_X12_findFar {S : Wd} {a0 : Nat} {S' : Wd} (h : f_X12_findFar S a0 = some S') : Sp yX12_findFar cX12_findFar 3 none 1 15 0 0 [.ref a0] S none S' := by
  unfold f_X12_findFar at h
  refine Sp.of (by decide +kernel) (Nat.le_of_ble_eq_true rfl) ?_
  intro b hC hin hR
  exact ru_ind (P := fun s q0 => q0 = S' → ∀ pc L S kc ks, P_X12_findFar s = some (pc, L, S, kc, ks) → G b pc L [] S kc ks) (fun s q0 hB e => w_X12_findFar (r := S') hC hin hR hB e) (fun s s' q0 hB ih e => w_X12_findFar (r := S') hC hin hR hB (ih e)) h rfl _ _ _ _ _ rfl

theorem mi_X12_isApart : MI yX12_isApart cX12_isApart 3 (some .boolean) 2 := ⟨tw_1101, tw_14, by decide +kernel, by decide +kernel, by decide +kernel⟩
noncomputable def f_X12_isApart (S : Wd) (a0 : Nat) (a1 : Int32) (a2 : Int32) : Option (Int32 × Wd) := gd (ob S a0 12) (Option.bind (wO S a0 7) (fun q2 => gd (ix S q2 100 (((8 : Int32) * a1) + a2)) (if (wI S q2 (((8 : Int32) * a1) + a2).toNatClampNeg) < (1000000 : Int32) then (some ((0 : Int32), S)) else (some ((1 : Int32), S)))))
set_option maxRecDepth 100000 in
set_option maxHeartbeats 4000000 in
theorem k_X12_isApart {S : Wd} {a0 : Nat} {a1 : Int32} {a2 : Int32} {r : Int32} {S' : Wd} (h : f_X12_isApart S a0 a1 a2 = some (r, S')) : Sp yX12_isApart cX12_isApart 3 (some .boolean) 0 0 0 0 [.ref a0, .int a1, .int a2] S (some (.int r)) S' := by
  unfold f_X12_isApart at h
  refine Sp.of (by decide +kernel) (Nat.le_of_ble_eq_true rfl) ?_
  intro b hC hin hR
  show G b 0 [(0, .ref a0), (1, .int a1), (2, .int a2)] [] S 0 0
  refine g_aload_n hC dX12_isApart_0 rfl ?_
  obtain ⟨ho1, h⟩ := gd_some h
  obtain ⟨q2, hq3, h⟩ := Option.bind_eq_some_iff.mp h
  refine g_getr (k := 7) (q := q2) hC ck_X12 (by decide) tw_991 rfl (by decide) dX12_isApart_1 ho1 hq3 ?_
  refine g_bipush (v := (8 : Int32)) hC dX12_isApart_4 (by decide) ?_
  refine g_iload_n hC dX12_isApart_6 rfl ?_
  refine g_imul hC dX12_isApart_7 ?_
  refine g_iload_n hC dX12_isApart_8 rfl ?_
  refine g_iadd hC dX12_isApart_9 ?_
  obtain ⟨hx4, h⟩ := gd_some h
  refine g_iald hC dX12_isApart_10 hx4.1 hx4.2 ?_
  refine g_ldc hC tw_1096 dX12_isApart_11 ?_
  refine g_icmp_lt (tgt := 20) hC dX12_isApart_13 (by decide) (fun hc5 => ?_) (fun hc5 => ?_)
  · rw [if_pos hc5] at h
    refine g_iconst (v := (0 : Int32)) hC dX12_isApart_20 (by decide) ?_
    cases h
    exact g_zret hC hR rfl dX12_isApart_21 (by decide) (by decide)
  · rw [if_neg hc5] at h
    refine g_iconst (v := (1 : Int32)) hC dX12_isApart_16 (by decide) ?_
    refine g_goto (tgt := 21) hC dX12_isApart_17 (by decide) ?_
    cases h
    exact g_zret hC hR rfl dX12_isApart_21 (by decide) (by decide)

theorem mi_X12_far : MI yX12_far cX12_far 3 (some .int) 2 := ⟨tw_1091, tw_14, by decide +kernel, by decide +kernel, by decide +kernel⟩
noncomputable def f_X12_far (S : Wd) (a0 : Nat) (a1 : Int32) (a2 : Int32) : Option (Int32 × Wd) := bd2 (f_X12_isTown S a1) (fun r3 S2 => if r3 = 0 then (gd (ob S2 a0 12) (bd2 (f_X12_finding S2 a0 (-100001 : Int32)) (fun r8 S6 => some (r8, S6)))) else (bd2 (f_X12_isTown S2 a2) (fun r11 S10 => if r11 = 0 then (gd (ob S10 a0 12) (bd2 (f_X12_finding S10 a0 (-100001 : Int32)) (fun r32 S30 => some (r32, S30)))) else (gd (ob S10 a0 12) (Option.bind (f_X12_findFar S10 a0) (fun S14 => gd (ob S14 a0 12) (bd2 (f_X12_isApart S14 a0 a1 a2) (fun r19 S17 => if r19 = 0 then (gd (ob S17 a0 12) (Option.bind (wO S17 a0 7) (fun q22 => gd (ix S17 q22 100 (((8 : Int32) * a1) + a2)) (some ((wI S17 q22 (((8 : Int32) * a1) + a2).toNatClampNeg), S17))))) else (gd (ob S17 a0 12) (bd2 (f_X12_finding S17 a0 (-100006 : Int32)) (fun r28 S26 => some (r28, S26))))))))))))
set_option maxRecDepth 100000 in
set_option maxHeartbeats 4000000 in
theorem k_X12_far {S : Wd} {a0 : Nat} {a1 : Int32} {a2 : Int32} {r : Int32} {S' : Wd} (h : f_X12_far S a0 a1 a2 = some (r, S')) : Sp yX12_far cX12_far 3 (some .int) 2 42 0 0 [.ref a0, .int a1, .int a2] S (some (.int r)) S' := by
  unfold f_X12_far at h
  refine Sp.of (by decide +kernel) (Nat.le_of_ble_eq_true rfl) ?_
  intro b hC hin hR
  show G b 0 [(0, .ref a0), (1, .int a1), (2, .int a2)] [] S 0 0
  refine g_iload_n hC dX12_far_0 rfl ?_
  obtain ⟨r3, S2, hr1, h⟩ := bd2_some h
  refine g_callS (rest := []) hC mi_X12_isTown (k_X12_isTown hr1) tw_1077 tw_1078 dX12_far_1 rfl rfl ⟨by decide, by decide⟩ (Nat.le_of_ble_eq_true rfl) ⟨by decide, by decide⟩ ?_
  refine g_if_eq (tgt := 14) hC dX12_far_4 (by decide) (fun hc4 => ?_) (fun hc4 => ?_)
  · rw [if_pos hc4] at h
    refine g_aload_n hC dX12_far_14 rfl ?_
    refine g_ldc hC tw_1083 dX12_far_15 ?_
    obtain ⟨ho7, h⟩ := gd_some h
    obtain ⟨r8, S6, hr5, h⟩ := bd2_some h
    refine g_callV (rest := []) hC mi_X12_finding (k_X12_finding hr5) ck_X12.1 (by decide) ho7 tw_1069 tw_1071 ts_24 dX12_far_17 rfl rfl ⟨by decide, by decide⟩ (Nat.le_of_ble_eq_true rfl) ⟨by decide, by decide⟩ ?_
    cases h
    exact g_iret hC hR dX12_far_20 (by decide) (by decide)
  · rw [if_neg hc4] at h
    refine g_iload_n hC dX12_far_7 rfl ?_
    obtain ⟨r11, S10, hr9, h⟩ := bd2_some h
    refine g_callS (rest := []) hC mi_X12_isTown (k_X12_isTown hr9) tw_1077 tw_1078 dX12_far_8 rfl rfl ⟨by decide, by decide⟩ (Nat.le_of_ble_eq_true rfl) ⟨by decide, by decide⟩ ?_
    refine g_if_ne (tgt := 21) hC dX12_far_11 (by decide) (fun hc12 => ?_) (fun hc12 => ?_)
    · rw [if_neg hc12] at h
      refine g_aload_n hC dX12_far_21 rfl ?_
      obtain ⟨ho15, h⟩ := gd_some h
      obtain ⟨S14, hr13, h⟩ := Option.bind_eq_some_iff.mp h
      refine g_callV (rest := []) hC mi_X12_findFar (k_X12_findFar hr13) ck_X12.1 (by decide) ho15 tw_1092 tw_1094 ts_26 dX12_far_22 rfl rfl ⟨by decide, by decide⟩ (Nat.le_of_ble_eq_true rfl) ⟨by decide, by decide⟩ ?_
      refine g_aload_n hC dX12_far_25 rfl ?_
      refine g_iload_n hC dX12_far_26 rfl ?_
      refine g_iload_n hC dX12_far_27 rfl ?_
      obtain ⟨ho18, h⟩ := gd_some h
      obtain ⟨r19, S17, hr16, h⟩ := bd2_some h
      refine g_callV (rest := []) hC mi_X12_isApart (k_X12_isApart hr16) ck_X12.1 (by decide) ho18 tw_1098 tw_1100 ts_27 dX12_far_28 rfl rfl ⟨by decide, by decide⟩ (Nat.le_of_ble_eq_true rfl) ⟨by decide, by decide⟩ ?_
      refine g_if_eq (tgt := 43) hC dX12_far_31 (by decide) (fun hc20 => ?_) (fun hc20 => ?_)
      · rw [if_pos hc20] at h
        refine g_aload_n hC dX12_far_43 rfl ?_
        obtain ⟨ho21, h⟩ := gd_some h
        obtain ⟨q22, hq23, h⟩ := Option.bind_eq_some_iff.mp h
        refine g_getr (k := 7) (q := q22) hC ck_X12 (by decide) tw_991 rfl (by decide) dX12_far_44 ho21 hq23 ?_
        refine g_bipush (v := (8 : Int32)) hC dX12_far_47 (by decide) ?_
        refine g_iload_n hC dX12_far_49 rfl ?_
        refine g_imul hC dX12_far_50 ?_
        refine g_iload_n hC dX12_far_51 rfl ?_
        refine g_iadd hC dX12_far_52 ?_
        obtain ⟨hx24, h⟩ := gd_some h
        refine g_iald hC dX12_far_53 hx24.1 hx24.2 ?_
        cases h
        exact g_iret hC hR dX12_far_54 (by decide) (by decide)
      · rw [if_neg hc20] at h
        refine g_aload_n hC dX12_far_34 rfl ?_
        refine g_ldc hC tw_1068 dX12_far_35 ?_
        obtain ⟨ho27, h⟩ := gd_some h
        obtain ⟨r28, S26, hr25, h⟩ := bd2_some h
        refine g_callV (rest := []) hC mi_X12_finding (k_X12_finding hr25) ck_X12.1 (by decide) ho27 tw_1069 tw_1071 ts_24 dX12_far_37 rfl rfl ⟨by decide, by decide⟩ (Nat.le_of_ble_eq_true rfl) ⟨by decide, by decide⟩ ?_
        refine g_goto (tgt := 54) hC dX12_far_40 (by decide) ?_
        cases h
        exact g_iret hC hR dX12_far_54 (by decide) (by decide)
    · rw [if_pos hc12] at h
      refine g_aload_n hC dX12_far_14 rfl ?_
      refine g_ldc hC tw_1083 dX12_far_15 ?_
      obtain ⟨ho31, h⟩ := gd_some h
      obtain ⟨r32, S30, hr29, h⟩ := bd2_some h
      refine g_callV (rest := []) hC mi_X12_finding (k_X12_finding hr29) ck_X12.1 (by decide) ho31 tw_1069 tw_1071 ts_24 dX12_far_17 rfl rfl ⟨by decide, by decide⟩ (Nat.le_of_ble_eq_true rfl) ⟨by decide, by decide⟩ ?_
      cases h
      exact g_iret hC hR dX12_far_20 (by decide) (by decide)

theorem mi_X12_ofLorry : MI yX12_ofLorry cX12_ofLorry 2 (some .int) 2 := ⟨tw_1109, tw_14, by decide +kernel, by decide +kernel, by decide +kernel⟩
noncomputable def f_X12_ofLorry (S : Wd) (a0 : Int32) (a1 : Int32) : Option (Int32 × Wd) := some ((((70 : Int32) + ((7 : Int32) * a0)) + a1), S)
set_option maxRecDepth 100000 in
set_option maxHeartbeats 4000000 in
theorem k_X12_ofLorry {S : Wd} {a0 : Int32} {a1 : Int32} {r : Int32} {S' : Wd} (h : f_X12_ofLorry S a0 a1 = some (r, S')) : Sp yX12_ofLorry cX12_ofLorry 2 (some .int) 0 0 0 0 [.int a0, .int a1] S (some (.int r)) S' := by
  unfold f_X12_ofLorry at h
  refine Sp.of (by decide +kernel) (Nat.le_of_ble_eq_true rfl) ?_
  intro b hC hin hR
  show G b 0 [(0, .int a0), (1, .int a1)] [] S 0 0
  refine g_bipush (v := (70 : Int32)) hC dX12_ofLorry_0 (by decide) ?_
  refine g_bipush (v := (7 : Int32)) hC dX12_ofLorry_2 (by decide) ?_
  refine g_iload_n hC dX12_ofLorry_4 rfl ?_
  refine g_imul hC dX12_ofLorry_5 ?_
  refine g_iadd hC dX12_ofLorry_6 ?_
  refine g_iload_n hC dX12_ofLorry_7 rfl ?_
  refine g_iadd hC dX12_ofLorry_8 ?_
  cases h
  exact g_iret hC hR dX12_ofLorry_9 (by decide) (by decide)

theorem mi_X12_lorry : MI yX12_lorry cX12_lorry 8 (some .int) 6 := ⟨tw_1105, tw_14, by decide +kernel, by decide +kernel, by decide +kernel⟩
noncomputable def f_X12_lorry (S : Wd) (a0 : Nat) (a1 : Int32) (a2 : Int32) (a3 : Int32) (a4 : Int32) (a5 : Int32) (a6 : Int32) : Option (Int32 × Wd) := bd2 (f_X12_within S a1 (0 : Int32) (3 : Int32)) (fun r3 S2 => if r3 = 0 then (gd (ob S2 a0 12) (bd2 (f_X12_finding S2 a0 (-100001 : Int32)) (fun r8 S6 => some (r8, S6)))) else (bd2 (f_X12_isTown S2 a2) (fun r11 S10 => if r11 = 0 then (gd (ob S10 a0 12) (bd2 (f_X12_finding S10 a0 (-100001 : Int32)) (fun r16 S14 => some (r16, S14)))) else (bd2 (f_X12_within S10 a3 (0 : Int32) (2000 : Int32)) (fun r19 S18 => if r19 = 0 then (gd (ob S18 a0 12) (bd2 (f_X12_finding S18 a0 (-100001 : Int32)) (fun r24 S22 => some (r24, S22)))) else (if a4 < 0 then (gd (ob S18 a0 12) (bd2 (f_X12_finding S18 a0 (-100001 : Int32)) (fun r29 S27 => some (r29, S27)))) else (if (4000 : Int32) < (a4 / (10 : Int32)) then (gd (ob S18 a0 12) (bd2 (f_X12_finding S18 a0 (-100001 : Int32)) (fun r34 S32 => some (r34, S32)))) else (bd2 (f_X12_isTown S18 (irm a4 (10 : Int32))) (fun r37 S36 => if r37 = 0 then (gd (ob S36 a0 12) (bd2 (f_X12_finding S36 a0 (-100001 : Int32)) (fun r42 S40 => some (r42, S40)))) else (bd2 (f_X12_within S36 a5 (1 : Int32) (40 : Int32)) (fun r45 S44 => if r45 = 0 then (gd (ob S44 a0 12) (bd2 (f_X12_finding S44 a0 (-100001 : Int32)) (fun r50 S48 => some (r50, S48)))) else (bd2 (f_X12_within S44 a6 (1 : Int32) (40 : Int32)) (fun r53 S52 => if r53 = 0 then (gd (ob S52 a0 12) (bd2 (f_X12_finding S52 a0 (-100001 : Int32)) (fun r160 S158 => some (r160, S158)))) else (gd (ob S52 a0 12) (Option.bind (wO S52 a0 0) (fun q56 => gd (ix S52 q56 100 (64 : Int32)) (if (wI S52 q56 (64 : Int32).toNatClampNeg) = (6 : Int32) then (gd (ob S52 a0 12) (bd2 (f_X12_finding S52 a0 (-100005 : Int32)) (fun r156 S154 => some (r156, S154)))) else (gd (ob S52 a0 12) (Option.bind (f_X12_keep S52 a0) (fun S61 => gd (ob S61 a0 12) (Option.bind (wO S61 a0 0) (fun q64 => bd2 (f_X12_ofLorry S61 (wI S52 q56 (64 : Int32).toNatClampNeg) (0 : Int32)) (fun r68 S67 => gd (ix S67 q64 100 r68) (ltS (sI S67 q64 r68.toNatClampNeg a1) (fun S70 => gd (ob S70 a0 12) (Option.bind (wO S70 a0 0) (fun q73 => bd2 (f_X12_ofLorry S70 (wI S52 q56 (64 : Int32).toNatClampNeg) (1 : Int32)) (fun r77 S76 => gd (ix S76 q73 100 r77) (ltS (sI S76 q73 r77.toNatClampNeg a2) (fun S79 => gd (ob S79 a0 12) (Option.bind (wO S79 a0 0) (fun q82 => bd2 (f_X12_ofLorry S79 (wI S52 q56 (64 : Int32).toNatClampNeg) (2 : Int32)) (fun r86 S85 => gd (ix S85 q82 100 r86) (ltS (sI S85 q82 r86.toNatClampNeg a3) (fun S88 => gd (ob S88 a0 12) (Option.bind (wO S88 a0 0) (fun q91 => bd2 (f_X12_ofLorry S88 (wI S52 q56 (64 : Int32).toNatClampNeg) (3 : Int32)) (fun r95 S94 => gd (ix S94 q91 100 r95) (ltS (sI S94 q91 r95.toNatClampNeg (irm a4 (10 : Int32))) (fun S97 => gd (ob S97 a0 12) (Option.bind (wO S97 a0 0) (fun q100 => bd2 (f_X12_ofLorry S97 (wI S52 q56 (64 : Int32).toNatClampNeg) (4 : Int32)) (fun r104 S103 => gd (ix S103 q100 100 r104) (ltS (sI S103 q100 r104.toNatClampNeg (a4 / (10 : Int32))) (fun S106 => gd (ob S106 a0 12) (Option.bind (wO S106 a0 0) (fun q109 => bd2 (f_X12_ofLorry S106 (wI S52 q56 (64 : Int32).toNatClampNeg) (5 : Int32)) (fun r113 S112 => if a1 = (2 : Int32) then (gd (ix S112 q109 100 r113) (ltS (sI S112 q109 r113.toNatClampNeg (a5 / (2 : Int32))) (fun S135 => gd (ob S135 a0 12) (Option.bind (wO S135 a0 0) (fun q138 => bd2 (f_X12_ofLorry S135 (wI S52 q56 (64 : Int32).toNatClampNeg) (6 : Int32)) (fun r142 S141 => gd (ix S141 q138 100 r142) (ltS (sI S141 q138 r142.toNatClampNeg a6) (fun S144 => gd (ob S144 a0 12) (Option.bind (wO S144 a0 0) (fun q147 => gd (ix S144 q147 100 (64 : Int32)) (gd (ix S144 q147 100 (64 : Int32)) (ltS (sI S144 q147 (64 : Int32).toNatClampNeg ((wI S144 q147 (64 : Int32).toNatClampNeg) + (1 : Int32))) (fun S151 => some ((wI S52 q56 (64 : Int32).toNatClampNeg), S151)))))))))))))) else (gd (ix S112 q109 100 r113) (ltS (sI S112 q109 r113.toNatClampNeg a5) (fun S116 => gd (ob S116 a0 12) (Option.bind (wO S116 a0 0) (fun q119 => bd2 (f_X12_ofLorry S116 (wI S52 q56 (64 : Int32).toNatClampNeg) (6 : Int32)) (fun r123 S122 => gd (ix S122 q119 100 r123) (ltS (sI S122 q119 r123.toNatClampNeg a6) (fun S125 => gd (ob S125 a0 12) (Option.bind (wO S125 a0 0) (fun q128 => gd (ix S125 q128 100 (64 : Int32)) (gd (ix S125 q128 100 (64 : Int32)) (ltS (sI S125 q128 (64 : Int32).toNatClampNeg ((wI S125 q128 (64 : Int32).toNatClampNeg) + (1 : Int32))) (fun S132 => some ((wI S52 q56 (64 : Int32).toNatClampNeg), S132))))))))))))))))))))))))))))))))))))))))))))))))))))))))))))))
set_option maxRecDepth 100000 in
set_option maxHeartbeats 4000000 in
theorem k_X12_lorry {S : Wd} {a0 : Nat} {a1 : Int32} {a2 : Int32} {a3 : Int32} {a4 : Int32} {a5 : Int32} {a6 : Int32} {r : Int32} {S' : Wd} (h : f_X12_lorry S a0 a1 a2 a3 a4 a5 a6 = some (r, S')) : Sp yX12_lorry cX12_lorry 8 (some .int) 2 42 0 0 [.ref a0, .int a1, .int a2, .int a3, .int a4, .int a5, .int a6] S (some (.int r)) S' := by
  unfold f_X12_lorry at h
  refine Sp.of (by decide +kernel) (Nat.le_of_ble_eq_true rfl) ?_
  intro b hC hin hR
  show G b 0 [(0, .ref a0), (1, .int a1), (2, .int a2), (3, .int a3), (4, .int a4), (5, .int a5), (6, .int a6)] [] S 0 0
  refine g_iload_n hC dX12_lorry_0 rfl ?_
  refine g_iconst (v := (0 : Int32)) hC dX12_lorry_1 (by decide) ?_
  refine g_iconst (v := (3 : Int32)) hC dX12_lorry_2 (by decide) ?_
  obtain ⟨r3, S2, hr1, h⟩ := bd2_some h
  refine g_callS (rest := []) hC mi_X12_within (k_X12_within hr1) tw_1080 tw_1081 dX12_lorry_3 rfl rfl ⟨by decide, by decide⟩ (Nat.le_of_ble_eq_true rfl) ⟨by decide, by decide⟩ ?_
  refine g_if_eq (tgt := 76) hC dX12_lorry_6 (by decide) (fun hc4 => ?_) (fun hc4 => ?_)
  · rw [if_pos hc4] at h
    refine g_aload_n hC dX12_lorry_76 rfl ?_
    refine g_ldc hC tw_1083 dX12_lorry_77 ?_
    obtain ⟨ho7, h⟩ := gd_some h
    obtain ⟨r8, S6, hr5, h⟩ := bd2_some h
    refine g_callV (rest := []) hC mi_X12_finding (k_X12_finding hr5) ck_X12.1 (by decide) ho7 tw_1069 tw_1071 ts_24 dX12_lorry_79 rfl rfl ⟨by decide, by decide⟩ (Nat.le_of_ble_eq_true rfl) ⟨by decide, by decide⟩ ?_
    cases h
    exact g_iret hC hR dX12_lorry_82 (by decide) (by decide)
  · rw [if_neg hc4] at h
    refine g_iload_n hC dX12_lorry_9 rfl ?_
    obtain ⟨r11, S10, hr9, h⟩ := bd2_some h
    refine g_callS (rest := []) hC mi_X12_isTown (k_X12_isTown hr9) tw_1077 tw_1078 dX12_lorry_10 rfl rfl ⟨by decide, by decide⟩ (Nat.le_of_ble_eq_true rfl) ⟨by decide, by decide⟩ ?_
    refine g_if_eq (tgt := 76) hC dX12_lorry_13 (by decide) (fun hc12 => ?_) (fun hc12 => ?_)
    · rw [if_pos hc12] at h
      refine g_aload_n hC dX12_lorry_76 rfl ?_
      refine g_ldc hC tw_1083 dX12_lorry_77 ?_
      obtain ⟨ho15, h⟩ := gd_some h
      obtain ⟨r16, S14, hr13, h⟩ := bd2_some h
      refine g_callV (rest := []) hC mi_X12_finding (k_X12_finding hr13) ck_X12.1 (by decide) ho15 tw_1069 tw_1071 ts_24 dX12_lorry_79 rfl rfl ⟨by decide, by decide⟩ (Nat.le_of_ble_eq_true rfl) ⟨by decide, by decide⟩ ?_
      cases h
      exact g_iret hC hR dX12_lorry_82 (by decide) (by decide)
    · rw [if_neg hc12] at h
      refine g_iload_n hC dX12_lorry_16 rfl ?_
      refine g_iconst (v := (0 : Int32)) hC dX12_lorry_17 (by decide) ?_
      refine g_sipush (v := (2000 : Int32)) hC dX12_lorry_18 (by decide) ?_
      obtain ⟨r19, S18, hr17, h⟩ := bd2_some h
      refine g_callS (rest := []) hC mi_X12_within (k_X12_within hr17) tw_1080 tw_1081 dX12_lorry_21 rfl rfl ⟨by decide, by decide⟩ (Nat.le_of_ble_eq_true rfl) ⟨by decide, by decide⟩ ?_
      refine g_if_eq (tgt := 76) hC dX12_lorry_24 (by decide) (fun hc20 => ?_) (fun hc20 => ?_)
      · rw [if_pos hc20] at h
        refine g_aload_n hC dX12_lorry_76 rfl ?_
        refine g_ldc hC tw_1083 dX12_lorry_77 ?_
        obtain ⟨ho23, h⟩ := gd_some h
        obtain ⟨r24, S22, hr21, h⟩ := bd2_some h
        refine g_callV (rest := []) hC mi_X12_finding (k_X12_finding hr21) ck_X12.1 (by decide) ho23 tw_1069 tw_1071 ts_24 dX12_lorry_79 rfl rfl ⟨by decide, by decide⟩ (Nat.le_of_ble_eq_true rfl) ⟨by decide, by decide⟩ ?_
        cases h
        exact g_iret hC hR dX12_lorry_82 (by decide) (by decide)
      · rw [if_neg hc20] at h
        refine g_iload hC dX12_lorry_27 rfl ?_
        refine g_if_lt (tgt := 76) hC dX12_lorry_29 (by decide) (fun hc25 => ?_) (fun hc25 => ?_)
        · rw [if_pos hc25] at h
          refine g_aload_n hC dX12_lorry_76 rfl ?_
          refine g_ldc hC tw_1083 dX12_lorry_77 ?_
          obtain ⟨ho28, h⟩ := gd_some h
          obtain ⟨r29, S27, hr26, h⟩ := bd2_some h
          refine g_callV (rest := []) hC mi_X12_finding (k_X12_finding hr26) ck_X12.1 (by decide) ho28 tw_1069 tw_1071 ts_24 dX12_lorry_79 rfl rfl ⟨by decide, by decide⟩ (Nat.le_of_ble_eq_true rfl) ⟨by decide, by decide⟩ ?_
          cases h
          exact g_iret hC hR dX12_lorry_82 (by decide) (by decide)
        · rw [if_neg hc25] at h
          refine g_iload hC dX12_lorry_32 rfl ?_
          refine g_bipush (v := (10 : Int32)) hC dX12_lorry_34 (by decide) ?_
          refine g_idiv hC dX12_lorry_36 (by decide) ?_
          refine g_sipush (v := (4000 : Int32)) hC dX12_lorry_37 (by decide) ?_
          refine g_icmp_gt (tgt := 76) hC dX12_lorry_40 (by decide) (fun hc30 => ?_) (fun hc30 => ?_)
          · rw [if_pos hc30] at h
            refine g_aload_n hC dX12_lorry_76 rfl ?_
            refine g_ldc hC tw_1083 dX12_lorry_77 ?_
            obtain ⟨ho33, h⟩ := gd_some h
            obtain ⟨r34, S32, hr31, h⟩ := bd2_some h
            refine g_callV (rest := []) hC mi_X12_finding (k_X12_finding hr31) ck_X12.1 (by decide) ho33 tw_1069 tw_1071 ts_24 dX12_lorry_79 rfl rfl ⟨by decide, by decide⟩ (Nat.le_of_ble_eq_true rfl) ⟨by decide, by decide⟩ ?_
            cases h
            exact g_iret hC hR dX12_lorry_82 (by decide) (by decide)
          · rw [if_neg hc30] at h
            refine g_iload hC dX12_lorry_43 rfl ?_
            refine g_bipush (v := (10 : Int32)) hC dX12_lorry_45 (by decide) ?_
            refine g_irm hC dX12_lorry_47 (by decide) ?_
            obtain ⟨r37, S36, hr35, h⟩ := bd2_some h
            refine g_callS (rest := []) hC mi_X12_isTown (k_X12_isTown hr35) tw_1077 tw_1078 dX12_lorry_48 rfl rfl ⟨by decide, by decide⟩ (Nat.le_of_ble_eq_true rfl) ⟨by decide, by decide⟩ ?_
            refine g_if_eq (tgt := 76) hC dX12_lorry_51 (by decide) (fun hc38 => ?_) (fun hc38 => ?_)
            · rw [if_pos hc38] at h
              refine g_aload_n hC dX12_lorry_76 rfl ?_
              refine g_ldc hC tw_1083 dX12_lorry_77 ?_
              obtain ⟨ho41, h⟩ := gd_some h
              obtain ⟨r42, S40, hr39, h⟩ := bd2_some h
              refine g_callV (rest := []) hC mi_X12_finding (k_X12_finding hr39) ck_X12.1 (by decide) ho41 tw_1069 tw_1071 ts_24 dX12_lorry_79 rfl rfl ⟨by decide, by decide⟩ (Nat.le_of_ble_eq_true rfl) ⟨by decide, by decide⟩ ?_
              cases h
              exact g_iret hC hR dX12_lorry_82 (by decide) (by decide)
            · rw [if_neg hc38] at h
              refine g_iload hC dX12_lorry_54 rfl ?_
              refine g_iconst (v := (1 : Int32)) hC dX12_lorry_56 (by decide) ?_
              refine g_bipush (v := (40 : Int32)) hC dX12_lorry_57 (by decide) ?_
              obtain ⟨r45, S44, hr43, h⟩ := bd2_some h
              refine g_callS (rest := []) hC mi_X12_within (k_X12_within hr43) tw_1080 tw_1081 dX12_lorry_59 rfl rfl ⟨by decide, by decide⟩ (Nat.le_of_ble_eq_true rfl) ⟨by decide, by decide⟩ ?_
              refine g_if_eq (tgt := 76) hC dX12_lorry_62 (by decide) (fun hc46 => ?_) (fun hc46 => ?_)
              · rw [if_pos hc46] at h
                refine g_aload_n hC dX12_lorry_76 rfl ?_
                refine g_ldc hC tw_1083 dX12_lorry_77 ?_
                obtain ⟨ho49, h⟩ := gd_some h
                obtain ⟨r50, S48, hr47, h⟩ := bd2_some h
                refine g_callV (rest := []) hC mi_X12_finding (k_X12_finding hr47) ck_X12.1 (by decide) ho49 tw_1069 tw_1071 ts_24 dX12_lorry_79 rfl rfl ⟨by decide, by decide⟩ (Nat.le_of_ble_eq_true rfl) ⟨by decide, by decide⟩ ?_
                cases h
                exact g_iret hC hR dX12_lorry_82 (by decide) (by decide)
              · rw [if_neg hc46] at h
                refine g_iload hC dX12_lorry_65 rfl ?_
                refine g_iconst (v := (1 : Int32)) hC dX12_lorry_67 (by decide) ?_
                refine g_bipush (v := (40 : Int32)) hC dX12_lorry_68 (by decide) ?_
                obtain ⟨r53, S52, hr51, h⟩ := bd2_some h
                refine g_callS (rest := []) hC mi_X12_within (k_X12_within hr51) tw_1080 tw_1081 dX12_lorry_70 rfl rfl ⟨by decide, by decide⟩ (Nat.le_of_ble_eq_true rfl) ⟨by decide, by decide⟩ ?_
                refine g_if_ne (tgt := 83) hC dX12_lorry_73 (by decide) (fun hc54 => ?_) (fun hc54 => ?_)
                · rw [if_neg hc54] at h
                  refine g_aload_n hC dX12_lorry_83 rfl ?_
                  obtain ⟨ho55, h⟩ := gd_some h
                  obtain ⟨q56, hq57, h⟩ := Option.bind_eq_some_iff.mp h
                  refine g_getr (k := 0) (q := q56) hC ck_X12 (by decide) tw_984 rfl (by decide) dX12_lorry_84 ho55 hq57 ?_
                  refine g_bipush (v := (64 : Int32)) hC dX12_lorry_87 (by decide) ?_
                  obtain ⟨hx58, h⟩ := gd_some h
                  refine g_iald hC dX12_lorry_89 hx58.1 hx58.2 ?_
                  refine g_istore (L' := [(7, .int (wI S52 q56 (64 : Int32).toNatClampNeg)), (0, .ref a0), (1, .int a1), (2, .int a2), (3, .int a3), (4, .int a4), (5, .int a5), (6, .int a6)]) hC dX12_lorry_90 (by decide) rfl ?_
                  refine g_iload hC dX12_lorry_92 rfl ?_
                  refine g_bipush (v := (6 : Int32)) hC dX12_lorry_94 (by decide) ?_
                  refine g_icmp_ne (tgt := 106) hC dX12_lorry_96 (by decide) (fun hc59 => ?_) (fun hc59 => ?_)
                  · rw [if_neg hc59] at h
                    refine g_aload_n hC dX12_lorry_106 rfl ?_
                    obtain ⟨ho62, h⟩ := gd_some h
                    obtain ⟨S61, hr60, h⟩ := Option.bind_eq_some_iff.mp h
                    refine g_callV (rest := []) hC mi_X12_keep (k_X12_keep hr60) ck_X12.1 (by decide) ho62 tw_1084 tw_1086 ts_25 dX12_lorry_107 rfl rfl ⟨by decide, by decide⟩ (Nat.le_of_ble_eq_true rfl) ⟨by decide, by decide⟩ ?_
                    refine g_aload_n hC dX12_lorry_110 rfl ?_
                    obtain ⟨ho63, h⟩ := gd_some h
                    obtain ⟨q64, hq65, h⟩ := Option.bind_eq_some_iff.mp h
                    refine g_getr (k := 0) (q := q64) hC ck_X12 (by decide) tw_984 rfl (by decide) dX12_lorry_111 ho63 hq65 ?_
                    refine g_iload hC dX12_lorry_114 rfl ?_
                    refine g_iconst (v := (0 : Int32)) hC dX12_lorry_116 (by decide) ?_
                    obtain ⟨r68, S67, hr66, h⟩ := bd2_some h
                    refine g_callS (rest := [.ref q64]) hC mi_X12_ofLorry (k_X12_ofLorry hr66) tw_1107 tw_1108 dX12_lorry_117 rfl rfl ⟨by decide, by decide⟩ (Nat.le_of_ble_eq_true rfl) ⟨by decide, by decide⟩ ?_
                    refine g_iload_n hC dX12_lorry_120 rfl ?_
                    obtain ⟨hx69, h⟩ := gd_some h
                    refine g_iast hC dX12_lorry_121 hx69.1 hx69.2 ?_
                    refine g_name (fun S70 eS71 => ?_)
                    have h := ltS_use eS71 h
                    refine g_aload_n hC dX12_lorry_122 rfl ?_
                    obtain ⟨ho72, h⟩ := gd_some h
                    obtain ⟨q73, hq74, h⟩ := Option.bind_eq_some_iff.mp h
                    refine g_getr (k := 0) (q := q73) hC ck_X12 (by decide) tw_984 rfl (by decide) dX12_lorry_123 ho72 hq74 ?_
                    refine g_iload hC dX12_lorry_126 rfl ?_
                    refine g_iconst (v := (1 : Int32)) hC dX12_lorry_128 (by decide) ?_
                    obtain ⟨r77, S76, hr75, h⟩ := bd2_some h
                    refine g_callS (rest := [.ref q73]) hC mi_X12_ofLorry (k_X12_ofLorry hr75) tw_1107 tw_1108 dX12_lorry_129 rfl rfl ⟨by decide, by decide⟩ (Nat.le_of_ble_eq_true rfl) ⟨by decide, by decide⟩ ?_
                    refine g_iload_n hC dX12_lorry_132 rfl ?_
                    obtain ⟨hx78, h⟩ := gd_some h
                    refine g_iast hC dX12_lorry_133 hx78.1 hx78.2 ?_
                    refine g_name (fun S79 eS80 => ?_)
                    have h := ltS_use eS80 h
                    refine g_aload_n hC dX12_lorry_134 rfl ?_
                    obtain ⟨ho81, h⟩ := gd_some h
                    obtain ⟨q82, hq83, h⟩ := Option.bind_eq_some_iff.mp h
                    refine g_getr (k := 0) (q := q82) hC ck_X12 (by decide) tw_984 rfl (by decide) dX12_lorry_135 ho81 hq83 ?_
                    refine g_iload hC dX12_lorry_138 rfl ?_
                    refine g_iconst (v := (2 : Int32)) hC dX12_lorry_140 (by decide) ?_
                    obtain ⟨r86, S85, hr84, h⟩ := bd2_some h
                    refine g_callS (rest := [.ref q82]) hC mi_X12_ofLorry (k_X12_ofLorry hr84) tw_1107 tw_1108 dX12_lorry_141 rfl rfl ⟨by decide, by decide⟩ (Nat.le_of_ble_eq_true rfl) ⟨by decide, by decide⟩ ?_
                    refine g_iload_n hC dX12_lorry_144 rfl ?_
                    obtain ⟨hx87, h⟩ := gd_some h
                    refine g_iast hC dX12_lorry_145 hx87.1 hx87.2 ?_
                    refine g_name (fun S88 eS89 => ?_)
                    have h := ltS_use eS89 h
                    refine g_aload_n hC dX12_lorry_146 rfl ?_
                    obtain ⟨ho90, h⟩ := gd_some h
                    obtain ⟨q91, hq92, h⟩ := Option.bind_eq_some_iff.mp h
                    refine g_getr (k := 0) (q := q91) hC ck_X12 (by decide) tw_984 rfl (by decide) dX12_lorry_147 ho90 hq92 ?_
                    refine g_iload hC dX12_lorry_150 rfl ?_
                    refine g_iconst (v := (3 : Int32)) hC dX12_lorry_152 (by decide) ?_
                    obtain ⟨r95, S94, hr93, h⟩ := bd2_some h
                    refine g_callS (rest := [.ref q91]) hC mi_X12_ofLorry (k_X12_ofLorry hr93) tw_1107 tw_1108 dX12_lorry_153 rfl rfl ⟨by decide, by decide⟩ (Nat.le_of_ble_eq_true rfl) ⟨by decide, by decide⟩ ?_
                    refine g_iload hC dX12_lorry_156 rfl ?_
                    refine g_bipush (v := (10 : Int32)) hC dX12_lorry_158 (by decide) ?_
                    refine g_irm hC dX12_lorry_160 (by decide) ?_
                    obtain ⟨hx96, h⟩ := gd_some h
                    refine g_iast hC dX12_lorry_161 hx96.1 hx96.2 ?_
                    refine g_name (fun S97 eS98 => ?_)
                    have h := ltS_use eS98 h
                    refine g_aload_n hC dX12_lorry_162 rfl ?_
                    obtain ⟨ho99, h⟩ := gd_some h
                    obtain ⟨q100, hq101, h⟩ := Option.bind_eq_some_iff.mp h
                    refine g_getr (k := 0) (q := q100) hC ck_X12 (by decide) tw_984 rfl (by decide) dX12_lorry_163 ho99 hq101 ?_
                    refine g_iload hC dX12_lorry_166 rfl ?_
                    refine g_iconst (v := (4 : Int32)) hC dX12_lorry_168 (by decide) ?_
                    obtain ⟨r104, S103, hr102, h⟩ := bd2_some h
                    refine g_callS (rest := [.ref q100]) hC mi_X12_ofLorry (k_X12_ofLorry hr102) tw_1107 tw_1108 dX12_lorry_169 rfl rfl ⟨by decide, by decide⟩ (Nat.le_of_ble_eq_true rfl) ⟨by decide, by decide⟩ ?_
                    refine g_iload hC dX12_lorry_172 rfl ?_
                    refine g_bipush (v := (10 : Int32)) hC dX12_lorry_174 (by decide) ?_
                    refine g_idiv hC dX12_lorry_176 (by decide) ?_
                    obtain ⟨hx105, h⟩ := gd_some h
                    refine g_iast hC dX12_lorry_177 hx105.1 hx105.2 ?_
                    refine g_name (fun S106 eS107 => ?_)
                    have h := ltS_use eS107 h
                    refine g_aload_n hC dX12_lorry_178 rfl ?_
                    obtain ⟨ho108, h⟩ := gd_some h
                    obtain ⟨q109, hq110, h⟩ := Option.bind_eq_some_iff.mp h
                    refine g_getr (k := 0) (q := q109) hC ck_X12 (by decide) tw_984 rfl (by decide) dX12_lorry_179 ho108 hq110 ?_
                    refine g_iload hC dX12_lorry_182 rfl ?_
                    refine g_iconst (v := (5 : Int32)) hC dX12_lorry_184 (by decide) ?_
                    obtain ⟨r113, S112, hr111, h⟩ := bd2_some h
                    refine g_callS (rest := [.ref q109]) hC mi_X12_ofLorry (k_X12_ofLorry hr111) tw_1107 tw_1108 dX12_lorry_185 rfl rfl ⟨by decide, by decide⟩ (Nat.le_of_ble_eq_true rfl) ⟨by decide, by decide⟩ ?_
                    refine g_iload_n hC dX12_lorry_188 rfl ?_
                    refine g_iconst (v := (2 : Int32)) hC dX12_lorry_189 (by decide) ?_
                    refine g_icmp_ne (tgt := 200) hC dX12_lorry_190 (by decide) (fun hc114 => ?_) (fun hc114 => ?_)
                    · rw [if_neg hc114] at h
                      refine g_iload hC dX12_lorry_200 rfl ?_
                      obtain ⟨hx115, h⟩ := gd_some h
                      refine g_iast hC dX12_lorry_202 hx115.1 hx115.2 ?_
                      refine g_name (fun S116 eS117 => ?_)
                      have h := ltS_use eS117 h
                      refine g_aload_n hC dX12_lorry_203 rfl ?_
                      obtain ⟨ho118, h⟩ := gd_some h
                      obtain ⟨q119, hq120, h⟩ := Option.bind_eq_some_iff.mp h
                      refine g_getr (k := 0) (q := q119) hC ck_X12 (by decide) tw_984 rfl (by decide) dX12_lorry_204 ho118 hq120 ?_
                      refine g_iload hC dX12_lorry_207 rfl ?_
                      refine g_bipush (v := (6 : Int32)) hC dX12_lorry_209 (by decide) ?_
                      obtain ⟨r123, S122, hr121, h⟩ := bd2_some h
                      refine g_callS (rest := [.ref q119]) hC mi_X12_ofLorry (k_X12_ofLorry hr121) tw_1107 tw_1108 dX12_lorry_211 rfl rfl ⟨by decide, by decide⟩ (Nat.le_of_ble_eq_true rfl) ⟨by decide, by decide⟩ ?_
                      refine g_iload hC dX12_lorry_214 rfl ?_
                      obtain ⟨hx124, h⟩ := gd_some h
                      refine g_iast hC dX12_lorry_216 hx124.1 hx124.2 ?_
                      refine g_name (fun S125 eS126 => ?_)
                      have h := ltS_use eS126 h
                      refine g_aload_n hC dX12_lorry_217 rfl ?_
                      obtain ⟨ho127, h⟩ := gd_some h
                      obtain ⟨q128, hq129, h⟩ := Option.bind_eq_some_iff.mp h
                      refine g_getr (k := 0) (q := q128) hC ck_X12 (by decide) tw_984 rfl (by decide) dX12_lorry_218 ho127 hq129 ?_
                      refine g_bipush (v := (64 : Int32)) hC dX12_lorry_221 (by decide) ?_
                      refine g_dup2 hC dX12_lorry_223 rfl rfl ?_
                      obtain ⟨hx130, h⟩ := gd_some h
                      refine g_iald hC dX12_lorry_224 hx130.1 hx130.2 ?_
                      refine g_iconst (v := (1 : Int32)) hC dX12_lorry_225 (by decide) ?_
                      refine g_iadd hC dX12_lorry_226 ?_
                      obtain ⟨hx131, h⟩ := gd_some h
                      refine g_iast hC dX12_lorry_227 hx131.1 hx131.2 ?_
                      refine g_name (fun S132 eS133 => ?_)
                      have h := ltS_use eS133 h
                      refine g_iload hC dX12_lorry_228 rfl ?_
                      cases h
                      exact g_iret hC hR dX12_lorry_230 (by decide) (by decide)
                    · rw [if_pos hc114] at h
                      refine g_iload hC dX12_lorry_193 rfl ?_
                      refine g_iconst (v := (2 : Int32)) hC dX12_lorry_195 (by decide) ?_
                      refine g_idiv hC dX12_lorry_196 (by decide) ?_
                      refine g_goto (tgt := 202) hC dX12_lorry_197 (by decide) ?_
                      obtain ⟨hx134, h⟩ := gd_some h
                      refine g_iast hC dX12_lorry_202 hx134.1 hx134.2 ?_
                      refine g_name (fun S135 eS136 => ?_)
                      have h := ltS_use eS136 h
                      refine g_aload_n hC dX12_lorry_203 rfl ?_
                      obtain ⟨ho137, h⟩ := gd_some h
                      obtain ⟨q138, hq139, h⟩ := Option.bind_eq_some_iff.mp h
                      refine g_getr (k := 0) (q := q138) hC ck_X12 (by decide) tw_984 rfl (by decide) dX12_lorry_204 ho137 hq139 ?_
                      refine g_iload hC dX12_lorry_207 rfl ?_
                      refine g_bipush (v := (6 : Int32)) hC dX12_lorry_209 (by decide) ?_
                      obtain ⟨r142, S141, hr140, h⟩ := bd2_some h
                      refine g_callS (rest := [.ref q138]) hC mi_X12_ofLorry (k_X12_ofLorry hr140) tw_1107 tw_1108 dX12_lorry_211 rfl rfl ⟨by decide, by decide⟩ (Nat.le_of_ble_eq_true rfl) ⟨by decide, by decide⟩ ?_
                      refine g_iload hC dX12_lorry_214 rfl ?_
                      obtain ⟨hx143, h⟩ := gd_some h
                      refine g_iast hC dX12_lorry_216 hx143.1 hx143.2 ?_
                      refine g_name (fun S144 eS145 => ?_)
                      have h := ltS_use eS145 h
                      refine g_aload_n hC dX12_lorry_217 rfl ?_
                      obtain ⟨ho146, h⟩ := gd_some h
                      obtain ⟨q147, hq148, h⟩ := Option.bind_eq_some_iff.mp h
                      refine g_getr (k := 0) (q := q147) hC ck_X12 (by decide) tw_984 rfl (by decide) dX12_lorry_218 ho146 hq148 ?_
                      refine g_bipush (v := (64 : Int32)) hC dX12_lorry_221 (by decide) ?_
                      refine g_dup2 hC dX12_lorry_223 rfl rfl ?_
                      obtain ⟨hx149, h⟩ := gd_some h
                      refine g_iald hC dX12_lorry_224 hx149.1 hx149.2 ?_
                      refine g_iconst (v := (1 : Int32)) hC dX12_lorry_225 (by decide) ?_
                      refine g_iadd hC dX12_lorry_226 ?_
                      obtain ⟨hx150, h⟩ := gd_some h
                      refine g_iast hC dX12_lorry_227 hx150.1 hx150.2 ?_
                      refine g_name (fun S151 eS152 => ?_)
                      have h := ltS_use eS152 h
                      refine g_iload hC dX12_lorry_228 rfl ?_
                      cases h
                      exact g_iret hC hR dX12_lorry_230 (by decide) (by decide)
                  · rw [if_pos hc59] at h
                    refine g_aload_n hC dX12_lorry_99 rfl ?_
                    refine g_ldc hC tw_1106 dX12_lorry_100 ?_
                    obtain ⟨ho155, h⟩ := gd_some h
                    obtain ⟨r156, S154, hr153, h⟩ := bd2_some h
                    refine g_callV (rest := []) hC mi_X12_finding (k_X12_finding hr153) ck_X12.1 (by decide) ho155 tw_1069 tw_1071 ts_24 dX12_lorry_102 rfl rfl ⟨by decide, by decide⟩ (Nat.le_of_ble_eq_true rfl) ⟨by decide, by decide⟩ ?_
                    cases h
                    exact g_iret hC hR dX12_lorry_105 (by decide) (by decide)
                · rw [if_pos hc54] at h
                  refine g_aload_n hC dX12_lorry_76 rfl ?_
                  refine g_ldc hC tw_1083 dX12_lorry_77 ?_
                  obtain ⟨ho159, h⟩ := gd_some h
                  obtain ⟨r160, S158, hr157, h⟩ := bd2_some h
                  refine g_callV (rest := []) hC mi_X12_finding (k_X12_finding hr157) ck_X12.1 (by decide) ho159 tw_1069 tw_1071 ts_24 dX12_lorry_79 rfl rfl ⟨by decide, by decide⟩ (Nat.le_of_ble_eq_true rfl) ⟨by decide, by decide⟩ ?_
                  cases h
                  exact g_iret hC hR dX12_lorry_82 (by decide) (by decide)

theorem mi_X12_isLorry : MI yX12_isLorry cX12_isLorry 2 (some .boolean) 1 := ⟨tw_1117, tw_14, by decide +kernel, by decide +kernel, by decide +kernel⟩
noncomputable def f_X12_isLorry (S : Wd) (a0 : Nat) (a1 : Int32) : Option (Int32 × Wd) := gd (ob S a0 12) (Option.bind (wO S a0 0) (fun q2 => gd (ix S q2 100 (64 : Int32)) (bd2 (f_X12_within S a1 (0 : Int32) ((wI S q2 (64 : Int32).toNatClampNeg) - (1 : Int32))) (fun r7 S6 => gd (narrow .boolean (.int r7) = .int r7) (some (r7, S6))))))
set_option maxRecDepth 100000 in
set_option maxHeartbeats 4000000 in
theorem k_X12_isLorry {S : Wd} {a0 : Nat} {a1 : Int32} {r : Int32} {S' : Wd} (h : f_X12_isLorry S a0 a1 = some (r, S')) : Sp yX12_isLorry cX12_isLorry 2 (some .boolean) 1 22 0 0 [.ref a0, .int a1] S (some (.int r)) S' := by
  unfold f_X12_isLorry at h
  refine Sp.of (by decide +kernel) (Nat.le_of_ble_eq_true rfl) ?_
  intro b hC hin hR
  show G b 0 [(0, .ref a0), (1, .int a1)] [] S 0 0
  refine g_iload_n hC dX12_isLorry_0 rfl ?_
  refine g_iconst (v := (0 : Int32)) hC dX12_isLorry_1 (by decide) ?_
  refine g_aload_n hC dX12_isLorry_2 rfl ?_
  obtain ⟨ho1, h⟩ := gd_some h
  obtain ⟨q2, hq3, h⟩ := Option.bind_eq_some_iff.mp h
  refine g_getr (k := 0) (q := q2) hC ck_X12 (by decide) tw_984 rfl (by decide) dX12_isLorry_3 ho1 hq3 ?_
  refine g_bipush (v := (64 : Int32)) hC dX12_isLorry_6 (by decide) ?_
  obtain ⟨hx4, h⟩ := gd_some h
  refine g_iald hC dX12_isLorry_8 hx4.1 hx4.2 ?_
  refine g_iconst (v := (1 : Int32)) hC dX12_isLorry_9 (by decide) ?_
  refine g_isub hC dX12_isLorry_10 ?_
  obtain ⟨r7, S6, hr5, h⟩ := bd2_some h
  refine g_callS (rest := []) hC mi_X12_within (k_X12_within hr5) tw_1080 tw_1081 dX12_isLorry_11 rfl rfl ⟨by decide, by decide⟩ (Nat.le_of_ble_eq_true rfl) ⟨by decide, by decide⟩ ?_
  obtain ⟨hv8, h⟩ := gd_some h
  cases h
  exact g_zret hC hR hv8 dX12_isLorry_14 (by decide) (by decide)

theorem mi_X12_as : MI yX12_as cX12_as 3 (some .int) 2 := ⟨tw_1113, tw_14, by decide +kernel, by decide +kernel, by decide +kernel⟩
noncomputable def f_X12_as (S : Wd) (a0 : Nat) (a1 : Int32) (a2 : Int32) : Option (Int32 × Wd) := gd (ob S a0 12) (bd2 (f_X12_isLorry S a0 a1) (fun r4 S2 => if r4 = 0 then (gd (ob S2 a0 12) (bd2 (f_X12_finding S2 a0 (-100001 : Int32)) (fun r9 S7 => some (r9, S7)))) else (bd2 (f_X12_within S2 a2 (0 : Int32) (3 : Int32)) (fun r12 S11 => if r12 = 0 then (gd (ob S11 a0 12) (bd2 (f_X12_finding S11 a0 (-100001 : Int32)) (fun r30 S28 => some (r30, S28)))) else (if a2 = 0 then (some (a1, S11)) else (gd (ob S11 a0 12) (Option.bind (wO S11 a0 0) (fun q16 => bd2 (f_X12_ofLorry S11 a1 (0 : Int32)) (fun r20 S19 => gd (ix S19 q16 100 r20) (if (wI S19 q16 r20.toNatClampNeg) = a2 then (some (a1, S19)) else (gd (ob S19 a0 12) (bd2 (f_X12_finding S19 a0 (-100004 : Int32)) (fun r26 S24 => some (r26, S24))))))))))))))
set_option maxRecDepth 100000 in
set_option maxHeartbeats 4000000 in
theorem k_X12_as {S : Wd} {a0 : Nat} {a1 : Int32} {a2 : Int32} {r : Int32} {S' : Wd} (h : f_X12_as S a0 a1 a2 = some (r, S')) : Sp yX12_as cX12_as 3 (some .int) 2 43 0 0 [.ref a0, .int a1, .int a2] S (some (.int r)) S' := by
  unfold f_X12_as at h
  refine Sp.of (by decide +kernel) (Nat.le_of_ble_eq_true rfl) ?_
  intro b hC hin hR
  show G b 0 [(0, .ref a0), (1, .int a1), (2, .int a2)] [] S 0 0
  refine g_aload_n hC dX12_as_0 rfl ?_
  refine g_iload_n hC dX12_as_1 rfl ?_
  obtain ⟨ho3, h⟩ := gd_some h
  obtain ⟨r4, S2, hr1, h⟩ := bd2_some h
  refine g_callV (rest := []) hC mi_X12_isLorry (k_X12_isLorry hr1) ck_X12.1 (by decide) ho3 tw_1114 tw_1116 ts_28 dX12_as_2 rfl rfl ⟨by decide, by decide⟩ (Nat.le_of_ble_eq_true rfl) ⟨by decide, by decide⟩ ?_
  refine g_if_eq (tgt := 17) hC dX12_as_5 (by decide) (fun hc5 => ?_) (fun hc5 => ?_)
  · rw [if_pos hc5] at h
    refine g_aload_n hC dX12_as_17 rfl ?_
    refine g_ldc hC tw_1083 dX12_as_18 ?_
    obtain ⟨ho8, h⟩ := gd_some h
    obtain ⟨r9, S7, hr6, h⟩ := bd2_some h
    refine g_callV (rest := []) hC mi_X12_finding (k_X12_finding hr6) ck_X12.1 (by decide) ho8 tw_1069 tw_1071 ts_24 dX12_as_20 rfl rfl ⟨by decide, by decide⟩ (Nat.le_of_ble_eq_true rfl) ⟨by decide, by decide⟩ ?_
    cases h
    exact g_iret hC hR dX12_as_23 (by decide) (by decide)
  · rw [if_neg hc5] at h
    refine g_iload_n hC dX12_as_8 rfl ?_
    refine g_iconst (v := (0 : Int32)) hC dX12_as_9 (by decide) ?_
    refine g_iconst (v := (3 : Int32)) hC dX12_as_10 (by decide) ?_
    obtain ⟨r12, S11, hr10, h⟩ := bd2_some h
    refine g_callS (rest := []) hC mi_X12_within (k_X12_within hr10) tw_1080 tw_1081 dX12_as_11 rfl rfl ⟨by decide, by decide⟩ (Nat.le_of_ble_eq_true rfl) ⟨by decide, by decide⟩ ?_
    refine g_if_ne (tgt := 24) hC dX12_as_14 (by decide) (fun hc13 => ?_) (fun hc13 => ?_)
    · rw [if_neg hc13] at h
      refine g_iload_n hC dX12_as_24 rfl ?_
      refine g_if_eq (tgt := 42) hC dX12_as_25 (by decide) (fun hc14 => ?_) (fun hc14 => ?_)
      · rw [if_pos hc14] at h
        refine g_iload_n hC dX12_as_42 rfl ?_
        refine g_goto (tgt := 52) hC dX12_as_43 (by decide) ?_
        cases h
        exact g_iret hC hR dX12_as_52 (by decide) (by decide)
      · rw [if_neg hc14] at h
        refine g_aload_n hC dX12_as_28 rfl ?_
        obtain ⟨ho15, h⟩ := gd_some h
        obtain ⟨q16, hq17, h⟩ := Option.bind_eq_some_iff.mp h
        refine g_getr (k := 0) (q := q16) hC ck_X12 (by decide) tw_984 rfl (by decide) dX12_as_29 ho15 hq17 ?_
        refine g_iload_n hC dX12_as_32 rfl ?_
        refine g_iconst (v := (0 : Int32)) hC dX12_as_33 (by decide) ?_
        obtain ⟨r20, S19, hr18, h⟩ := bd2_some h
        refine g_callS (rest := [.ref q16]) hC mi_X12_ofLorry (k_X12_ofLorry hr18) tw_1107 tw_1108 dX12_as_34 rfl rfl ⟨by decide, by decide⟩ (Nat.le_of_ble_eq_true rfl) ⟨by decide, by decide⟩ ?_
        obtain ⟨hx21, h⟩ := gd_some h
        refine g_iald hC dX12_as_37 hx21.1 hx21.2 ?_
        refine g_iload_n hC dX12_as_38 rfl ?_
        refine g_icmp_ne (tgt := 46) hC dX12_as_39 (by decide) (fun hc22 => ?_) (fun hc22 => ?_)
        · rw [if_neg hc22] at h
          refine g_aload_n hC dX12_as_46 rfl ?_
          refine g_ldc hC tw_1118 dX12_as_47 ?_
          obtain ⟨ho25, h⟩ := gd_some h
          obtain ⟨r26, S24, hr23, h⟩ := bd2_some h
          refine g_callV (rest := []) hC mi_X12_finding (k_X12_finding hr23) ck_X12.1 (by decide) ho25 tw_1069 tw_1071 ts_24 dX12_as_49 rfl rfl ⟨by decide, by decide⟩ (Nat.le_of_ble_eq_true rfl) ⟨by decide, by decide⟩ ?_
          cases h
          exact g_iret hC hR dX12_as_52 (by decide) (by decide)
        · rw [if_pos hc22] at h
          refine g_iload_n hC dX12_as_42 rfl ?_
          refine g_goto (tgt := 52) hC dX12_as_43 (by decide) ?_
          cases h
          exact g_iret hC hR dX12_as_52 (by decide) (by decide)
    · rw [if_pos hc13] at h
      refine g_aload_n hC dX12_as_17 rfl ?_
      refine g_ldc hC tw_1083 dX12_as_18 ?_
      obtain ⟨ho29, h⟩ := gd_some h
      obtain ⟨r30, S28, hr27, h⟩ := bd2_some h
      refine g_callV (rest := []) hC mi_X12_finding (k_X12_finding hr27) ck_X12.1 (by decide) ho29 tw_1069 tw_1071 ts_24 dX12_as_20 rfl rfl ⟨by decide, by decide⟩ (Nat.le_of_ble_eq_true rfl) ⟨by decide, by decide⟩ ?_
      cases h
      exact g_iret hC hR dX12_as_23 (by decide) (by decide)

theorem mi_X12_ofLoad : MI yX12_ofLoad cX12_ofLoad 2 (some .int) 2 := ⟨tw_1125, tw_14, by decide +kernel, by decide +kernel, by decide +kernel⟩
noncomputable def f_X12_ofLoad (S : Wd) (a0 : Int32) (a1 : Int32) : Option (Int32 × Wd) := some ((((112 : Int32) + ((11 : Int32) * a0)) + a1), S)
set_option maxRecDepth 100000 in
set_option maxHeartbeats 4000000 in
theorem k_X12_ofLoad {S : Wd} {a0 : Int32} {a1 : Int32} {r : Int32} {S' : Wd} (h : f_X12_ofLoad S a0 a1 = some (r, S')) : Sp yX12_ofLoad cX12_ofLoad 2 (some .int) 0 0 0 0 [.int a0, .int a1] S (some (.int r)) S' := by
  unfold f_X12_ofLoad at h
  refine Sp.of (by decide +kernel) (Nat.le_of_ble_eq_true rfl) ?_
  intro b hC hin hR
  show G b 0 [(0, .int a0), (1, .int a1)] [] S 0 0
  refine g_bipush (v := (112 : Int32)) hC dX12_ofLoad_0 (by decide) ?_
  refine g_bipush (v := (11 : Int32)) hC dX12_ofLoad_2 (by decide) ?_
  refine g_iload_n hC dX12_ofLoad_4 rfl ?_
  refine g_imul hC dX12_ofLoad_5 ?_
  refine g_iadd hC dX12_ofLoad_6 ?_
  refine g_iload_n hC dX12_ofLoad_7 rfl ?_
  refine g_iadd hC dX12_ofLoad_8 ?_
  cases h
  exact g_iret hC hR dX12_ofLoad_9 (by decide) (by decide)

theorem mi_X12_lorryIs : MI yX12_lorryIs cX12_lorryIs 5 (some .int) 2 := ⟨tw_1122, tw_14, by decide +kernel, by decide +kernel, by decide +kernel⟩
noncomputable def B_X12_lorryIs_0 (S : Wd) (a0 : Nat) (a1 : Int32) (a2 : Int32) : Option ((Int32 × Wd) ⊕ Cs) := gd (ob S a0 12) (bd2 (f_X12_isLorry S a0 a1) (fun r4 S2 => if r4 = 0 then (gd (ob S2 a0 12) (bd2 (f_X12_finding S2 a0 (-100001 : Int32)) (fun r9 S7 => some (.inl (r9, S7))))) else (bd2 (f_X12_within S2 a2 (0 : Int32) (7 : Int32)) (fun r12 S11 => if r12 = 0 then (gd (ob S11 a0 12) (bd2 (f_X12_finding S11 a0 (-100001 : Int32)) (fun r25 S23 => some (.inl (r25, S23))))) else (if (7 : Int32) ≤ a2 then (some (.inr (1, [a0], [a1, a2, (0 : Int32), (0 : Int32)], S11))) else (gd (ob S11 a0 12) (Option.bind (wO S11 a0 0) (fun q16 => bd2 (f_X12_ofLorry S11 a1 a2) (fun r20 S19 => gd (ix S19 q16 100 r20) (some (.inl ((wI S19 q16 r20.toNatClampNeg), S19))))))))))))
noncomputable def B_X12_lorryIs_1 (S : Wd) (x0 : Nat) (x1 : Int32) (x2 : Int32) (x3 : Int32) (x4 : Int32) : Option ((Int32 × Wd) ⊕ Cs) := gd (ob S x0 12) (Option.bind (wO S x0 0) (fun q27 => gd (ix S q27 100 (65 : Int32)) (if (wI S q27 (65 : Int32).toNatClampNeg) ≤ x4 then (some (.inl (x3, S))) else (gd (ob S x0 12) (Option.bind (wO S x0 0) (fun q32 => bd2 (f_X12_ofLoad S x4 (10 : Int32)) (fun r36 S35 => gd (ix S35 q32 100 r36) (if (wI S35 q32 r36.toNatClampNeg) = x1 then (some (.inr (1, [x0], [x1, x2, (x3 ||| ((1 : Int32) <<< (x4 &&& 31))), (x4 + (1 : Int32))], S35))) else (some (.inr (1, [x0], [x1, x2, (x3 ||| (0 : Int32)), (x4 + (1 : Int32))], S35)))))))))))
noncomputable def B_X12_lorryIs : Cs → Option ((Int32 × Wd) ⊕ Cs)
  | (0, [a0], [a1, a2], S) => B_X12_lorryIs_0 S a0 a1 a2
  | (1, [x0], [x1, x2, x3, x4], S) => B_X12_lorryIs_1 S x0 x1 x2 x3 x4
  | _ => none
def P_X12_lorryIs : Cs → Option (Nat × List (Nat × Value) × Wd × Nat × Nat)
  | (0, [a0], [a1, a2], S) => some (0, [(0, .ref a0), (1, .int a1), (2, .int a2)], S, 0, 0)
  | (1, [x0], [x1, x2, x3, x4], S) => some (47, [(0, .ref x0), (1, .int x1), (2, .int x2), (3, .int x3), (4, .int x4)], S, 0, 0)
  | _ => none
noncomputable def f_X12_lorryIs (S : Wd) (a0 : Nat) (a1 : Int32) (a2 : Int32) : Option (Int32 × Wd) := ru B_X12_lorryIs (0, [a0], [a1, a2], S)
abbrev N_X12_lorryIs (b : Bd) (r : Int32 × Wd) (c : (Int32 × Wd) ⊕ Cs) : Prop := match c with
  | .inl r' => r' = r
  | .inr s' => ∀ pc L S kc ks, P_X12_lorryIs s' = some (pc, L, S, kc, ks) → G b pc L [] S kc ks
set_option maxRecDepth 100000 in
set_option maxHeartbeats 4000000 in
theorem w_X12_lorryIs_0 {b : Bd} {r : Int32 × Wd} (hC : CX b yX12_lorryIs.cls cX12_lorryIs 5 { frames := 2, cells := 0, slots := 0, locals := 43 }) (hin : yX12_lorryIs.name = "<init>" → b.2.2.2.2.2.2.2.2.1.name = "<init>") (hR : RT b (some .int) (some (.int r.1)) r.2 0 0) {S : Wd} {a0 : Nat} {a1 : Int32} {a2 : Int32} {c : (Int32 × Wd) ⊕ Cs} (h : B_X12_lorryIs_0 S a0 a1 a2 = some c) (hk : N_X12_lorryIs b r c) : G b 0 [(0, .ref a0), (1, .int a1), (2, .int a2)] [] S 0 0 := by
  unfold B_X12_lorryIs_0 at h
  refine g_aload_n hC dX12_lorryIs_0 rfl ?_
  refine g_iload_n hC dX12_lorryIs_1 rfl ?_
  obtain ⟨ho3, h⟩ := gd_some h
  obtain ⟨r4, S2, hr1, h⟩ := bd2_some h
  refine g_callV (rest := []) hC mi_X12_isLorry (k_X12_isLorry hr1) ck_X12.1 (by decide) ho3 tw_1114 tw_1116 ts_28 dX12_lorryIs_2 rfl rfl ⟨by decide, by decide⟩ (Nat.le_of_ble_eq_true rfl) ⟨by decide, by decide⟩ ?_
  refine g_if_eq (tgt := 18) hC dX12_lorryIs_5 (by decide) (fun hc5 => ?_) (fun hc5 => ?_)
  · rw [if_pos hc5] at h
    refine g_aload_n hC dX12_lorryIs_18 rfl ?_
    refine g_ldc hC tw_1083 dX12_lorryIs_19 ?_
    obtain ⟨ho8, h⟩ := gd_some h
    obtain ⟨r9, S7, hr6, h⟩ := bd2_some h
    refine g_callV (rest := []) hC mi_X12_finding (k_X12_finding hr6) ck_X12.1 (by decide) ho8 tw_1069 tw_1071 ts_24 dX12_lorryIs_21 rfl rfl ⟨by decide, by decide⟩ (Nat.le_of_ble_eq_true rfl) ⟨by decide, by decide⟩ ?_
    cases h
    subst hk
    exact g_iret hC hR dX12_lorryIs_24 (by decide) (by decide)
  · rw [if_neg hc5] at h
    refine g_iload_n hC dX12_lorryIs_8 rfl ?_
    refine g_iconst (v := (0 : Int32)) hC dX12_lorryIs_9 (by decide) ?_
    refine g_bipush (v := (7 : Int32)) hC dX12_lorryIs_10 (by decide) ?_
    obtain ⟨r12, S11, hr10, h⟩ := bd2_some h
    refine g_callS (rest := []) hC mi_X12_within (k_X12_within hr10) tw_1080 tw_1081 dX12_lorryIs_12 rfl rfl ⟨by decide, by decide⟩ (Nat.le_of_ble_eq_true rfl) ⟨by decide, by decide⟩ ?_
    refine g_if_ne (tgt := 25) hC dX12_lorryIs_15 (by decide) (fun hc13 => ?_) (fun hc13 => ?_)
    · rw [if_neg hc13] at h
      refine g_iload_n hC dX12_lorryIs_25 rfl ?_
      refine g_bipush (v := (7 : Int32)) hC dX12_lorryIs_26 (by decide) ?_
      refine g_icmp_ge (tgt := 42) hC dX12_lorryIs_28 (by decide) (fun hc14 => ?_) (fun hc14 => ?_)
      · rw [if_pos hc14] at h
        refine g_iconst (v := (0 : Int32)) hC dX12_lorryIs_42 (by decide) ?_
        refine g_istore_n (L' := [(3, .int (0 : Int32)), (0, .ref a0), (1, .int a1), (2, .int a2)]) hC dX12_lorryIs_43 (by decide) rfl ?_
        refine g_iconst (v := (0 : Int32)) hC dX12_lorryIs_44 (by decide) ?_
        refine g_istore (L' := [(4, .int (0 : Int32)), (3, .int (0 : Int32)), (0, .ref a0), (1, .int a1), (2, .int a2)]) hC dX12_lorryIs_45 (by decide) rfl ?_
        cases h
        refine g_pick (L' := [(0, .ref a0), (1, .int a1), (2, .int a2), (3, .int (0 : Int32)), (4, .int (0 : Int32))]) [2, 3, 4, 1, 0] rfl ?_
        exact hk _ _ _ _ _ rfl
      · rw [if_neg hc14] at h
        refine g_aload_n hC dX12_lorryIs_31 rfl ?_
        obtain ⟨ho15, h⟩ := gd_some h
        obtain ⟨q16, hq17, h⟩ := Option.bind_eq_some_iff.mp h
        refine g_getr (k := 0) (q := q16) hC ck_X12 (by decide) tw_984 rfl (by decide) dX12_lorryIs_32 ho15 hq17 ?_
        refine g_iload_n hC dX12_lorryIs_35 rfl ?_
        refine g_iload_n hC dX12_lorryIs_36 rfl ?_
        obtain ⟨r20, S19, hr18, h⟩ := bd2_some h
        refine g_callS (rest := [.ref q16]) hC mi_X12_ofLorry (k_X12_ofLorry hr18) tw_1107 tw_1108 dX12_lorryIs_37 rfl rfl ⟨by decide, by decide⟩ (Nat.le_of_ble_eq_true rfl) ⟨by decide, by decide⟩ ?_
        obtain ⟨hx21, h⟩ := gd_some h
        refine g_iald hC dX12_lorryIs_40 hx21.1 hx21.2 ?_
        cases h
        subst hk
        exact g_iret hC hR dX12_lorryIs_41 (by decide) (by decide)
    · rw [if_pos hc13] at h
      refine g_aload_n hC dX12_lorryIs_18 rfl ?_
      refine g_ldc hC tw_1083 dX12_lorryIs_19 ?_
      obtain ⟨ho24, h⟩ := gd_some h
      obtain ⟨r25, S23, hr22, h⟩ := bd2_some h
      refine g_callV (rest := []) hC mi_X12_finding (k_X12_finding hr22) ck_X12.1 (by decide) ho24 tw_1069 tw_1071 ts_24 dX12_lorryIs_21 rfl rfl ⟨by decide, by decide⟩ (Nat.le_of_ble_eq_true rfl) ⟨by decide, by decide⟩ ?_
      cases h
      subst hk
      exact g_iret hC hR dX12_lorryIs_24 (by decide) (by decide)
set_option maxRecDepth 100000 in
set_option maxHeartbeats 4000000 in
theorem w_X12_lorryIs_1 {b : Bd} {r : Int32 × Wd} (hC : CX b yX12_lorryIs.cls cX12_lorryIs 5 { frames := 2, cells := 0, slots := 0, locals := 43 }) (hin : yX12_lorryIs.name = "<init>" → b.2.2.2.2.2.2.2.2.1.name = "<init>") (hR : RT b (some .int) (some (.int r.1)) r.2 0 0) {S : Wd} {x0 : Nat} {x1 : Int32} {x2 : Int32} {x3 : Int32} {x4 : Int32} {c : (Int32 × Wd) ⊕ Cs} (h : B_X12_lorryIs_1 S x0 x1 x2 x3 x4 = some c) (hk : N_X12_lorryIs b r c) : G b 47 [(0, .ref x0), (1, .int x1), (2, .int x2), (3, .int x3), (4, .int x4)] [] S 0 0 := by
  unfold B_X12_lorryIs_1 at h
  refine g_iload hC dX12_lorryIs_47 rfl ?_
  refine g_aload_n hC dX12_lorryIs_49 rfl ?_
  obtain ⟨ho26, h⟩ := gd_some h
  obtain ⟨q27, hq28, h⟩ := Option.bind_eq_some_iff.mp h
  refine g_getr (k := 0) (q := q27) hC ck_X12 (by decide) tw_984 rfl (by decide) dX12_lorryIs_50 ho26 hq28 ?_
  refine g_bipush (v := (65 : Int32)) hC dX12_lorryIs_53 (by decide) ?_
  obtain ⟨hx29, h⟩ := gd_some h
  refine g_iald hC dX12_lorryIs_55 hx29.1 hx29.2 ?_
  refine g_icmp_ge (tgt := 92) hC dX12_lorryIs_56 (by decide) (fun hc30 => ?_) (fun hc30 => ?_)
  · rw [if_pos hc30] at h
    refine g_iload_n hC dX12_lorryIs_92 rfl ?_
    cases h
    subst hk
    exact g_iret hC hR dX12_lorryIs_93 (by decide) (by decide)
  · rw [if_neg hc30] at h
    refine g_iload_n hC dX12_lorryIs_59 rfl ?_
    refine g_aload_n hC dX12_lorryIs_60 rfl ?_
    obtain ⟨ho31, h⟩ := gd_some h
    obtain ⟨q32, hq33, h⟩ := Option.bind_eq_some_iff.mp h
    refine g_getr (k := 0) (q := q32) hC ck_X12 (by decide) tw_984 rfl (by decide) dX12_lorryIs_61 ho31 hq33 ?_
    refine g_iload hC dX12_lorryIs_64 rfl ?_
    refine g_bipush (v := (10 : Int32)) hC dX12_lorryIs_66 (by decide) ?_
    obtain ⟨r36, S35, hr34, h⟩ := bd2_some h
    refine g_callS (rest := [.ref q32, .int x3]) hC mi_X12_ofLoad (k_X12_ofLoad hr34) tw_1123 tw_1124 dX12_lorryIs_68 rfl rfl ⟨by decide, by decide⟩ (Nat.le_of_ble_eq_true rfl) ⟨by decide, by decide⟩ ?_
    obtain ⟨hx37, h⟩ := gd_some h
    refine g_iald hC dX12_lorryIs_71 hx37.1 hx37.2 ?_
    refine g_iload_n hC dX12_lorryIs_72 rfl ?_
    refine g_icmp_ne (tgt := 83) hC dX12_lorryIs_73 (by decide) (fun hc38 => ?_) (fun hc38 => ?_)
    · rw [if_neg hc38] at h
      refine g_iconst (v := (0 : Int32)) hC dX12_lorryIs_83 (by decide) ?_
      refine g_ior hC dX12_lorryIs_84 ?_
      refine g_istore_n (L' := [(3, .int (x3 ||| (0 : Int32))), (0, .ref x0), (1, .int x1), (2, .int x2), (4, .int x4)]) hC dX12_lorryIs_85 (by decide) rfl ?_
      refine g_iinc (v := (1 : Int32)) (L' := [(4, .int (x4 + (1 : Int32))), (3, .int (x3 ||| (0 : Int32))), (0, .ref x0), (1, .int x1), (2, .int x2)]) hC dX12_lorryIs_86 rfl (by decide) (by decide) rfl ?_
      refine g_goto (tgt := 47) hC dX12_lorryIs_89 (by decide) ?_
      cases h
      refine g_pick (L' := [(0, .ref x0), (1, .int x1), (2, .int x2), (3, .int (x3 ||| (0 : Int32))), (4, .int (x4 + (1 : Int32)))]) [2, 3, 4, 1, 0] rfl ?_
      exact hk _ _ _ _ _ rfl
    · rw [if_pos hc38] at h
      refine g_iconst (v := (1 : Int32)) hC dX12_lorryIs_76 (by decide) ?_
      refine g_iload hC dX12_lorryIs_77 rfl ?_
      refine g_ishl hC dX12_lorryIs_79 ?_
      refine g_goto (tgt := 84) hC dX12_lorryIs_80 (by decide) ?_
      refine g_ior hC dX12_lorryIs_84 ?_
      refine g_istore_n (L' := [(3, .int (x3 ||| ((1 : Int32) <<< (x4 &&& 31)))), (0, .ref x0), (1, .int x1), (2, .int x2), (4, .int x4)]) hC dX12_lorryIs_85 (by decide) rfl ?_
      refine g_iinc (v := (1 : Int32)) (L' := [(4, .int (x4 + (1 : Int32))), (3, .int (x3 ||| ((1 : Int32) <<< (x4 &&& 31)))), (0, .ref x0), (1, .int x1), (2, .int x2)]) hC dX12_lorryIs_86 rfl (by decide) (by decide) rfl ?_
      refine g_goto (tgt := 47) hC dX12_lorryIs_89 (by decide) ?_
      cases h
      refine g_pick (L' := [(0, .ref x0), (1, .int x1), (2, .int x2), (3, .int (x3 ||| ((1 : Int32) <<< (x4 &&& 31)))), (4, .int (x4 + (1 : Int32)))]) [2, 3, 4, 1, 0] rfl ?_
      exact hk _ _ _ _ _ rfl
theorem w_X12_lorryIs {b : Bd} {r : Int32 × Wd} (hC : CX b yX12_lorryIs.cls cX12_lorryIs 5 { frames := 2, cells := 0, slots := 0, locals := 43 }) (hin : yX12_lorryIs.name = "<init>" → b.2.2.2.2.2.2.2.2.1.name = "<init>") (hR : RT b (some .int) (some (.int r.1)) r.2 0 0) {s : Cs} {c : (Int32 × Wd) ⊕ Cs} (h : B_X12_lorryIs s = some c) (hk : N_X12_lorryIs b r c) : ∀ pc L S kc ks, P_X12_lorryIs s = some (pc, L, S, kc, ks) → G b pc L [] S kc ks := by
  intro pc L S kc ks hp
  unfold B_X12_lorryIs at h
  split at h
  · cases hp
    exact w_X12_lorryIs_0 hC hin hR h hk
  · cases hp
    exact w_X12_lorryIs_1 hC hin hR h hk
  · cases h
theorem k_X12_lorryIs {S : Wd} {a0 : Nat} {a1 : Int32} {a2 : Int32} {r : Int32} {S' : Wd} (h : f_X12_lorryIs S a0 a1 a2 = some (r, S')) : Sp yX12_lorryIs cX12_lorryIs 5 (some .int) 2 43 0 0 [.ref a0, .int a1, .int a2] S (some (.int r)) S' := by
  unfold f_X12_lorryIs at h
  refine Sp.of (by decide +kernel) (Nat.le_of_ble_eq_true rfl) ?_
  intro b hC hin hR
  exact ru_ind (P := fun s q0 => q0 = (r, S') → ∀ pc L S kc ks, P_X12_lorryIs s = some (pc, L, S, kc, ks) → G b pc L [] S kc ks) (fun s q0 hB e => w_X12_lorryIs (r := (r, S')) hC hin hR hB e) (fun s s' q0 hB ih e => w_X12_lorryIs (r := (r, S')) hC hin hR hB (ih e)) h rfl _ _ _ _ _ rfl

theorem mi_X12_load : MI yX12_load cX12_load 7 (some .int) 5 := ⟨tw_1129, tw_14, by decide +kernel, by decide +kernel, by decide +kernel⟩
noncomputable def f_X12_load (S : Wd) (a0 : Nat) (a1 : Int32) (a2 : Int32) (a3 : Int32) (a4 : Int32) (a5 : Int32) : Option (Int32 × Wd) := if a1 < 0 then (gd (ob S a0 12) (bd2 (f_X12_finding S a0 (-100001 : Int32)) (fun r5 S3 => some (r5, S3)))) else (bd2 (f_X12_isTown S (a1 / (10 : Int32))) (fun r8 S7 => if r8 = 0 then (gd (ob S7 a0 12) (bd2 (f_X12_finding S7 a0 (-100001 : Int32)) (fun r13 S11 => some (r13, S11)))) else (bd2 (f_X12_isTown S7 (irm a1 (10 : Int32))) (fun r16 S15 => if r16 = 0 then (gd (ob S15 a0 12) (bd2 (f_X12_finding S15 a0 (-100001 : Int32)) (fun r21 S19 => some (r21, S19)))) else (bd2 (f_X12_within S15 a2 (0 : Int32) (2 : Int32)) (fun r24 S23 => if r24 = 0 then (gd (ob S23 a0 12) (bd2 (f_X12_finding S23 a0 (-100001 : Int32)) (fun r29 S27 => some (r29, S27)))) else (bd2 (f_X12_within S23 a3 (1 : Int32) (40 : Int32)) (fun r32 S31 => if r32 = 0 then (gd (ob S31 a0 12) (bd2 (f_X12_finding S31 a0 (-100001 : Int32)) (fun r37 S35 => some (r37, S35)))) else (bd2 (f_X12_within S31 a4 (1 : Int32) (40 : Int32)) (fun r40 S39 => if r40 = 0 then (gd (ob S39 a0 12) (bd2 (f_X12_finding S39 a0 (-100001 : Int32)) (fun r45 S43 => some (r45, S43)))) else (bd2 (f_X12_within S39 a5 (0 : Int32) (9999 : Int32)) (fun r48 S47 => if r48 = 0 then (gd (ob S47 a0 12) (bd2 (f_X12_finding S47 a0 (-100001 : Int32)) (fun r176 S174 => some (r176, S174)))) else (if (a1 / (10 : Int32)) = (irm a1 (10 : Int32)) then (gd (ob S47 a0 12) (bd2 (f_X12_finding S47 a0 (-100003 : Int32)) (fun r172 S170 => some (r172, S170)))) else (gd (ob S47 a0 12) (Option.bind (wO S47 a0 0) (fun q52 => gd (ix S47 q52 100 (65 : Int32)) (if (wI S47 q52 (65 : Int32).toNatClampNeg) = (8 : Int32) then (gd (ob S47 a0 12) (bd2 (f_X12_finding S47 a0 (-100005 : Int32)) (fun r168 S166 => some (r168, S166)))) else (gd (ob S47 a0 12) (Option.bind (f_X12_keep S47 a0) (fun S57 => gd (ob S57 a0 12) (Option.bind (wO S57 a0 0) (fun q60 => bd2 (f_X12_ofLoad S57 (wI S47 q52 (65 : Int32).toNatClampNeg) (0 : Int32)) (fun r64 S63 => gd (ix S63 q60 100 r64) (ltS (sI S63 q60 r64.toNatClampNeg (a1 / (10 : Int32))) (fun S66 => gd (ob S66 a0 12) (Option.bind (wO S66 a0 0) (fun q69 => bd2 (f_X12_ofLoad S66 (wI S47 q52 (65 : Int32).toNatClampNeg) (1 : Int32)) (fun r73 S72 => gd (ix S72 q69 100 r73) (ltS (sI S72 q69 r73.toNatClampNeg (irm a1 (10 : Int32))) (fun S75 => gd (ob S75 a0 12) (Option.bind (wO S75 a0 0) (fun q78 => bd2 (f_X12_ofLoad S75 (wI S47 q52 (65 : Int32).toNatClampNeg) (2 : Int32)) (fun r82 S81 => gd (ix S81 q78 100 r82) (ltS (sI S81 q78 r82.toNatClampNeg a2) (fun S84 => gd (ob S84 a0 12) (Option.bind (wO S84 a0 0) (fun q87 => bd2 (f_X12_ofLoad S84 (wI S47 q52 (65 : Int32).toNatClampNeg) (3 : Int32)) (fun r91 S90 => gd (ix S90 q87 100 r91) (ltS (sI S90 q87 r91.toNatClampNeg a3) (fun S93 => gd (ob S93 a0 12) (Option.bind (wO S93 a0 0) (fun q96 => bd2 (f_X12_ofLoad S93 (wI S47 q52 (65 : Int32).toNatClampNeg) (4 : Int32)) (fun r100 S99 => gd (ix S99 q96 100 r100) (ltS (sI S99 q96 r100.toNatClampNeg a4) (fun S102 => gd (ob S102 a0 12) (Option.bind (wO S102 a0 0) (fun q105 => bd2 (f_X12_ofLoad S102 (wI S47 q52 (65 : Int32).toNatClampNeg) (5 : Int32)) (fun r109 S108 => gd (ix S108 q105 100 r109) (ltS (sI S108 q105 r109.toNatClampNeg a5) (fun S111 => gd (ob S111 a0 12) (Option.bind (wO S111 a0 0) (fun q114 => bd2 (f_X12_ofLoad S111 (wI S47 q52 (65 : Int32).toNatClampNeg) (6 : Int32)) (fun r118 S117 => gd (ix S117 q114 100 r118) (ltS (sI S117 q114 r118.toNatClampNeg (0 : Int32)) (fun S120 => gd (ob S120 a0 12) (Option.bind (wO S120 a0 0) (fun q123 => bd2 (f_X12_ofLoad S120 (wI S47 q52 (65 : Int32).toNatClampNeg) (7 : Int32)) (fun r127 S126 => gd (ix S126 q123 100 r127) (ltS (sI S126 q123 r127.toNatClampNeg (4000 : Int32)) (fun S129 => gd (ob S129 a0 12) (Option.bind (wO S129 a0 0) (fun q132 => bd2 (f_X12_ofLoad S129 (wI S47 q52 (65 : Int32).toNatClampNeg) (8 : Int32)) (fun r136 S135 => gd (ix S135 q132 100 r136) (ltS (sI S135 q132 r136.toNatClampNeg (0 : Int32)) (fun S138 => gd (ob S138 a0 12) (Option.bind (wO S138 a0 0) (fun q141 => bd2 (f_X12_ofLoad S138 (wI S47 q52 (65 : Int32).toNatClampNeg) (9 : Int32)) (fun r145 S144 => gd (ix S144 q141 100 r145) (ltS (sI S144 q141 r145.toNatClampNeg (4000 : Int32)) (fun S147 => gd (ob S147 a0 12) (Option.bind (wO S147 a0 0) (fun q150 => bd2 (f_X12_ofLoad S147 (wI S47 q52 (65 : Int32).toNatClampNeg) (10 : Int32)) (fun r154 S153 => gd (ix S153 q150 100 r154) (ltS (sI S153 q150 r154.toNatClampNeg (-1 : Int32)) (fun S156 => gd (ob S156 a0 12) (Option.bind (wO S156 a0 0) (fun q159 => gd (ix S156 q159 100 (65 : Int32)) (gd (ix S156 q159 100 (65 : Int32)) (ltS (sI S156 q159 (65 : Int32).toNatClampNeg ((wI S156 q159 (65 : Int32).toNatClampNeg) + (1 : Int32))) (fun S163 => some ((wI S47 q52 (65 : Int32).toNatClampNeg), S163)))))))))))))))))))))))))))))))))))))))))))))))))))))))))))))))))))))))))))))))))
set_option maxRecDepth 100000 in
set_option maxHeartbeats 4000000 in
theorem k_X12_load {S : Wd} {a0 : Nat} {a1 : Int32} {a2 : Int32} {a3 : Int32} {a4 : Int32} {a5 : Int32} {r : Int32} {S' : Wd} (h : f_X12_load S a0 a1 a2 a3 a4 a5 = some (r, S')) : Sp yX12_load cX12_load 7 (some .int) 2 42 0 0 [.ref a0, .int a1, .int a2, .int a3, .int a4, .int a5] S (some (.int r)) S' := by
  unfold f_X12_load at h
  refine Sp.of (by decide +kernel) (Nat.le_of_ble_eq_true rfl) ?_
  intro b hC hin hR
  show G b 0 [(0, .ref a0), (1, .int a1), (2, .int a2), (3, .int a3), (4, .int a4), (5, .int a5)] [] S 0 0
  refine g_iload_n hC dX12_load_0 rfl ?_
  refine g_if_lt (tgt := 66) hC dX12_load_1 (by decide) (fun hc1 => ?_) (fun hc1 => ?_)
  · rw [if_pos hc1] at h
    refine g_aload_n hC dX12_load_66 rfl ?_
    refine g_ldc hC tw_1083 dX12_load_67 ?_
    obtain ⟨ho4, h⟩ := gd_some h
    obtain ⟨r5, S3, hr2, h⟩ := bd2_some h
    refine g_callV (rest := []) hC mi_X12_finding (k_X12_finding hr2) ck_X12.1 (by decide) ho4 tw_1069 tw_1071 ts_24 dX12_load_69 rfl rfl ⟨by decide, by decide⟩ (Nat.le_of_ble_eq_true rfl) ⟨by decide, by decide⟩ ?_
    cases h
    exact g_iret hC hR dX12_load_72 (by decide) (by decide)
  · rw [if_neg hc1] at h
    refine g_iload_n hC dX12_load_4 rfl ?_
    refine g_bipush (v := (10 : Int32)) hC dX12_load_5 (by decide) ?_
    refine g_idiv hC dX12_load_7 (by decide) ?_
    obtain ⟨r8, S7, hr6, h⟩ := bd2_some h
    refine g_callS (rest := []) hC mi_X12_isTown (k_X12_isTown hr6) tw_1077 tw_1078 dX12_load_8 rfl rfl ⟨by decide, by decide⟩ (Nat.le_of_ble_eq_true rfl) ⟨by decide, by decide⟩ ?_
    refine g_if_eq (tgt := 66) hC dX12_load_11 (by decide) (fun hc9 => ?_) (fun hc9 => ?_)
    · rw [if_pos hc9] at h
      refine g_aload_n hC dX12_load_66 rfl ?_
      refine g_ldc hC tw_1083 dX12_load_67 ?_
      obtain ⟨ho12, h⟩ := gd_some h
      obtain ⟨r13, S11, hr10, h⟩ := bd2_some h
      refine g_callV (rest := []) hC mi_X12_finding (k_X12_finding hr10) ck_X12.1 (by decide) ho12 tw_1069 tw_1071 ts_24 dX12_load_69 rfl rfl ⟨by decide, by decide⟩ (Nat.le_of_ble_eq_true rfl) ⟨by decide, by decide⟩ ?_
      cases h
      exact g_iret hC hR dX12_load_72 (by decide) (by decide)
    · rw [if_neg hc9] at h
      refine g_iload_n hC dX12_load_14 rfl ?_
      refine g_bipush (v := (10 : Int32)) hC dX12_load_15 (by decide) ?_
      refine g_irm hC dX12_load_17 (by decide) ?_
      obtain ⟨r16, S15, hr14, h⟩ := bd2_some h
      refine g_callS (rest := []) hC mi_X12_isTown (k_X12_isTown hr14) tw_1077 tw_1078 dX12_load_18 rfl rfl ⟨by decide, by decide⟩ (Nat.le_of_ble_eq_true rfl) ⟨by decide, by decide⟩ ?_
      refine g_if_eq (tgt := 66) hC dX12_load_21 (by decide) (fun hc17 => ?_) (fun hc17 => ?_)
      · rw [if_pos hc17] at h
        refine g_aload_n hC dX12_load_66 rfl ?_
        refine g_ldc hC tw_1083 dX12_load_67 ?_
        obtain ⟨ho20, h⟩ := gd_some h
        obtain ⟨r21, S19, hr18, h⟩ := bd2_some h
        refine g_callV (rest := []) hC mi_X12_finding (k_X12_finding hr18) ck_X12.1 (by decide) ho20 tw_1069 tw_1071 ts_24 dX12_load_69 rfl rfl ⟨by decide, by decide⟩ (Nat.le_of_ble_eq_true rfl) ⟨by decide, by decide⟩ ?_
        cases h
        exact g_iret hC hR dX12_load_72 (by decide) (by decide)
      · rw [if_neg hc17] at h
        refine g_iload_n hC dX12_load_24 rfl ?_
        refine g_iconst (v := (0 : Int32)) hC dX12_load_25 (by decide) ?_
        refine g_iconst (v := (2 : Int32)) hC dX12_load_26 (by decide) ?_
        obtain ⟨r24, S23, hr22, h⟩ := bd2_some h
        refine g_callS (rest := []) hC mi_X12_within (k_X12_within hr22) tw_1080 tw_1081 dX12_load_27 rfl rfl ⟨by decide, by decide⟩ (Nat.le_of_ble_eq_true rfl) ⟨by decide, by decide⟩ ?_
        refine g_if_eq (tgt := 66) hC dX12_load_30 (by decide) (fun hc25 => ?_) (fun hc25 => ?_)
        · rw [if_pos hc25] at h
          refine g_aload_n hC dX12_load_66 rfl ?_
          refine g_ldc hC tw_1083 dX12_load_67 ?_
          obtain ⟨ho28, h⟩ := gd_some h
          obtain ⟨r29, S27, hr26, h⟩ := bd2_some h
          refine g_callV (rest := []) hC mi_X12_finding (k_X12_finding hr26) ck_X12.1 (by decide) ho28 tw_1069 tw_1071 ts_24 dX12_load_69 rfl rfl ⟨by decide, by decide⟩ (Nat.le_of_ble_eq_true rfl) ⟨by decide, by decide⟩ ?_
          cases h
          exact g_iret hC hR dX12_load_72 (by decide) (by decide)
        · rw [if_neg hc25] at h
          refine g_iload_n hC dX12_load_33 rfl ?_
          refine g_iconst (v := (1 : Int32)) hC dX12_load_34 (by decide) ?_
          refine g_bipush (v := (40 : Int32)) hC dX12_load_35 (by decide) ?_
          obtain ⟨r32, S31, hr30, h⟩ := bd2_some h
          refine g_callS (rest := []) hC mi_X12_within (k_X12_within hr30) tw_1080 tw_1081 dX12_load_37 rfl rfl ⟨by decide, by decide⟩ (Nat.le_of_ble_eq_true rfl) ⟨by decide, by decide⟩ ?_
          refine g_if_eq (tgt := 66) hC dX12_load_40 (by decide) (fun hc33 => ?_) (fun hc33 => ?_)
          · rw [if_pos hc33] at h
            refine g_aload_n hC dX12_load_66 rfl ?_
            refine g_ldc hC tw_1083 dX12_load_67 ?_
            obtain ⟨ho36, h⟩ := gd_some h
            obtain ⟨r37, S35, hr34, h⟩ := bd2_some h
            refine g_callV (rest := []) hC mi_X12_finding (k_X12_finding hr34) ck_X12.1 (by decide) ho36 tw_1069 tw_1071 ts_24 dX12_load_69 rfl rfl ⟨by decide, by decide⟩ (Nat.le_of_ble_eq_true rfl) ⟨by decide, by decide⟩ ?_
            cases h
            exact g_iret hC hR dX12_load_72 (by decide) (by decide)
          · rw [if_neg hc33] at h
            refine g_iload hC dX12_load_43 rfl ?_
            refine g_iconst (v := (1 : Int32)) hC dX12_load_45 (by decide) ?_
            refine g_bipush (v := (40 : Int32)) hC dX12_load_46 (by decide) ?_
            obtain ⟨r40, S39, hr38, h⟩ := bd2_some h
            refine g_callS (rest := []) hC mi_X12_within (k_X12_within hr38) tw_1080 tw_1081 dX12_load_48 rfl rfl ⟨by decide, by decide⟩ (Nat.le_of_ble_eq_true rfl) ⟨by decide, by decide⟩ ?_
            refine g_if_eq (tgt := 66) hC dX12_load_51 (by decide) (fun hc41 => ?_) (fun hc41 => ?_)
            · rw [if_pos hc41] at h
              refine g_aload_n hC dX12_load_66 rfl ?_
              refine g_ldc hC tw_1083 dX12_load_67 ?_
              obtain ⟨ho44, h⟩ := gd_some h
              obtain ⟨r45, S43, hr42, h⟩ := bd2_some h
              refine g_callV (rest := []) hC mi_X12_finding (k_X12_finding hr42) ck_X12.1 (by decide) ho44 tw_1069 tw_1071 ts_24 dX12_load_69 rfl rfl ⟨by decide, by decide⟩ (Nat.le_of_ble_eq_true rfl) ⟨by decide, by decide⟩ ?_
              cases h
              exact g_iret hC hR dX12_load_72 (by decide) (by decide)
            · rw [if_neg hc41] at h
              refine g_iload hC dX12_load_54 rfl ?_
              refine g_iconst (v := (0 : Int32)) hC dX12_load_56 (by decide) ?_
              refine g_sipush (v := (9999 : Int32)) hC dX12_load_57 (by decide) ?_
              obtain ⟨r48, S47, hr46, h⟩ := bd2_some h
              refine g_callS (rest := []) hC mi_X12_within (k_X12_within hr46) tw_1080 tw_1081 dX12_load_60 rfl rfl ⟨by decide, by decide⟩ (Nat.le_of_ble_eq_true rfl) ⟨by decide, by decide⟩ ?_
              refine g_if_ne (tgt := 73) hC dX12_load_63 (by decide) (fun hc49 => ?_) (fun hc49 => ?_)
              · rw [if_neg hc49] at h
                refine g_iload_n hC dX12_load_73 rfl ?_
                refine g_bipush (v := (10 : Int32)) hC dX12_load_74 (by decide) ?_
                refine g_idiv hC dX12_load_76 (by decide) ?_
                refine g_iload_n hC dX12_load_77 rfl ?_
                refine g_bipush (v := (10 : Int32)) hC dX12_load_78 (by decide) ?_
                refine g_irm hC dX12_load_80 (by decide) ?_
                refine g_icmp_ne (tgt := 91) hC dX12_load_81 (by decide) (fun hc50 => ?_) (fun hc50 => ?_)
                · rw [if_neg hc50] at h
                  refine g_aload_n hC dX12_load_91 rfl ?_
                  obtain ⟨ho51, h⟩ := gd_some h
                  obtain ⟨q52, hq53, h⟩ := Option.bind_eq_some_iff.mp h
                  refine g_getr (k := 0) (q := q52) hC ck_X12 (by decide) tw_984 rfl (by decide) dX12_load_92 ho51 hq53 ?_
                  refine g_bipush (v := (65 : Int32)) hC dX12_load_95 (by decide) ?_
                  obtain ⟨hx54, h⟩ := gd_some h
                  refine g_iald hC dX12_load_97 hx54.1 hx54.2 ?_
                  refine g_istore (L' := [(6, .int (wI S47 q52 (65 : Int32).toNatClampNeg)), (0, .ref a0), (1, .int a1), (2, .int a2), (3, .int a3), (4, .int a4), (5, .int a5)]) hC dX12_load_98 (by decide) rfl ?_
                  refine g_iload hC dX12_load_100 rfl ?_
                  refine g_bipush (v := (8 : Int32)) hC dX12_load_102 (by decide) ?_
                  refine g_icmp_ne (tgt := 114) hC dX12_load_104 (by decide) (fun hc55 => ?_) (fun hc55 => ?_)
                  · rw [if_neg hc55] at h
                    refine g_aload_n hC dX12_load_114 rfl ?_
                    obtain ⟨ho58, h⟩ := gd_some h
                    obtain ⟨S57, hr56, h⟩ := Option.bind_eq_some_iff.mp h
                    refine g_callV (rest := []) hC mi_X12_keep (k_X12_keep hr56) ck_X12.1 (by decide) ho58 tw_1084 tw_1086 ts_25 dX12_load_115 rfl rfl ⟨by decide, by decide⟩ (Nat.le_of_ble_eq_true rfl) ⟨by decide, by decide⟩ ?_
                    refine g_aload_n hC dX12_load_118 rfl ?_
                    obtain ⟨ho59, h⟩ := gd_some h
                    obtain ⟨q60, hq61, h⟩ := Option.bind_eq_some_iff.mp h
                    refine g_getr (k := 0) (q := q60) hC ck_X12 (by decide) tw_984 rfl (by decide) dX12_load_119 ho59 hq61 ?_
                    refine g_iload hC dX12_load_122 rfl ?_
                    refine g_iconst (v := (0 : Int32)) hC dX12_load_124 (by decide) ?_
                    obtain ⟨r64, S63, hr62, h⟩ := bd2_some h
                    refine g_callS (rest := [.ref q60]) hC mi_X12_ofLoad (k_X12_ofLoad hr62) tw_1123 tw_1124 dX12_load_125 rfl rfl ⟨by decide, by decide⟩ (Nat.le_of_ble_eq_true rfl) ⟨by decide, by decide⟩ ?_
                    refine g_iload_n hC dX12_load_128 rfl ?_
                    refine g_bipush (v := (10 : Int32)) hC dX12_load_129 (by decide) ?_
                    refine g_idiv hC dX12_load_131 (by decide) ?_
                    obtain ⟨hx65, h⟩ := gd_some h
                    refine g_iast hC dX12_load_132 hx65.1 hx65.2 ?_
                    refine g_name (fun S66 eS67 => ?_)
                    have h := ltS_use eS67 h
                    refine g_aload_n hC dX12_load_133 rfl ?_
                    obtain ⟨ho68, h⟩ := gd_some h
                    obtain ⟨q69, hq70, h⟩ := Option.bind_eq_some_iff.mp h
                    refine g_getr (k := 0) (q := q69) hC ck_X12 (by decide) tw_984 rfl (by decide) dX12_load_134 ho68 hq70 ?_
                    refine g_iload hC dX12_load_137 rfl ?_
                    refine g_iconst (v := (1 : Int32)) hC dX12_load_139 (by decide) ?_
                    obtain ⟨r73, S72, hr71, h⟩ := bd2_some h
                    refine g_callS (rest := [.ref q69]) hC mi_X12_ofLoad (k_X12_ofLoad hr71) tw_1123 tw_1124 dX12_load_140 rfl rfl ⟨by decide, by decide⟩ (Nat.le_of_ble_eq_true rfl) ⟨by decide, by decide⟩ ?_
                    refine g_iload_n hC dX12_load_143 rfl ?_
                    refine g_bipush (v := (10 : Int32)) hC dX12_load_144 (by decide) ?_
                    refine g_irm hC dX12_load_146 (by decide) ?_
                    obtain ⟨hx74, h⟩ := gd_some h
                    refine g_iast hC dX12_load_147 hx74.1 hx74.2 ?_
                    refine g_name (fun S75 eS76 => ?_)
                    have h := ltS_use eS76 h
                    refine g_aload_n hC dX12_load_148 rfl ?_
                    obtain ⟨ho77, h⟩ := gd_some h
                    obtain ⟨q78, hq79, h⟩ := Option.bind_eq_some_iff.mp h
                    refine g_getr (k := 0) (q := q78) hC ck_X12 (by decide) tw_984 rfl (by decide) dX12_load_149 ho77 hq79 ?_
                    refine g_iload hC dX12_load_152 rfl ?_
                    refine g_iconst (v := (2 : Int32)) hC dX12_load_154 (by decide) ?_
                    obtain ⟨r82, S81, hr80, h⟩ := bd2_some h
                    refine g_callS (rest := [.ref q78]) hC mi_X12_ofLoad (k_X12_ofLoad hr80) tw_1123 tw_1124 dX12_load_155 rfl rfl ⟨by decide, by decide⟩ (Nat.le_of_ble_eq_true rfl) ⟨by decide, by decide⟩ ?_
                    refine g_iload_n hC dX12_load_158 rfl ?_
                    obtain ⟨hx83, h⟩ := gd_some h
                    refine g_iast hC dX12_load_159 hx83.1 hx83.2 ?_
                    refine g_name (fun S84 eS85 => ?_)
                    have h := ltS_use eS85 h
                    refine g_aload_n hC dX12_load_160 rfl ?_
                    obtain ⟨ho86, h⟩ := gd_some h
                    obtain ⟨q87, hq88, h⟩ := Option.bind_eq_some_iff.mp h
                    refine g_getr (k := 0) (q := q87) hC ck_X12 (by decide) tw_984 rfl (by decide) dX12_load_161 ho86 hq88 ?_
                    refine g_iload hC dX12_load_164 rfl ?_
                    refine g_iconst (v := (3 : Int32)) hC dX12_load_166 (by decide) ?_
                    obtain ⟨r91, S90, hr89, h⟩ := bd2_some h
                    refine g_callS (rest := [.ref q87]) hC mi_X12_ofLoad (k_X12_ofLoad hr89) tw_1123 tw_1124 dX12_load_167 rfl rfl ⟨by decide, by decide⟩ (Nat.le_of_ble_eq_true rfl) ⟨by decide, by decide⟩ ?_
                    refine g_iload_n hC dX12_load_170 rfl ?_
                    obtain ⟨hx92, h⟩ := gd_some h
                    refine g_iast hC dX12_load_171 hx92.1 hx92.2 ?_
                    refine g_name (fun S93 eS94 => ?_)
                    have h := ltS_use eS94 h
                    refine g_aload_n hC dX12_load_172 rfl ?_
                    obtain ⟨ho95, h⟩ := gd_some h
                    obtain ⟨q96, hq97, h⟩ := Option.bind_eq_some_iff.mp h
                    refine g_getr (k := 0) (q := q96) hC ck_X12 (by decide) tw_984 rfl (by decide) dX12_load_173 ho95 hq97 ?_
                    refine g_iload hC dX12_load_176 rfl ?_
                    refine g_iconst (v := (4 : Int32)) hC dX12_load_178 (by decide) ?_
                    obtain ⟨r100, S99, hr98, h⟩ := bd2_some h
                    refine g_callS (rest := [.ref q96]) hC mi_X12_ofLoad (k_X12_ofLoad hr98) tw_1123 tw_1124 dX12_load_179 rfl rfl ⟨by decide, by decide⟩ (Nat.le_of_ble_eq_true rfl) ⟨by decide, by decide⟩ ?_
                    refine g_iload hC dX12_load_182 rfl ?_
                    obtain ⟨hx101, h⟩ := gd_some h
                    refine g_iast hC dX12_load_184 hx101.1 hx101.2 ?_
                    refine g_name (fun S102 eS103 => ?_)
                    have h := ltS_use eS103 h
                    refine g_aload_n hC dX12_load_185 rfl ?_
                    obtain ⟨ho104, h⟩ := gd_some h
                    obtain ⟨q105, hq106, h⟩ := Option.bind_eq_some_iff.mp h
                    refine g_getr (k := 0) (q := q105) hC ck_X12 (by decide) tw_984 rfl (by decide) dX12_load_186 ho104 hq106 ?_
                    refine g_iload hC dX12_load_189 rfl ?_
                    refine g_iconst (v := (5 : Int32)) hC dX12_load_191 (by decide) ?_
                    obtain ⟨r109, S108, hr107, h⟩ := bd2_some h
                    refine g_callS (rest := [.ref q105]) hC mi_X12_ofLoad (k_X12_ofLoad hr107) tw_1123 tw_1124 dX12_load_192 rfl rfl ⟨by decide, by decide⟩ (Nat.le_of_ble_eq_true rfl) ⟨by decide, by decide⟩ ?_
                    refine g_iload hC dX12_load_195 rfl ?_
                    obtain ⟨hx110, h⟩ := gd_some h
                    refine g_iast hC dX12_load_197 hx110.1 hx110.2 ?_
                    refine g_name (fun S111 eS112 => ?_)
                    have h := ltS_use eS112 h
                    refine g_aload_n hC dX12_load_198 rfl ?_
                    obtain ⟨ho113, h⟩ := gd_some h
                    obtain ⟨q114, hq115, h⟩ := Option.bind_eq_some_iff.mp h
                    refine g_getr (k := 0) (q := q114) hC ck_X12 (by decide) tw_984 rfl (by decide) dX12_load_199 ho113 hq115 ?_
                    refine g_iload hC dX12_load_202 rfl ?_
                    refine g_bipush (v := (6 : Int32)) hC dX12_load_204 (by decide) ?_
                    obtain ⟨r118, S117, hr116, h⟩ := bd2_some h
                    refine g_callS (rest := [.ref q114]) hC mi_X12_ofLoad (k_X12_ofLoad hr116) tw_1123 tw_1124 dX12_load_206 rfl rfl ⟨by decide, by decide⟩ (Nat.le_of_ble_eq_true rfl) ⟨by decide, by decide⟩ ?_
                    refine g_iconst (v := (0 : Int32)) hC dX12_load_209 (by decide) ?_
                    obtain ⟨hx119, h⟩ := gd_some h
                    refine g_iast hC dX12_load_210 hx119.1 hx119.2 ?_
                    refine g_name (fun S120 eS121 => ?_)
                    have h := ltS_use eS121 h
                    refine g_aload_n hC dX12_load_211 rfl ?_
                    obtain ⟨ho122, h⟩ := gd_some h
                    obtain ⟨q123, hq124, h⟩ := Option.bind_eq_some_iff.mp h
                    refine g_getr (k := 0) (q := q123) hC ck_X12 (by decide) tw_984 rfl (by decide) dX12_load_212 ho122 hq124 ?_
                    refine g_iload hC dX12_load_215 rfl ?_
                    refine g_bipush (v := (7 : Int32)) hC dX12_load_217 (by decide) ?_
                    obtain ⟨r127, S126, hr125, h⟩ := bd2_some h
                    refine g_callS (rest := [.ref q123]) hC mi_X12_ofLoad (k_X12_ofLoad hr125) tw_1123 tw_1124 dX12_load_219 rfl rfl ⟨by decide, by decide⟩ (Nat.le_of_ble_eq_true rfl) ⟨by decide, by decide⟩ ?_
                    refine g_sipush (v := (4000 : Int32)) hC dX12_load_222 (by decide) ?_
                    obtain ⟨hx128, h⟩ := gd_some h
                    refine g_iast hC dX12_load_225 hx128.1 hx128.2 ?_
                    refine g_name (fun S129 eS130 => ?_)
                    have h := ltS_use eS130 h
                    refine g_aload_n hC dX12_load_226 rfl ?_
                    obtain ⟨ho131, h⟩ := gd_some h
                    obtain ⟨q132, hq133, h⟩ := Option.bind_eq_some_iff.mp h
                    refine g_getr (k := 0) (q := q132) hC ck_X12 (by decide) tw_984 rfl (by decide) dX12_load_227 ho131 hq133 ?_
                    refine g_iload hC dX12_load_230 rfl ?_
                    refine g_bipush (v := (8 : Int32)) hC dX12_load_232 (by decide) ?_
                    obtain ⟨r136, S135, hr134, h⟩ := bd2_some h
                    refine g_callS (rest := [.ref q132]) hC mi_X12_ofLoad (k_X12_ofLoad hr134) tw_1123 tw_1124 dX12_load_234 rfl rfl ⟨by decide, by decide⟩ (Nat.le_of_ble_eq_true rfl) ⟨by decide, by decide⟩ ?_
                    refine g_iconst (v := (0 : Int32)) hC dX12_load_237 (by decide) ?_
                    obtain ⟨hx137, h⟩ := gd_some h
                    refine g_iast hC dX12_load_238 hx137.1 hx137.2 ?_
                    refine g_name (fun S138 eS139 => ?_)
                    have h := ltS_use eS139 h
                    refine g_aload_n hC dX12_load_239 rfl ?_
                    obtain ⟨ho140, h⟩ := gd_some h
                    obtain ⟨q141, hq142, h⟩ := Option.bind_eq_some_iff.mp h
                    refine g_getr (k := 0) (q := q141) hC ck_X12 (by decide) tw_984 rfl (by decide) dX12_load_240 ho140 hq142 ?_
                    refine g_iload hC dX12_load_243 rfl ?_
                    refine g_bipush (v := (9 : Int32)) hC dX12_load_245 (by decide) ?_
                    obtain ⟨r145, S144, hr143, h⟩ := bd2_some h
                    refine g_callS (rest := [.ref q141]) hC mi_X12_ofLoad (k_X12_ofLoad hr143) tw_1123 tw_1124 dX12_load_247 rfl rfl ⟨by decide, by decide⟩ (Nat.le_of_ble_eq_true rfl) ⟨by decide, by decide⟩ ?_
                    refine g_sipush (v := (4000 : Int32)) hC dX12_load_250 (by decide) ?_
                    obtain ⟨hx146, h⟩ := gd_some h
                    refine g_iast hC dX12_load_253 hx146.1 hx146.2 ?_
                    refine g_name (fun S147 eS148 => ?_)
                    have h := ltS_use eS148 h
                    refine g_aload_n hC dX12_load_254 rfl ?_
                    obtain ⟨ho149, h⟩ := gd_some h
                    obtain ⟨q150, hq151, h⟩ := Option.bind_eq_some_iff.mp h
                    refine g_getr (k := 0) (q := q150) hC ck_X12 (by decide) tw_984 rfl (by decide) dX12_load_255 ho149 hq151 ?_
                    refine g_iload hC dX12_load_258 rfl ?_
                    refine g_bipush (v := (10 : Int32)) hC dX12_load_260 (by decide) ?_
                    obtain ⟨r154, S153, hr152, h⟩ := bd2_some h
                    refine g_callS (rest := [.ref q150]) hC mi_X12_ofLoad (k_X12_ofLoad hr152) tw_1123 tw_1124 dX12_load_262 rfl rfl ⟨by decide, by decide⟩ (Nat.le_of_ble_eq_true rfl) ⟨by decide, by decide⟩ ?_
                    refine g_iconst (v := (-1 : Int32)) hC dX12_load_265 (by decide) ?_
                    obtain ⟨hx155, h⟩ := gd_some h
                    refine g_iast hC dX12_load_266 hx155.1 hx155.2 ?_
                    refine g_name (fun S156 eS157 => ?_)
                    have h := ltS_use eS157 h
                    refine g_aload_n hC dX12_load_267 rfl ?_
                    obtain ⟨ho158, h⟩ := gd_some h
                    obtain ⟨q159, hq160, h⟩ := Option.bind_eq_some_iff.mp h
                    refine g_getr (k := 0) (q := q159) hC ck_X12 (by decide) tw_984 rfl (by decide) dX12_load_268 ho158 hq160 ?_
                    refine g_bipush (v := (65 : Int32)) hC dX12_load_271 (by decide) ?_
                    refine g_dup2 hC dX12_load_273 rfl rfl ?_
                    obtain ⟨hx161, h⟩ := gd_some h
                    refine g_iald hC dX12_load_274 hx161.1 hx161.2 ?_
                    refine g_iconst (v := (1 : Int32)) hC dX12_load_275 (by decide) ?_
                    refine g_iadd hC dX12_load_276 ?_
                    obtain ⟨hx162, h⟩ := gd_some h
                    refine g_iast hC dX12_load_277 hx162.1 hx162.2 ?_
                    refine g_name (fun S163 eS164 => ?_)
                    have h := ltS_use eS164 h
                    refine g_iload hC dX12_load_278 rfl ?_
                    cases h
                    exact g_iret hC hR dX12_load_280 (by decide) (by decide)
                  · rw [if_pos hc55] at h
                    refine g_aload_n hC dX12_load_107 rfl ?_
                    refine g_ldc hC tw_1106 dX12_load_108 ?_
                    obtain ⟨ho167, h⟩ := gd_some h
                    obtain ⟨r168, S166, hr165, h⟩ := bd2_some h
                    refine g_callV (rest := []) hC mi_X12_finding (k_X12_finding hr165) ck_X12.1 (by decide) ho167 tw_1069 tw_1071 ts_24 dX12_load_110 rfl rfl ⟨by decide, by decide⟩ (Nat.le_of_ble_eq_true rfl) ⟨by decide, by decide⟩ ?_
                    cases h
                    exact g_iret hC hR dX12_load_113 (by decide) (by decide)
                · rw [if_pos hc50] at h
                  refine g_aload_n hC dX12_load_84 rfl ?_
                  refine g_ldc hC tw_1130 dX12_load_85 ?_
                  obtain ⟨ho171, h⟩ := gd_some h
                  obtain ⟨r172, S170, hr169, h⟩ := bd2_some h
                  refine g_callV (rest := []) hC mi_X12_finding (k_X12_finding hr169) ck_X12.1 (by decide) ho171 tw_1069 tw_1071 ts_24 dX12_load_87 rfl rfl ⟨by decide, by decide⟩ (Nat.le_of_ble_eq_true rfl) ⟨by decide, by decide⟩ ?_
                  cases h
                  exact g_iret hC hR dX12_load_90 (by decide) (by decide)
              · rw [if_pos hc49] at h
                refine g_aload_n hC dX12_load_66 rfl ?_
                refine g_ldc hC tw_1083 dX12_load_67 ?_
                obtain ⟨ho175, h⟩ := gd_some h
                obtain ⟨r176, S174, hr173, h⟩ := bd2_some h
                refine g_callV (rest := []) hC mi_X12_finding (k_X12_finding hr173) ck_X12.1 (by decide) ho175 tw_1069 tw_1071 ts_24 dX12_load_69 rfl rfl ⟨by decide, by decide⟩ (Nat.le_of_ble_eq_true rfl) ⟨by decide, by decide⟩ ?_
                cases h
                exact g_iret hC hR dX12_load_72 (by decide) (by decide)

theorem mi_X12_isLoad : MI yX12_isLoad cX12_isLoad 2 (some .boolean) 1 := ⟨tw_1138, tw_14, by decide +kernel, by decide +kernel, by decide +kernel⟩
noncomputable def f_X12_isLoad (S : Wd) (a0 : Nat) (a1 : Int32) : Option (Int32 × Wd) := gd (ob S a0 12) (Option.bind (wO S a0 0) (fun q2 => gd (ix S q2 100 (65 : Int32)) (bd2 (f_X12_within S a1 (0 : Int32) ((wI S q2 (65 : Int32).toNatClampNeg) - (1 : Int32))) (fun r7 S6 => gd (narrow .boolean (.int r7) = .int r7) (some (r7, S6))))))
set_option maxRecDepth 100000 in
set_option maxHeartbeats 4000000 in
theorem k_X12_isLoad {S : Wd} {a0 : Nat} {a1 : Int32} {r : Int32} {S' : Wd} (h : f_X12_isLoad S a0 a1 = some (r, S')) : Sp yX12_isLoad cX12_isLoad 2 (some .boolean) 1 22 0 0 [.ref a0, .int a1] S (some (.int r)) S' := by
  unfold f_X12_isLoad at h
  refine Sp.of (by decide +kernel) (Nat.le_of_ble_eq_true rfl) ?_
  intro b hC hin hR
  show G b 0 [(0, .ref a0), (1, .int a1)] [] S 0 0
  refine g_iload_n hC dX12_isLoad_0 rfl ?_
  refine g_iconst (v := (0 : Int32)) hC dX12_isLoad_1 (by decide) ?_
  refine g_aload_n hC dX12_isLoad_2 rfl ?_
  obtain ⟨ho1, h⟩ := gd_some h
  obtain ⟨q2, hq3, h⟩ := Option.bind_eq_some_iff.mp h
  refine g_getr (k := 0) (q := q2) hC ck_X12 (by decide) tw_984 rfl (by decide) dX12_isLoad_3 ho1 hq3 ?_
  refine g_bipush (v := (65 : Int32)) hC dX12_isLoad_6 (by decide) ?_
  obtain ⟨hx4, h⟩ := gd_some h
  refine g_iald hC dX12_isLoad_8 hx4.1 hx4.2 ?_
  refine g_iconst (v := (1 : Int32)) hC dX12_isLoad_9 (by decide) ?_
  refine g_isub hC dX12_isLoad_10 ?_
  obtain ⟨r7, S6, hr5, h⟩ := bd2_some h
  refine g_callS (rest := []) hC mi_X12_within (k_X12_within hr5) tw_1080 tw_1081 dX12_isLoad_11 rfl rfl ⟨by decide, by decide⟩ (Nat.le_of_ble_eq_true rfl) ⟨by decide, by decide⟩ ?_
  obtain ⟨hv8, h⟩ := gd_some h
  cases h
  exact g_zret hC hR hv8 dX12_isLoad_14 (by decide) (by decide)

theorem mi_X12_window : MI yX12_window cX12_window 6 (some .int) 4 := ⟨tw_1134, tw_14, by decide +kernel, by decide +kernel, by decide +kernel⟩
noncomputable def f_X12_window (S : Wd) (a0 : Nat) (a1 : Int32) (a2 : Int32) (a3 : Int32) (a4 : Int32) : Option (Int32 × Wd) := gd (ob S a0 12) (bd2 (f_X12_isLoad S a0 a1) (fun r4 S2 => if r4 = 0 then (gd (ob S2 a0 12) (bd2 (f_X12_finding S2 a0 (-100001 : Int32)) (fun r9 S7 => some (r9, S7)))) else (bd2 (f_X12_within S2 a3 (0 : Int32) (4000 : Int32)) (fun r12 S11 => if r12 = 0 then (gd (ob S11 a0 12) (bd2 (f_X12_finding S11 a0 (-100001 : Int32)) (fun r17 S15 => some (r17, S15)))) else (bd2 (f_X12_within S11 a4 (0 : Int32) (4000 : Int32)) (fun r20 S19 => if r20 = 0 then (gd (ob S19 a0 12) (bd2 (f_X12_finding S19 a0 (-100001 : Int32)) (fun r64 S62 => some (r64, S62)))) else (if a3 ≤ a4 then (gd (ob S19 a0 12) (Option.bind (f_X12_keep S19 a0) (fun S24 => if a2 = 0 then (bd2 (f_X12_ofLoad S24 a1 (6 : Int32)) (fun r29 S28 => gd (ob S28 a0 12) (Option.bind (wO S28 a0 0) (fun q31 => gd (ix S28 q31 100 r29) (ltS (sI S28 q31 r29.toNatClampNeg a3) (fun S34 => gd (ob S34 a0 12) (Option.bind (wO S34 a0 0) (fun q37 => gd (ix S34 q37 100 (r29 + (1 : Int32))) (ltS (sI S34 q37 (r29 + (1 : Int32)).toNatClampNeg a4) (fun S40 => some ((1 : Int32), S40))))))))))) else (bd2 (f_X12_ofLoad S24 a1 (8 : Int32)) (fun r44 S43 => gd (ob S43 a0 12) (Option.bind (wO S43 a0 0) (fun q46 => gd (ix S43 q46 100 r44) (ltS (sI S43 q46 r44.toNatClampNeg a3) (fun S49 => gd (ob S49 a0 12) (Option.bind (wO S49 a0 0) (fun q52 => gd (ix S49 q52 100 (r44 + (1 : Int32))) (ltS (sI S49 q52 (r44 + (1 : Int32)).toNatClampNeg a4) (fun S55 => some ((1 : Int32), S55)))))))))))))) else (gd (ob S19 a0 12) (bd2 (f_X12_finding S19 a0 (-100003 : Int32)) (fun r60 S58 => some (r60, S58)))))))))))
set_option maxRecDepth 100000 in
set_option maxHeartbeats 4000000 in
theorem k_X12_window {S : Wd} {a0 : Nat} {a1 : Int32} {a2 : Int32} {a3 : Int32} {a4 : Int32} {r : Int32} {S' : Wd} (h : f_X12_window S a0 a1 a2 a3 a4 = some (r, S')) : Sp yX12_window cX12_window 6 (some .int) 2 43 0 0 [.ref a0, .int a1, .int a2, .int a3, .int a4] S (some (.int r)) S' := by
  unfold f_X12_window at h
  refine Sp.of (by decide +kernel) (Nat.le_of_ble_eq_true rfl) ?_
  intro b hC hin hR
  show G b 0 [(0, .ref a0), (1, .int a1), (2, .int a2), (3, .int a3), (4, .int a4)] [] S 0 0
  refine g_aload_n hC dX12_window_0 rfl ?_
  refine g_iload_n hC dX12_window_1 rfl ?_
  obtain ⟨ho3, h⟩ := gd_some h
  obtain ⟨r4, S2, hr1, h⟩ := bd2_some h
  refine g_callV (rest := []) hC mi_X12_isLoad (k_X12_isLoad hr1) ck_X12.1 (by decide) ho3 tw_1135 tw_1137 ts_29 dX12_window_2 rfl rfl ⟨by decide, by decide⟩ (Nat.le_of_ble_eq_true rfl) ⟨by decide, by decide⟩ ?_
  refine g_if_eq (tgt := 31) hC dX12_window_5 (by decide) (fun hc5 => ?_) (fun hc5 => ?_)
  · rw [if_pos hc5] at h
    refine g_aload_n hC dX12_window_31 rfl ?_
    refine g_ldc hC tw_1083 dX12_window_32 ?_
    obtain ⟨ho8, h⟩ := gd_some h
    obtain ⟨r9, S7, hr6, h⟩ := bd2_some h
    refine g_callV (rest := []) hC mi_X12_finding (k_X12_finding hr6) ck_X12.1 (by decide) ho8 tw_1069 tw_1071 ts_24 dX12_window_34 rfl rfl ⟨by decide, by decide⟩ (Nat.le_of_ble_eq_true rfl) ⟨by decide, by decide⟩ ?_
    cases h
    exact g_iret hC hR dX12_window_37 (by decide) (by decide)
  · rw [if_neg hc5] at h
    refine g_iload_n hC dX12_window_8 rfl ?_
    refine g_iconst (v := (0 : Int32)) hC dX12_window_9 (by decide) ?_
    refine g_sipush (v := (4000 : Int32)) hC dX12_window_10 (by decide) ?_
    obtain ⟨r12, S11, hr10, h⟩ := bd2_some h
    refine g_callS (rest := []) hC mi_X12_within (k_X12_within hr10) tw_1080 tw_1081 dX12_window_13 rfl rfl ⟨by decide, by decide⟩ (Nat.le_of_ble_eq_true rfl) ⟨by decide, by decide⟩ ?_
    refine g_if_eq (tgt := 31) hC dX12_window_16 (by decide) (fun hc13 => ?_) (fun hc13 => ?_)
    · rw [if_pos hc13] at h
      refine g_aload_n hC dX12_window_31 rfl ?_
      refine g_ldc hC tw_1083 dX12_window_32 ?_
      obtain ⟨ho16, h⟩ := gd_some h
      obtain ⟨r17, S15, hr14, h⟩ := bd2_some h
      refine g_callV (rest := []) hC mi_X12_finding (k_X12_finding hr14) ck_X12.1 (by decide) ho16 tw_1069 tw_1071 ts_24 dX12_window_34 rfl rfl ⟨by decide, by decide⟩ (Nat.le_of_ble_eq_true rfl) ⟨by decide, by decide⟩ ?_
      cases h
      exact g_iret hC hR dX12_window_37 (by decide) (by decide)
    · rw [if_neg hc13] at h
      refine g_iload hC dX12_window_19 rfl ?_
      refine g_iconst (v := (0 : Int32)) hC dX12_window_21 (by decide) ?_
      refine g_sipush (v := (4000 : Int32)) hC dX12_window_22 (by decide) ?_
      obtain ⟨r20, S19, hr18, h⟩ := bd2_some h
      refine g_callS (rest := []) hC mi_X12_within (k_X12_within hr18) tw_1080 tw_1081 dX12_window_25 rfl rfl ⟨by decide, by decide⟩ (Nat.le_of_ble_eq_true rfl) ⟨by decide, by decide⟩ ?_
      refine g_if_ne (tgt := 38) hC dX12_window_28 (by decide) (fun hc21 => ?_) (fun hc21 => ?_)
      · rw [if_neg hc21] at h
        refine g_iload_n hC dX12_window_38 rfl ?_
        refine g_iload hC dX12_window_39 rfl ?_
        refine g_icmp_le (tgt := 51) hC dX12_window_41 (by decide) (fun hc22 => ?_) (fun hc22 => ?_)
        · rw [if_pos hc22] at h
          refine g_aload_n hC dX12_window_51 rfl ?_
          obtain ⟨ho25, h⟩ := gd_some h
          obtain ⟨S24, hr23, h⟩ := Option.bind_eq_some_iff.mp h
          refine g_callV (rest := []) hC mi_X12_keep (k_X12_keep hr23) ck_X12.1 (by decide) ho25 tw_1084 tw_1086 ts_25 dX12_window_52 rfl rfl ⟨by decide, by decide⟩ (Nat.le_of_ble_eq_true rfl) ⟨by decide, by decide⟩ ?_
          refine g_iload_n hC dX12_window_55 rfl ?_
          refine g_iload_n hC dX12_window_56 rfl ?_
          refine g_if_eq (tgt := 65) hC dX12_window_57 (by decide) (fun hc26 => ?_) (fun hc26 => ?_)
          · rw [if_pos hc26] at h
            refine g_bipush (v := (6 : Int32)) hC dX12_window_65 (by decide) ?_
            obtain ⟨r29, S28, hr27, h⟩ := bd2_some h
            refine g_callS (rest := []) hC mi_X12_ofLoad (k_X12_ofLoad hr27) tw_1123 tw_1124 dX12_window_67 rfl rfl ⟨by decide, by decide⟩ (Nat.le_of_ble_eq_true rfl) ⟨by decide, by decide⟩ ?_
            refine g_istore (L' := [(5, .int r29), (0, .ref a0), (1, .int a1), (2, .int a2), (3, .int a3), (4, .int a4)]) hC dX12_window_70 (by decide) rfl ?_
            refine g_aload_n hC dX12_window_72 rfl ?_
            obtain ⟨ho30, h⟩ := gd_some h
            obtain ⟨q31, hq32, h⟩ := Option.bind_eq_some_iff.mp h
            refine g_getr (k := 0) (q := q31) hC ck_X12 (by decide) tw_984 rfl (by decide) dX12_window_73 ho30 hq32 ?_
            refine g_iload hC dX12_window_76 rfl ?_
            refine g_iload_n hC dX12_window_78 rfl ?_
            obtain ⟨hx33, h⟩ := gd_some h
            refine g_iast hC dX12_window_79 hx33.1 hx33.2 ?_
            refine g_name (fun S34 eS35 => ?_)
            have h := ltS_use eS35 h
            refine g_aload_n hC dX12_window_80 rfl ?_
            obtain ⟨ho36, h⟩ := gd_some h
            obtain ⟨q37, hq38, h⟩ := Option.bind_eq_some_iff.mp h
            refine g_getr (k := 0) (q := q37) hC ck_X12 (by decide) tw_984 rfl (by decide) dX12_window_81 ho36 hq38 ?_
            refine g_iload hC dX12_window_84 rfl ?_
            refine g_iconst (v := (1 : Int32)) hC dX12_window_86 (by decide) ?_
            refine g_iadd hC dX12_window_87 ?_
            refine g_iload hC dX12_window_88 rfl ?_
            obtain ⟨hx39, h⟩ := gd_some h
            refine g_iast hC dX12_window_90 hx39.1 hx39.2 ?_
            refine g_name (fun S40 eS41 => ?_)
            have h := ltS_use eS41 h
            refine g_iconst (v := (1 : Int32)) hC dX12_window_91 (by decide) ?_
            cases h
            exact g_iret hC hR dX12_window_92 (by decide) (by decide)
          · rw [if_neg hc26] at h
            refine g_bipush (v := (8 : Int32)) hC dX12_window_60 (by decide) ?_
            refine g_goto (tgt := 67) hC dX12_window_62 (by decide) ?_
            obtain ⟨r44, S43, hr42, h⟩ := bd2_some h
            refine g_callS (rest := []) hC mi_X12_ofLoad (k_X12_ofLoad hr42) tw_1123 tw_1124 dX12_window_67 rfl rfl ⟨by decide, by decide⟩ (Nat.le_of_ble_eq_true rfl) ⟨by decide, by decide⟩ ?_
            refine g_istore (L' := [(5, .int r44), (0, .ref a0), (1, .int a1), (2, .int a2), (3, .int a3), (4, .int a4)]) hC dX12_window_70 (by decide) rfl ?_
            refine g_aload_n hC dX12_window_72 rfl ?_
            obtain ⟨ho45, h⟩ := gd_some h
            obtain ⟨q46, hq47, h⟩ := Option.bind_eq_some_iff.mp h
            refine g_getr (k := 0) (q := q46) hC ck_X12 (by decide) tw_984 rfl (by decide) dX12_window_73 ho45 hq47 ?_
            refine g_iload hC dX12_window_76 rfl ?_
            refine g_iload_n hC dX12_window_78 rfl ?_
            obtain ⟨hx48, h⟩ := gd_some h
            refine g_iast hC dX12_window_79 hx48.1 hx48.2 ?_
            refine g_name (fun S49 eS50 => ?_)
            have h := ltS_use eS50 h
            refine g_aload_n hC dX12_window_80 rfl ?_
            obtain ⟨ho51, h⟩ := gd_some h
            obtain ⟨q52, hq53, h⟩ := Option.bind_eq_some_iff.mp h
            refine g_getr (k := 0) (q := q52) hC ck_X12 (by decide) tw_984 rfl (by decide) dX12_window_81 ho51 hq53 ?_
            refine g_iload hC dX12_window_84 rfl ?_
            refine g_iconst (v := (1 : Int32)) hC dX12_window_86 (by decide) ?_
            refine g_iadd hC dX12_window_87 ?_
            refine g_iload hC dX12_window_88 rfl ?_
            obtain ⟨hx54, h⟩ := gd_some h
            refine g_iast hC dX12_window_90 hx54.1 hx54.2 ?_
            refine g_name (fun S55 eS56 => ?_)
            have h := ltS_use eS56 h
            refine g_iconst (v := (1 : Int32)) hC dX12_window_91 (by decide) ?_
            cases h
            exact g_iret hC hR dX12_window_92 (by decide) (by decide)
        · rw [if_neg hc22] at h
          refine g_aload_n hC dX12_window_44 rfl ?_
          refine g_ldc hC tw_1130 dX12_window_45 ?_
          obtain ⟨ho59, h⟩ := gd_some h
          obtain ⟨r60, S58, hr57, h⟩ := bd2_some h
          refine g_callV (rest := []) hC mi_X12_finding (k_X12_finding hr57) ck_X12.1 (by decide) ho59 tw_1069 tw_1071 ts_24 dX12_window_47 rfl rfl ⟨by decide, by decide⟩ (Nat.le_of_ble_eq_true rfl) ⟨by decide, by decide⟩ ?_
          cases h
          exact g_iret hC hR dX12_window_50 (by decide) (by decide)
      · rw [if_pos hc21] at h
        refine g_aload_n hC dX12_window_31 rfl ?_
        refine g_ldc hC tw_1083 dX12_window_32 ?_
        obtain ⟨ho63, h⟩ := gd_some h
        obtain ⟨r64, S62, hr61, h⟩ := bd2_some h
        refine g_callV (rest := []) hC mi_X12_finding (k_X12_finding hr61) ck_X12.1 (by decide) ho63 tw_1069 tw_1071 ts_24 dX12_window_34 rfl rfl ⟨by decide, by decide⟩ (Nat.le_of_ble_eq_true rfl) ⟨by decide, by decide⟩ ?_
        cases h
        exact g_iret hC hR dX12_window_37 (by decide) (by decide)

theorem mi_X12_loadIs : MI yX12_loadIs cX12_loadIs 3 (some .int) 2 := ⟨tw_1142, tw_14, by decide +kernel, by decide +kernel, by decide +kernel⟩
noncomputable def f_X12_loadIs (S : Wd) (a0 : Nat) (a1 : Int32) (a2 : Int32) : Option (Int32 × Wd) := gd (ob S a0 12) (bd2 (f_X12_isLoad S a0 a1) (fun r4 S2 => if r4 = 0 then (gd (ob S2 a0 12) (bd2 (f_X12_finding S2 a0 (-100001 : Int32)) (fun r9 S7 => some (r9, S7)))) else (bd2 (f_X12_within S2 a2 (0 : Int32) (10 : Int32)) (fun r12 S11 => if r12 = 0 then (gd (ob S11 a0 12) (bd2 (f_X12_finding S11 a0 (-100001 : Int32)) (fun r17 S15 => some (r17, S15)))) else (gd (ob S11 a0 12) (Option.bind (wO S11 a0 0) (fun q19 => bd2 (f_X12_ofLoad S11 a1 a2) (fun r23 S22 => gd (ix S22 q19 100 r23) (some ((wI S22 q19 r23.toNatClampNeg), S22))))))))))
set_option maxRecDepth 100000 in
set_option maxHeartbeats 4000000 in
theorem k_X12_loadIs {S : Wd} {a0 : Nat} {a1 : Int32} {a2 : Int32} {r : Int32} {S' : Wd} (h : f_X12_loadIs S a0 a1 a2 = some (r, S')) : Sp yX12_loadIs cX12_loadIs 3 (some .int) 2 43 0 0 [.ref a0, .int a1, .int a2] S (some (.int r)) S' := by
  unfold f_X12_loadIs at h
  refine Sp.of (by decide +kernel) (Nat.le_of_ble_eq_true rfl) ?_
  intro b hC hin hR
  show G b 0 [(0, .ref a0), (1, .int a1), (2, .int a2)] [] S 0 0
  refine g_aload_n hC dX12_loadIs_0 rfl ?_
  refine g_iload_n hC dX12_loadIs_1 rfl ?_
  obtain ⟨ho3, h⟩ := gd_some h
  obtain ⟨r4, S2, hr1, h⟩ := bd2_some h
  refine g_callV (rest := []) hC mi_X12_isLoad (k_X12_isLoad hr1) ck_X12.1 (by decide) ho3 tw_1135 tw_1137 ts_29 dX12_loadIs_2 rfl rfl ⟨by decide, by decide⟩ (Nat.le_of_ble_eq_true rfl) ⟨by decide, by decide⟩ ?_
  refine g_if_eq (tgt := 31) hC dX12_loadIs_5 (by decide) (fun hc5 => ?_) (fun hc5 => ?_)
  · rw [if_pos hc5] at h
    refine g_aload_n hC dX12_loadIs_31 rfl ?_
    refine g_ldc hC tw_1083 dX12_loadIs_32 ?_
    obtain ⟨ho8, h⟩ := gd_some h
    obtain ⟨r9, S7, hr6, h⟩ := bd2_some h
    refine g_callV (rest := []) hC mi_X12_finding (k_X12_finding hr6) ck_X12.1 (by decide) ho8 tw_1069 tw_1071 ts_24 dX12_loadIs_34 rfl rfl ⟨by decide, by decide⟩ (Nat.le_of_ble_eq_true rfl) ⟨by decide, by decide⟩ ?_
    cases h
    exact g_iret hC hR dX12_loadIs_37 (by decide) (by decide)
  · rw [if_neg hc5] at h
    refine g_iload_n hC dX12_loadIs_8 rfl ?_
    refine g_iconst (v := (0 : Int32)) hC dX12_loadIs_9 (by decide) ?_
    refine g_bipush (v := (10 : Int32)) hC dX12_loadIs_10 (by decide) ?_
    obtain ⟨r12, S11, hr10, h⟩ := bd2_some h
    refine g_callS (rest := []) hC mi_X12_within (k_X12_within hr10) tw_1080 tw_1081 dX12_loadIs_12 rfl rfl ⟨by decide, by decide⟩ (Nat.le_of_ble_eq_true rfl) ⟨by decide, by decide⟩ ?_
    refine g_if_eq (tgt := 31) hC dX12_loadIs_15 (by decide) (fun hc13 => ?_) (fun hc13 => ?_)
    · rw [if_pos hc13] at h
      refine g_aload_n hC dX12_loadIs_31 rfl ?_
      refine g_ldc hC tw_1083 dX12_loadIs_32 ?_
      obtain ⟨ho16, h⟩ := gd_some h
      obtain ⟨r17, S15, hr14, h⟩ := bd2_some h
      refine g_callV (rest := []) hC mi_X12_finding (k_X12_finding hr14) ck_X12.1 (by decide) ho16 tw_1069 tw_1071 ts_24 dX12_loadIs_34 rfl rfl ⟨by decide, by decide⟩ (Nat.le_of_ble_eq_true rfl) ⟨by decide, by decide⟩ ?_
      cases h
      exact g_iret hC hR dX12_loadIs_37 (by decide) (by decide)
    · rw [if_neg hc13] at h
      refine g_aload_n hC dX12_loadIs_18 rfl ?_
      obtain ⟨ho18, h⟩ := gd_some h
      obtain ⟨q19, hq20, h⟩ := Option.bind_eq_some_iff.mp h
      refine g_getr (k := 0) (q := q19) hC ck_X12 (by decide) tw_984 rfl (by decide) dX12_loadIs_19 ho18 hq20 ?_
      refine g_iload_n hC dX12_loadIs_22 rfl ?_
      refine g_iload_n hC dX12_loadIs_23 rfl ?_
      obtain ⟨r23, S22, hr21, h⟩ := bd2_some h
      refine g_callS (rest := [.ref q19]) hC mi_X12_ofLoad (k_X12_ofLoad hr21) tw_1123 tw_1124 dX12_loadIs_24 rfl rfl ⟨by decide, by decide⟩ (Nat.le_of_ble_eq_true rfl) ⟨by decide, by decide⟩ ?_
      obtain ⟨hx24, h⟩ := gd_some h
      refine g_iald hC dX12_loadIs_27 hx24.1 hx24.2 ?_
      refine g_goto (tgt := 37) hC dX12_loadIs_28 (by decide) ?_
      cases h
      exact g_iret hC hR dX12_loadIs_37 (by decide) (by decide)

theorem mi_X12_pay : MI yX12_pay cX12_pay 4 (some .int) 2 := ⟨tw_1146, tw_14, by decide +kernel, by decide +kernel, by decide +kernel⟩
noncomputable def f_X12_pay (S : Wd) (a0 : Nat) (a1 : Int32) (a2 : Int32) : Option (Int32 × Wd) := gd (ob S a0 12) (bd2 (f_X12_isLoad S a0 a1) (fun r4 S2 => if r4 = 0 then (gd (ob S2 a0 12) (bd2 (f_X12_finding S2 a0 (-100001 : Int32)) (fun r9 S7 => some (r9, S7)))) else (bd2 (f_X12_within S2 a2 (0 : Int32) (9999 : Int32)) (fun r12 S11 => if r12 = 0 then (gd (ob S11 a0 12) (bd2 (f_X12_finding S11 a0 (-100001 : Int32)) (fun r36 S34 => some (r36, S34)))) else (gd (ob S11 a0 12) (Option.bind (f_X12_keep S11 a0) (fun S15 => gd (ob S15 a0 12) (Option.bind (wO S15 a0 0) (fun q18 => bd2 (f_X12_ofLoad S15 a1 (5 : Int32)) (fun r22 S21 => gd (ix S21 q18 100 r22) (gd (ob S21 a0 12) (Option.bind (wO S21 a0 0) (fun q25 => bd2 (f_X12_ofLoad S21 a1 (5 : Int32)) (fun r29 S28 => gd (ix S28 q25 100 r29) (ltS (sI S28 q25 r29.toNatClampNeg a2) (fun S31 => some ((wI S21 q18 r22.toNatClampNeg), S31)))))))))))))))))
set_option maxRecDepth 100000 in
set_option maxHeartbeats 4000000 in
theorem k_X12_pay {S : Wd} {a0 : Nat} {a1 : Int32} {a2 : Int32} {r : Int32} {S' : Wd} (h : f_X12_pay S a0 a1 a2 = some (r, S')) : Sp yX12_pay cX12_pay 4 (some .int) 2 43 0 0 [.ref a0, .int a1, .int a2] S (some (.int r)) S' := by
  unfold f_X12_pay at h
  refine Sp.of (by decide +kernel) (Nat.le_of_ble_eq_true rfl) ?_
  intro b hC hin hR
  show G b 0 [(0, .ref a0), (1, .int a1), (2, .int a2)] [] S 0 0
  refine g_aload_n hC dX12_pay_0 rfl ?_
  refine g_iload_n hC dX12_pay_1 rfl ?_
  obtain ⟨ho3, h⟩ := gd_some h
  obtain ⟨r4, S2, hr1, h⟩ := bd2_some h
  refine g_callV (rest := []) hC mi_X12_isLoad (k_X12_isLoad hr1) ck_X12.1 (by decide) ho3 tw_1135 tw_1137 ts_29 dX12_pay_2 rfl rfl ⟨by decide, by decide⟩ (Nat.le_of_ble_eq_true rfl) ⟨by decide, by decide⟩ ?_
  refine g_if_eq (tgt := 19) hC dX12_pay_5 (by decide) (fun hc5 => ?_) (fun hc5 => ?_)
  · rw [if_pos hc5] at h
    refine g_aload_n hC dX12_pay_19 rfl ?_
    refine g_ldc hC tw_1083 dX12_pay_20 ?_
    obtain ⟨ho8, h⟩ := gd_some h
    obtain ⟨r9, S7, hr6, h⟩ := bd2_some h
    refine g_callV (rest := []) hC mi_X12_finding (k_X12_finding hr6) ck_X12.1 (by decide) ho8 tw_1069 tw_1071 ts_24 dX12_pay_22 rfl rfl ⟨by decide, by decide⟩ (Nat.le_of_ble_eq_true rfl) ⟨by decide, by decide⟩ ?_
    cases h
    exact g_iret hC hR dX12_pay_25 (by decide) (by decide)
  · rw [if_neg hc5] at h
    refine g_iload_n hC dX12_pay_8 rfl ?_
    refine g_iconst (v := (0 : Int32)) hC dX12_pay_9 (by decide) ?_
    refine g_sipush (v := (9999 : Int32)) hC dX12_pay_10 (by decide) ?_
    obtain ⟨r12, S11, hr10, h⟩ := bd2_some h
    refine g_callS (rest := []) hC mi_X12_within (k_X12_within hr10) tw_1080 tw_1081 dX12_pay_13 rfl rfl ⟨by decide, by decide⟩ (Nat.le_of_ble_eq_true rfl) ⟨by decide, by decide⟩ ?_
    refine g_if_ne (tgt := 26) hC dX12_pay_16 (by decide) (fun hc13 => ?_) (fun hc13 => ?_)
    · rw [if_neg hc13] at h
      refine g_aload_n hC dX12_pay_26 rfl ?_
      obtain ⟨ho16, h⟩ := gd_some h
      obtain ⟨S15, hr14, h⟩ := Option.bind_eq_some_iff.mp h
      refine g_callV (rest := []) hC mi_X12_keep (k_X12_keep hr14) ck_X12.1 (by decide) ho16 tw_1084 tw_1086 ts_25 dX12_pay_27 rfl rfl ⟨by decide, by decide⟩ (Nat.le_of_ble_eq_true rfl) ⟨by decide, by decide⟩ ?_
      refine g_aload_n hC dX12_pay_30 rfl ?_
      obtain ⟨ho17, h⟩ := gd_some h
      obtain ⟨q18, hq19, h⟩ := Option.bind_eq_some_iff.mp h
      refine g_getr (k := 0) (q := q18) hC ck_X12 (by decide) tw_984 rfl (by decide) dX12_pay_31 ho17 hq19 ?_
      refine g_iload_n hC dX12_pay_34 rfl ?_
      refine g_iconst (v := (5 : Int32)) hC dX12_pay_35 (by decide) ?_
      obtain ⟨r22, S21, hr20, h⟩ := bd2_some h
      refine g_callS (rest := [.ref q18]) hC mi_X12_ofLoad (k_X12_ofLoad hr20) tw_1123 tw_1124 dX12_pay_36 rfl rfl ⟨by decide, by decide⟩ (Nat.le_of_ble_eq_true rfl) ⟨by decide, by decide⟩ ?_
      obtain ⟨hx23, h⟩ := gd_some h
      refine g_iald hC dX12_pay_39 hx23.1 hx23.2 ?_
      refine g_istore_n (L' := [(3, .int (wI S21 q18 r22.toNatClampNeg)), (0, .ref a0), (1, .int a1), (2, .int a2)]) hC dX12_pay_40 (by decide) rfl ?_
      refine g_aload_n hC dX12_pay_41 rfl ?_
      obtain ⟨ho24, h⟩ := gd_some h
      obtain ⟨q25, hq26, h⟩ := Option.bind_eq_some_iff.mp h
      refine g_getr (k := 0) (q := q25) hC ck_X12 (by decide) tw_984 rfl (by decide) dX12_pay_42 ho24 hq26 ?_
      refine g_iload_n hC dX12_pay_45 rfl ?_
      refine g_iconst (v := (5 : Int32)) hC dX12_pay_46 (by decide) ?_
      obtain ⟨r29, S28, hr27, h⟩ := bd2_some h
      refine g_callS (rest := [.ref q25]) hC mi_X12_ofLoad (k_X12_ofLoad hr27) tw_1123 tw_1124 dX12_pay_47 rfl rfl ⟨by decide, by decide⟩ (Nat.le_of_ble_eq_true rfl) ⟨by decide, by decide⟩ ?_
      refine g_iload_n hC dX12_pay_50 rfl ?_
      obtain ⟨hx30, h⟩ := gd_some h
      refine g_iast hC dX12_pay_51 hx30.1 hx30.2 ?_
      refine g_name (fun S31 eS32 => ?_)
      have h := ltS_use eS32 h
      refine g_iload_n hC dX12_pay_52 rfl ?_
      cases h
      exact g_iret hC hR dX12_pay_53 (by decide) (by decide)
    · rw [if_pos hc13] at h
      refine g_aload_n hC dX12_pay_19 rfl ?_
      refine g_ldc hC tw_1083 dX12_pay_20 ?_
      obtain ⟨ho35, h⟩ := gd_some h
      obtain ⟨r36, S34, hr33, h⟩ := bd2_some h
      refine g_callV (rest := []) hC mi_X12_finding (k_X12_finding hr33) ck_X12.1 (by decide) ho35 tw_1069 tw_1071 ts_24 dX12_pay_22 rfl rfl ⟨by decide, by decide⟩ (Nat.le_of_ble_eq_true rfl) ⟨by decide, by decide⟩ ?_
      cases h
      exact g_iret hC hR dX12_pay_25 (by decide) (by decide)

theorem mi_X12_fits : MI yX12_fits cX12_fits 6 (some .boolean) 2 := ⟨tw_1154, tw_14, by decide +kernel, by decide +kernel, by decide +kernel⟩
noncomputable def f_X12_fits (S : Wd) (a0 : Nat) (a1 : Int32) (a2 : Int32) : Option (Int32 × Wd) := gd (ob S a0 12) (Option.bind (wO S a0 0) (fun q2 => bd2 (f_X12_ofLorry S a1 (0 : Int32)) (fun r6 S5 => gd (ix S5 q2 100 r6) (gd (ob S5 a0 12) (Option.bind (wO S5 a0 0) (fun q9 => bd2 (f_X12_ofLoad S5 a2 (2 : Int32)) (fun r13 S12 => gd (ix S12 q9 100 r13) (gd (ob S12 a0 12) (Option.bind (wO S12 a0 0) (fun q16 => bd2 (f_X12_ofLorry S12 a1 (5 : Int32)) (fun r20 S19 => gd (ix S19 q16 100 r20) (gd (ob S19 a0 12) (Option.bind (wO S19 a0 0) (fun q23 => bd2 (f_X12_ofLoad S19 a2 (3 : Int32)) (fun r27 S26 => gd (ix S26 q23 100 r27) (if (wI S19 q16 r20.toNatClampNeg) < (wI S26 q23 r27.toNatClampNeg) then (if (0 : Int32) = 0 then (some ((0 : Int32), S26)) else (none)) else (gd (ob S26 a0 12) (Option.bind (wO S26 a0 0) (fun q32 => bd2 (f_X12_ofLorry S26 a1 (6 : Int32)) (fun r36 S35 => gd (ix S35 q32 100 r36) (gd (ob S35 a0 12) (Option.bind (wO S35 a0 0) (fun q39 => bd2 (f_X12_ofLoad S35 a2 (4 : Int32)) (fun r43 S42 => gd (ix S42 q39 100 r43) (if (wI S35 q32 r36.toNatClampNeg) < (wI S42 q39 r43.toNatClampNeg) then (if (0 : Int32) = 0 then (some ((0 : Int32), S42)) else (none)) else (if (1 : Int32) = 0 then (none) else (if (wI S12 q9 r13.toNatClampNeg) = (1 : Int32) then (if (wI S5 q2 r6.toNatClampNeg) = (1 : Int32) then (some ((1 : Int32), S42)) else (some ((0 : Int32), S42))) else (if (wI S12 q9 r13.toNatClampNeg) = (2 : Int32) then (if (wI S5 q2 r6.toNatClampNeg) = (3 : Int32) then (if (1 : Int32) = (1 : Int32) then (some ((1 : Int32), S42)) else (none)) else (if (1 : Int32) = (0 : Int32) then (none) else (some ((0 : Int32), S42)))) else (if (wI S5 q2 r6.toNatClampNeg) = (3 : Int32) then (if (0 : Int32) = (1 : Int32) then (none) else (some ((0 : Int32), S42))) else (if (0 : Int32) = (0 : Int32) then (some ((1 : Int32), S42)) else (none)))))))))))))))))))))))))))))))
set_option maxRecDepth 100000 in
set_option maxHeartbeats 4000000 in
theorem k_X12_fits {S : Wd} {a0 : Nat} {a1 : Int32} {a2 : Int32} {r : Int32} {S' : Wd} (h : f_X12_fits S a0 a1 a2 = some (r, S')) : Sp yX12_fits cX12_fits 6 (some .boolean) 1 21 0 0 [.ref a0, .int a1, .int a2] S (some (.int r)) S' := by
  unfold f_X12_fits at h
  refine Sp.of (by decide +kernel) (Nat.le_of_ble_eq_true rfl) ?_
  intro b hC hin hR
  show G b 0 [(0, .ref a0), (1, .int a1), (2, .int a2)] [] S 0 0
  refine g_aload_n hC dX12_fits_0 rfl ?_
  obtain ⟨ho1, h⟩ := gd_some h
  obtain ⟨q2, hq3, h⟩ := Option.bind_eq_some_iff.mp h
  refine g_getr (k := 0) (q := q2) hC ck_X12 (by decide) tw_984 rfl (by decide) dX12_fits_1 ho1 hq3 ?_
  refine g_iload_n hC dX12_fits_4 rfl ?_
  refine g_iconst (v := (0 : Int32)) hC dX12_fits_5 (by decide) ?_
  obtain ⟨r6, S5, hr4, h⟩ := bd2_some h
  refine g_callS (rest := [.ref q2]) hC mi_X12_ofLorry (k_X12_ofLorry hr4) tw_1107 tw_1108 dX12_fits_6 rfl rfl ⟨by decide, by decide⟩ (Nat.le_of_ble_eq_true rfl) ⟨by decide, by decide⟩ ?_
  obtain ⟨hx7, h⟩ := gd_some h
  refine g_iald hC dX12_fits_9 hx7.1 hx7.2 ?_
  refine g_istore_n (L' := [(3, .int (wI S5 q2 r6.toNatClampNeg)), (0, .ref a0), (1, .int a1), (2, .int a2)]) hC dX12_fits_10 (by decide) rfl ?_
  refine g_aload_n hC dX12_fits_11 rfl ?_
  obtain ⟨ho8, h⟩ := gd_some h
  obtain ⟨q9, hq10, h⟩ := Option.bind_eq_some_iff.mp h
  refine g_getr (k := 0) (q := q9) hC ck_X12 (by decide) tw_984 rfl (by decide) dX12_fits_12 ho8 hq10 ?_
  refine g_iload_n hC dX12_fits_15 rfl ?_
  refine g_iconst (v := (2 : Int32)) hC dX12_fits_16 (by decide) ?_
  obtain ⟨r13, S12, hr11, h⟩ := bd2_some h
  refine g_callS (rest := [.ref q9]) hC mi_X12_ofLoad (k_X12_ofLoad hr11) tw_1123 tw_1124 dX12_fits_17 rfl rfl ⟨by decide, by decide⟩ (Nat.le_of_ble_eq_true rfl) ⟨by decide, by decide⟩ ?_
  obtain ⟨hx14, h⟩ := gd_some h
  refine g_iald hC dX12_fits_20 hx14.1 hx14.2 ?_
  refine g_istore (L' := [(4, .int (wI S12 q9 r13.toNatClampNeg)), (3, .int (wI S5 q2 r6.toNatClampNeg)), (0, .ref a0), (1, .int a1), (2, .int a2)]) hC dX12_fits_21 (by decide) rfl ?_
  refine g_aload_n hC dX12_fits_23 rfl ?_
  obtain ⟨ho15, h⟩ := gd_some h
  obtain ⟨q16, hq17, h⟩ := Option.bind_eq_some_iff.mp h
  refine g_getr (k := 0) (q := q16) hC ck_X12 (by decide) tw_984 rfl (by decide) dX12_fits_24 ho15 hq17 ?_
  refine g_iload_n hC dX12_fits_27 rfl ?_
  refine g_iconst (v := (5 : Int32)) hC dX12_fits_28 (by decide) ?_
  obtain ⟨r20, S19, hr18, h⟩ := bd2_some h
  refine g_callS (rest := [.ref q16]) hC mi_X12_ofLorry (k_X12_ofLorry hr18) tw_1107 tw_1108 dX12_fits_29 rfl rfl ⟨by decide, by decide⟩ (Nat.le_of_ble_eq_true rfl) ⟨by decide, by decide⟩ ?_
  obtain ⟨hx21, h⟩ := gd_some h
  refine g_iald hC dX12_fits_32 hx21.1 hx21.2 ?_
  refine g_aload_n hC dX12_fits_33 rfl ?_
  obtain ⟨ho22, h⟩ := gd_some h
  obtain ⟨q23, hq24, h⟩ := Option.bind_eq_some_iff.mp h
  refine g_getr (k := 0) (q := q23) hC ck_X12 (by decide) tw_984 rfl (by decide) dX12_fits_34 ho22 hq24 ?_
  refine g_iload_n hC dX12_fits_37 rfl ?_
  refine g_iconst (v := (3 : Int32)) hC dX12_fits_38 (by decide) ?_
  obtain ⟨r27, S26, hr25, h⟩ := bd2_some h
  refine g_callS (rest := [.ref q23, .int (wI S19 q16 r20.toNatClampNeg)]) hC mi_X12_ofLoad (k_X12_ofLoad hr25) tw_1123 tw_1124 dX12_fits_39 rfl rfl ⟨by decide, by decide⟩ (Nat.le_of_ble_eq_true rfl) ⟨by decide, by decide⟩ ?_
  obtain ⟨hx28, h⟩ := gd_some h
  refine g_iald hC dX12_fits_42 hx28.1 hx28.2 ?_
  refine g_icmp_lt (tgt := 74) hC dX12_fits_43 (by decide) (fun hc29 => ?_) (fun hc29 => ?_)
  · rw [if_pos hc29] at h
    refine g_iconst (v := (0 : Int32)) hC dX12_fits_74 (by decide) ?_
    refine g_istore (L' := [(5, .int (0 : Int32)), (4, .int (wI S12 q9 r13.toNatClampNeg)), (3, .int (wI S5 q2 r6.toNatClampNeg)), (0, .ref a0), (1, .int a1), (2, .int a2)]) hC dX12_fits_75 (by decide) rfl ?_
    refine g_iload hC dX12_fits_77 rfl ?_
    refine g_if_eq (tgt := 124) hC dX12_fits_79 (by decide) (fun hc30 => ?_) (fun hc30 => ?_)
    · rw [if_pos hc30] at h
      refine g_iconst (v := (0 : Int32)) hC dX12_fits_124 (by decide) ?_
      cases h
      exact g_zret hC hR rfl dX12_fits_125 (by decide) (by decide)
    · rw [if_neg hc30] at h
      cases h
  · rw [if_neg hc29] at h
    refine g_aload_n hC dX12_fits_46 rfl ?_
    obtain ⟨ho31, h⟩ := gd_some h
    obtain ⟨q32, hq33, h⟩ := Option.bind_eq_some_iff.mp h
    refine g_getr (k := 0) (q := q32) hC ck_X12 (by decide) tw_984 rfl (by decide) dX12_fits_47 ho31 hq33 ?_
    refine g_iload_n hC dX12_fits_50 rfl ?_
    refine g_bipush (v := (6 : Int32)) hC dX12_fits_51 (by decide) ?_
    obtain ⟨r36, S35, hr34, h⟩ := bd2_some h
    refine g_callS (rest := [.ref q32]) hC mi_X12_ofLorry (k_X12_ofLorry hr34) tw_1107 tw_1108 dX12_fits_53 rfl rfl ⟨by decide, by decide⟩ (Nat.le_of_ble_eq_true rfl) ⟨by decide, by decide⟩ ?_
    obtain ⟨hx37, h⟩ := gd_some h
    refine g_iald hC dX12_fits_56 hx37.1 hx37.2 ?_
    refine g_aload_n hC dX12_fits_57 rfl ?_
    obtain ⟨ho38, h⟩ := gd_some h
    obtain ⟨q39, hq40, h⟩ := Option.bind_eq_some_iff.mp h
    refine g_getr (k := 0) (q := q39) hC ck_X12 (by decide) tw_984 rfl (by decide) dX12_fits_58 ho38 hq40 ?_
    refine g_iload_n hC dX12_fits_61 rfl ?_
    refine g_iconst (v := (4 : Int32)) hC dX12_fits_62 (by decide) ?_
    obtain ⟨r43, S42, hr41, h⟩ := bd2_some h
    refine g_callS (rest := [.ref q39, .int (wI S35 q32 r36.toNatClampNeg)]) hC mi_X12_ofLoad (k_X12_ofLoad hr41) tw_1123 tw_1124 dX12_fits_63 rfl rfl ⟨by decide, by decide⟩ (Nat.le_of_ble_eq_true rfl) ⟨by decide, by decide⟩ ?_
    obtain ⟨hx44, h⟩ := gd_some h
    refine g_iald hC dX12_fits_66 hx44.1 hx44.2 ?_
    refine g_icmp_lt (tgt := 74) hC dX12_fits_67 (by decide) (fun hc45 => ?_) (fun hc45 => ?_)
    · rw [if_pos hc45] at h
      refine g_iconst (v := (0 : Int32)) hC dX12_fits_74 (by decide) ?_
      refine g_istore (L' := [(5, .int (0 : Int32)), (4, .int (wI S12 q9 r13.toNatClampNeg)), (3, .int (wI S5 q2 r6.toNatClampNeg)), (0, .ref a0), (1, .int a1), (2, .int a2)]) hC dX12_fits_75 (by decide) rfl ?_
      refine g_iload hC dX12_fits_77 rfl ?_
      refine g_if_eq (tgt := 124) hC dX12_fits_79 (by decide) (fun hc46 => ?_) (fun hc46 => ?_)
      · rw [if_pos hc46] at h
        refine g_iconst (v := (0 : Int32)) hC dX12_fits_124 (by decide) ?_
        cases h
        exact g_zret hC hR rfl dX12_fits_125 (by decide) (by decide)
      · rw [if_neg hc46] at h
        cases h
    · rw [if_neg hc45] at h
      refine g_iconst (v := (1 : Int32)) hC dX12_fits_70 (by decide) ?_
      refine g_goto (tgt := 75) hC dX12_fits_71 (by decide) ?_
      refine g_istore (L' := [(5, .int (1 : Int32)), (4, .int (wI S12 q9 r13.toNatClampNeg)), (3, .int (wI S5 q2 r6.toNatClampNeg)), (0, .ref a0), (1, .int a1), (2, .int a2)]) hC dX12_fits_75 (by decide) rfl ?_
      refine g_iload hC dX12_fits_77 rfl ?_
      refine g_if_eq (tgt := 124) hC dX12_fits_79 (by decide) (fun hc47 => ?_) (fun hc47 => ?_)
      · rw [if_pos hc47] at h
        cases h
      · rw [if_neg hc47] at h
        refine g_iload hC dX12_fits_82 rfl ?_
        refine g_iconst (v := (1 : Int32)) hC dX12_fits_84 (by decide) ?_
        refine g_icmp_ne (tgt := 96) hC dX12_fits_85 (by decide) (fun hc48 => ?_) (fun hc48 => ?_)
        · rw [if_neg hc48] at h
          refine g_iload hC dX12_fits_96 rfl ?_
          refine g_iconst (v := (2 : Int32)) hC dX12_fits_98 (by decide) ?_
          refine g_icmp_ne (tgt := 106) hC dX12_fits_99 (by decide) (fun hc49 => ?_) (fun hc49 => ?_)
          · rw [if_neg hc49] at h
            refine g_iconst (v := (0 : Int32)) hC dX12_fits_106 (by decide) ?_
            refine g_iload_n hC dX12_fits_107 rfl ?_
            refine g_iconst (v := (3 : Int32)) hC dX12_fits_108 (by decide) ?_
            refine g_icmp_ne (tgt := 116) hC dX12_fits_109 (by decide) (fun hc50 => ?_) (fun hc50 => ?_)
            · rw [if_neg hc50] at h
              refine g_iconst (v := (0 : Int32)) hC dX12_fits_116 (by decide) ?_
              refine g_icmp_ne (tgt := 124) hC dX12_fits_117 (by decide) (fun hc51 => ?_) (fun hc51 => ?_)
              · rw [if_neg hc51] at h
                cases h
              · rw [if_pos hc51] at h
                refine g_iconst (v := (1 : Int32)) hC dX12_fits_120 (by decide) ?_
                refine g_goto (tgt := 125) hC dX12_fits_121 (by decide) ?_
                cases h
                exact g_zret hC hR rfl dX12_fits_125 (by decide) (by decide)
            · rw [if_pos hc50] at h
              refine g_iconst (v := (1 : Int32)) hC dX12_fits_112 (by decide) ?_
              refine g_goto (tgt := 117) hC dX12_fits_113 (by decide) ?_
              refine g_icmp_ne (tgt := 124) hC dX12_fits_117 (by decide) (fun hc52 => ?_) (fun hc52 => ?_)
              · rw [if_neg hc52] at h
                refine g_iconst (v := (0 : Int32)) hC dX12_fits_124 (by decide) ?_
                cases h
                exact g_zret hC hR rfl dX12_fits_125 (by decide) (by decide)
              · rw [if_pos hc52] at h
                cases h
          · rw [if_pos hc49] at h
            refine g_iconst (v := (1 : Int32)) hC dX12_fits_102 (by decide) ?_
            refine g_goto (tgt := 107) hC dX12_fits_103 (by decide) ?_
            refine g_iload_n hC dX12_fits_107 rfl ?_
            refine g_iconst (v := (3 : Int32)) hC dX12_fits_108 (by decide) ?_
            refine g_icmp_ne (tgt := 116) hC dX12_fits_109 (by decide) (fun hc53 => ?_) (fun hc53 => ?_)
            · rw [if_neg hc53] at h
              refine g_iconst (v := (0 : Int32)) hC dX12_fits_116 (by decide) ?_
              refine g_icmp_ne (tgt := 124) hC dX12_fits_117 (by decide) (fun hc54 => ?_) (fun hc54 => ?_)
              · rw [if_neg hc54] at h
                refine g_iconst (v := (0 : Int32)) hC dX12_fits_124 (by decide) ?_
                cases h
                exact g_zret hC hR rfl dX12_fits_125 (by decide) (by decide)
              · rw [if_pos hc54] at h
                cases h
            · rw [if_pos hc53] at h
              refine g_iconst (v := (1 : Int32)) hC dX12_fits_112 (by decide) ?_
              refine g_goto (tgt := 117) hC dX12_fits_113 (by decide) ?_
              refine g_icmp_ne (tgt := 124) hC dX12_fits_117 (by decide) (fun hc55 => ?_) (fun hc55 => ?_)
              · rw [if_neg hc55] at h
                cases h
              · rw [if_pos hc55] at h
                refine g_iconst (v := (1 : Int32)) hC dX12_fits_120 (by decide) ?_
                refine g_goto (tgt := 125) hC dX12_fits_121 (by decide) ?_
                cases h
                exact g_zret hC hR rfl dX12_fits_125 (by decide) (by decide)
        · rw [if_pos hc48] at h
          refine g_iload_n hC dX12_fits_88 rfl ?_
          refine g_iconst (v := (1 : Int32)) hC dX12_fits_89 (by decide) ?_
          refine g_icmp_ne (tgt := 124) hC dX12_fits_90 (by decide) (fun hc56 => ?_) (fun hc56 => ?_)
          · rw [if_neg hc56] at h
            refine g_iconst (v := (0 : Int32)) hC dX12_fits_124 (by decide) ?_
            cases h
            exact g_zret hC hR rfl dX12_fits_125 (by decide) (by decide)
          · rw [if_pos hc56] at h
            refine g_goto (tgt := 120) hC dX12_fits_93 (by decide) ?_
            refine g_iconst (v := (1 : Int32)) hC dX12_fits_120 (by decide) ?_
            refine g_goto (tgt := 125) hC dX12_fits_121 (by decide) ?_
            cases h
            exact g_zret hC hR rfl dX12_fits_125 (by decide) (by decide)
