theorem mi_X2_choose : MI yX2_choose cX2_choose 8 none 2 := ⟨tw_595, tw_7, by decide +kernel, by decide +kernel, by decide +kernel⟩
noncomputable def B_X2_choose_0 (S : Wd) (a0 : Nat) (a1 : Int32) (a2 : Int32) : Option ((Wd) ⊕ Cs) := gd (ob S a0 2) (Option.bind (wO S a0 9) (fun q2 => gd (ix S q2 100 (0 : Int32)) (gd (ob S a0 2) (Option.bind (wO S a0 4) (fun q6 => gd (ix S q6 100 (((a1 + (1 : Int32)) * (256 : Int32)) + a2)) (some (.inr (1, [a0], [a1, a2, ((a1 + (1 : Int32)) * (256 : Int32)), ((wI S q2 (0 : Int32).toNatClampNeg) + (wI S q6 (((a1 + (1 : Int32)) * (256 : Int32)) + a2).toNatClampNeg)), (0 : Int32), (1 : Int32)], S))))))))
noncomputable def B_X2_choose_1 (S : Wd) (x0 : Nat) (x1 : Int32) (x2 : Int32) (x3 : Int32) (x4 : Int32) (x5 : Int32) (x6 : Int32) : Option ((Wd) ⊕ Cs) := gd (ob S x0 2) (if (wI S x0 10) ≤ x6 then (gd (ob S x0 2) (Option.bind (wO S x0 4) (fun q12 => gd (ix S q12 100 ((x1 * (256 : Int32)) + x2)) (ltS (sI S q12 ((x1 * (256 : Int32)) + x2).toNatClampNeg x4) (fun S15 => gd (ob S15 x0 2) (Option.bind (wO S15 x0 5) (fun q18 => gd (ix S15 q18 100 ((x1 * (256 : Int32)) + x2)) (ltS (sI S15 q18 ((x1 * (256 : Int32)) + x2).toNatClampNeg x5) (fun S21 => some (.inl S21)))))))))) else (gd (ob S x0 2) (Option.bind (wO S x0 8) (fun q24 => gd (ix S q24 100 x6) (if ((wI S q24 x6.toNatClampNeg) &&& (x2 ^^^ (-1 : Int32))) = 0 then (gd (ob S x0 2) (Option.bind (wO S x0 9) (fun q29 => gd (ix S q29 100 x6) (gd (ob S x0 2) (Option.bind (wO S x0 4) (fun q33 => gd (ob S x0 2) (Option.bind (wO S x0 8) (fun q36 => gd (ix S q36 100 x6) (gd (ix S q33 100 (x3 + (x2 &&& ((wI S q36 x6.toNatClampNeg) ^^^ (-1 : Int32))))) (if ((wI S q29 x6.toNatClampNeg) + (wI S q33 (x3 + (x2 &&& ((wI S q36 x6.toNatClampNeg) ^^^ (-1 : Int32)))).toNatClampNeg)) ≤ x4 then (some (.inr (1, [x0], [x1, x2, x3, x4, x5, (x6 + (1 : Int32))], S))) else (gd (ob S x0 2) (Option.bind (wO S x0 7) (fun q42 => gd (ix S q42 100 x6) (some (.inr (1, [x0], [x1, x2, x3, ((wI S q29 x6.toNatClampNeg) + (wI S q33 (x3 + (x2 &&& ((wI S q36 x6.toNatClampNeg) ^^^ (-1 : Int32)))).toNatClampNeg)), (wI S q42 x6.toNatClampNeg), (x6 + (1 : Int32))], S)))))))))))))))) else (some (.inr (1, [x0], [x1, x2, x3, x4, x5, (x6 + (1 : Int32))], S))))))))
noncomputable def B_X2_choose : Cs → Option ((Wd) ⊕ Cs)
  | (0, [a0], [a1, a2], S) => B_X2_choose_0 S a0 a1 a2
  | (1, [x0], [x1, x2, x3, x4, x5, x6], S) => B_X2_choose_1 S x0 x1 x2 x3 x4 x5 x6
  | _ => none
def P_X2_choose : Cs → Option (Nat × List (Nat × Value) × Wd × Nat × Nat)
  | (0, [a0], [a1, a2], S) => some (0, [(0, .ref a0), (1, .int a1), (2, .int a2)], S, 0, 0)
  | (1, [x0], [x1, x2, x3, x4, x5, x6], S) => some (31, [(0, .ref x0), (1, .int x1), (2, .int x2), (3, .int x3), (4, .int x4), (5, .int x5), (6, .int x6)], S, 0, 0)
  | _ => none
noncomputable def f_X2_choose (S : Wd) (a0 : Nat) (a1 : Int32) (a2 : Int32) : Option (Wd) := ru B_X2_choose (0, [a0], [a1, a2], S)
abbrev N_X2_choose (b : Bd) (r : Wd) (c : (Wd) ⊕ Cs) : Prop := match c with
  | .inl r' => r' = r
  | .inr s' => ∀ pc L S kc ks, P_X2_choose s' = some (pc, L, S, kc, ks) → G b pc L [] S kc ks
set_option maxRecDepth 100000 in
set_option maxHeartbeats 4000000 in
theorem w_X2_choose_0 {b : Bd} {r : Wd} (hC : CX b yX2_choose.cls cX2_choose 8 { frames := 0, cells := 0, slots := 0, locals := 0 }) (hin : yX2_choose.name = "<init>" → b.2.2.2.2.2.2.2.2.1.name = "<init>") (hR : RT b none none r 0 0) {S : Wd} {a0 : Nat} {a1 : Int32} {a2 : Int32} {c : (Wd) ⊕ Cs} (h : B_X2_choose_0 S a0 a1 a2 = some c) (hk : N_X2_choose b r c) : G b 0 [(0, .ref a0), (1, .int a1), (2, .int a2)] [] S 0 0 := by
  unfold B_X2_choose_0 at h
  refine g_iload_n hC dX2_choose_0 rfl ?_
  refine g_iconst (v := (1 : Int32)) hC dX2_choose_1 (by decide) ?_
  refine g_iadd hC dX2_choose_2 ?_
  refine g_sipush (v := (256 : Int32)) hC dX2_choose_3 (by decide) ?_
  refine g_imul hC dX2_choose_6 ?_
  refine g_istore_n (L' := [(3, .int ((a1 + (1 : Int32)) * (256 : Int32))), (0, .ref a0), (1, .int a1), (2, .int a2)]) hC dX2_choose_7 (by decide) rfl ?_
  refine g_aload_n hC dX2_choose_8 rfl ?_
  obtain ⟨ho1, h⟩ := gd_some h
  obtain ⟨q2, hq3, h⟩ := Option.bind_eq_some_iff.mp h
  refine g_getr (k := 9) (q := q2) hC ck_X2 (by decide) tw_153 rfl (by decide) dX2_choose_9 ho1 hq3 ?_
  refine g_iconst (v := (0 : Int32)) hC dX2_choose_12 (by decide) ?_
  obtain ⟨hx4, h⟩ := gd_some h
  refine g_iald hC dX2_choose_13 hx4.1 hx4.2 ?_
  refine g_aload_n hC dX2_choose_14 rfl ?_
  obtain ⟨ho5, h⟩ := gd_some h
  obtain ⟨q6, hq7, h⟩ := Option.bind_eq_some_iff.mp h
  refine g_getr (k := 4) (q := q6) hC ck_X2 (by decide) tw_148 rfl (by decide) dX2_choose_15 ho5 hq7 ?_
  refine g_iload_n hC dX2_choose_18 rfl ?_
  refine g_iload_n hC dX2_choose_19 rfl ?_
  refine g_iadd hC dX2_choose_20 ?_
  obtain ⟨hx8, h⟩ := gd_some h
  refine g_iald hC dX2_choose_21 hx8.1 hx8.2 ?_
  refine g_iadd hC dX2_choose_22 ?_
  refine g_istore (L' := [(4, .int ((wI S q2 (0 : Int32).toNatClampNeg) + (wI S q6 (((a1 + (1 : Int32)) * (256 : Int32)) + a2).toNatClampNeg))), (3, .int ((a1 + (1 : Int32)) * (256 : Int32))), (0, .ref a0), (1, .int a1), (2, .int a2)]) hC dX2_choose_23 (by decide) rfl ?_
  refine g_iconst (v := (0 : Int32)) hC dX2_choose_25 (by decide) ?_
  refine g_istore (L' := [(5, .int (0 : Int32)), (4, .int ((wI S q2 (0 : Int32).toNatClampNeg) + (wI S q6 (((a1 + (1 : Int32)) * (256 : Int32)) + a2).toNatClampNeg))), (3, .int ((a1 + (1 : Int32)) * (256 : Int32))), (0, .ref a0), (1, .int a1), (2, .int a2)]) hC dX2_choose_26 (by decide) rfl ?_
  refine g_iconst (v := (1 : Int32)) hC dX2_choose_28 (by decide) ?_
  refine g_istore (L' := [(6, .int (1 : Int32)), (5, .int (0 : Int32)), (4, .int ((wI S q2 (0 : Int32).toNatClampNeg) + (wI S q6 (((a1 + (1 : Int32)) * (256 : Int32)) + a2).toNatClampNeg))), (3, .int ((a1 + (1 : Int32)) * (256 : Int32))), (0, .ref a0), (1, .int a1), (2, .int a2)]) hC dX2_choose_29 (by decide) rfl ?_
  cases h
  refine g_pick (L' := [(0, .ref a0), (1, .int a1), (2, .int a2), (3, .int ((a1 + (1 : Int32)) * (256 : Int32))), (4, .int ((wI S q2 (0 : Int32).toNatClampNeg) + (wI S q6 (((a1 + (1 : Int32)) * (256 : Int32)) + a2).toNatClampNeg))), (5, .int (0 : Int32)), (6, .int (1 : Int32))]) [4, 5, 6, 3, 2, 1, 0] rfl ?_
  exact hk _ _ _ _ _ rfl
set_option maxRecDepth 100000 in
set_option maxHeartbeats 4000000 in
theorem w_X2_choose_1 {b : Bd} {r : Wd} (hC : CX b yX2_choose.cls cX2_choose 8 { frames := 0, cells := 0, slots := 0, locals := 0 }) (hin : yX2_choose.name = "<init>" → b.2.2.2.2.2.2.2.2.1.name = "<init>") (hR : RT b none none r 0 0) {S : Wd} {x0 : Nat} {x1 : Int32} {x2 : Int32} {x3 : Int32} {x4 : Int32} {x5 : Int32} {x6 : Int32} {c : (Wd) ⊕ Cs} (h : B_X2_choose_1 S x0 x1 x2 x3 x4 x5 x6 = some c) (hk : N_X2_choose b r c) : G b 31 [(0, .ref x0), (1, .int x1), (2, .int x2), (3, .int x3), (4, .int x4), (5, .int x5), (6, .int x6)] [] S 0 0 := by
  unfold B_X2_choose_1 at h
  refine g_iload hC dX2_choose_31 rfl ?_
  refine g_aload_n hC dX2_choose_33 rfl ?_
  obtain ⟨ho9, h⟩ := gd_some h
  refine g_geti (k := 10) hC ck_X2 (by decide) tw_154 rfl (by decide) dX2_choose_34 ho9 ?_
  refine g_icmp_ge (tgt := 108) hC dX2_choose_37 (by decide) (fun hc10 => ?_) (fun hc10 => ?_)
  · rw [if_pos hc10] at h
    refine g_aload_n hC dX2_choose_108 rfl ?_
    obtain ⟨ho11, h⟩ := gd_some h
    obtain ⟨q12, hq13, h⟩ := Option.bind_eq_some_iff.mp h
    refine g_getr (k := 4) (q := q12) hC ck_X2 (by decide) tw_148 rfl (by decide) dX2_choose_109 ho11 hq13 ?_
    refine g_iload_n hC dX2_choose_112 rfl ?_
    refine g_sipush (v := (256 : Int32)) hC dX2_choose_113 (by decide) ?_
    refine g_imul hC dX2_choose_116 ?_
    refine g_iload_n hC dX2_choose_117 rfl ?_
    refine g_iadd hC dX2_choose_118 ?_
    refine g_iload hC dX2_choose_119 rfl ?_
    obtain ⟨hx14, h⟩ := gd_some h
    refine g_iast hC dX2_choose_121 hx14.1 hx14.2 ?_
    refine g_name (fun S15 eS16 => ?_)
    have h := ltS_use eS16 h
    refine g_aload_n hC dX2_choose_122 rfl ?_
    obtain ⟨ho17, h⟩ := gd_some h
    obtain ⟨q18, hq19, h⟩ := Option.bind_eq_some_iff.mp h
    refine g_getr (k := 5) (q := q18) hC ck_X2 (by decide) tw_149 rfl (by decide) dX2_choose_123 ho17 hq19 ?_
    refine g_iload_n hC dX2_choose_126 rfl ?_
    refine g_sipush (v := (256 : Int32)) hC dX2_choose_127 (by decide) ?_
    refine g_imul hC dX2_choose_130 ?_
    refine g_iload_n hC dX2_choose_131 rfl ?_
    refine g_iadd hC dX2_choose_132 ?_
    refine g_iload hC dX2_choose_133 rfl ?_
    obtain ⟨hx20, h⟩ := gd_some h
    refine g_iast hC dX2_choose_135 hx20.1 hx20.2 ?_
    refine g_name (fun S21 eS22 => ?_)
    have h := ltS_use eS22 h
    cases h
    subst hk
    exact g_vret hC hR dX2_choose_136 (by decide) (by decide)
  · rw [if_neg hc10] at h
    refine g_aload_n hC dX2_choose_40 rfl ?_
    obtain ⟨ho23, h⟩ := gd_some h
    obtain ⟨q24, hq25, h⟩ := Option.bind_eq_some_iff.mp h
    refine g_getr (k := 8) (q := q24) hC ck_X2 (by decide) tw_152 rfl (by decide) dX2_choose_41 ho23 hq25 ?_
    refine g_iload hC dX2_choose_44 rfl ?_
    obtain ⟨hx26, h⟩ := gd_some h
    refine g_iald hC dX2_choose_46 hx26.1 hx26.2 ?_
    refine g_iload_n hC dX2_choose_47 rfl ?_
    refine g_iconst (v := (-1 : Int32)) hC dX2_choose_48 (by decide) ?_
    refine g_ixor hC dX2_choose_49 ?_
    refine g_iand hC dX2_choose_50 ?_
    refine g_if_ne (tgt := 102) hC dX2_choose_51 (by decide) (fun hc27 => ?_) (fun hc27 => ?_)
    · rw [if_neg hc27] at h
      refine g_iinc (v := (1 : Int32)) (L' := [(6, .int (x6 + (1 : Int32))), (0, .ref x0), (1, .int x1), (2, .int x2), (3, .int x3), (4, .int x4), (5, .int x5)]) hC dX2_choose_102 rfl (by decide) (by decide) rfl ?_
      refine g_goto (tgt := 31) hC dX2_choose_105 (by decide) ?_
      cases h
      refine g_pick (L' := [(0, .ref x0), (1, .int x1), (2, .int x2), (3, .int x3), (4, .int x4), (5, .int x5), (6, .int (x6 + (1 : Int32)))]) [1, 2, 3, 4, 5, 6, 0] rfl ?_
      exact hk _ _ _ _ _ rfl
    · rw [if_pos hc27] at h
      refine g_aload_n hC dX2_choose_54 rfl ?_
      obtain ⟨ho28, h⟩ := gd_some h
      obtain ⟨q29, hq30, h⟩ := Option.bind_eq_some_iff.mp h
      refine g_getr (k := 9) (q := q29) hC ck_X2 (by decide) tw_153 rfl (by decide) dX2_choose_55 ho28 hq30 ?_
      refine g_iload hC dX2_choose_58 rfl ?_
      obtain ⟨hx31, h⟩ := gd_some h
      refine g_iald hC dX2_choose_60 hx31.1 hx31.2 ?_
      refine g_aload_n hC dX2_choose_61 rfl ?_
      obtain ⟨ho32, h⟩ := gd_some h
      obtain ⟨q33, hq34, h⟩ := Option.bind_eq_some_iff.mp h
      refine g_getr (k := 4) (q := q33) hC ck_X2 (by decide) tw_148 rfl (by decide) dX2_choose_62 ho32 hq34 ?_
      refine g_iload_n hC dX2_choose_65 rfl ?_
      refine g_iload_n hC dX2_choose_66 rfl ?_
      refine g_aload_n hC dX2_choose_67 rfl ?_
      obtain ⟨ho35, h⟩ := gd_some h
      obtain ⟨q36, hq37, h⟩ := Option.bind_eq_some_iff.mp h
      refine g_getr (k := 8) (q := q36) hC ck_X2 (by decide) tw_152 rfl (by decide) dX2_choose_68 ho35 hq37 ?_
      refine g_iload hC dX2_choose_71 rfl ?_
      obtain ⟨hx38, h⟩ := gd_some h
      refine g_iald hC dX2_choose_73 hx38.1 hx38.2 ?_
      refine g_iconst (v := (-1 : Int32)) hC dX2_choose_74 (by decide) ?_
      refine g_ixor hC dX2_choose_75 ?_
      refine g_iand hC dX2_choose_76 ?_
      refine g_iadd hC dX2_choose_77 ?_
      obtain ⟨hx39, h⟩ := gd_some h
      refine g_iald hC dX2_choose_78 hx39.1 hx39.2 ?_
      refine g_iadd hC dX2_choose_79 ?_
      refine g_istore (L' := [(7, .int ((wI S q29 x6.toNatClampNeg) + (wI S q33 (x3 + (x2 &&& ((wI S q36 x6.toNatClampNeg) ^^^ (-1 : Int32)))).toNatClampNeg))), (0, .ref x0), (1, .int x1), (2, .int x2), (3, .int x3), (4, .int x4), (5, .int x5), (6, .int x6)]) hC dX2_choose_80 (by decide) rfl ?_
      refine g_iload hC dX2_choose_82 rfl ?_
      refine g_iload hC dX2_choose_84 rfl ?_
      refine g_icmp_le (tgt := 102) hC dX2_choose_86 (by decide) (fun hc40 => ?_) (fun hc40 => ?_)
      · rw [if_pos hc40] at h
        refine g_iinc (v := (1 : Int32)) (L' := [(6, .int (x6 + (1 : Int32))), (7, .int ((wI S q29 x6.toNatClampNeg) + (wI S q33 (x3 + (x2 &&& ((wI S q36 x6.toNatClampNeg) ^^^ (-1 : Int32)))).toNatClampNeg))), (0, .ref x0), (1, .int x1), (2, .int x2), (3, .int x3), (4, .int x4), (5, .int x5)]) hC dX2_choose_102 rfl (by decide) (by decide) rfl ?_
        refine g_goto (tgt := 31) hC dX2_choose_105 (by decide) ?_
        cases h
        refine g_pick (L' := [(0, .ref x0), (1, .int x1), (2, .int x2), (3, .int x3), (4, .int x4), (5, .int x5), (6, .int (x6 + (1 : Int32)))]) [2, 3, 4, 5, 6, 7, 0] rfl ?_
        exact hk _ _ _ _ _ rfl
      · rw [if_neg hc40] at h
        refine g_iload hC dX2_choose_89 rfl ?_
        refine g_istore (L' := [(4, .int ((wI S q29 x6.toNatClampNeg) + (wI S q33 (x3 + (x2 &&& ((wI S q36 x6.toNatClampNeg) ^^^ (-1 : Int32)))).toNatClampNeg))), (7, .int ((wI S q29 x6.toNatClampNeg) + (wI S q33 (x3 + (x2 &&& ((wI S q36 x6.toNatClampNeg) ^^^ (-1 : Int32)))).toNatClampNeg))), (0, .ref x0), (1, .int x1), (2, .int x2), (3, .int x3), (5, .int x5), (6, .int x6)]) hC dX2_choose_91 (by decide) rfl ?_
        refine g_aload_n hC dX2_choose_93 rfl ?_
        obtain ⟨ho41, h⟩ := gd_some h
        obtain ⟨q42, hq43, h⟩ := Option.bind_eq_some_iff.mp h
        refine g_getr (k := 7) (q := q42) hC ck_X2 (by decide) tw_151 rfl (by decide) dX2_choose_94 ho41 hq43 ?_
        refine g_iload hC dX2_choose_97 rfl ?_
        obtain ⟨hx44, h⟩ := gd_some h
        refine g_iald hC dX2_choose_99 hx44.1 hx44.2 ?_
        refine g_istore (L' := [(5, .int (wI S q42 x6.toNatClampNeg)), (4, .int ((wI S q29 x6.toNatClampNeg) + (wI S q33 (x3 + (x2 &&& ((wI S q36 x6.toNatClampNeg) ^^^ (-1 : Int32)))).toNatClampNeg))), (7, .int ((wI S q29 x6.toNatClampNeg) + (wI S q33 (x3 + (x2 &&& ((wI S q36 x6.toNatClampNeg) ^^^ (-1 : Int32)))).toNatClampNeg))), (0, .ref x0), (1, .int x1), (2, .int x2), (3, .int x3), (6, .int x6)]) hC dX2_choose_100 (by decide) rfl ?_
        refine g_iinc (v := (1 : Int32)) (L' := [(6, .int (x6 + (1 : Int32))), (5, .int (wI S q42 x6.toNatClampNeg)), (4, .int ((wI S q29 x6.toNatClampNeg) + (wI S q33 (x3 + (x2 &&& ((wI S q36 x6.toNatClampNeg) ^^^ (-1 : Int32)))).toNatClampNeg))), (7, .int ((wI S q29 x6.toNatClampNeg) + (wI S q33 (x3 + (x2 &&& ((wI S q36 x6.toNatClampNeg) ^^^ (-1 : Int32)))).toNatClampNeg))), (0, .ref x0), (1, .int x1), (2, .int x2), (3, .int x3)]) hC dX2_choose_102 rfl (by decide) (by decide) rfl ?_
        refine g_goto (tgt := 31) hC dX2_choose_105 (by decide) ?_
        cases h
        refine g_pick (L' := [(0, .ref x0), (1, .int x1), (2, .int x2), (3, .int x3), (4, .int ((wI S q29 x6.toNatClampNeg) + (wI S q33 (x3 + (x2 &&& ((wI S q36 x6.toNatClampNeg) ^^^ (-1 : Int32)))).toNatClampNeg))), (5, .int (wI S q42 x6.toNatClampNeg)), (6, .int (x6 + (1 : Int32)))]) [4, 5, 6, 7, 2, 1, 0] rfl ?_
        exact hk _ _ _ _ _ rfl
theorem w_X2_choose {b : Bd} {r : Wd} (hC : CX b yX2_choose.cls cX2_choose 8 { frames := 0, cells := 0, slots := 0, locals := 0 }) (hin : yX2_choose.name = "<init>" → b.2.2.2.2.2.2.2.2.1.name = "<init>") (hR : RT b none none r 0 0) {s : Cs} {c : (Wd) ⊕ Cs} (h : B_X2_choose s = some c) (hk : N_X2_choose b r c) : ∀ pc L S kc ks, P_X2_choose s = some (pc, L, S, kc, ks) → G b pc L [] S kc ks := by
  intro pc L S kc ks hp
  unfold B_X2_choose at h
  split at h
  · cases hp
    exact w_X2_choose_0 hC hin hR h hk
  · cases hp
    exact w_X2_choose_1 hC hin hR h hk
  · cases h
theorem k_X2_choose {S : Wd} {a0 : Nat} {a1 : Int32} {a2 : Int32} {S' : Wd} (h : f_X2_choose S a0 a1 a2 = some S') : Sp yX2_choose cX2_choose 8 none 0 0 0 0 [.ref a0, .int a1, .int a2] S none S' := by
  unfold f_X2_choose at h
  refine Sp.of (by decide +kernel) (Nat.le_of_ble_eq_true rfl) ?_
  intro b hC hin hR
  exact ru_ind (P := fun s q0 => q0 = S' → ∀ pc L S kc ks, P_X2_choose s = some (pc, L, S, kc, ks) → G b pc L [] S kc ks) (fun s q0 hB e => w_X2_choose (r := S') hC hin hR hB e) (fun s s' q0 hB ih e => w_X2_choose (r := S') hC hin hR hB (ih e)) h rfl _ _ _ _ _ rfl

theorem mi_X2_work : MI yX2_work cX2_work 5 none 0 := ⟨tw_551, tw_7, by decide +kernel, by decide +kernel, by decide +kernel⟩
noncomputable def B_X2_work_0 (S : Wd) (a0 : Nat) : Option ((Wd) ⊕ Cs) := gd (ob S a0 2) (gd (ob S a0 2) (Option.bind (wO S a0 0) (fun q3 => gd (ob S q3 3) (bd2 (f_X3_changes S q3) (fun r8 S6 => if (wI S a0 12) = r8 then (some (.inl S6)) else (gd (ob S6 a0 2) (Option.bind (wO S6 a0 0) (fun q11 => gd (ob S6 q11 3) (bd2 (f_X3_changes S6 q11) (fun r16 S14 => gd (ob S14 a0 2) (ltS (sI S14 a0 12 r16) (fun S18 => gd (ob S18 a0 2) (ltS (sI S18 a0 11 (0 : Int32)) (fun S21 => some (.inr (1, [a0], [(0 : Int32)], S21))))))))))))))))
noncomputable def B_X2_work_1 (S : Wd) (x0 : Nat) (x1 : Int32) : Option ((Wd) ⊕ Cs) := gd (ob S x0 2) (Option.bind (wO S x0 2) (fun q24 => gd (ob S q24 8) (bd2 (f_X8_count S q24) (fun r29 S27 => if r29 ≤ x1 then (gd (ob S27 x0 2) (Option.bind (wO S27 x0 1) (fun q32 => gd (ob S27 q32 8) (bd2 (f_X8_count S27 q32) (fun r37 S35 => some (.inr (2, [x0], [(mMin r37 (6 : Int32)), (0 : Int32)], S35))))))) else (gd (ob S27 x0 2) (Option.bind (wO S27 x0 2) (fun q39 => gd (ob S27 q39 8) (bd2 (f_X8_at S27 q39 x1 (10 : Int32)) (fun r44 S42 => if r44 = (-1 : Int32) then (gd (ob S42 x0 2) (bd2 (f_X2_bitOf S42 x1) (fun r49 S48 => gd (ob S48 x0 2) (ltS (sI S48 x0 11 ((wI S42 x0 11) ||| r49)) (fun S51 => some (.inr (1, [x0], [(x1 + (1 : Int32))], S51))))))) else (some (.inr (1, [x0], [(x1 + (1 : Int32))], S42))))))))))))
noncomputable def B_X2_work_2 (S : Wd) (x0 : Nat) (x1 : Int32) (x2 : Int32) : Option ((Wd) ⊕ Cs) := if (256 : Int32) ≤ x2 then (some (.inr (3, [x0], [x1, (x1 - (1 : Int32))], S))) else (gd (ob S x0 2) (Option.bind (wO S x0 4) (fun q55 => gd (ix S q55 100 ((x1 * (256 : Int32)) + x2)) (ltS (sI S q55 ((x1 * (256 : Int32)) + x2).toNatClampNeg (0 : Int32)) (fun S58 => some (.inr (2, [x0], [x1, (x2 + (1 : Int32))], S58)))))))
noncomputable def B_X2_work_3 (S : Wd) (x0 : Nat) (x1 : Int32) (x2 : Int32) : Option ((Wd) ⊕ Cs) := if x2 < 0 then (gd (ob S x0 2) (Option.bind (f_X2_handOut S x0 x1) (fun S62 => some (.inl S62)))) else (gd (ob S x0 2) (Option.bind (f_X2_gatherRows S x0 x2) (fun S65 => some (.inr (4, [x0], [x1, x2, (((2 : Int32) * x2) + (1 : Int32)), (0 : Int32)], S65)))))
noncomputable def B_X2_work_4 (S : Wd) (x0 : Nat) (x1 : Int32) (x2 : Int32) (x3 : Int32) (x4 : Int32) : Option ((Wd) ⊕ Cs) := gd (ob S x0 2) (if (wI S x0 11) < x4 then (some (.inr (3, [x0], [x1, (x2 + (-1 : Int32))], S))) else (gd (ob S x0 2) (if (x4 &&& ((wI S x0 11) ^^^ (-1 : Int32))) = 0 then (gd (ob S x0 2) (bd2 (f_J6_bitCount_0f7a4 S ((wI S x0 11) &&& (x4 ^^^ (-1 : Int32)))) (fun r74 S73 => if x3 < r74 then (some (.inr (4, [x0], [x1, x2, x3, (x4 + (1 : Int32))], S73))) else (gd (ob S73 x0 2) (Option.bind (f_X2_choose S73 x0 x2 x4) (fun S77 => some (.inr (4, [x0], [x1, x2, x3, (x4 + (1 : Int32))], S77)))))))) else (some (.inr (4, [x0], [x1, x2, x3, (x4 + (1 : Int32))], S))))))
noncomputable def B_X2_work : Cs → Option ((Wd) ⊕ Cs)
  | (0, [a0], [], S) => B_X2_work_0 S a0
  | (1, [x0], [x1], S) => B_X2_work_1 S x0 x1
  | (2, [x0], [x1, x2], S) => B_X2_work_2 S x0 x1 x2
  | (3, [x0], [x1, x2], S) => B_X2_work_3 S x0 x1 x2
  | (4, [x0], [x1, x2, x3, x4], S) => B_X2_work_4 S x0 x1 x2 x3 x4
  | _ => none
def P_X2_work : Cs → Option (Nat × List (Nat × Value) × Wd × Nat × Nat)
  | (0, [a0], [], S) => some (0, [(0, .ref a0)], S, 0, 0)
  | (1, [x0], [x1], S) => some (33, [(0, .ref x0), (1, .int x1)], S, 0, 0)
  | (2, [x0], [x1, x2], S) => some (92, [(0, .ref x0), (1, .int x1), (2, .int x2)], S, 0, 0)
  | (3, [x0], [x1, x2], S) => some (122, [(0, .ref x0), (1, .int x1), (2, .int x2)], S, 0, 0)
  | (4, [x0], [x1, x2, x3, x4], S) => some (140, [(0, .ref x0), (1, .int x1), (2, .int x2), (3, .int x3), (4, .int x4)], S, 0, 0)
  | _ => none
noncomputable def f_X2_work (S : Wd) (a0 : Nat) : Option (Wd) := ru B_X2_work (0, [a0], [], S)
abbrev N_X2_work (b : Bd) (r : Wd) (c : (Wd) ⊕ Cs) : Prop := match c with
  | .inl r' => r' = r
  | .inr s' => ∀ pc L S kc ks, P_X2_work s' = some (pc, L, S, kc, ks) → G b pc L [] S kc ks
set_option maxRecDepth 100000 in
set_option maxHeartbeats 4000000 in
theorem w_X2_work_0 {b : Bd} {r : Wd} (hC : CX b yX2_work.cls cX2_work 5 { frames := 5, cells := 0, slots := 0, locals := 116 }) (hin : yX2_work.name = "<init>" → b.2.2.2.2.2.2.2.2.1.name = "<init>") (hR : RT b none none r 0 0) {S : Wd} {a0 : Nat} {c : (Wd) ⊕ Cs} (h : B_X2_work_0 S a0 = some c) (hk : N_X2_work b r c) : G b 0 [(0, .ref a0)] [] S 0 0 := by
  unfold B_X2_work_0 at h
  refine g_aload_n hC dX2_work_0 rfl ?_
  obtain ⟨ho1, h⟩ := gd_some h
  refine g_geti (k := 12) hC ck_X2 (by decide) tw_156 rfl (by decide) dX2_work_1 ho1 ?_
  refine g_aload_n hC dX2_work_4 rfl ?_
  obtain ⟨ho2, h⟩ := gd_some h
  obtain ⟨q3, hq4, h⟩ := Option.bind_eq_some_iff.mp h
  refine g_getr (k := 0) (q := q3) hC ck_X2 (by decide) tw_144 rfl (by decide) dX2_work_5 ho2 hq4 ?_
  obtain ⟨ho7, h⟩ := gd_some h
  obtain ⟨r8, S6, hr5, h⟩ := bd2_some h
  refine g_callV (rest := [.int (wI S a0 12)]) hC mi_X3_changes (k_X3_changes hr5) ck_X3.1 (by decide) ho7 tw_552 tw_401 tw_402 dX2_work_8 rfl rfl ⟨by decide, by decide⟩ (Nat.le_of_ble_eq_true rfl) ⟨by decide, by decide⟩ ?_
  refine g_icmp_ne (tgt := 15) hC dX2_work_11 (by decide) (fun hc9 => ?_) (fun hc9 => ?_)
  · rw [if_neg hc9] at h
    refine g_aload_n hC dX2_work_15 rfl ?_
    refine g_aload_n hC dX2_work_16 rfl ?_
    obtain ⟨ho10, h⟩ := gd_some h
    obtain ⟨q11, hq12, h⟩ := Option.bind_eq_some_iff.mp h
    refine g_getr (k := 0) (q := q11) hC ck_X2 (by decide) tw_144 rfl (by decide) dX2_work_17 ho10 hq12 ?_
    obtain ⟨ho15, h⟩ := gd_some h
    obtain ⟨r16, S14, hr13, h⟩ := bd2_some h
    refine g_callV (rest := [.ref a0]) hC mi_X3_changes (k_X3_changes hr13) ck_X3.1 (by decide) ho15 tw_552 tw_401 tw_402 dX2_work_20 rfl rfl ⟨by decide, by decide⟩ (Nat.le_of_ble_eq_true rfl) ⟨by decide, by decide⟩ ?_
    obtain ⟨ho17, h⟩ := gd_some h
    refine g_puti (k := 12) hC ck_X2 (by decide) tw_156 rfl (by decide) rfl rfl dX2_work_23 ho17 ?_
    refine g_name (fun S18 eS19 => ?_)
    have h := ltS_use eS19 h
    refine g_aload_n hC dX2_work_26 rfl ?_
    refine g_iconst (v := (0 : Int32)) hC dX2_work_27 (by decide) ?_
    obtain ⟨ho20, h⟩ := gd_some h
    refine g_puti (k := 11) hC ck_X2 (by decide) tw_155 rfl (by decide) rfl rfl dX2_work_28 ho20 ?_
    refine g_name (fun S21 eS22 => ?_)
    have h := ltS_use eS22 h
    refine g_iconst (v := (0 : Int32)) hC dX2_work_31 (by decide) ?_
    refine g_istore_n (L' := [(1, .int (0 : Int32)), (0, .ref a0)]) hC dX2_work_32 (by decide) rfl ?_
    cases h
    refine g_pick (L' := [(0, .ref a0), (1, .int (0 : Int32))]) [1, 0] rfl ?_
    exact hk _ _ _ _ _ rfl
  · rw [if_pos hc9] at h
    cases h
    subst hk
    exact g_vret hC hR dX2_work_14 (by decide) (by decide)
set_option maxRecDepth 100000 in
set_option maxHeartbeats 4000000 in
theorem w_X2_work_1 {b : Bd} {r : Wd} (hC : CX b yX2_work.cls cX2_work 5 { frames := 5, cells := 0, slots := 0, locals := 116 }) (hin : yX2_work.name = "<init>" → b.2.2.2.2.2.2.2.2.1.name = "<init>") (hR : RT b none none r 0 0) {S : Wd} {x0 : Nat} {x1 : Int32} {c : (Wd) ⊕ Cs} (h : B_X2_work_1 S x0 x1 = some c) (hk : N_X2_work b r c) : G b 33 [(0, .ref x0), (1, .int x1)] [] S 0 0 := by
  unfold B_X2_work_1 at h
  refine g_iload_n hC dX2_work_33 rfl ?_
  refine g_aload_n hC dX2_work_34 rfl ?_
  obtain ⟨ho23, h⟩ := gd_some h
  obtain ⟨q24, hq25, h⟩ := Option.bind_eq_some_iff.mp h
  refine g_getr (k := 2) (q := q24) hC ck_X2 (by decide) tw_146 rfl (by decide) dX2_work_35 ho23 hq25 ?_
  obtain ⟨ho28, h⟩ := gd_some h
  obtain ⟨r29, S27, hr26, h⟩ := bd2_some h
  refine g_callV (rest := [.int x1]) hC mi_X8_count (k_X8_count hr26) ck_X8.1 (by decide) ho28 tw_553 tw_452 tw_453 dX2_work_38 rfl rfl ⟨by decide, by decide⟩ (Nat.le_of_ble_eq_true rfl) ⟨by decide, by decide⟩ ?_
  refine g_icmp_ge (tgt := 77) hC dX2_work_41 (by decide) (fun hc30 => ?_) (fun hc30 => ?_)
  · rw [if_pos hc30] at h
    refine g_aload_n hC dX2_work_77 rfl ?_
    obtain ⟨ho31, h⟩ := gd_some h
    obtain ⟨q32, hq33, h⟩ := Option.bind_eq_some_iff.mp h
    refine g_getr (k := 1) (q := q32) hC ck_X2 (by decide) tw_145 rfl (by decide) dX2_work_78 ho31 hq33 ?_
    obtain ⟨ho36, h⟩ := gd_some h
    obtain ⟨r37, S35, hr34, h⟩ := bd2_some h
    refine g_callV (rest := []) hC mi_X8_count (k_X8_count hr34) ck_X8.1 (by decide) ho36 tw_553 tw_452 tw_453 dX2_work_81 rfl rfl ⟨by decide, by decide⟩ (Nat.le_of_ble_eq_true rfl) ⟨by decide, by decide⟩ ?_
    refine g_bipush (v := (6 : Int32)) hC dX2_work_84 (by decide) ?_
    refine g_mmin (st := []) hC tw_558 tw_364 tw_5 tw_365 dX2_work_86 (by decide) (Nat.le_of_ble_eq_true rfl) (by decide) (by decide) ?_
    refine g_istore_n (L' := [(1, .int (mMin r37 (6 : Int32))), (0, .ref x0)]) hC dX2_work_89 (by decide) rfl ?_
    refine g_iconst (v := (0 : Int32)) hC dX2_work_90 (by decide) ?_
    refine g_istore_n (L' := [(2, .int (0 : Int32)), (1, .int (mMin r37 (6 : Int32))), (0, .ref x0)]) hC dX2_work_91 (by decide) rfl ?_
    cases h
    refine g_pick (L' := [(0, .ref x0), (1, .int (mMin r37 (6 : Int32))), (2, .int (0 : Int32))]) [2, 1, 0] rfl ?_
    exact hk _ _ _ _ _ rfl
  · rw [if_neg hc30] at h
    refine g_aload_n hC dX2_work_44 rfl ?_
    obtain ⟨ho38, h⟩ := gd_some h
    obtain ⟨q39, hq40, h⟩ := Option.bind_eq_some_iff.mp h
    refine g_getr (k := 2) (q := q39) hC ck_X2 (by decide) tw_146 rfl (by decide) dX2_work_45 ho38 hq40 ?_
    refine g_iload_n hC dX2_work_48 rfl ?_
    refine g_bipush (v := (10 : Int32)) hC dX2_work_49 (by decide) ?_
    obtain ⟨ho43, h⟩ := gd_some h
    obtain ⟨r44, S42, hr41, h⟩ := bd2_some h
    refine g_callV (rest := []) hC mi_X8_at (k_X8_at hr41) ck_X8.1 (by decide) ho43 tw_554 tw_435 tw_436 dX2_work_51 rfl rfl ⟨by decide, by decide⟩ (Nat.le_of_ble_eq_true rfl) ⟨by decide, by decide⟩ ?_
    refine g_iconst (v := (-1 : Int32)) hC dX2_work_54 (by decide) ?_
    refine g_icmp_ne (tgt := 71) hC dX2_work_55 (by decide) (fun hc45 => ?_) (fun hc45 => ?_)
    · rw [if_neg hc45] at h
      refine g_iinc (v := (1 : Int32)) (L' := [(1, .int (x1 + (1 : Int32))), (0, .ref x0)]) hC dX2_work_71 rfl (by decide) (by decide) rfl ?_
      refine g_goto (tgt := 33) hC dX2_work_74 (by decide) ?_
      cases h
      refine g_pick (L' := [(0, .ref x0), (1, .int (x1 + (1 : Int32)))]) [1, 0] rfl ?_
      exact hk _ _ _ _ _ rfl
    · rw [if_pos hc45] at h
      refine g_aload_n hC dX2_work_58 rfl ?_
      refine g_dup hC dX2_work_59 rfl ?_
      obtain ⟨ho46, h⟩ := gd_some h
      refine g_geti (k := 11) hC ck_X2 (by decide) tw_155 rfl (by decide) dX2_work_60 ho46 ?_
      refine g_iload_n hC dX2_work_63 rfl ?_
      obtain ⟨r49, S48, hr47, h⟩ := bd2_some h
      refine g_callS (rest := [.int (wI S42 x0 11), .ref x0]) hC mi_X2_bitOf (k_X2_bitOf hr47) tw_555 tw_556 dX2_work_64 rfl rfl ⟨by decide, by decide⟩ (Nat.le_of_ble_eq_true rfl) ⟨by decide, by decide⟩ ?_
      refine g_ior hC dX2_work_67 ?_
      obtain ⟨ho50, h⟩ := gd_some h
      refine g_puti (k := 11) hC ck_X2 (by decide) tw_155 rfl (by decide) rfl rfl dX2_work_68 ho50 ?_
      refine g_name (fun S51 eS52 => ?_)
      have h := ltS_use eS52 h
      refine g_iinc (v := (1 : Int32)) (L' := [(1, .int (x1 + (1 : Int32))), (0, .ref x0)]) hC dX2_work_71 rfl (by decide) (by decide) rfl ?_
      refine g_goto (tgt := 33) hC dX2_work_74 (by decide) ?_
      cases h
      refine g_pick (L' := [(0, .ref x0), (1, .int (x1 + (1 : Int32)))]) [1, 0] rfl ?_
      exact hk _ _ _ _ _ rfl
set_option maxRecDepth 100000 in
set_option maxHeartbeats 4000000 in
theorem w_X2_work_2 {b : Bd} {r : Wd} (hC : CX b yX2_work.cls cX2_work 5 { frames := 5, cells := 0, slots := 0, locals := 116 }) (hin : yX2_work.name = "<init>" → b.2.2.2.2.2.2.2.2.1.name = "<init>") (hR : RT b none none r 0 0) {S : Wd} {x0 : Nat} {x1 : Int32} {x2 : Int32} {c : (Wd) ⊕ Cs} (h : B_X2_work_2 S x0 x1 x2 = some c) (hk : N_X2_work b r c) : G b 92 [(0, .ref x0), (1, .int x1), (2, .int x2)] [] S 0 0 := by
  unfold B_X2_work_2 at h
  refine g_iload_n hC dX2_work_92 rfl ?_
  refine g_sipush (v := (256 : Int32)) hC dX2_work_93 (by decide) ?_
  refine g_icmp_ge (tgt := 118) hC dX2_work_96 (by decide) (fun hc53 => ?_) (fun hc53 => ?_)
  · rw [if_pos hc53] at h
    refine g_iload_n hC dX2_work_118 rfl ?_
    refine g_iconst (v := (1 : Int32)) hC dX2_work_119 (by decide) ?_
    refine g_isub hC dX2_work_120 ?_
    refine g_istore_n (L' := [(2, .int (x1 - (1 : Int32))), (0, .ref x0), (1, .int x1)]) hC dX2_work_121 (by decide) rfl ?_
    cases h
    refine g_pick (L' := [(0, .ref x0), (1, .int x1), (2, .int (x1 - (1 : Int32)))]) [1, 2, 0] rfl ?_
    exact hk _ _ _ _ _ rfl
  · rw [if_neg hc53] at h
    refine g_aload_n hC dX2_work_99 rfl ?_
    obtain ⟨ho54, h⟩ := gd_some h
    obtain ⟨q55, hq56, h⟩ := Option.bind_eq_some_iff.mp h
    refine g_getr (k := 4) (q := q55) hC ck_X2 (by decide) tw_148 rfl (by decide) dX2_work_100 ho54 hq56 ?_
    refine g_iload_n hC dX2_work_103 rfl ?_
    refine g_sipush (v := (256 : Int32)) hC dX2_work_104 (by decide) ?_
    refine g_imul hC dX2_work_107 ?_
    refine g_iload_n hC dX2_work_108 rfl ?_
    refine g_iadd hC dX2_work_109 ?_
    refine g_iconst (v := (0 : Int32)) hC dX2_work_110 (by decide) ?_
    obtain ⟨hx57, h⟩ := gd_some h
    refine g_iast hC dX2_work_111 hx57.1 hx57.2 ?_
    refine g_name (fun S58 eS59 => ?_)
    have h := ltS_use eS59 h
    refine g_iinc (v := (1 : Int32)) (L' := [(2, .int (x2 + (1 : Int32))), (0, .ref x0), (1, .int x1)]) hC dX2_work_112 rfl (by decide) (by decide) rfl ?_
    refine g_goto (tgt := 92) hC dX2_work_115 (by decide) ?_
    cases h
    refine g_pick (L' := [(0, .ref x0), (1, .int x1), (2, .int (x2 + (1 : Int32)))]) [1, 2, 0] rfl ?_
    exact hk _ _ _ _ _ rfl
set_option maxRecDepth 100000 in
set_option maxHeartbeats 4000000 in
theorem w_X2_work_3 {b : Bd} {r : Wd} (hC : CX b yX2_work.cls cX2_work 5 { frames := 5, cells := 0, slots := 0, locals := 116 }) (hin : yX2_work.name = "<init>" → b.2.2.2.2.2.2.2.2.1.name = "<init>") (hR : RT b none none r 0 0) {S : Wd} {x0 : Nat} {x1 : Int32} {x2 : Int32} {c : (Wd) ⊕ Cs} (h : B_X2_work_3 S x0 x1 x2 = some c) (hk : N_X2_work b r c) : G b 122 [(0, .ref x0), (1, .int x1), (2, .int x2)] [] S 0 0 := by
  unfold B_X2_work_3 at h
  refine g_iload_n hC dX2_work_122 rfl ?_
  refine g_if_lt (tgt := 196) hC dX2_work_123 (by decide) (fun hc60 => ?_) (fun hc60 => ?_)
  · rw [if_pos hc60] at h
    refine g_aload_n hC dX2_work_196 rfl ?_
    refine g_iload_n hC dX2_work_197 rfl ?_
    obtain ⟨ho63, h⟩ := gd_some h
    obtain ⟨S62, hr61, h⟩ := Option.bind_eq_some_iff.mp h
    refine g_callV (rest := []) hC mi_X2_handOut (k_X2_handOut hr61) ck_X2.1 (by decide) ho63 tw_596 tw_598 ts_14 dX2_work_198 rfl rfl ⟨by decide, by decide⟩ (Nat.le_of_ble_eq_true rfl) ⟨by decide, by decide⟩ ?_
    cases h
    subst hk
    exact g_vret hC hR dX2_work_201 (by decide) (by decide)
  · rw [if_neg hc60] at h
    refine g_aload_n hC dX2_work_126 rfl ?_
    refine g_iload_n hC dX2_work_127 rfl ?_
    obtain ⟨ho66, h⟩ := gd_some h
    obtain ⟨S65, hr64, h⟩ := Option.bind_eq_some_iff.mp h
    refine g_callV (rest := []) hC mi_X2_gatherRows (k_X2_gatherRows hr64) ck_X2.1 (by decide) ho66 tw_559 tw_561 ts_10 dX2_work_128 rfl rfl ⟨by decide, by decide⟩ (Nat.le_of_ble_eq_true rfl) ⟨by decide, by decide⟩ ?_
    refine g_iconst (v := (2 : Int32)) hC dX2_work_131 (by decide) ?_
    refine g_iload_n hC dX2_work_132 rfl ?_
    refine g_imul hC dX2_work_133 ?_
    refine g_iconst (v := (1 : Int32)) hC dX2_work_134 (by decide) ?_
    refine g_iadd hC dX2_work_135 ?_
    refine g_istore_n (L' := [(3, .int (((2 : Int32) * x2) + (1 : Int32))), (0, .ref x0), (1, .int x1), (2, .int x2)]) hC dX2_work_136 (by decide) rfl ?_
    refine g_iconst (v := (0 : Int32)) hC dX2_work_137 (by decide) ?_
    refine g_istore (L' := [(4, .int (0 : Int32)), (3, .int (((2 : Int32) * x2) + (1 : Int32))), (0, .ref x0), (1, .int x1), (2, .int x2)]) hC dX2_work_138 (by decide) rfl ?_
    cases h
    refine g_pick (L' := [(0, .ref x0), (1, .int x1), (2, .int x2), (3, .int (((2 : Int32) * x2) + (1 : Int32))), (4, .int (0 : Int32))]) [2, 3, 4, 1, 0] rfl ?_
    exact hk _ _ _ _ _ rfl
set_option maxRecDepth 100000 in
set_option maxHeartbeats 4000000 in
theorem w_X2_work_4 {b : Bd} {r : Wd} (hC : CX b yX2_work.cls cX2_work 5 { frames := 5, cells := 0, slots := 0, locals := 116 }) (hin : yX2_work.name = "<init>" → b.2.2.2.2.2.2.2.2.1.name = "<init>") (hR : RT b none none r 0 0) {S : Wd} {x0 : Nat} {x1 : Int32} {x2 : Int32} {x3 : Int32} {x4 : Int32} {c : (Wd) ⊕ Cs} (h : B_X2_work_4 S x0 x1 x2 x3 x4 = some c) (hk : N_X2_work b r c) : G b 140 [(0, .ref x0), (1, .int x1), (2, .int x2), (3, .int x3), (4, .int x4)] [] S 0 0 := by
  unfold B_X2_work_4 at h
  refine g_iload hC dX2_work_140 rfl ?_
  refine g_aload_n hC dX2_work_142 rfl ?_
  obtain ⟨ho67, h⟩ := gd_some h
  refine g_geti (k := 11) hC ck_X2 (by decide) tw_155 rfl (by decide) dX2_work_143 ho67 ?_
  refine g_icmp_gt (tgt := 190) hC dX2_work_146 (by decide) (fun hc68 => ?_) (fun hc68 => ?_)
  · rw [if_pos hc68] at h
    refine g_iinc (v := (-1 : Int32)) (L' := [(2, .int (x2 + (-1 : Int32))), (0, .ref x0), (1, .int x1), (3, .int x3), (4, .int x4)]) hC dX2_work_190 rfl (by decide) (by decide) rfl ?_
    refine g_goto (tgt := 122) hC dX2_work_193 (by decide) ?_
    cases h
    refine g_pick (L' := [(0, .ref x0), (1, .int x1), (2, .int (x2 + (-1 : Int32)))]) [1, 2, 0] rfl ?_
    exact hk _ _ _ _ _ rfl
  · rw [if_neg hc68] at h
    refine g_iload hC dX2_work_149 rfl ?_
    refine g_aload_n hC dX2_work_151 rfl ?_
    obtain ⟨ho69, h⟩ := gd_some h
    refine g_geti (k := 11) hC ck_X2 (by decide) tw_155 rfl (by decide) dX2_work_152 ho69 ?_
    refine g_iconst (v := (-1 : Int32)) hC dX2_work_155 (by decide) ?_
    refine g_ixor hC dX2_work_156 ?_
    refine g_iand hC dX2_work_157 ?_
    refine g_if_ne (tgt := 184) hC dX2_work_158 (by decide) (fun hc70 => ?_) (fun hc70 => ?_)
    · rw [if_neg hc70] at h
      refine g_iinc (v := (1 : Int32)) (L' := [(4, .int (x4 + (1 : Int32))), (0, .ref x0), (1, .int x1), (2, .int x2), (3, .int x3)]) hC dX2_work_184 rfl (by decide) (by decide) rfl ?_
      refine g_goto (tgt := 140) hC dX2_work_187 (by decide) ?_
      cases h
      refine g_pick (L' := [(0, .ref x0), (1, .int x1), (2, .int x2), (3, .int x3), (4, .int (x4 + (1 : Int32)))]) [1, 2, 3, 4, 0] rfl ?_
      exact hk _ _ _ _ _ rfl
    · rw [if_pos hc70] at h
      refine g_aload_n hC dX2_work_161 rfl ?_
      obtain ⟨ho71, h⟩ := gd_some h
      refine g_geti (k := 11) hC ck_X2 (by decide) tw_155 rfl (by decide) dX2_work_162 ho71 ?_
      refine g_iload hC dX2_work_165 rfl ?_
      refine g_iconst (v := (-1 : Int32)) hC dX2_work_167 (by decide) ?_
      refine g_ixor hC dX2_work_168 ?_
      refine g_iand hC dX2_work_169 ?_
      obtain ⟨r74, S73, hr72, h⟩ := bd2_some h
      refine g_callS (rest := []) hC mi_J6_bitCount_0f7a4 (k_J6_bitCount_0f7a4 hr72) tw_586 tw_587 dX2_work_170 rfl rfl ⟨by decide, by decide⟩ (Nat.le_of_ble_eq_true rfl) ⟨by decide, by decide⟩ ?_
      refine g_iload_n hC dX2_work_173 rfl ?_
      refine g_icmp_gt (tgt := 184) hC dX2_work_174 (by decide) (fun hc75 => ?_) (fun hc75 => ?_)
      · rw [if_pos hc75] at h
        refine g_iinc (v := (1 : Int32)) (L' := [(4, .int (x4 + (1 : Int32))), (0, .ref x0), (1, .int x1), (2, .int x2), (3, .int x3)]) hC dX2_work_184 rfl (by decide) (by decide) rfl ?_
        refine g_goto (tgt := 140) hC dX2_work_187 (by decide) ?_
        cases h
        refine g_pick (L' := [(0, .ref x0), (1, .int x1), (2, .int x2), (3, .int x3), (4, .int (x4 + (1 : Int32)))]) [1, 2, 3, 4, 0] rfl ?_
        exact hk _ _ _ _ _ rfl
      · rw [if_neg hc75] at h
        refine g_aload_n hC dX2_work_177 rfl ?_
        refine g_iload_n hC dX2_work_178 rfl ?_
        refine g_iload hC dX2_work_179 rfl ?_
        obtain ⟨ho78, h⟩ := gd_some h
        obtain ⟨S77, hr76, h⟩ := Option.bind_eq_some_iff.mp h
        refine g_callV (rest := []) hC mi_X2_choose (k_X2_choose hr76) ck_X2.1 (by decide) ho78 tw_592 tw_594 ts_13 dX2_work_181 rfl rfl ⟨by decide, by decide⟩ (Nat.le_of_ble_eq_true rfl) ⟨by decide, by decide⟩ ?_
        refine g_iinc (v := (1 : Int32)) (L' := [(4, .int (x4 + (1 : Int32))), (0, .ref x0), (1, .int x1), (2, .int x2), (3, .int x3)]) hC dX2_work_184 rfl (by decide) (by decide) rfl ?_
        refine g_goto (tgt := 140) hC dX2_work_187 (by decide) ?_
        cases h
        refine g_pick (L' := [(0, .ref x0), (1, .int x1), (2, .int x2), (3, .int x3), (4, .int (x4 + (1 : Int32)))]) [1, 2, 3, 4, 0] rfl ?_
        exact hk _ _ _ _ _ rfl
theorem w_X2_work {b : Bd} {r : Wd} (hC : CX b yX2_work.cls cX2_work 5 { frames := 5, cells := 0, slots := 0, locals := 116 }) (hin : yX2_work.name = "<init>" → b.2.2.2.2.2.2.2.2.1.name = "<init>") (hR : RT b none none r 0 0) {s : Cs} {c : (Wd) ⊕ Cs} (h : B_X2_work s = some c) (hk : N_X2_work b r c) : ∀ pc L S kc ks, P_X2_work s = some (pc, L, S, kc, ks) → G b pc L [] S kc ks := by
  intro pc L S kc ks hp
  unfold B_X2_work at h
  split at h
  · cases hp
    exact w_X2_work_0 hC hin hR h hk
  · cases hp
    exact w_X2_work_1 hC hin hR h hk
  · cases hp
    exact w_X2_work_2 hC hin hR h hk
  · cases hp
    exact w_X2_work_3 hC hin hR h hk
  · cases hp
    exact w_X2_work_4 hC hin hR h hk
  · cases h
theorem k_X2_work {S : Wd} {a0 : Nat} {S' : Wd} (h : f_X2_work S a0 = some S') : Sp yX2_work cX2_work 5 none 5 116 0 0 [.ref a0] S none S' := by
  unfold f_X2_work at h
  refine Sp.of (by decide +kernel) (Nat.le_of_ble_eq_true rfl) ?_
  intro b hC hin hR
  exact ru_ind (P := fun s q0 => q0 = S' → ∀ pc L S kc ks, P_X2_work s = some (pc, L, S, kc, ks) → G b pc L [] S kc ks) (fun s q0 hB e => w_X2_work (r := S') hC hin hR hB e) (fun s s' q0 hB ih e => w_X2_work (r := S') hC hin hR hB (ih e)) h rfl _ _ _ _ _ rfl

theorem mi_X2_value : MI yX2_value cX2_value 1 (some .int) 0 := ⟨tw_603, tw_7, by decide +kernel, by decide +kernel, by decide +kernel⟩
noncomputable def f_X2_value (S : Wd) (a0 : Nat) : Option (Int32 × Wd) := gd (ob S a0 2) (Option.bind (wO S a0 4) (fun q2 => gd (ob S a0 2) (gd (ix S q2 100 (wI S a0 11)) (some ((wI S q2 (wI S a0 11).toNatClampNeg), S)))))
set_option maxRecDepth 100000 in
set_option maxHeartbeats 4000000 in
theorem k_X2_value {S : Wd} {a0 : Nat} {r : Int32} {S' : Wd} (h : f_X2_value S a0 = some (r, S')) : Sp yX2_value cX2_value 1 (some .int) 0 0 0 0 [.ref a0] S (some (.int r)) S' := by
  unfold f_X2_value at h
  refine Sp.of (by decide +kernel) (Nat.le_of_ble_eq_true rfl) ?_
  intro b hC hin hR
  show G b 0 [(0, .ref a0)] [] S 0 0
  refine g_aload_n hC dX2_value_0 rfl ?_
  obtain ⟨ho1, h⟩ := gd_some h
  obtain ⟨q2, hq3, h⟩ := Option.bind_eq_some_iff.mp h
  refine g_getr (k := 4) (q := q2) hC ck_X2 (by decide) tw_148 rfl (by decide) dX2_value_1 ho1 hq3 ?_
  refine g_aload_n hC dX2_value_4 rfl ?_
  obtain ⟨ho4, h⟩ := gd_some h
  refine g_geti (k := 11) hC ck_X2 (by decide) tw_155 rfl (by decide) dX2_value_5 ho4 ?_
  obtain ⟨hx5, h⟩ := gd_some h
  refine g_iald hC dX2_value_8 hx5.1 hx5.2 ?_
  cases h
  exact g_iret hC hR dX2_value_9 (by decide) (by decide)

theorem mi_X11_best : MI yX11_best cX11_best 1 (some .int) 0 := ⟨tw_547, tw_1, by decide +kernel, by decide +kernel, by decide +kernel⟩
noncomputable def f_X11_best (S : Wd) (a0 : Nat) : Option (Int32 × Wd) := gd (ob S a0 11) (Option.bind (wO S a0 5) (fun q2 => gd (ob S q2 2) (Option.bind (f_X2_work S q2) (fun S5 => gd (ob S5 a0 11) (Option.bind (wO S5 a0 5) (fun q8 => gd (ob S5 q8 2) (bd2 (f_X2_value S5 q8) (fun r13 S11 => some (r13, S11)))))))))
set_option maxRecDepth 100000 in
set_option maxHeartbeats 4000000 in
theorem k_X11_best {S : Wd} {a0 : Nat} {r : Int32} {S' : Wd} (h : f_X11_best S a0 = some (r, S')) : Sp yX11_best cX11_best 1 (some .int) 6 140 0 0 [.ref a0] S (some (.int r)) S' := by
  unfold f_X11_best at h
  refine Sp.of (by decide +kernel) (Nat.le_of_ble_eq_true rfl) ?_
  intro b hC hin hR
  show G b 0 [(0, .ref a0)] [] S 0 0
  refine g_aload_n hC dX11_best_0 rfl ?_
  obtain ⟨ho1, h⟩ := gd_some h
  obtain ⟨q2, hq3, h⟩ := Option.bind_eq_some_iff.mp h
  refine g_getr (k := 5) (q := q2) hC ck_X11 (by decide) tw_307 rfl (by decide) dX11_best_1 ho1 hq3 ?_
  obtain ⟨ho6, h⟩ := gd_some h
  obtain ⟨S5, hr4, h⟩ := Option.bind_eq_some_iff.mp h
  refine g_callV (rest := []) hC mi_X2_work (k_X2_work hr4) ck_X2.1 (by decide) ho6 tw_548 tw_549 tw_550 dX11_best_4 rfl rfl ⟨by decide, by decide⟩ (Nat.le_of_ble_eq_true rfl) ⟨by decide, by decide⟩ ?_
  refine g_aload_n hC dX11_best_7 rfl ?_
  obtain ⟨ho7, h⟩ := gd_some h
  obtain ⟨q8, hq9, h⟩ := Option.bind_eq_some_iff.mp h
  refine g_getr (k := 5) (q := q8) hC ck_X11 (by decide) tw_307 rfl (by decide) dX11_best_8 ho7 hq9 ?_
  obtain ⟨ho12, h⟩ := gd_some h
  obtain ⟨r13, S11, hr10, h⟩ := bd2_some h
  refine g_callV (rest := []) hC mi_X2_value (k_X2_value hr10) ck_X2.1 (by decide) ho12 tw_600 tw_601 tw_602 dX11_best_11 rfl rfl ⟨by decide, by decide⟩ (Nat.le_of_ble_eq_true rfl) ⟨by decide, by decide⟩ ?_
  cases h
  exact g_iret hC hR dX11_best_14 (by decide) (by decide)

theorem mi_X2_rowOf : MI yX2_rowOf cX2_rowOf 2 (some .int) 1 := ⟨tw_611, tw_7, by decide +kernel, by decide +kernel, by decide +kernel⟩
noncomputable def f_X2_rowOf (S : Wd) (a0 : Nat) (a1 : Int32) : Option (Int32 × Wd) := if a1 < 0 then (some ((0 : Int32), S)) else (if (6 : Int32) ≤ a1 then (some ((0 : Int32), S)) else (gd (ob S a0 2) (Option.bind (wO S a0 6) (fun q4 => gd (ix S q4 100 a1) (some ((wI S q4 a1.toNatClampNeg), S))))))
set_option maxRecDepth 100000 in
set_option maxHeartbeats 4000000 in
theorem k_X2_rowOf {S : Wd} {a0 : Nat} {a1 : Int32} {r : Int32} {S' : Wd} (h : f_X2_rowOf S a0 a1 = some (r, S')) : Sp yX2_rowOf cX2_rowOf 2 (some .int) 0 0 0 0 [.ref a0, .int a1] S (some (.int r)) S' := by
  unfold f_X2_rowOf at h
  refine Sp.of (by decide +kernel) (Nat.le_of_ble_eq_true rfl) ?_
  intro b hC hin hR
  show G b 0 [(0, .ref a0), (1, .int a1)] [] S 0 0
  refine g_iload_n hC dX2_rowOf_0 rfl ?_
  refine g_if_lt (tgt := 19) hC dX2_rowOf_1 (by decide) (fun hc1 => ?_) (fun hc1 => ?_)
  · rw [if_pos hc1] at h
    refine g_iconst (v := (0 : Int32)) hC dX2_rowOf_19 (by decide) ?_
    cases h
    exact g_iret hC hR dX2_rowOf_20 (by decide) (by decide)
  · rw [if_neg hc1] at h
    refine g_iload_n hC dX2_rowOf_4 rfl ?_
    refine g_bipush (v := (6 : Int32)) hC dX2_rowOf_5 (by decide) ?_
    refine g_icmp_ge (tgt := 19) hC dX2_rowOf_7 (by decide) (fun hc2 => ?_) (fun hc2 => ?_)
    · rw [if_pos hc2] at h
      refine g_iconst (v := (0 : Int32)) hC dX2_rowOf_19 (by decide) ?_
      cases h
      exact g_iret hC hR dX2_rowOf_20 (by decide) (by decide)
    · rw [if_neg hc2] at h
      refine g_aload_n hC dX2_rowOf_10 rfl ?_
      obtain ⟨ho3, h⟩ := gd_some h
      obtain ⟨q4, hq5, h⟩ := Option.bind_eq_some_iff.mp h
      refine g_getr (k := 6) (q := q4) hC ck_X2 (by decide) tw_150 rfl (by decide) dX2_rowOf_11 ho3 hq5 ?_
      refine g_iload_n hC dX2_rowOf_14 rfl ?_
      obtain ⟨hx6, h⟩ := gd_some h
      refine g_iald hC dX2_rowOf_15 hx6.1 hx6.2 ?_
      refine g_goto (tgt := 20) hC dX2_rowOf_16 (by decide) ?_
      cases h
      exact g_iret hC hR dX2_rowOf_20 (by decide) (by decide)

theorem mi_X11_gets : MI yX11_gets cX11_gets 5 (some .int) 2 := ⟨tw_607, tw_1, by decide +kernel, by decide +kernel, by decide +kernel⟩
noncomputable def f_X11_gets (S : Wd) (a0 : Nat) (a1 : Int32) (a2 : Int32) : Option (Int32 × Wd) := gd (ob S a0 11) (Option.bind (wO S a0 2) (fun q2 => gd (ob S q2 8) (bd2 (f_X8_has S q2 a1) (fun r7 S5 => if r7 = 0 then (gd (ob S5 a0 11) (bd2 (f_X11_told S5 a0 (-100001 : Int32)) (fun r12 S10 => some (r12, S10)))) else (bd2 (f_X11_within S5 a2 (0 : Int32) (1 : Int32)) (fun r15 S14 => if r15 = 0 then (gd (ob S14 a0 11) (bd2 (f_X11_told S14 a0 (-100001 : Int32)) (fun r58 S56 => some (r58, S56)))) else (gd (ob S14 a0 11) (Option.bind (wO S14 a0 5) (fun q18 => gd (ob S14 q18 2) (Option.bind (f_X2_work S14 q18) (fun S21 => gd (ob S21 a0 11) (Option.bind (wO S21 a0 5) (fun q24 => gd (ob S21 q24 2) (bd2 (f_X2_rowOf S21 q24 a1) (fun r29 S27 => if a2 = 0 then (bd2 (f_X2_firstOf S27 r29) (fun r45 S44 => if r45 = (-1 : Int32) then (gd (ob S44 a0 11) (bd2 (f_X11_told S44 a0 (-100006 : Int32)) (fun r54 S52 => some (r54, S52)))) else (gd (ob S44 a0 11) (bd2 (f_X11_told S44 a0 r45) (fun r50 S48 => some (r50, S48)))))) else (bd2 (f_X2_secondOf S27 r29) (fun r33 S32 => if r33 = (-1 : Int32) then (gd (ob S32 a0 11) (bd2 (f_X11_told S32 a0 (-100006 : Int32)) (fun r42 S40 => some (r42, S40)))) else (gd (ob S32 a0 11) (bd2 (f_X11_told S32 a0 r33) (fun r38 S36 => some (r38, S36)))))))))))))))))))))
set_option maxRecDepth 100000 in
set_option maxHeartbeats 4000000 in
theorem k_X11_gets {S : Wd} {a0 : Nat} {a1 : Int32} {a2 : Int32} {r : Int32} {S' : Wd} (h : f_X11_gets S a0 a1 a2 = some (r, S')) : Sp yX11_gets cX11_gets 5 (some .int) 6 140 0 0 [.ref a0, .int a1, .int a2] S (some (.int r)) S' := by
  unfold f_X11_gets at h
  refine Sp.of (by decide +kernel) (Nat.le_of_ble_eq_true rfl) ?_
  intro b hC hin hR
  show G b 0 [(0, .ref a0), (1, .int a1), (2, .int a2)] [] S 0 0
  refine g_aload_n hC dX11_gets_0 rfl ?_
  obtain ⟨ho1, h⟩ := gd_some h
  obtain ⟨q2, hq3, h⟩ := Option.bind_eq_some_iff.mp h
  refine g_getr (k := 2) (q := q2) hC ck_X11 (by decide) tw_304 rfl (by decide) dX11_gets_1 ho1 hq3 ?_
  refine g_iload_n hC dX11_gets_4 rfl ?_
  obtain ⟨ho6, h⟩ := gd_some h
  obtain ⟨r7, S5, hr4, h⟩ := bd2_some h
  refine g_callV (rest := []) hC mi_X8_has (k_X8_has hr4) ck_X8.1 (by decide) ho6 tw_430 tw_431 tw_432 dX11_gets_5 rfl rfl ⟨by decide, by decide⟩ (Nat.le_of_ble_eq_true rfl) ⟨by decide, by decide⟩ ?_
  refine g_if_eq (tgt := 20) hC dX11_gets_8 (by decide) (fun hc8 => ?_) (fun hc8 => ?_)
  · rw [if_pos hc8] at h
    refine g_aload_n hC dX11_gets_20 rfl ?_
    refine g_ldc hC tw_352 dX11_gets_21 ?_
    obtain ⟨ho11, h⟩ := gd_some h
    obtain ⟨r12, S10, hr9, h⟩ := bd2_some h
    refine g_callV (rest := []) hC mi_X11_told (k_X11_told hr9) ck_X11.1 (by decide) ho11 tw_353 tw_355 ts_0 dX11_gets_23 rfl rfl ⟨by decide, by decide⟩ (Nat.le_of_ble_eq_true rfl) ⟨by decide, by decide⟩ ?_
    cases h
    exact g_iret hC hR dX11_gets_26 (by decide) (by decide)
  · rw [if_neg hc8] at h
    refine g_iload_n hC dX11_gets_11 rfl ?_
    refine g_iconst (v := (0 : Int32)) hC dX11_gets_12 (by decide) ?_
    refine g_iconst (v := (1 : Int32)) hC dX11_gets_13 (by decide) ?_
    obtain ⟨r15, S14, hr13, h⟩ := bd2_some h
    refine g_callS (rest := []) hC mi_X11_within (k_X11_within hr13) tw_349 tw_350 dX11_gets_14 rfl rfl ⟨by decide, by decide⟩ (Nat.le_of_ble_eq_true rfl) ⟨by decide, by decide⟩ ?_
    refine g_if_ne (tgt := 27) hC dX11_gets_17 (by decide) (fun hc16 => ?_) (fun hc16 => ?_)
    · rw [if_neg hc16] at h
      refine g_aload_n hC dX11_gets_27 rfl ?_
      obtain ⟨ho17, h⟩ := gd_some h
      obtain ⟨q18, hq19, h⟩ := Option.bind_eq_some_iff.mp h
      refine g_getr (k := 5) (q := q18) hC ck_X11 (by decide) tw_307 rfl (by decide) dX11_gets_28 ho17 hq19 ?_
      obtain ⟨ho22, h⟩ := gd_some h
      obtain ⟨S21, hr20, h⟩ := Option.bind_eq_some_iff.mp h
      refine g_callV (rest := []) hC mi_X2_work (k_X2_work hr20) ck_X2.1 (by decide) ho22 tw_548 tw_549 tw_550 dX11_gets_31 rfl rfl ⟨by decide, by decide⟩ (Nat.le_of_ble_eq_true rfl) ⟨by decide, by decide⟩ ?_
      refine g_aload_n hC dX11_gets_34 rfl ?_
      obtain ⟨ho23, h⟩ := gd_some h
      obtain ⟨q24, hq25, h⟩ := Option.bind_eq_some_iff.mp h
      refine g_getr (k := 5) (q := q24) hC ck_X11 (by decide) tw_307 rfl (by decide) dX11_gets_35 ho23 hq25 ?_
      refine g_iload_n hC dX11_gets_38 rfl ?_
      obtain ⟨ho28, h⟩ := gd_some h
      obtain ⟨r29, S27, hr26, h⟩ := bd2_some h
      refine g_callV (rest := []) hC mi_X2_rowOf (k_X2_rowOf hr26) ck_X2.1 (by decide) ho28 tw_608 tw_609 tw_610 dX11_gets_39 rfl rfl ⟨by decide, by decide⟩ (Nat.le_of_ble_eq_true rfl) ⟨by decide, by decide⟩ ?_
      refine g_istore_n (L' := [(3, .int r29), (0, .ref a0), (1, .int a1), (2, .int a2)]) hC dX11_gets_42 (by decide) rfl ?_
      refine g_iload_n hC dX11_gets_43 rfl ?_
      refine g_if_ne (tgt := 54) hC dX11_gets_44 (by decide) (fun hc30 => ?_) (fun hc30 => ?_)
      · rw [if_neg hc30] at h
        refine g_iload_n hC dX11_gets_54 rfl ?_
        obtain ⟨r33, S32, hr31, h⟩ := bd2_some h
        refine g_callS (rest := []) hC mi_X2_secondOf (k_X2_secondOf hr31) tw_613 tw_581 dX11_gets_55 rfl rfl ⟨by decide, by decide⟩ (Nat.le_of_ble_eq_true rfl) ⟨by decide, by decide⟩ ?_
        refine g_istore (L' := [(4, .int r33), (3, .int r29), (0, .ref a0), (1, .int a1), (2, .int a2)]) hC dX11_gets_58 (by decide) rfl ?_
        refine g_aload_n hC dX11_gets_60 rfl ?_
        refine g_iload hC dX11_gets_61 rfl ?_
        refine g_iconst (v := (-1 : Int32)) hC dX11_gets_63 (by decide) ?_
        refine g_icmp_ne (tgt := 72) hC dX11_gets_64 (by decide) (fun hc34 => ?_) (fun hc34 => ?_)
        · rw [if_neg hc34] at h
          refine g_iload hC dX11_gets_72 rfl ?_
          obtain ⟨ho37, h⟩ := gd_some h
          obtain ⟨r38, S36, hr35, h⟩ := bd2_some h
          refine g_callV (rest := []) hC mi_X11_told (k_X11_told hr35) ck_X11.1 (by decide) ho37 tw_353 tw_355 ts_0 dX11_gets_74 rfl rfl ⟨by decide, by decide⟩ (Nat.le_of_ble_eq_true rfl) ⟨by decide, by decide⟩ ?_
          cases h
          exact g_iret hC hR dX11_gets_77 (by decide) (by decide)
        · rw [if_pos hc34] at h
          refine g_ldc hC tw_414 dX11_gets_67 ?_
          refine g_goto (tgt := 74) hC dX11_gets_69 (by decide) ?_
          obtain ⟨ho41, h⟩ := gd_some h
          obtain ⟨r42, S40, hr39, h⟩ := bd2_some h
          refine g_callV (rest := []) hC mi_X11_told (k_X11_told hr39) ck_X11.1 (by decide) ho41 tw_353 tw_355 ts_0 dX11_gets_74 rfl rfl ⟨by decide, by decide⟩ (Nat.le_of_ble_eq_true rfl) ⟨by decide, by decide⟩ ?_
          cases h
          exact g_iret hC hR dX11_gets_77 (by decide) (by decide)
      · rw [if_pos hc30] at h
        refine g_iload_n hC dX11_gets_47 rfl ?_
        obtain ⟨r45, S44, hr43, h⟩ := bd2_some h
        refine g_callS (rest := []) hC mi_X2_firstOf (k_X2_firstOf hr43) tw_612 tw_578 dX11_gets_48 rfl rfl ⟨by decide, by decide⟩ (Nat.le_of_ble_eq_true rfl) ⟨by decide, by decide⟩ ?_
        refine g_goto (tgt := 58) hC dX11_gets_51 (by decide) ?_
        refine g_istore (L' := [(4, .int r45), (3, .int r29), (0, .ref a0), (1, .int a1), (2, .int a2)]) hC dX11_gets_58 (by decide) rfl ?_
        refine g_aload_n hC dX11_gets_60 rfl ?_
        refine g_iload hC dX11_gets_61 rfl ?_
        refine g_iconst (v := (-1 : Int32)) hC dX11_gets_63 (by decide) ?_
        refine g_icmp_ne (tgt := 72) hC dX11_gets_64 (by decide) (fun hc46 => ?_) (fun hc46 => ?_)
        · rw [if_neg hc46] at h
          refine g_iload hC dX11_gets_72 rfl ?_
          obtain ⟨ho49, h⟩ := gd_some h
          obtain ⟨r50, S48, hr47, h⟩ := bd2_some h
          refine g_callV (rest := []) hC mi_X11_told (k_X11_told hr47) ck_X11.1 (by decide) ho49 tw_353 tw_355 ts_0 dX11_gets_74 rfl rfl ⟨by decide, by decide⟩ (Nat.le_of_ble_eq_true rfl) ⟨by decide, by decide⟩ ?_
          cases h
          exact g_iret hC hR dX11_gets_77 (by decide) (by decide)
        · rw [if_pos hc46] at h
          refine g_ldc hC tw_414 dX11_gets_67 ?_
          refine g_goto (tgt := 74) hC dX11_gets_69 (by decide) ?_
          obtain ⟨ho53, h⟩ := gd_some h
          obtain ⟨r54, S52, hr51, h⟩ := bd2_some h
          refine g_callV (rest := []) hC mi_X11_told (k_X11_told hr51) ck_X11.1 (by decide) ho53 tw_353 tw_355 ts_0 dX11_gets_74 rfl rfl ⟨by decide, by decide⟩ (Nat.le_of_ble_eq_true rfl) ⟨by decide, by decide⟩ ?_
          cases h
          exact g_iret hC hR dX11_gets_77 (by decide) (by decide)
    · rw [if_pos hc16] at h
      refine g_aload_n hC dX11_gets_20 rfl ?_
      refine g_ldc hC tw_352 dX11_gets_21 ?_
      obtain ⟨ho57, h⟩ := gd_some h
      obtain ⟨r58, S56, hr55, h⟩ := bd2_some h
      refine g_callV (rest := []) hC mi_X11_told (k_X11_told hr55) ck_X11.1 (by decide) ho57 tw_353 tw_355 ts_0 dX11_gets_23 rfl rfl ⟨by decide, by decide⟩ (Nat.le_of_ble_eq_true rfl) ⟨by decide, by decide⟩ ?_
      cases h
      exact g_iret hC hR dX11_gets_26 (by decide) (by decide)

theorem mi_X0_emptyMinutes : MI yX0_emptyMinutes cX0_emptyMinutes 1 (some .int) 0 := ⟨tw_625, tw_6, by decide +kernel, by decide +kernel, by decide +kernel⟩
noncomputable def f_X0_emptyMinutes (S : Wd) (a0 : Nat) : Option (Int32 × Wd) := gd (ob S a0 0) (some ((wI S a0 7), S))
set_option maxRecDepth 100000 in
set_option maxHeartbeats 4000000 in
theorem k_X0_emptyMinutes {S : Wd} {a0 : Nat} {r : Int32} {S' : Wd} (h : f_X0_emptyMinutes S a0 = some (r, S')) : Sp yX0_emptyMinutes cX0_emptyMinutes 1 (some .int) 0 0 0 0 [.ref a0] S (some (.int r)) S' := by
  unfold f_X0_emptyMinutes at h
  refine Sp.of (by decide +kernel) (Nat.le_of_ble_eq_true rfl) ?_
  intro b hC hin hR
  show G b 0 [(0, .ref a0)] [] S 0 0
  refine g_aload_n hC dX0_emptyMinutes_0 rfl ?_
  obtain ⟨ho1, h⟩ := gd_some h
  refine g_geti (k := 7) hC ck_X0 (by decide) tw_108 rfl (by decide) dX0_emptyMinutes_1 ho1 ?_
  cases h
  exact g_iret hC hR dX0_emptyMinutes_4 (by decide) (by decide)

theorem mi_X2_emptyOf : MI yX2_emptyOf cX2_emptyOf 4 (some .int) 2 := ⟨tw_621, tw_7, by decide +kernel, by decide +kernel, by decide +kernel⟩
noncomputable def f_X2_emptyOf (S : Wd) (a0 : Nat) (a1 : Int32) (a2 : Int32) : Option (Int32 × Wd) := gd (ob S a0 2) (Option.bind (wO S a0 3) (fun q2 => bd2 (f_X2_firstOf S a2) (fun r6 S5 => bd2 (f_X2_secondOf S5 a2) (fun r9 S8 => gd (ob S8 q2 0) (bd2 (f_X0_run S8 q2 a1 r6 r9) (fun r13 S11 => if r13 = 0 then (if (1 : Int32) = 0 then (none) else (gd (ob S11 a0 2) (Option.bind (wO S11 a0 3) (fun q18 => gd (ob S11 q18 0) (bd2 (f_X0_emptyMinutes S11 q18) (fun r23 S21 => some (r23, S21))))))) else (if (0 : Int32) = 0 then (some ((0 : Int32), S11)) else (none))))))))
set_option maxRecDepth 100000 in
set_option maxHeartbeats 4000000 in
theorem k_X2_emptyOf {S : Wd} {a0 : Nat} {a1 : Int32} {a2 : Int32} {r : Int32} {S' : Wd} (h : f_X2_emptyOf S a0 a1 a2 = some (r, S')) : Sp yX2_emptyOf cX2_emptyOf 4 (some .int) 4 91 0 0 [.ref a0, .int a1, .int a2] S (some (.int r)) S' := by
  unfold f_X2_emptyOf at h
  refine Sp.of (by decide +kernel) (Nat.le_of_ble_eq_true rfl) ?_
  intro b hC hin hR
  show G b 0 [(0, .ref a0), (1, .int a1), (2, .int a2)] [] S 0 0
  refine g_aload_n hC dX2_emptyOf_0 rfl ?_
  obtain ⟨ho1, h⟩ := gd_some h
  obtain ⟨q2, hq3, h⟩ := Option.bind_eq_some_iff.mp h
  refine g_getr (k := 3) (q := q2) hC ck_X2 (by decide) tw_147 rfl (by decide) dX2_emptyOf_1 ho1 hq3 ?_
  refine g_iload_n hC dX2_emptyOf_4 rfl ?_
  refine g_iload_n hC dX2_emptyOf_5 rfl ?_
  obtain ⟨r6, S5, hr4, h⟩ := bd2_some h
  refine g_callS (rest := [.int a1, .ref q2]) hC mi_X2_firstOf (k_X2_firstOf hr4) tw_577 tw_578 dX2_emptyOf_6 rfl rfl ⟨by decide, by decide⟩ (Nat.le_of_ble_eq_true rfl) ⟨by decide, by decide⟩ ?_
  refine g_iload_n hC dX2_emptyOf_9 rfl ?_
  obtain ⟨r9, S8, hr7, h⟩ := bd2_some h
  refine g_callS (rest := [.int r6, .int a1, .ref q2]) hC mi_X2_secondOf (k_X2_secondOf hr7) tw_580 tw_581 dX2_emptyOf_10 rfl rfl ⟨by decide, by decide⟩ (Nat.le_of_ble_eq_true rfl) ⟨by decide, by decide⟩ ?_
  obtain ⟨ho12, h⟩ := gd_some h
  obtain ⟨r13, S11, hr10, h⟩ := bd2_some h
  refine g_callV (rest := []) hC mi_X0_run (k_X0_run hr10) ck_X0.1 (by decide) ho12 tw_568 tw_509 tw_510 dX2_emptyOf_13 rfl rfl ⟨by decide, by decide⟩ (Nat.le_of_ble_eq_true rfl) ⟨by decide, by decide⟩ ?_
  refine g_if_ne (tgt := 23) hC dX2_emptyOf_16 (by decide) (fun hc14 => ?_) (fun hc14 => ?_)
  · rw [if_neg hc14] at h
    refine g_iconst (v := (0 : Int32)) hC dX2_emptyOf_23 (by decide) ?_
    refine g_istore_n (L' := [(3, .int (0 : Int32)), (0, .ref a0), (1, .int a1), (2, .int a2)]) hC dX2_emptyOf_24 (by decide) rfl ?_
    refine g_iload_n hC dX2_emptyOf_25 rfl ?_
    refine g_if_eq (tgt := 39) hC dX2_emptyOf_26 (by decide) (fun hc15 => ?_) (fun hc15 => ?_)
    · rw [if_pos hc15] at h
      refine g_iconst (v := (0 : Int32)) hC dX2_emptyOf_39 (by decide) ?_
      cases h
      exact g_iret hC hR dX2_emptyOf_40 (by decide) (by decide)
    · rw [if_neg hc15] at h
      cases h
  · rw [if_pos hc14] at h
    refine g_iconst (v := (1 : Int32)) hC dX2_emptyOf_19 (by decide) ?_
    refine g_goto (tgt := 24) hC dX2_emptyOf_20 (by decide) ?_
    refine g_istore_n (L' := [(3, .int (1 : Int32)), (0, .ref a0), (1, .int a1), (2, .int a2)]) hC dX2_emptyOf_24 (by decide) rfl ?_
    refine g_iload_n hC dX2_emptyOf_25 rfl ?_
    refine g_if_eq (tgt := 39) hC dX2_emptyOf_26 (by decide) (fun hc16 => ?_) (fun hc16 => ?_)
    · rw [if_pos hc16] at h
      cases h
    · rw [if_neg hc16] at h
      refine g_aload_n hC dX2_emptyOf_29 rfl ?_
      obtain ⟨ho17, h⟩ := gd_some h
      obtain ⟨q18, hq19, h⟩ := Option.bind_eq_some_iff.mp h
      refine g_getr (k := 3) (q := q18) hC ck_X2 (by decide) tw_147 rfl (by decide) dX2_emptyOf_30 ho17 hq19 ?_
      obtain ⟨ho22, h⟩ := gd_some h
      obtain ⟨r23, S21, hr20, h⟩ := bd2_some h
      refine g_callV (rest := []) hC mi_X0_emptyMinutes (k_X0_emptyMinutes hr20) ck_X0.1 (by decide) ho22 tw_622 tw_623 tw_624 dX2_emptyOf_33 rfl rfl ⟨by decide, by decide⟩ (Nat.le_of_ble_eq_true rfl) ⟨by decide, by decide⟩ ?_
      refine g_goto (tgt := 40) hC dX2_emptyOf_36 (by decide) ?_
      cases h
      exact g_iret hC hR dX2_emptyOf_40 (by decide) (by decide)

theorem mi_X11_empty : MI yX11_empty cX11_empty 4 (some .int) 1 := ⟨tw_617, tw_1, by decide +kernel, by decide +kernel, by decide +kernel⟩
noncomputable def B_X11_empty_0 (S : Wd) (a0 : Nat) (a1 : Int32) : Option ((Int32 × Wd) ⊕ Cs) := gd (ob S a0 11) (Option.bind (wO S a0 5) (fun q2 => gd (ob S q2 2) (Option.bind (f_X2_work S q2) (fun S5 => some (.inr (1, [a0], [a1, (0 : Int32), (0 : Int32)], S5))))))
noncomputable def B_X11_empty_1 (S : Wd) (x0 : Nat) (x1 : Int32) (x2 : Int32) (x3 : Int32) : Option ((Int32 × Wd) ⊕ Cs) := gd (ob S x0 11) (Option.bind (wO S x0 2) (fun q8 => gd (ob S q8 8) (bd2 (f_X8_count S q8) (fun r13 S11 => if r13 ≤ x3 then (some (.inl (x2, S11))) else (gd (ob S11 x0 11) (Option.bind (wO S11 x0 5) (fun q16 => if x1 = 0 then (gd (ob S11 x0 11) (Option.bind (wO S11 x0 5) (fun q20 => gd (ob S11 q20 2) (bd2 (f_X2_rowOf S11 q20 x3) (fun r25 S23 => gd (ob S23 q16 2) (bd2 (f_X2_emptyOf S23 q16 x3 r25) (fun r29 S27 => some (.inr (1, [x0], [x1, (x2 + r29), (x3 + (1 : Int32))], S27))))))))) else (gd (ob S11 q16 2) (bd2 (f_X2_emptyOf S11 q16 x3 (0 : Int32)) (fun r33 S31 => some (.inr (1, [x0], [x1, (x2 + r33), (x3 + (1 : Int32))], S31))))))))))))
noncomputable def B_X11_empty : Cs → Option ((Int32 × Wd) ⊕ Cs)
  | (0, [a0], [a1], S) => B_X11_empty_0 S a0 a1
  | (1, [x0], [x1, x2, x3], S) => B_X11_empty_1 S x0 x1 x2 x3
  | _ => none
def P_X11_empty : Cs → Option (Nat × List (Nat × Value) × Wd × Nat × Nat)
  | (0, [a0], [a1], S) => some (0, [(0, .ref a0), (1, .int a1)], S, 0, 0)
  | (1, [x0], [x1, x2, x3], S) => some (11, [(0, .ref x0), (1, .int x1), (2, .int x2), (3, .int x3)], S, 0, 0)
  | _ => none
noncomputable def f_X11_empty (S : Wd) (a0 : Nat) (a1 : Int32) : Option (Int32 × Wd) := ru B_X11_empty (0, [a0], [a1], S)
abbrev N_X11_empty (b : Bd) (r : Int32 × Wd) (c : (Int32 × Wd) ⊕ Cs) : Prop := match c with
  | .inl r' => r' = r
  | .inr s' => ∀ pc L S kc ks, P_X11_empty s' = some (pc, L, S, kc, ks) → G b pc L [] S kc ks
set_option maxRecDepth 100000 in
set_option maxHeartbeats 4000000 in
theorem w_X11_empty_0 {b : Bd} {r : Int32 × Wd} (hC : CX b yX11_empty.cls cX11_empty 4 { frames := 6, cells := 0, slots := 0, locals := 140 }) (hin : yX11_empty.name = "<init>" → b.2.2.2.2.2.2.2.2.1.name = "<init>") (hR : RT b (some .int) (some (.int r.1)) r.2 0 0) {S : Wd} {a0 : Nat} {a1 : Int32} {c : (Int32 × Wd) ⊕ Cs} (h : B_X11_empty_0 S a0 a1 = some c) (hk : N_X11_empty b r c) : G b 0 [(0, .ref a0), (1, .int a1)] [] S 0 0 := by
  unfold B_X11_empty_0 at h
  refine g_aload_n hC dX11_empty_0 rfl ?_
  obtain ⟨ho1, h⟩ := gd_some h
  obtain ⟨q2, hq3, h⟩ := Option.bind_eq_some_iff.mp h
  refine g_getr (k := 5) (q := q2) hC ck_X11 (by decide) tw_307 rfl (by decide) dX11_empty_1 ho1 hq3 ?_
  obtain ⟨ho6, h⟩ := gd_some h
  obtain ⟨S5, hr4, h⟩ := Option.bind_eq_some_iff.mp h
  refine g_callV (rest := []) hC mi_X2_work (k_X2_work hr4) ck_X2.1 (by decide) ho6 tw_548 tw_549 tw_550 dX11_empty_4 rfl rfl ⟨by decide, by decide⟩ (Nat.le_of_ble_eq_true rfl) ⟨by decide, by decide⟩ ?_
  refine g_iconst (v := (0 : Int32)) hC dX11_empty_7 (by decide) ?_
  refine g_istore_n (L' := [(2, .int (0 : Int32)), (0, .ref a0), (1, .int a1)]) hC dX11_empty_8 (by decide) rfl ?_
  refine g_iconst (v := (0 : Int32)) hC dX11_empty_9 (by decide) ?_
  refine g_istore_n (L' := [(3, .int (0 : Int32)), (2, .int (0 : Int32)), (0, .ref a0), (1, .int a1)]) hC dX11_empty_10 (by decide) rfl ?_
  cases h
  refine g_pick (L' := [(0, .ref a0), (1, .int a1), (2, .int (0 : Int32)), (3, .int (0 : Int32))]) [2, 3, 1, 0] rfl ?_
  exact hk _ _ _ _ _ rfl
set_option maxRecDepth 100000 in
set_option maxHeartbeats 4000000 in
theorem w_X11_empty_1 {b : Bd} {r : Int32 × Wd} (hC : CX b yX11_empty.cls cX11_empty 4 { frames := 6, cells := 0, slots := 0, locals := 140 }) (hin : yX11_empty.name = "<init>" → b.2.2.2.2.2.2.2.2.1.name = "<init>") (hR : RT b (some .int) (some (.int r.1)) r.2 0 0) {S : Wd} {x0 : Nat} {x1 : Int32} {x2 : Int32} {x3 : Int32} {c : (Int32 × Wd) ⊕ Cs} (h : B_X11_empty_1 S x0 x1 x2 x3 = some c) (hk : N_X11_empty b r c) : G b 11 [(0, .ref x0), (1, .int x1), (2, .int x2), (3, .int x3)] [] S 0 0 := by
  unfold B_X11_empty_1 at h
  refine g_iload_n hC dX11_empty_11 rfl ?_
  refine g_aload_n hC dX11_empty_12 rfl ?_
  obtain ⟨ho7, h⟩ := gd_some h
  obtain ⟨q8, hq9, h⟩ := Option.bind_eq_some_iff.mp h
  refine g_getr (k := 2) (q := q8) hC ck_X11 (by decide) tw_304 rfl (by decide) dX11_empty_13 ho7 hq9 ?_
  obtain ⟨ho12, h⟩ := gd_some h
  obtain ⟨r13, S11, hr10, h⟩ := bd2_some h
  refine g_callV (rest := [.int x3]) hC mi_X8_count (k_X8_count hr10) ck_X8.1 (by decide) ho12 tw_451 tw_452 tw_453 dX11_empty_16 rfl rfl ⟨by decide, by decide⟩ (Nat.le_of_ble_eq_true rfl) ⟨by decide, by decide⟩ ?_
  refine g_icmp_ge (tgt := 55) hC dX11_empty_19 (by decide) (fun hc14 => ?_) (fun hc14 => ?_)
  · rw [if_pos hc14] at h
    refine g_iload_n hC dX11_empty_55 rfl ?_
    cases h
    subst hk
    exact g_iret hC hR dX11_empty_56 (by decide) (by decide)
  · rw [if_neg hc14] at h
    refine g_iload_n hC dX11_empty_22 rfl ?_
    refine g_aload_n hC dX11_empty_23 rfl ?_
    obtain ⟨ho15, h⟩ := gd_some h
    obtain ⟨q16, hq17, h⟩ := Option.bind_eq_some_iff.mp h
    refine g_getr (k := 5) (q := q16) hC ck_X11 (by decide) tw_307 rfl (by decide) dX11_empty_24 ho15 hq17 ?_
    refine g_iload_n hC dX11_empty_27 rfl ?_
    refine g_iload_n hC dX11_empty_28 rfl ?_
    refine g_if_eq (tgt := 36) hC dX11_empty_29 (by decide) (fun hc18 => ?_) (fun hc18 => ?_)
    · rw [if_pos hc18] at h
      refine g_aload_n hC dX11_empty_36 rfl ?_
      obtain ⟨ho19, h⟩ := gd_some h
      obtain ⟨q20, hq21, h⟩ := Option.bind_eq_some_iff.mp h
      refine g_getr (k := 5) (q := q20) hC ck_X11 (by decide) tw_307 rfl (by decide) dX11_empty_37 ho19 hq21 ?_
      refine g_iload_n hC dX11_empty_40 rfl ?_
      obtain ⟨ho24, h⟩ := gd_some h
      obtain ⟨r25, S23, hr22, h⟩ := bd2_some h
      refine g_callV (rest := [.int x3, .ref q16, .int x2]) hC mi_X2_rowOf (k_X2_rowOf hr22) ck_X2.1 (by decide) ho24 tw_608 tw_609 tw_610 dX11_empty_41 rfl rfl ⟨by decide, by decide⟩ (Nat.le_of_ble_eq_true rfl) ⟨by decide, by decide⟩ ?_
      obtain ⟨ho28, h⟩ := gd_some h
      obtain ⟨r29, S27, hr26, h⟩ := bd2_some h
      refine g_callV (rest := [.int x2]) hC mi_X2_emptyOf (k_X2_emptyOf hr26) ck_X2.1 (by decide) ho28 tw_618 tw_619 tw_620 dX11_empty_44 rfl rfl ⟨by decide, by decide⟩ (Nat.le_of_ble_eq_true rfl) ⟨by decide, by decide⟩ ?_
      refine g_iadd hC dX11_empty_47 ?_
      refine g_istore_n (L' := [(2, .int (x2 + r29)), (0, .ref x0), (1, .int x1), (3, .int x3)]) hC dX11_empty_48 (by decide) rfl ?_
      refine g_iinc (v := (1 : Int32)) (L' := [(3, .int (x3 + (1 : Int32))), (2, .int (x2 + r29)), (0, .ref x0), (1, .int x1)]) hC dX11_empty_49 rfl (by decide) (by decide) rfl ?_
      refine g_goto (tgt := 11) hC dX11_empty_52 (by decide) ?_
      cases h
      refine g_pick (L' := [(0, .ref x0), (1, .int x1), (2, .int (x2 + r29)), (3, .int (x3 + (1 : Int32)))]) [2, 3, 1, 0] rfl ?_
      exact hk _ _ _ _ _ rfl
    · rw [if_neg hc18] at h
      refine g_iconst (v := (0 : Int32)) hC dX11_empty_32 (by decide) ?_
      refine g_goto (tgt := 44) hC dX11_empty_33 (by decide) ?_
      obtain ⟨ho32, h⟩ := gd_some h
      obtain ⟨r33, S31, hr30, h⟩ := bd2_some h
      refine g_callV (rest := [.int x2]) hC mi_X2_emptyOf (k_X2_emptyOf hr30) ck_X2.1 (by decide) ho32 tw_618 tw_619 tw_620 dX11_empty_44 rfl rfl ⟨by decide, by decide⟩ (Nat.le_of_ble_eq_true rfl) ⟨by decide, by decide⟩ ?_
      refine g_iadd hC dX11_empty_47 ?_
      refine g_istore_n (L' := [(2, .int (x2 + r33)), (0, .ref x0), (1, .int x1), (3, .int x3)]) hC dX11_empty_48 (by decide) rfl ?_
      refine g_iinc (v := (1 : Int32)) (L' := [(3, .int (x3 + (1 : Int32))), (2, .int (x2 + r33)), (0, .ref x0), (1, .int x1)]) hC dX11_empty_49 rfl (by decide) (by decide) rfl ?_
      refine g_goto (tgt := 11) hC dX11_empty_52 (by decide) ?_
      cases h
      refine g_pick (L' := [(0, .ref x0), (1, .int x1), (2, .int (x2 + r33)), (3, .int (x3 + (1 : Int32)))]) [2, 3, 1, 0] rfl ?_
      exact hk _ _ _ _ _ rfl
theorem w_X11_empty {b : Bd} {r : Int32 × Wd} (hC : CX b yX11_empty.cls cX11_empty 4 { frames := 6, cells := 0, slots := 0, locals := 140 }) (hin : yX11_empty.name = "<init>" → b.2.2.2.2.2.2.2.2.1.name = "<init>") (hR : RT b (some .int) (some (.int r.1)) r.2 0 0) {s : Cs} {c : (Int32 × Wd) ⊕ Cs} (h : B_X11_empty s = some c) (hk : N_X11_empty b r c) : ∀ pc L S kc ks, P_X11_empty s = some (pc, L, S, kc, ks) → G b pc L [] S kc ks := by
  intro pc L S kc ks hp
  unfold B_X11_empty at h
  split at h
  · cases hp
    exact w_X11_empty_0 hC hin hR h hk
  · cases hp
    exact w_X11_empty_1 hC hin hR h hk
  · cases h
theorem k_X11_empty {S : Wd} {a0 : Nat} {a1 : Int32} {r : Int32} {S' : Wd} (h : f_X11_empty S a0 a1 = some (r, S')) : Sp yX11_empty cX11_empty 4 (some .int) 6 140 0 0 [.ref a0, .int a1] S (some (.int r)) S' := by
  unfold f_X11_empty at h
  refine Sp.of (by decide +kernel) (Nat.le_of_ble_eq_true rfl) ?_
  intro b hC hin hR
  exact ru_ind (P := fun s q0 => q0 = (r, S') → ∀ pc L S kc ks, P_X11_empty s = some (pc, L, S, kc, ks) → G b pc L [] S kc ks) (fun s q0 hB e => w_X11_empty (r := (r, S')) hC hin hR hB e) (fun s s' q0 hB ih e => w_X11_empty (r := (r, S')) hC hin hR hB (ih e)) h rfl _ _ _ _ _ rfl

theorem mi_X2_valueWithout : MI yX2_valueWithout cX2_valueWithout 2 (some .int) 1 := ⟨tw_633, tw_7, by decide +kernel, by decide +kernel, by decide +kernel⟩
noncomputable def f_X2_valueWithout (S : Wd) (a0 : Nat) (a1 : Int32) : Option (Int32 × Wd) := gd (ob S a0 2) (Option.bind (wO S a0 4) (fun q2 => gd (ob S a0 2) (bd2 (f_X2_bitOf S a1) (fun r7 S6 => gd (ix S6 q2 100 ((wI S a0 11) &&& (r7 ^^^ (-1 : Int32)))) (some ((wI S6 q2 ((wI S a0 11) &&& (r7 ^^^ (-1 : Int32))).toNatClampNeg), S6))))))
set_option maxRecDepth 100000 in
set_option maxHeartbeats 4000000 in
theorem k_X2_valueWithout {S : Wd} {a0 : Nat} {a1 : Int32} {r : Int32} {S' : Wd} (h : f_X2_valueWithout S a0 a1 = some (r, S')) : Sp yX2_valueWithout cX2_valueWithout 2 (some .int) 1 20 0 0 [.ref a0, .int a1] S (some (.int r)) S' := by
  unfold f_X2_valueWithout at h
  refine Sp.of (by decide +kernel) (Nat.le_of_ble_eq_true rfl) ?_
  intro b hC hin hR
  show G b 0 [(0, .ref a0), (1, .int a1)] [] S 0 0
  refine g_aload_n hC dX2_valueWithout_0 rfl ?_
  obtain ⟨ho1, h⟩ := gd_some h
  obtain ⟨q2, hq3, h⟩ := Option.bind_eq_some_iff.mp h
  refine g_getr (k := 4) (q := q2) hC ck_X2 (by decide) tw_148 rfl (by decide) dX2_valueWithout_1 ho1 hq3 ?_
  refine g_aload_n hC dX2_valueWithout_4 rfl ?_
  obtain ⟨ho4, h⟩ := gd_some h
  refine g_geti (k := 11) hC ck_X2 (by decide) tw_155 rfl (by decide) dX2_valueWithout_5 ho4 ?_
  refine g_iload_n hC dX2_valueWithout_8 rfl ?_
  obtain ⟨r7, S6, hr5, h⟩ := bd2_some h
  refine g_callS (rest := [.int (wI S a0 11), .ref q2]) hC mi_X2_bitOf (k_X2_bitOf hr5) tw_555 tw_556 dX2_valueWithout_9 rfl rfl ⟨by decide, by decide⟩ (Nat.le_of_ble_eq_true rfl) ⟨by decide, by decide⟩ ?_
  refine g_iconst (v := (-1 : Int32)) hC dX2_valueWithout_12 (by decide) ?_
  refine g_ixor hC dX2_valueWithout_13 ?_
  refine g_iand hC dX2_valueWithout_14 ?_
  obtain ⟨hx8, h⟩ := gd_some h
  refine g_iald hC dX2_valueWithout_15 hx8.1 hx8.2 ?_
  cases h
  exact g_iret hC hR dX2_valueWithout_16 (by decide) (by decide)

theorem mi_X11_worth : MI yX11_worth cX11_worth 2 (some .int) 1 := ⟨tw_629, tw_1, by decide +kernel, by decide +kernel, by decide +kernel⟩
noncomputable def f_X11_worth (S : Wd) (a0 : Nat) (a1 : Int32) : Option (Int32 × Wd) := gd (ob S a0 11) (Option.bind (wO S a0 3) (fun q2 => gd (ob S q2 8) (bd2 (f_X8_has S q2 a1) (fun r7 S5 => if r7 = 0 then (gd (ob S5 a0 11) (bd2 (f_X11_told S5 a0 (-100001 : Int32)) (fun r32 S30 => some (r32, S30)))) else (gd (ob S5 a0 11) (Option.bind (wO S5 a0 5) (fun q10 => gd (ob S5 q10 2) (Option.bind (f_X2_work S5 q10) (fun S13 => gd (ob S13 a0 11) (Option.bind (wO S13 a0 5) (fun q16 => gd (ob S13 q16 2) (bd2 (f_X2_value S13 q16) (fun r21 S19 => gd (ob S19 a0 11) (Option.bind (wO S19 a0 5) (fun q23 => gd (ob S19 q23 2) (bd2 (f_X2_valueWithout S19 q23 a1) (fun r28 S26 => some ((r21 - r28), S26))))))))))))))))))
set_option maxRecDepth 100000 in
set_option maxHeartbeats 4000000 in
theorem k_X11_worth {S : Wd} {a0 : Nat} {a1 : Int32} {r : Int32} {S' : Wd} (h : f_X11_worth S a0 a1 = some (r, S')) : Sp yX11_worth cX11_worth 2 (some .int) 6 140 0 0 [.ref a0, .int a1] S (some (.int r)) S' := by
  unfold f_X11_worth at h
  refine Sp.of (by decide +kernel) (Nat.le_of_ble_eq_true rfl) ?_
  intro b hC hin hR
  show G b 0 [(0, .ref a0), (1, .int a1)] [] S 0 0
  refine g_aload_n hC dX11_worth_0 rfl ?_
  obtain ⟨ho1, h⟩ := gd_some h
  obtain ⟨q2, hq3, h⟩ := Option.bind_eq_some_iff.mp h
  refine g_getr (k := 3) (q := q2) hC ck_X11 (by decide) tw_305 rfl (by decide) dX11_worth_1 ho1 hq3 ?_
  refine g_iload_n hC dX11_worth_4 rfl ?_
  obtain ⟨ho6, h⟩ := gd_some h
  obtain ⟨r7, S5, hr4, h⟩ := bd2_some h
  refine g_callV (rest := []) hC mi_X8_has (k_X8_has hr4) ck_X8.1 (by decide) ho6 tw_430 tw_431 tw_432 dX11_worth_5 rfl rfl ⟨by decide, by decide⟩ (Nat.le_of_ble_eq_true rfl) ⟨by decide, by decide⟩ ?_
  refine g_if_ne (tgt := 18) hC dX11_worth_8 (by decide) (fun hc8 => ?_) (fun hc8 => ?_)
  · rw [if_neg hc8] at h
    refine g_aload_n hC dX11_worth_18 rfl ?_
    obtain ⟨ho9, h⟩ := gd_some h
    obtain ⟨q10, hq11, h⟩ := Option.bind_eq_some_iff.mp h
    refine g_getr (k := 5) (q := q10) hC ck_X11 (by decide) tw_307 rfl (by decide) dX11_worth_19 ho9 hq11 ?_
    obtain ⟨ho14, h⟩ := gd_some h
    obtain ⟨S13, hr12, h⟩ := Option.bind_eq_some_iff.mp h
    refine g_callV (rest := []) hC mi_X2_work (k_X2_work hr12) ck_X2.1 (by decide) ho14 tw_548 tw_549 tw_550 dX11_worth_22 rfl rfl ⟨by decide, by decide⟩ (Nat.le_of_ble_eq_true rfl) ⟨by decide, by decide⟩ ?_
    refine g_aload_n hC dX11_worth_25 rfl ?_
    obtain ⟨ho15, h⟩ := gd_some h
    obtain ⟨q16, hq17, h⟩ := Option.bind_eq_some_iff.mp h
    refine g_getr (k := 5) (q := q16) hC ck_X11 (by decide) tw_307 rfl (by decide) dX11_worth_26 ho15 hq17 ?_
    obtain ⟨ho20, h⟩ := gd_some h
    obtain ⟨r21, S19, hr18, h⟩ := bd2_some h
    refine g_callV (rest := []) hC mi_X2_value (k_X2_value hr18) ck_X2.1 (by decide) ho20 tw_600 tw_601 tw_602 dX11_worth_29 rfl rfl ⟨by decide, by decide⟩ (Nat.le_of_ble_eq_true rfl) ⟨by decide, by decide⟩ ?_
    refine g_aload_n hC dX11_worth_32 rfl ?_
    obtain ⟨ho22, h⟩ := gd_some h
    obtain ⟨q23, hq24, h⟩ := Option.bind_eq_some_iff.mp h
    refine g_getr (k := 5) (q := q23) hC ck_X11 (by decide) tw_307 rfl (by decide) dX11_worth_33 ho22 hq24 ?_
    refine g_iload_n hC dX11_worth_36 rfl ?_
    obtain ⟨ho27, h⟩ := gd_some h
    obtain ⟨r28, S26, hr25, h⟩ := bd2_some h
    refine g_callV (rest := [.int r21]) hC mi_X2_valueWithout (k_X2_valueWithout hr25) ck_X2.1 (by decide) ho27 tw_630 tw_631 tw_632 dX11_worth_37 rfl rfl ⟨by decide, by decide⟩ (Nat.le_of_ble_eq_true rfl) ⟨by decide, by decide⟩ ?_
    refine g_isub hC dX11_worth_40 ?_
    cases h
    exact g_iret hC hR dX11_worth_41 (by decide) (by decide)
  · rw [if_pos hc8] at h
    refine g_aload_n hC dX11_worth_11 rfl ?_
    refine g_ldc hC tw_352 dX11_worth_12 ?_
    obtain ⟨ho31, h⟩ := gd_some h
    obtain ⟨r32, S30, hr29, h⟩ := bd2_some h
    refine g_callV (rest := []) hC mi_X11_told (k_X11_told hr29) ck_X11.1 (by decide) ho31 tw_353 tw_355 ts_0 dX11_worth_14 rfl rfl ⟨by decide, by decide⟩ (Nat.le_of_ble_eq_true rfl) ⟨by decide, by decide⟩ ?_
    cases h
    exact g_iret hC hR dX11_worth_17 (by decide) (by decide)

theorem mi_X5_enter : MI yX5_enter cX5_enter 6 (some .int) 3 := ⟨tw_641, tw_8, by decide +kernel, by decide +kernel, by decide +kernel⟩
noncomputable def f_X5_enter (S : Wd) (a0 : Nat) (a1 : Int32) (a2 : Int32) (a3 : Int32) : Option (Int32 × Wd) := gd (nk S 100 (3 : Int32).toNatClampNeg) (ltS (sN S (3 : Int32).toNatClampNeg) (fun S2 => gd (ix S2 (wn S) 100 (0 : Int32)) (ltS (sI S2 (wn S) (0 : Int32).toNatClampNeg a1) (fun S5 => gd (ix S5 (wn S) 100 (1 : Int32)) (ltS (sI S5 (wn S) (1 : Int32).toNatClampNeg a2) (fun S8 => gd (ix S8 (wn S) 100 (2 : Int32)) (ltS (sI S8 (wn S) (2 : Int32).toNatClampNeg a3) (fun S11 => gd (ob S11 a0 5) (Option.bind (wO S11 a0 0) (fun q14 => gd (ob S11 q14 8) (bd2 (f_X8_add S11 q14 (wn S)) (fun r19 S17 => if r19 = (-100005 : Int32) then (some ((-100005 : Int32), S17)) else (some ((r19 + (1 : Int32)), S17))))))))))))))
set_option maxRecDepth 100000 in
set_option maxHeartbeats 4000000 in
theorem k_X5_enter {S : Wd} {a0 : Nat} {a1 : Int32} {a2 : Int32} {a3 : Int32} {r : Int32} {S' : Wd} (h : f_X5_enter S a0 a1 a2 a3 = some (r, S')) : Sp yX5_enter cX5_enter 6 (some .int) 5 121 2 203 [.ref a0, .int a1, .int a2, .int a3] S (some (.int r)) S' := by
  unfold f_X5_enter at h
  refine Sp.of (by decide +kernel) (Nat.le_of_ble_eq_true rfl) ?_
  intro b hC hin hR
  show G b 0 [(0, .ref a0), (1, .int a1), (2, .int a2), (3, .int a3)] [] S 0 0
  refine g_iconst (v := (3 : Int32)) hC dX5_enter_0 (by decide) ?_
  obtain ⟨hk1, h⟩ := gd_some h
  refine g_newi hC tw_53 dX5_enter_1 (by decide) (by decide) hk1.1 hk1.2 (by decide) (by decide) ?_
  refine g_name (fun S2 eS3 => ?_)
  have h := ltS_use eS3 h
  refine g_dup hC dX5_enter_3 rfl ?_
  refine g_iconst (v := (0 : Int32)) hC dX5_enter_4 (by decide) ?_
  refine g_iload_n hC dX5_enter_5 rfl ?_
  obtain ⟨hx4, h⟩ := gd_some h
  refine g_iast hC dX5_enter_6 hx4.1 hx4.2 ?_
  refine g_name (fun S5 eS6 => ?_)
  have h := ltS_use eS6 h
  refine g_dup hC dX5_enter_7 rfl ?_
  refine g_iconst (v := (1 : Int32)) hC dX5_enter_8 (by decide) ?_
  refine g_iload_n hC dX5_enter_9 rfl ?_
  obtain ⟨hx7, h⟩ := gd_some h
  refine g_iast hC dX5_enter_10 hx7.1 hx7.2 ?_
  refine g_name (fun S8 eS9 => ?_)
  have h := ltS_use eS9 h
  refine g_dup hC dX5_enter_11 rfl ?_
  refine g_iconst (v := (2 : Int32)) hC dX5_enter_12 (by decide) ?_
  refine g_iload_n hC dX5_enter_13 rfl ?_
  obtain ⟨hx10, h⟩ := gd_some h
  refine g_iast hC dX5_enter_14 hx10.1 hx10.2 ?_
  refine g_name (fun S11 eS12 => ?_)
  have h := ltS_use eS12 h
  refine g_astore (L' := [(4, .ref (wn S)), (0, .ref a0), (1, .int a1), (2, .int a2), (3, .int a3)]) hC dX5_enter_15 (by decide) rfl ?_
  refine g_aload_n hC dX5_enter_17 rfl ?_
  obtain ⟨ho13, h⟩ := gd_some h
  obtain ⟨q14, hq15, h⟩ := Option.bind_eq_some_iff.mp h
  refine g_getr (k := 0) (q := q14) hC ck_X5 (by decide) tw_192 rfl (by decide) dX5_enter_18 ho13 hq15 ?_
  refine g_aload hC dX5_enter_21 rfl ?_
  obtain ⟨ho18, h⟩ := gd_some h
  obtain ⟨r19, S17, hr16, h⟩ := bd2_some h
  refine g_callV (rest := []) hC mi_X8_add (k_X8_add hr16) ck_X8.1 (by decide) ho18 tw_642 tw_420 tw_421 dX5_enter_23 rfl rfl ⟨by decide, by decide⟩ (Nat.le_of_ble_eq_true rfl) ⟨by decide, by decide⟩ ?_
  refine g_istore (L' := [(5, .int r19), (4, .ref (wn S)), (0, .ref a0), (1, .int a1), (2, .int a2), (3, .int a3)]) hC dX5_enter_26 (by decide) rfl ?_
  refine g_iload hC dX5_enter_28 rfl ?_
  refine g_ldc hC tw_643 dX5_enter_30 ?_
  refine g_icmp_ne (tgt := 40) hC dX5_enter_32 (by decide) (fun hc20 => ?_) (fun hc20 => ?_)
  · rw [if_neg hc20] at h
    refine g_iload hC dX5_enter_40 rfl ?_
    refine g_iconst (v := (1 : Int32)) hC dX5_enter_42 (by decide) ?_
    refine g_iadd hC dX5_enter_43 ?_
    cases h
    exact g_iret hC hR dX5_enter_44 (by decide) (by decide)
  · rw [if_pos hc20] at h
    refine g_ldc hC tw_643 dX5_enter_35 ?_
    refine g_goto (tgt := 44) hC dX5_enter_37 (by decide) ?_
    cases h
    exact g_iret hC hR dX5_enter_44 (by decide) (by decide)

theorem mi_X11_paid : MI yX11_paid cX11_paid 4 (some .int) 3 := ⟨tw_637, tw_1, by decide +kernel, by decide +kernel, by decide +kernel⟩
noncomputable def f_X11_paid (S : Wd) (a0 : Nat) (a1 : Int32) (a2 : Int32) (a3 : Int32) : Option (Int32 × Wd) := bd2 (f_X11_isLane S a1) (fun r3 S2 => if r3 = 0 then (gd (ob S2 a0 11) (bd2 (f_X11_told S2 a0 (-100001 : Int32)) (fun r8 S6 => some (r8, S6)))) else (bd2 (f_X11_within S2 a2 (0 : Int32) (365 : Int32)) (fun r11 S10 => if r11 = 0 then (gd (ob S10 a0 11) (bd2 (f_X11_told S10 a0 (-100001 : Int32)) (fun r16 S14 => some (r16, S14)))) else (bd2 (f_X11_within S10 a3 (0 : Int32) (9999 : Int32)) (fun r19 S18 => if r19 = 0 then (gd (ob S18 a0 11) (bd2 (f_X11_told S18 a0 (-100001 : Int32)) (fun r35 S33 => some (r35, S33)))) else (gd (ob S18 a0 11) (Option.bind (wO S18 a0 6) (fun q22 => gd (ob S18 q22 5) (bd2 (f_X5_enter S18 q22 a1 a2 a3) (fun r27 S25 => gd (ob S25 a0 11) (bd2 (f_X11_told S25 a0 r27) (fun r31 S29 => some (r31, S29)))))))))))))
set_option maxRecDepth 100000 in
set_option maxHeartbeats 4000000 in
theorem k_X11_paid {S : Wd} {a0 : Nat} {a1 : Int32} {a2 : Int32} {a3 : Int32} {r : Int32} {S' : Wd} (h : f_X11_paid S a0 a1 a2 a3 = some (r, S')) : Sp yX11_paid cX11_paid 4 (some .int) 6 146 2 203 [.ref a0, .int a1, .int a2, .int a3] S (some (.int r)) S' := by
  unfold f_X11_paid at h
  refine Sp.of (by decide +kernel) (Nat.le_of_ble_eq_true rfl) ?_
  intro b hC hin hR
  show G b 0 [(0, .ref a0), (1, .int a1), (2, .int a2), (3, .int a3)] [] S 0 0
  refine g_iload_n hC dX11_paid_0 rfl ?_
  obtain ⟨r3, S2, hr1, h⟩ := bd2_some h
  refine g_callS (rest := []) hC mi_X11_isLane (k_X11_isLane hr1) tw_459 tw_460 dX11_paid_1 rfl rfl ⟨by decide, by decide⟩ (Nat.le_of_ble_eq_true rfl) ⟨by decide, by decide⟩ ?_
  refine g_if_eq (tgt := 29) hC dX11_paid_4 (by decide) (fun hc4 => ?_) (fun hc4 => ?_)
  · rw [if_pos hc4] at h
    refine g_aload_n hC dX11_paid_29 rfl ?_
    refine g_ldc hC tw_352 dX11_paid_30 ?_
    obtain ⟨ho7, h⟩ := gd_some h
    obtain ⟨r8, S6, hr5, h⟩ := bd2_some h
    refine g_callV (rest := []) hC mi_X11_told (k_X11_told hr5) ck_X11.1 (by decide) ho7 tw_353 tw_355 ts_0 dX11_paid_32 rfl rfl ⟨by decide, by decide⟩ (Nat.le_of_ble_eq_true rfl) ⟨by decide, by decide⟩ ?_
    cases h
    exact g_iret hC hR dX11_paid_35 (by decide) (by decide)
  · rw [if_neg hc4] at h
    refine g_iload_n hC dX11_paid_7 rfl ?_
    refine g_iconst (v := (0 : Int32)) hC dX11_paid_8 (by decide) ?_
    refine g_sipush (v := (365 : Int32)) hC dX11_paid_9 (by decide) ?_
    obtain ⟨r11, S10, hr9, h⟩ := bd2_some h
    refine g_callS (rest := []) hC mi_X11_within (k_X11_within hr9) tw_349 tw_350 dX11_paid_12 rfl rfl ⟨by decide, by decide⟩ (Nat.le_of_ble_eq_true rfl) ⟨by decide, by decide⟩ ?_
    refine g_if_eq (tgt := 29) hC dX11_paid_15 (by decide) (fun hc12 => ?_) (fun hc12 => ?_)
    · rw [if_pos hc12] at h
      refine g_aload_n hC dX11_paid_29 rfl ?_
      refine g_ldc hC tw_352 dX11_paid_30 ?_
      obtain ⟨ho15, h⟩ := gd_some h
      obtain ⟨r16, S14, hr13, h⟩ := bd2_some h
      refine g_callV (rest := []) hC mi_X11_told (k_X11_told hr13) ck_X11.1 (by decide) ho15 tw_353 tw_355 ts_0 dX11_paid_32 rfl rfl ⟨by decide, by decide⟩ (Nat.le_of_ble_eq_true rfl) ⟨by decide, by decide⟩ ?_
      cases h
      exact g_iret hC hR dX11_paid_35 (by decide) (by decide)
    · rw [if_neg hc12] at h
      refine g_iload_n hC dX11_paid_18 rfl ?_
      refine g_iconst (v := (0 : Int32)) hC dX11_paid_19 (by decide) ?_
      refine g_sipush (v := (9999 : Int32)) hC dX11_paid_20 (by decide) ?_
      obtain ⟨r19, S18, hr17, h⟩ := bd2_some h
      refine g_callS (rest := []) hC mi_X11_within (k_X11_within hr17) tw_349 tw_350 dX11_paid_23 rfl rfl ⟨by decide, by decide⟩ (Nat.le_of_ble_eq_true rfl) ⟨by decide, by decide⟩ ?_
      refine g_if_ne (tgt := 36) hC dX11_paid_26 (by decide) (fun hc20 => ?_) (fun hc20 => ?_)
      · rw [if_neg hc20] at h
        refine g_aload_n hC dX11_paid_36 rfl ?_
        refine g_aload_n hC dX11_paid_37 rfl ?_
        obtain ⟨ho21, h⟩ := gd_some h
        obtain ⟨q22, hq23, h⟩ := Option.bind_eq_some_iff.mp h
        refine g_getr (k := 6) (q := q22) hC ck_X11 (by decide) tw_308 rfl (by decide) dX11_paid_38 ho21 hq23 ?_
        refine g_iload_n hC dX11_paid_41 rfl ?_
        refine g_iload_n hC dX11_paid_42 rfl ?_
        refine g_iload_n hC dX11_paid_43 rfl ?_
        obtain ⟨ho26, h⟩ := gd_some h
        obtain ⟨r27, S25, hr24, h⟩ := bd2_some h
        refine g_callV (rest := [.ref a0]) hC mi_X5_enter (k_X5_enter hr24) ck_X5.1 (by decide) ho26 tw_638 tw_639 tw_640 dX11_paid_44 rfl rfl ⟨by decide, by decide⟩ (Nat.le_of_ble_eq_true rfl) ⟨by decide, by decide⟩ ?_
        obtain ⟨ho30, h⟩ := gd_some h
        obtain ⟨r31, S29, hr28, h⟩ := bd2_some h
        refine g_callV (rest := []) hC mi_X11_told (k_X11_told hr28) ck_X11.1 (by decide) ho30 tw_353 tw_355 ts_0 dX11_paid_47 rfl rfl ⟨by decide, by decide⟩ (Nat.le_of_ble_eq_true rfl) ⟨by decide, by decide⟩ ?_
        cases h
        exact g_iret hC hR dX11_paid_50 (by decide) (by decide)
      · rw [if_pos hc20] at h
        refine g_aload_n hC dX11_paid_29 rfl ?_
        refine g_ldc hC tw_352 dX11_paid_30 ?_
        obtain ⟨ho34, h⟩ := gd_some h
        obtain ⟨r35, S33, hr32, h⟩ := bd2_some h
        refine g_callV (rest := []) hC mi_X11_told (k_X11_told hr32) ck_X11.1 (by decide) ho34 tw_353 tw_355 ts_0 dX11_paid_32 rfl rfl ⟨by decide, by decide⟩ (Nat.le_of_ble_eq_true rfl) ⟨by decide, by decide⟩ ?_
        cases h
        exact g_iret hC hR dX11_paid_35 (by decide) (by decide)

theorem mi_X5_insert : MI yX5_insert cX5_insert 4 none 2 := ⟨tw_661, tw_8, by decide +kernel, by decide +kernel, by decide +kernel⟩
noncomputable def B_X5_insert_0 (S : Wd) (a0 : Nat) (a1 : Int32) (a2 : Int32) : Option ((Wd) ⊕ Cs) := some (.inr (1, [a0], [a1, a2, a2], S))
noncomputable def B_X5_insert_1 (S : Wd) (x0 : Nat) (x1 : Int32) (x2 : Int32) (x3 : Int32) : Option ((Wd) ⊕ Cs) := if x3 ≤ 0 then (if (40 : Int32) ≤ x3 then (some (.inl S)) else (gd (ob S x0 5) (Option.bind (wO S x0 1) (fun q4 => gd (ix S q4 100 x3) (ltS (sI S q4 x3.toNatClampNeg x1) (fun S7 => some (.inl S7))))))) else (if (40 : Int32) ≤ x3 then (if (40 : Int32) ≤ x3 then (some (.inl S)) else (gd (ob S x0 5) (Option.bind (wO S x0 1) (fun q12 => gd (ix S q12 100 x3) (ltS (sI S q12 x3.toNatClampNeg x1) (fun S15 => some (.inl S15))))))) else (gd (ob S x0 5) (Option.bind (wO S x0 1) (fun q18 => gd (ix S q18 100 (x3 - (1 : Int32))) (if (wI S q18 (x3 - (1 : Int32)).toNatClampNeg) ≤ x1 then (if (40 : Int32) ≤ x3 then (some (.inl S)) else (gd (ob S x0 5) (Option.bind (wO S x0 1) (fun q24 => gd (ix S q24 100 x3) (ltS (sI S q24 x3.toNatClampNeg x1) (fun S27 => some (.inl S27))))))) else (gd (ob S x0 5) (Option.bind (wO S x0 1) (fun q30 => gd (ob S x0 5) (Option.bind (wO S x0 1) (fun q33 => gd (ix S q33 100 (x3 - (1 : Int32))) (gd (ix S q30 100 x3) (ltS (sI S q30 x3.toNatClampNeg (wI S q33 (x3 - (1 : Int32)).toNatClampNeg)) (fun S37 => some (.inr (1, [x0], [x1, x2, (x3 + (-1 : Int32))], S37)))))))))))))))
noncomputable def B_X5_insert : Cs → Option ((Wd) ⊕ Cs)
  | (0, [a0], [a1, a2], S) => B_X5_insert_0 S a0 a1 a2
  | (1, [x0], [x1, x2, x3], S) => B_X5_insert_1 S x0 x1 x2 x3
  | _ => none
def P_X5_insert : Cs → Option (Nat × List (Nat × Value) × Wd × Nat × Nat)
  | (0, [a0], [a1, a2], S) => some (0, [(0, .ref a0), (1, .int a1), (2, .int a2)], S, 0, 0)
  | (1, [x0], [x1, x2, x3], S) => some (2, [(0, .ref x0), (1, .int x1), (2, .int x2), (3, .int x3)], S, 0, 0)
  | _ => none
noncomputable def f_X5_insert (S : Wd) (a0 : Nat) (a1 : Int32) (a2 : Int32) : Option (Wd) := ru B_X5_insert (0, [a0], [a1, a2], S)
abbrev N_X5_insert (b : Bd) (r : Wd) (c : (Wd) ⊕ Cs) : Prop := match c with
  | .inl r' => r' = r
  | .inr s' => ∀ pc L S kc ks, P_X5_insert s' = some (pc, L, S, kc, ks) → G b pc L [] S kc ks
set_option maxRecDepth 100000 in
set_option maxHeartbeats 4000000 in
theorem w_X5_insert_0 {b : Bd} {r : Wd} (hC : CX b yX5_insert.cls cX5_insert 4 { frames := 0, cells := 0, slots := 0, locals := 0 }) (hin : yX5_insert.name = "<init>" → b.2.2.2.2.2.2.2.2.1.name = "<init>") (hR : RT b none none r 0 0) {S : Wd} {a0 : Nat} {a1 : Int32} {a2 : Int32} {c : (Wd) ⊕ Cs} (h : B_X5_insert_0 S a0 a1 a2 = some c) (hk : N_X5_insert b r c) : G b 0 [(0, .ref a0), (1, .int a1), (2, .int a2)] [] S 0 0 := by
  unfold B_X5_insert_0 at h
  refine g_iload_n hC dX5_insert_0 rfl ?_
  refine g_istore_n (L' := [(3, .int a2), (0, .ref a0), (1, .int a1), (2, .int a2)]) hC dX5_insert_1 (by decide) rfl ?_
  cases h
  refine g_pick (L' := [(0, .ref a0), (1, .int a1), (2, .int a2), (3, .int a2)]) [1, 2, 3, 0] rfl ?_
  exact hk _ _ _ _ _ rfl
set_option maxRecDepth 100000 in
set_option maxHeartbeats 4000000 in
theorem w_X5_insert_1 {b : Bd} {r : Wd} (hC : CX b yX5_insert.cls cX5_insert 4 { frames := 0, cells := 0, slots := 0, locals := 0 }) (hin : yX5_insert.name = "<init>" → b.2.2.2.2.2.2.2.2.1.name = "<init>") (hR : RT b none none r 0 0) {S : Wd} {x0 : Nat} {x1 : Int32} {x2 : Int32} {x3 : Int32} {c : (Wd) ⊕ Cs} (h : B_X5_insert_1 S x0 x1 x2 x3 = some c) (hk : N_X5_insert b r c) : G b 2 [(0, .ref x0), (1, .int x1), (2, .int x2), (3, .int x3)] [] S 0 0 := by
  unfold B_X5_insert_1 at h
  refine g_iload_n hC dX5_insert_2 rfl ?_
  refine g_if_le (tgt := 44) hC dX5_insert_3 (by decide) (fun hc1 => ?_) (fun hc1 => ?_)
  · rw [if_pos hc1] at h
    refine g_iload_n hC dX5_insert_44 rfl ?_
    refine g_bipush (v := (40 : Int32)) hC dX5_insert_45 (by decide) ?_
    refine g_icmp_ge (tgt := 57) hC dX5_insert_47 (by decide) (fun hc2 => ?_) (fun hc2 => ?_)
    · rw [if_pos hc2] at h
      cases h
      subst hk
      exact g_vret hC hR dX5_insert_57 (by decide) (by decide)
    · rw [if_neg hc2] at h
      refine g_aload_n hC dX5_insert_50 rfl ?_
      obtain ⟨ho3, h⟩ := gd_some h
      obtain ⟨q4, hq5, h⟩ := Option.bind_eq_some_iff.mp h
      refine g_getr (k := 1) (q := q4) hC ck_X5 (by decide) tw_193 rfl (by decide) dX5_insert_51 ho3 hq5 ?_
      refine g_iload_n hC dX5_insert_54 rfl ?_
      refine g_iload_n hC dX5_insert_55 rfl ?_
      obtain ⟨hx6, h⟩ := gd_some h
      refine g_iast hC dX5_insert_56 hx6.1 hx6.2 ?_
      refine g_name (fun S7 eS8 => ?_)
      have h := ltS_use eS8 h
      cases h
      subst hk
      exact g_vret hC hR dX5_insert_57 (by decide) (by decide)
  · rw [if_neg hc1] at h
    refine g_iload_n hC dX5_insert_6 rfl ?_
    refine g_bipush (v := (40 : Int32)) hC dX5_insert_7 (by decide) ?_
    refine g_icmp_ge (tgt := 44) hC dX5_insert_9 (by decide) (fun hc9 => ?_) (fun hc9 => ?_)
    · rw [if_pos hc9] at h
      refine g_iload_n hC dX5_insert_44 rfl ?_
      refine g_bipush (v := (40 : Int32)) hC dX5_insert_45 (by decide) ?_
      refine g_icmp_ge (tgt := 57) hC dX5_insert_47 (by decide) (fun hc10 => ?_) (fun hc10 => ?_)
      · rw [if_pos hc10] at h
        cases h
        subst hk
        exact g_vret hC hR dX5_insert_57 (by decide) (by decide)
      · rw [if_neg hc10] at h
        refine g_aload_n hC dX5_insert_50 rfl ?_
        obtain ⟨ho11, h⟩ := gd_some h
        obtain ⟨q12, hq13, h⟩ := Option.bind_eq_some_iff.mp h
        refine g_getr (k := 1) (q := q12) hC ck_X5 (by decide) tw_193 rfl (by decide) dX5_insert_51 ho11 hq13 ?_
        refine g_iload_n hC dX5_insert_54 rfl ?_
        refine g_iload_n hC dX5_insert_55 rfl ?_
        obtain ⟨hx14, h⟩ := gd_some h
        refine g_iast hC dX5_insert_56 hx14.1 hx14.2 ?_
        refine g_name (fun S15 eS16 => ?_)
        have h := ltS_use eS16 h
        cases h
        subst hk
        exact g_vret hC hR dX5_insert_57 (by decide) (by decide)
    · rw [if_neg hc9] at h
      refine g_aload_n hC dX5_insert_12 rfl ?_
      obtain ⟨ho17, h⟩ := gd_some h
      obtain ⟨q18, hq19, h⟩ := Option.bind_eq_some_iff.mp h
      refine g_getr (k := 1) (q := q18) hC ck_X5 (by decide) tw_193 rfl (by decide) dX5_insert_13 ho17 hq19 ?_
      refine g_iload_n hC dX5_insert_16 rfl ?_
      refine g_iconst (v := (1 : Int32)) hC dX5_insert_17 (by decide) ?_
      refine g_isub hC dX5_insert_18 ?_
      obtain ⟨hx20, h⟩ := gd_some h
      refine g_iald hC dX5_insert_19 hx20.1 hx20.2 ?_
      refine g_iload_n hC dX5_insert_20 rfl ?_
      refine g_icmp_le (tgt := 44) hC dX5_insert_21 (by decide) (fun hc21 => ?_) (fun hc21 => ?_)
      · rw [if_pos hc21] at h
        refine g_iload_n hC dX5_insert_44 rfl ?_
        refine g_bipush (v := (40 : Int32)) hC dX5_insert_45 (by decide) ?_
        refine g_icmp_ge (tgt := 57) hC dX5_insert_47 (by decide) (fun hc22 => ?_) (fun hc22 => ?_)
        · rw [if_pos hc22] at h
          cases h
          subst hk
          exact g_vret hC hR dX5_insert_57 (by decide) (by decide)
        · rw [if_neg hc22] at h
          refine g_aload_n hC dX5_insert_50 rfl ?_
          obtain ⟨ho23, h⟩ := gd_some h
          obtain ⟨q24, hq25, h⟩ := Option.bind_eq_some_iff.mp h
          refine g_getr (k := 1) (q := q24) hC ck_X5 (by decide) tw_193 rfl (by decide) dX5_insert_51 ho23 hq25 ?_
          refine g_iload_n hC dX5_insert_54 rfl ?_
          refine g_iload_n hC dX5_insert_55 rfl ?_
          obtain ⟨hx26, h⟩ := gd_some h
          refine g_iast hC dX5_insert_56 hx26.1 hx26.2 ?_
          refine g_name (fun S27 eS28 => ?_)
          have h := ltS_use eS28 h
          cases h
          subst hk
          exact g_vret hC hR dX5_insert_57 (by decide) (by decide)
      · rw [if_neg hc21] at h
        refine g_aload_n hC dX5_insert_24 rfl ?_
        obtain ⟨ho29, h⟩ := gd_some h
        obtain ⟨q30, hq31, h⟩ := Option.bind_eq_some_iff.mp h
        refine g_getr (k := 1) (q := q30) hC ck_X5 (by decide) tw_193 rfl (by decide) dX5_insert_25 ho29 hq31 ?_
        refine g_iload_n hC dX5_insert_28 rfl ?_
        refine g_aload_n hC dX5_insert_29 rfl ?_
        obtain ⟨ho32, h⟩ := gd_some h
        obtain ⟨q33, hq34, h⟩ := Option.bind_eq_some_iff.mp h
        refine g_getr (k := 1) (q := q33) hC ck_X5 (by decide) tw_193 rfl (by decide) dX5_insert_30 ho32 hq34 ?_
        refine g_iload_n hC dX5_insert_33 rfl ?_
        refine g_iconst (v := (1 : Int32)) hC dX5_insert_34 (by decide) ?_
        refine g_isub hC dX5_insert_35 ?_
        obtain ⟨hx35, h⟩ := gd_some h
        refine g_iald hC dX5_insert_36 hx35.1 hx35.2 ?_
        obtain ⟨hx36, h⟩ := gd_some h
        refine g_iast hC dX5_insert_37 hx36.1 hx36.2 ?_
        refine g_name (fun S37 eS38 => ?_)
        have h := ltS_use eS38 h
        refine g_iinc (v := (-1 : Int32)) (L' := [(3, .int (x3 + (-1 : Int32))), (0, .ref x0), (1, .int x1), (2, .int x2)]) hC dX5_insert_38 rfl (by decide) (by decide) rfl ?_
        refine g_goto (tgt := 2) hC dX5_insert_41 (by decide) ?_
        cases h
        refine g_pick (L' := [(0, .ref x0), (1, .int x1), (2, .int x2), (3, .int (x3 + (-1 : Int32)))]) [1, 2, 3, 0] rfl ?_
        exact hk _ _ _ _ _ rfl
theorem w_X5_insert {b : Bd} {r : Wd} (hC : CX b yX5_insert.cls cX5_insert 4 { frames := 0, cells := 0, slots := 0, locals := 0 }) (hin : yX5_insert.name = "<init>" → b.2.2.2.2.2.2.2.2.1.name = "<init>") (hR : RT b none none r 0 0) {s : Cs} {c : (Wd) ⊕ Cs} (h : B_X5_insert s = some c) (hk : N_X5_insert b r c) : ∀ pc L S kc ks, P_X5_insert s = some (pc, L, S, kc, ks) → G b pc L [] S kc ks := by
  intro pc L S kc ks hp
  unfold B_X5_insert at h
  split at h
  · cases hp
    exact w_X5_insert_0 hC hin hR h hk
  · cases hp
    exact w_X5_insert_1 hC hin hR h hk
  · cases h
theorem k_X5_insert {S : Wd} {a0 : Nat} {a1 : Int32} {a2 : Int32} {S' : Wd} (h : f_X5_insert S a0 a1 a2 = some S') : Sp yX5_insert cX5_insert 4 none 0 0 0 0 [.ref a0, .int a1, .int a2] S none S' := by
  unfold f_X5_insert at h
  refine Sp.of (by decide +kernel) (Nat.le_of_ble_eq_true rfl) ?_
  intro b hC hin hR
  exact ru_ind (P := fun s q0 => q0 = S' → ∀ pc L S kc ks, P_X5_insert s = some (pc, L, S, kc, ks) → G b pc L [] S kc ks) (fun s q0 hB e => w_X5_insert (r := S') hC hin hR hB e) (fun s s' q0 hB ih e => w_X5_insert (r := S') hC hin hR hB (ih e)) h rfl _ _ _ _ _ rfl

theorem mi_X5_gather : MI yX5_gather cX5_gather 6 (some .int) 2 := ⟨tw_655, tw_8, by decide +kernel, by decide +kernel, by decide +kernel⟩
noncomputable def B_X5_gather_0 (S : Wd) (a0 : Nat) (a1 : Int32) (a2 : Int32) : Option ((Int32 × Wd) ⊕ Cs) := some (.inr (1, [a0], [a1, a2, (0 : Int32), (0 : Int32)], S))
noncomputable def B_X5_gather_1 (S : Wd) (x0 : Nat) (x1 : Int32) (x2 : Int32) (x3 : Int32) (x4 : Int32) : Option ((Int32 × Wd) ⊕ Cs) := gd (ob S x0 5) (Option.bind (wO S x0 0) (fun q2 => gd (ob S q2 8) (bd2 (f_X8_count S q2) (fun r7 S5 => if r7 ≤ x4 then (some (.inl (x3, S5))) else (gd (ob S5 x0 5) (Option.bind (wO S5 x0 0) (fun q10 => gd (ob S5 q10 8) (bd2 (f_X8_at S5 q10 x4 (1 : Int32)) (fun r15 S13 => gd (ob S13 x0 5) (Option.bind (wO S13 x0 0) (fun q17 => gd (ob S13 q17 8) (bd2 (f_X8_at S13 q17 x4 (0 : Int32)) (fun r22 S20 => if r22 = x1 then (if r15 ≤ (x2 - (30 : Int32)) then (some (.inr (1, [x0], [x1, x2, x3, (x4 + (1 : Int32))], S20))) else (if x2 < r15 then (some (.inr (1, [x0], [x1, x2, x3, (x4 + (1 : Int32))], S20))) else (gd (ob S20 x0 5) (Option.bind (wO S20 x0 0) (fun q27 => gd (ob S20 q27 8) (bd2 (f_X8_at S20 q27 x4 (2 : Int32)) (fun r32 S30 => gd (ob S30 x0 5) (Option.bind (f_X5_insert S30 x0 r32 x3) (fun S34 => some (.inr (1, [x0], [x1, x2, (x3 + (1 : Int32)), (x4 + (1 : Int32))], S34))))))))))) else (some (.inr (1, [x0], [x1, x2, x3, (x4 + (1 : Int32))], S20))))))))))))))))
noncomputable def B_X5_gather : Cs → Option ((Int32 × Wd) ⊕ Cs)
  | (0, [a0], [a1, a2], S) => B_X5_gather_0 S a0 a1 a2
  | (1, [x0], [x1, x2, x3, x4], S) => B_X5_gather_1 S x0 x1 x2 x3 x4
  | _ => none
def P_X5_gather : Cs → Option (Nat × List (Nat × Value) × Wd × Nat × Nat)
  | (0, [a0], [a1, a2], S) => some (0, [(0, .ref a0), (1, .int a1), (2, .int a2)], S, 0, 0)
  | (1, [x0], [x1, x2, x3, x4], S) => some (5, [(0, .ref x0), (1, .int x1), (2, .int x2), (3, .int x3), (4, .int x4)], S, 0, 0)
  | _ => none
noncomputable def f_X5_gather (S : Wd) (a0 : Nat) (a1 : Int32) (a2 : Int32) : Option (Int32 × Wd) := ru B_X5_gather (0, [a0], [a1, a2], S)
abbrev N_X5_gather (b : Bd) (r : Int32 × Wd) (c : (Int32 × Wd) ⊕ Cs) : Prop := match c with
  | .inl r' => r' = r
  | .inr s' => ∀ pc L S kc ks, P_X5_gather s' = some (pc, L, S, kc, ks) → G b pc L [] S kc ks
set_option maxRecDepth 100000 in
set_option maxHeartbeats 4000000 in
theorem w_X5_gather_0 {b : Bd} {r : Int32 × Wd} (hC : CX b yX5_gather.cls cX5_gather 6 { frames := 2, cells := 0, slots := 0, locals := 44 }) (hin : yX5_gather.name = "<init>" → b.2.2.2.2.2.2.2.2.1.name = "<init>") (hR : RT b (some .int) (some (.int r.1)) r.2 0 0) {S : Wd} {a0 : Nat} {a1 : Int32} {a2 : Int32} {c : (Int32 × Wd) ⊕ Cs} (h : B_X5_gather_0 S a0 a1 a2 = some c) (hk : N_X5_gather b r c) : G b 0 [(0, .ref a0), (1, .int a1), (2, .int a2)] [] S 0 0 := by
  unfold B_X5_gather_0 at h
  refine g_iconst (v := (0 : Int32)) hC dX5_gather_0 (by decide) ?_
  refine g_istore_n (L' := [(3, .int (0 : Int32)), (0, .ref a0), (1, .int a1), (2, .int a2)]) hC dX5_gather_1 (by decide) rfl ?_
  refine g_iconst (v := (0 : Int32)) hC dX5_gather_2 (by decide) ?_
  refine g_istore (L' := [(4, .int (0 : Int32)), (3, .int (0 : Int32)), (0, .ref a0), (1, .int a1), (2, .int a2)]) hC dX5_gather_3 (by decide) rfl ?_
  cases h
  refine g_pick (L' := [(0, .ref a0), (1, .int a1), (2, .int a2), (3, .int (0 : Int32)), (4, .int (0 : Int32))]) [2, 3, 4, 1, 0] rfl ?_
  exact hk _ _ _ _ _ rfl
set_option maxRecDepth 100000 in
set_option maxHeartbeats 4000000 in
theorem w_X5_gather_1 {b : Bd} {r : Int32 × Wd} (hC : CX b yX5_gather.cls cX5_gather 6 { frames := 2, cells := 0, slots := 0, locals := 44 }) (hin : yX5_gather.name = "<init>" → b.2.2.2.2.2.2.2.2.1.name = "<init>") (hR : RT b (some .int) (some (.int r.1)) r.2 0 0) {S : Wd} {x0 : Nat} {x1 : Int32} {x2 : Int32} {x3 : Int32} {x4 : Int32} {c : (Int32 × Wd) ⊕ Cs} (h : B_X5_gather_1 S x0 x1 x2 x3 x4 = some c) (hk : N_X5_gather b r c) : G b 5 [(0, .ref x0), (1, .int x1), (2, .int x2), (3, .int x3), (4, .int x4)] [] S 0 0 := by
  unfold B_X5_gather_1 at h
  refine g_iload hC dX5_gather_5 rfl ?_
  refine g_aload_n hC dX5_gather_7 rfl ?_
  obtain ⟨ho1, h⟩ := gd_some h
  obtain ⟨q2, hq3, h⟩ := Option.bind_eq_some_iff.mp h
  refine g_getr (k := 0) (q := q2) hC ck_X5 (by decide) tw_192 rfl (by decide) dX5_gather_8 ho1 hq3 ?_
  obtain ⟨ho6, h⟩ := gd_some h
  obtain ⟨r7, S5, hr4, h⟩ := bd2_some h
  refine g_callV (rest := [.int x4]) hC mi_X8_count (k_X8_count hr4) ck_X8.1 (by decide) ho6 tw_656 tw_452 tw_453 dX5_gather_11 rfl rfl ⟨by decide, by decide⟩ (Nat.le_of_ble_eq_true rfl) ⟨by decide, by decide⟩ ?_
  refine g_icmp_ge (tgt := 82) hC dX5_gather_14 (by decide) (fun hc8 => ?_) (fun hc8 => ?_)
  · rw [if_pos hc8] at h
    refine g_iload_n hC dX5_gather_82 rfl ?_
    cases h
    subst hk
    exact g_iret hC hR dX5_gather_83 (by decide) (by decide)
  · rw [if_neg hc8] at h
    refine g_aload_n hC dX5_gather_17 rfl ?_
    obtain ⟨ho9, h⟩ := gd_some h
    obtain ⟨q10, hq11, h⟩ := Option.bind_eq_some_iff.mp h
    refine g_getr (k := 0) (q := q10) hC ck_X5 (by decide) tw_192 rfl (by decide) dX5_gather_18 ho9 hq11 ?_
    refine g_iload hC dX5_gather_21 rfl ?_
    refine g_iconst (v := (1 : Int32)) hC dX5_gather_23 (by decide) ?_
    obtain ⟨ho14, h⟩ := gd_some h
    obtain ⟨r15, S13, hr12, h⟩ := bd2_some h
    refine g_callV (rest := []) hC mi_X8_at (k_X8_at hr12) ck_X8.1 (by decide) ho14 tw_657 tw_435 tw_436 dX5_gather_24 rfl rfl ⟨by decide, by decide⟩ (Nat.le_of_ble_eq_true rfl) ⟨by decide, by decide⟩ ?_
    refine g_istore (L' := [(5, .int r15), (0, .ref x0), (1, .int x1), (2, .int x2), (3, .int x3), (4, .int x4)]) hC dX5_gather_27 (by decide) rfl ?_
    refine g_aload_n hC dX5_gather_29 rfl ?_
    obtain ⟨ho16, h⟩ := gd_some h
    obtain ⟨q17, hq18, h⟩ := Option.bind_eq_some_iff.mp h
    refine g_getr (k := 0) (q := q17) hC ck_X5 (by decide) tw_192 rfl (by decide) dX5_gather_30 ho16 hq18 ?_
    refine g_iload hC dX5_gather_33 rfl ?_
    refine g_iconst (v := (0 : Int32)) hC dX5_gather_35 (by decide) ?_
    obtain ⟨ho21, h⟩ := gd_some h
    obtain ⟨r22, S20, hr19, h⟩ := bd2_some h
    refine g_callV (rest := []) hC mi_X8_at (k_X8_at hr19) ck_X8.1 (by decide) ho21 tw_657 tw_435 tw_436 dX5_gather_36 rfl rfl ⟨by decide, by decide⟩ (Nat.le_of_ble_eq_true rfl) ⟨by decide, by decide⟩ ?_
    refine g_iload_n hC dX5_gather_39 rfl ?_
    refine g_icmp_ne (tgt := 76) hC dX5_gather_40 (by decide) (fun hc23 => ?_) (fun hc23 => ?_)
    · rw [if_neg hc23] at h
      refine g_iinc (v := (1 : Int32)) (L' := [(4, .int (x4 + (1 : Int32))), (5, .int r15), (0, .ref x0), (1, .int x1), (2, .int x2), (3, .int x3)]) hC dX5_gather_76 rfl (by decide) (by decide) rfl ?_
      refine g_goto (tgt := 5) hC dX5_gather_79 (by decide) ?_
      cases h
      refine g_pick (L' := [(0, .ref x0), (1, .int x1), (2, .int x2), (3, .int x3), (4, .int (x4 + (1 : Int32)))]) [2, 3, 4, 5, 0] rfl ?_
      exact hk _ _ _ _ _ rfl
    · rw [if_pos hc23] at h
      refine g_iload hC dX5_gather_43 rfl ?_
      refine g_iload_n hC dX5_gather_45 rfl ?_
      refine g_bipush (v := (30 : Int32)) hC dX5_gather_46 (by decide) ?_
      refine g_isub hC dX5_gather_48 ?_
      refine g_icmp_le (tgt := 76) hC dX5_gather_49 (by decide) (fun hc24 => ?_) (fun hc24 => ?_)
      · rw [if_pos hc24] at h
        refine g_iinc (v := (1 : Int32)) (L' := [(4, .int (x4 + (1 : Int32))), (5, .int r15), (0, .ref x0), (1, .int x1), (2, .int x2), (3, .int x3)]) hC dX5_gather_76 rfl (by decide) (by decide) rfl ?_
        refine g_goto (tgt := 5) hC dX5_gather_79 (by decide) ?_
        cases h
        refine g_pick (L' := [(0, .ref x0), (1, .int x1), (2, .int x2), (3, .int x3), (4, .int (x4 + (1 : Int32)))]) [2, 3, 4, 5, 0] rfl ?_
        exact hk _ _ _ _ _ rfl
      · rw [if_neg hc24] at h
        refine g_iload hC dX5_gather_52 rfl ?_
        refine g_iload_n hC dX5_gather_54 rfl ?_
        refine g_icmp_gt (tgt := 76) hC dX5_gather_55 (by decide) (fun hc25 => ?_) (fun hc25 => ?_)
        · rw [if_pos hc25] at h
          refine g_iinc (v := (1 : Int32)) (L' := [(4, .int (x4 + (1 : Int32))), (5, .int r15), (0, .ref x0), (1, .int x1), (2, .int x2), (3, .int x3)]) hC dX5_gather_76 rfl (by decide) (by decide) rfl ?_
          refine g_goto (tgt := 5) hC dX5_gather_79 (by decide) ?_
          cases h
          refine g_pick (L' := [(0, .ref x0), (1, .int x1), (2, .int x2), (3, .int x3), (4, .int (x4 + (1 : Int32)))]) [2, 3, 4, 5, 0] rfl ?_
          exact hk _ _ _ _ _ rfl
        · rw [if_neg hc25] at h
          refine g_aload_n hC dX5_gather_58 rfl ?_
          refine g_aload_n hC dX5_gather_59 rfl ?_
          obtain ⟨ho26, h⟩ := gd_some h
          obtain ⟨q27, hq28, h⟩ := Option.bind_eq_some_iff.mp h
          refine g_getr (k := 0) (q := q27) hC ck_X5 (by decide) tw_192 rfl (by decide) dX5_gather_60 ho26 hq28 ?_
          refine g_iload hC dX5_gather_63 rfl ?_
          refine g_iconst (v := (2 : Int32)) hC dX5_gather_65 (by decide) ?_
          obtain ⟨ho31, h⟩ := gd_some h
          obtain ⟨r32, S30, hr29, h⟩ := bd2_some h
          refine g_callV (rest := [.ref x0]) hC mi_X8_at (k_X8_at hr29) ck_X8.1 (by decide) ho31 tw_657 tw_435 tw_436 dX5_gather_66 rfl rfl ⟨by decide, by decide⟩ (Nat.le_of_ble_eq_true rfl) ⟨by decide, by decide⟩ ?_
          refine g_iload_n hC dX5_gather_69 rfl ?_
          obtain ⟨ho35, h⟩ := gd_some h
          obtain ⟨S34, hr33, h⟩ := Option.bind_eq_some_iff.mp h
          refine g_callV (rest := []) hC mi_X5_insert (k_X5_insert hr33) ck_X5.1 (by decide) ho35 tw_658 tw_660 ts_16 dX5_gather_70 rfl rfl ⟨by decide, by decide⟩ (Nat.le_of_ble_eq_true rfl) ⟨by decide, by decide⟩ ?_
          refine g_iinc (v := (1 : Int32)) (L' := [(3, .int (x3 + (1 : Int32))), (5, .int r15), (0, .ref x0), (1, .int x1), (2, .int x2), (4, .int x4)]) hC dX5_gather_73 rfl (by decide) (by decide) rfl ?_
          refine g_iinc (v := (1 : Int32)) (L' := [(4, .int (x4 + (1 : Int32))), (3, .int (x3 + (1 : Int32))), (5, .int r15), (0, .ref x0), (1, .int x1), (2, .int x2)]) hC dX5_gather_76 rfl (by decide) (by decide) rfl ?_
          refine g_goto (tgt := 5) hC dX5_gather_79 (by decide) ?_
          cases h
          refine g_pick (L' := [(0, .ref x0), (1, .int x1), (2, .int x2), (3, .int (x3 + (1 : Int32))), (4, .int (x4 + (1 : Int32)))]) [3, 4, 5, 1, 0] rfl ?_
          exact hk _ _ _ _ _ rfl
theorem w_X5_gather {b : Bd} {r : Int32 × Wd} (hC : CX b yX5_gather.cls cX5_gather 6 { frames := 2, cells := 0, slots := 0, locals := 44 }) (hin : yX5_gather.name = "<init>" → b.2.2.2.2.2.2.2.2.1.name = "<init>") (hR : RT b (some .int) (some (.int r.1)) r.2 0 0) {s : Cs} {c : (Int32 × Wd) ⊕ Cs} (h : B_X5_gather s = some c) (hk : N_X5_gather b r c) : ∀ pc L S kc ks, P_X5_gather s = some (pc, L, S, kc, ks) → G b pc L [] S kc ks := by
  intro pc L S kc ks hp
  unfold B_X5_gather at h
  split at h
  · cases hp
    exact w_X5_gather_0 hC hin hR h hk
  · cases hp
    exact w_X5_gather_1 hC hin hR h hk
  · cases h
theorem k_X5_gather {S : Wd} {a0 : Nat} {a1 : Int32} {a2 : Int32} {r : Int32} {S' : Wd} (h : f_X5_gather S a0 a1 a2 = some (r, S')) : Sp yX5_gather cX5_gather 6 (some .int) 2 44 0 0 [.ref a0, .int a1, .int a2] S (some (.int r)) S' := by
  unfold f_X5_gather at h
  refine Sp.of (by decide +kernel) (Nat.le_of_ble_eq_true rfl) ?_
  intro b hC hin hR
  exact ru_ind (P := fun s q0 => q0 = (r, S') → ∀ pc L S kc ks, P_X5_gather s = some (pc, L, S, kc, ks) → G b pc L [] S kc ks) (fun s q0 hB e => w_X5_gather (r := (r, S')) hC hin hR hB e) (fun s s' q0 hB ih e => w_X5_gather (r := (r, S')) hC hin hR hB (ih e)) h rfl _ _ _ _ _ rfl

theorem mi_X5_tells : MI yX5_tells cX5_tells 5 (some .int) 3 := ⟨tw_651, tw_8, by decide +kernel, by decide +kernel, by decide +kernel⟩
noncomputable def f_X5_tells (S : Wd) (a0 : Nat) (a1 : Int32) (a2 : Int32) (a3 : Int32) : Option (Int32 × Wd) := gd (ob S a0 5) (bd2 (f_X5_gather S a0 a1 a2) (fun r4 S2 => if a3 = (3 : Int32) then (some (r4, S2)) else (if r4 = 0 then (some ((-100006 : Int32), S2)) else (if a3 = (1 : Int32) then (gd (ob S2 a0 5) (Option.bind (wO S2 a0 1) (fun q18 => gd (ix S2 q18 100 ((r4 - (1 : Int32)) / (2 : Int32))) (some ((wI S2 q18 ((r4 - (1 : Int32)) / (2 : Int32)).toNatClampNeg), S2))))) else (if a3 = 0 then (gd (ob S2 a0 5) (Option.bind (wO S2 a0 1) (fun q14 => gd (ix S2 q14 100 (r4 / (4 : Int32))) (some ((wI S2 q14 (r4 / (4 : Int32)).toNatClampNeg), S2))))) else (gd (ob S2 a0 5) (Option.bind (wO S2 a0 1) (fun q10 => gd (ix S2 q10 100 ((r4 - (1 : Int32)) - (r4 / (4 : Int32)))) (some ((wI S2 q10 ((r4 - (1 : Int32)) - (r4 / (4 : Int32))).toNatClampNeg), S2))))))))))
set_option maxRecDepth 100000 in
set_option maxHeartbeats 4000000 in
theorem k_X5_tells {S : Wd} {a0 : Nat} {a1 : Int32} {a2 : Int32} {a3 : Int32} {r : Int32} {S' : Wd} (h : f_X5_tells S a0 a1 a2 a3 = some (r, S')) : Sp yX5_tells cX5_tells 5 (some .int) 3 69 0 0 [.ref a0, .int a1, .int a2, .int a3] S (some (.int r)) S' := by
  unfold f_X5_tells at h
  refine Sp.of (by decide +kernel) (Nat.le_of_ble_eq_true rfl) ?_
  intro b hC hin hR
  show G b 0 [(0, .ref a0), (1, .int a1), (2, .int a2), (3, .int a3)] [] S 0 0
  refine g_aload_n hC dX5_tells_0 rfl ?_
  refine g_iload_n hC dX5_tells_1 rfl ?_
  refine g_iload_n hC dX5_tells_2 rfl ?_
  obtain ⟨ho3, h⟩ := gd_some h
  obtain ⟨r4, S2, hr1, h⟩ := bd2_some h
  refine g_callV (rest := []) hC mi_X5_gather (k_X5_gather hr1) ck_X5.1 (by decide) ho3 tw_652 tw_654 ts_15 dX5_tells_3 rfl rfl ⟨by decide, by decide⟩ (Nat.le_of_ble_eq_true rfl) ⟨by decide, by decide⟩ ?_
  refine g_istore (L' := [(4, .int r4), (0, .ref a0), (1, .int a1), (2, .int a2), (3, .int a3)]) hC dX5_tells_6 (by decide) rfl ?_
  refine g_iload_n hC dX5_tells_8 rfl ?_
  refine g_iconst (v := (3 : Int32)) hC dX5_tells_9 (by decide) ?_
  refine g_icmp_ne (tgt := 16) hC dX5_tells_10 (by decide) (fun hc5 => ?_) (fun hc5 => ?_)
  · rw [if_neg hc5] at h
    refine g_iload hC dX5_tells_16 rfl ?_
    refine g_if_ne (tgt := 24) hC dX5_tells_18 (by decide) (fun hc6 => ?_) (fun hc6 => ?_)
    · rw [if_neg hc6] at h
      refine g_iload_n hC dX5_tells_24 rfl ?_
      refine g_iconst (v := (1 : Int32)) hC dX5_tells_25 (by decide) ?_
      refine g_icmp_ne (tgt := 41) hC dX5_tells_26 (by decide) (fun hc7 => ?_) (fun hc7 => ?_)
      · rw [if_neg hc7] at h
        refine g_iload_n hC dX5_tells_41 rfl ?_
        refine g_if_ne (tgt := 57) hC dX5_tells_42 (by decide) (fun hc8 => ?_) (fun hc8 => ?_)
        · rw [if_neg hc8] at h
          refine g_aload_n hC dX5_tells_57 rfl ?_
          obtain ⟨ho9, h⟩ := gd_some h
          obtain ⟨q10, hq11, h⟩ := Option.bind_eq_some_iff.mp h
          refine g_getr (k := 1) (q := q10) hC ck_X5 (by decide) tw_193 rfl (by decide) dX5_tells_58 ho9 hq11 ?_
          refine g_iload hC dX5_tells_61 rfl ?_
          refine g_iconst (v := (1 : Int32)) hC dX5_tells_63 (by decide) ?_
          refine g_isub hC dX5_tells_64 ?_
          refine g_iload hC dX5_tells_65 rfl ?_
          refine g_iconst (v := (4 : Int32)) hC dX5_tells_67 (by decide) ?_
          refine g_idiv hC dX5_tells_68 (by decide) ?_
          refine g_isub hC dX5_tells_69 ?_
          obtain ⟨hx12, h⟩ := gd_some h
          refine g_iald hC dX5_tells_70 hx12.1 hx12.2 ?_
          cases h
          exact g_iret hC hR dX5_tells_71 (by decide) (by decide)
        · rw [if_pos hc8] at h
          refine g_aload_n hC dX5_tells_45 rfl ?_
          obtain ⟨ho13, h⟩ := gd_some h
          obtain ⟨q14, hq15, h⟩ := Option.bind_eq_some_iff.mp h
          refine g_getr (k := 1) (q := q14) hC ck_X5 (by decide) tw_193 rfl (by decide) dX5_tells_46 ho13 hq15 ?_
          refine g_iload hC dX5_tells_49 rfl ?_
          refine g_iconst (v := (4 : Int32)) hC dX5_tells_51 (by decide) ?_
          refine g_idiv hC dX5_tells_52 (by decide) ?_
          obtain ⟨hx16, h⟩ := gd_some h
          refine g_iald hC dX5_tells_53 hx16.1 hx16.2 ?_
          refine g_goto (tgt := 71) hC dX5_tells_54 (by decide) ?_
          cases h
          exact g_iret hC hR dX5_tells_71 (by decide) (by decide)
      · rw [if_pos hc7] at h
        refine g_aload_n hC dX5_tells_29 rfl ?_
        obtain ⟨ho17, h⟩ := gd_some h
        obtain ⟨q18, hq19, h⟩ := Option.bind_eq_some_iff.mp h
        refine g_getr (k := 1) (q := q18) hC ck_X5 (by decide) tw_193 rfl (by decide) dX5_tells_30 ho17 hq19 ?_
        refine g_iload hC dX5_tells_33 rfl ?_
        refine g_iconst (v := (1 : Int32)) hC dX5_tells_35 (by decide) ?_
        refine g_isub hC dX5_tells_36 ?_
        refine g_iconst (v := (2 : Int32)) hC dX5_tells_37 (by decide) ?_
        refine g_idiv hC dX5_tells_38 (by decide) ?_
        obtain ⟨hx20, h⟩ := gd_some h
        refine g_iald hC dX5_tells_39 hx20.1 hx20.2 ?_
        cases h
        exact g_iret hC hR dX5_tells_40 (by decide) (by decide)
    · rw [if_pos hc6] at h
      refine g_ldc hC tw_662 dX5_tells_21 ?_
      cases h
      exact g_iret hC hR dX5_tells_23 (by decide) (by decide)
  · rw [if_pos hc5] at h
    refine g_iload hC dX5_tells_13 rfl ?_
    cases h
    exact g_iret hC hR dX5_tells_15 (by decide) (by decide)

theorem mi_X11_span : MI yX11_span cX11_span 4 (some .int) 3 := ⟨tw_647, tw_1, by decide +kernel, by decide +kernel, by decide +kernel⟩
noncomputable def f_X11_span (S : Wd) (a0 : Nat) (a1 : Int32) (a2 : Int32) (a3 : Int32) : Option (Int32 × Wd) := bd2 (f_X11_isLane S a1) (fun r3 S2 => if r3 = 0 then (gd (ob S2 a0 11) (bd2 (f_X11_told S2 a0 (-100001 : Int32)) (fun r8 S6 => some (r8, S6)))) else (bd2 (f_X11_within S2 a2 (0 : Int32) (365 : Int32)) (fun r11 S10 => if r11 = 0 then (gd (ob S10 a0 11) (bd2 (f_X11_told S10 a0 (-100001 : Int32)) (fun r16 S14 => some (r16, S14)))) else (bd2 (f_X11_within S10 a3 (0 : Int32) (3 : Int32)) (fun r19 S18 => if r19 = 0 then (gd (ob S18 a0 11) (bd2 (f_X11_told S18 a0 (-100001 : Int32)) (fun r35 S33 => some (r35, S33)))) else (gd (ob S18 a0 11) (Option.bind (wO S18 a0 6) (fun q22 => gd (ob S18 q22 5) (bd2 (f_X5_tells S18 q22 a1 a2 a3) (fun r27 S25 => gd (ob S25 a0 11) (bd2 (f_X11_told S25 a0 r27) (fun r31 S29 => some (r31, S29)))))))))))))
set_option maxRecDepth 100000 in
set_option maxHeartbeats 4000000 in
theorem k_X11_span {S : Wd} {a0 : Nat} {a1 : Int32} {a2 : Int32} {a3 : Int32} {r : Int32} {S' : Wd} (h : f_X11_span S a0 a1 a2 a3 = some (r, S')) : Sp yX11_span cX11_span 4 (some .int) 4 93 0 0 [.ref a0, .int a1, .int a2, .int a3] S (some (.int r)) S' := by
  unfold f_X11_span at h
  refine Sp.of (by decide +kernel) (Nat.le_of_ble_eq_true rfl) ?_
  intro b hC hin hR
  show G b 0 [(0, .ref a0), (1, .int a1), (2, .int a2), (3, .int a3)] [] S 0 0
  refine g_iload_n hC dX11_span_0 rfl ?_
  obtain ⟨r3, S2, hr1, h⟩ := bd2_some h
  refine g_callS (rest := []) hC mi_X11_isLane (k_X11_isLane hr1) tw_459 tw_460 dX11_span_1 rfl rfl ⟨by decide, by decide⟩ (Nat.le_of_ble_eq_true rfl) ⟨by decide, by decide⟩ ?_
  refine g_if_eq (tgt := 27) hC dX11_span_4 (by decide) (fun hc4 => ?_) (fun hc4 => ?_)
  · rw [if_pos hc4] at h
    refine g_aload_n hC dX11_span_27 rfl ?_
    refine g_ldc hC tw_352 dX11_span_28 ?_
    obtain ⟨ho7, h⟩ := gd_some h
    obtain ⟨r8, S6, hr5, h⟩ := bd2_some h
    refine g_callV (rest := []) hC mi_X11_told (k_X11_told hr5) ck_X11.1 (by decide) ho7 tw_353 tw_355 ts_0 dX11_span_30 rfl rfl ⟨by decide, by decide⟩ (Nat.le_of_ble_eq_true rfl) ⟨by decide, by decide⟩ ?_
    cases h
    exact g_iret hC hR dX11_span_33 (by decide) (by decide)
  · rw [if_neg hc4] at h
    refine g_iload_n hC dX11_span_7 rfl ?_
    refine g_iconst (v := (0 : Int32)) hC dX11_span_8 (by decide) ?_
    refine g_sipush (v := (365 : Int32)) hC dX11_span_9 (by decide) ?_
    obtain ⟨r11, S10, hr9, h⟩ := bd2_some h
    refine g_callS (rest := []) hC mi_X11_within (k_X11_within hr9) tw_349 tw_350 dX11_span_12 rfl rfl ⟨by decide, by decide⟩ (Nat.le_of_ble_eq_true rfl) ⟨by decide, by decide⟩ ?_
    refine g_if_eq (tgt := 27) hC dX11_span_15 (by decide) (fun hc12 => ?_) (fun hc12 => ?_)
    · rw [if_pos hc12] at h
      refine g_aload_n hC dX11_span_27 rfl ?_
      refine g_ldc hC tw_352 dX11_span_28 ?_
      obtain ⟨ho15, h⟩ := gd_some h
      obtain ⟨r16, S14, hr13, h⟩ := bd2_some h
      refine g_callV (rest := []) hC mi_X11_told (k_X11_told hr13) ck_X11.1 (by decide) ho15 tw_353 tw_355 ts_0 dX11_span_30 rfl rfl ⟨by decide, by decide⟩ (Nat.le_of_ble_eq_true rfl) ⟨by decide, by decide⟩ ?_
      cases h
      exact g_iret hC hR dX11_span_33 (by decide) (by decide)
    · rw [if_neg hc12] at h
      refine g_iload_n hC dX11_span_18 rfl ?_
      refine g_iconst (v := (0 : Int32)) hC dX11_span_19 (by decide) ?_
      refine g_iconst (v := (3 : Int32)) hC dX11_span_20 (by decide) ?_
      obtain ⟨r19, S18, hr17, h⟩ := bd2_some h
      refine g_callS (rest := []) hC mi_X11_within (k_X11_within hr17) tw_349 tw_350 dX11_span_21 rfl rfl ⟨by decide, by decide⟩ (Nat.le_of_ble_eq_true rfl) ⟨by decide, by decide⟩ ?_
      refine g_if_ne (tgt := 34) hC dX11_span_24 (by decide) (fun hc20 => ?_) (fun hc20 => ?_)
      · rw [if_neg hc20] at h
        refine g_aload_n hC dX11_span_34 rfl ?_
        refine g_aload_n hC dX11_span_35 rfl ?_
        obtain ⟨ho21, h⟩ := gd_some h
        obtain ⟨q22, hq23, h⟩ := Option.bind_eq_some_iff.mp h
        refine g_getr (k := 6) (q := q22) hC ck_X11 (by decide) tw_308 rfl (by decide) dX11_span_36 ho21 hq23 ?_
        refine g_iload_n hC dX11_span_39 rfl ?_
        refine g_iload_n hC dX11_span_40 rfl ?_
        refine g_iload_n hC dX11_span_41 rfl ?_
        obtain ⟨ho26, h⟩ := gd_some h
        obtain ⟨r27, S25, hr24, h⟩ := bd2_some h
        refine g_callV (rest := [.ref a0]) hC mi_X5_tells (k_X5_tells hr24) ck_X5.1 (by decide) ho26 tw_648 tw_649 tw_650 dX11_span_42 rfl rfl ⟨by decide, by decide⟩ (Nat.le_of_ble_eq_true rfl) ⟨by decide, by decide⟩ ?_
        obtain ⟨ho30, h⟩ := gd_some h
        obtain ⟨r31, S29, hr28, h⟩ := bd2_some h
        refine g_callV (rest := []) hC mi_X11_told (k_X11_told hr28) ck_X11.1 (by decide) ho30 tw_353 tw_355 ts_0 dX11_span_45 rfl rfl ⟨by decide, by decide⟩ (Nat.le_of_ble_eq_true rfl) ⟨by decide, by decide⟩ ?_
        cases h
        exact g_iret hC hR dX11_span_48 (by decide) (by decide)
      · rw [if_pos hc20] at h
        refine g_aload_n hC dX11_span_27 rfl ?_
        refine g_ldc hC tw_352 dX11_span_28 ?_
        obtain ⟨ho34, h⟩ := gd_some h
        obtain ⟨r35, S33, hr32, h⟩ := bd2_some h
        refine g_callV (rest := []) hC mi_X11_told (k_X11_told hr32) ck_X11.1 (by decide) ho34 tw_353 tw_355 ts_0 dX11_span_30 rfl rfl ⟨by decide, by decide⟩ (Nat.le_of_ble_eq_true rfl) ⟨by decide, by decide⟩ ?_
        cases h
        exact g_iret hC hR dX11_span_33 (by decide) (by decide)

theorem mi_X11_isFirm : MI yX11_isFirm cX11_isFirm 1 (some .boolean) 1 := ⟨tw_669, tw_1, by decide +kernel, by decide +kernel, by decide +kernel⟩
noncomputable def f_X11_isFirm (S : Wd) (a0 : Int32) : Option (Int32 × Wd) := bd2 (f_X11_within S a0 (0 : Int32) (9 : Int32)) (fun r3 S2 => gd (narrow .boolean (.int r3) = .int r3) (some (r3, S2)))
set_option maxRecDepth 100000 in
set_option maxHeartbeats 4000000 in
theorem k_X11_isFirm {S : Wd} {a0 : Int32} {r : Int32} {S' : Wd} (h : f_X11_isFirm S a0 = some (r, S')) : Sp yX11_isFirm cX11_isFirm 1 (some .boolean) 1 22 0 0 [.int a0] S (some (.int r)) S' := by
  unfold f_X11_isFirm at h
  refine Sp.of (by decide +kernel) (Nat.le_of_ble_eq_true rfl) ?_
  intro b hC hin hR
  show G b 0 [(0, .int a0)] [] S 0 0
  refine g_iload_n hC dX11_isFirm_0 rfl ?_
  refine g_iconst (v := (0 : Int32)) hC dX11_isFirm_1 (by decide) ?_
  refine g_bipush (v := (9 : Int32)) hC dX11_isFirm_2 (by decide) ?_
  obtain ⟨r3, S2, hr1, h⟩ := bd2_some h
  refine g_callS (rest := []) hC mi_X11_within (k_X11_within hr1) tw_349 tw_350 dX11_isFirm_4 rfl rfl ⟨by decide, by decide⟩ (Nat.le_of_ble_eq_true rfl) ⟨by decide, by decide⟩ ?_
  obtain ⟨hv4, h⟩ := gd_some h
  cases h
  exact g_zret hC hR hv4 dX11_isFirm_7 (by decide) (by decide)

theorem mi_X1_handOn : MI yX1_handOn cX1_handOn 5 (some .int) 3 := ⟨tw_673, tw_9, by decide +kernel, by decide +kernel, by decide +kernel⟩
noncomputable def f_X1_handOn (S : Wd) (a0 : Nat) (a1 : Int32) (a2 : Int32) (a3 : Int32) : Option (Int32 × Wd) := gd (nk S 100 (3 : Int32).toNatClampNeg) (ltS (sN S (3 : Int32).toNatClampNeg) (fun S2 => gd (ix S2 (wn S) 100 (0 : Int32)) (ltS (sI S2 (wn S) (0 : Int32).toNatClampNeg a1) (fun S5 => gd (ix S5 (wn S) 100 (1 : Int32)) (ltS (sI S5 (wn S) (1 : Int32).toNatClampNeg a2) (fun S8 => gd (ix S8 (wn S) 100 (2 : Int32)) (ltS (sI S8 (wn S) (2 : Int32).toNatClampNeg a3) (fun S11 => gd (ob S11 a0 1) (Option.bind (wO S11 a0 1) (fun q14 => gd (ob S11 q14 8) (bd2 (f_X8_add S11 q14 (wn S)) (fun r19 S17 => some (r19, S17)))))))))))))
set_option maxRecDepth 100000 in
set_option maxHeartbeats 4000000 in
theorem k_X1_handOn {S : Wd} {a0 : Nat} {a1 : Int32} {a2 : Int32} {a3 : Int32} {r : Int32} {S' : Wd} (h : f_X1_handOn S a0 a1 a2 a3 = some (r, S')) : Sp yX1_handOn cX1_handOn 5 (some .int) 5 121 2 203 [.ref a0, .int a1, .int a2, .int a3] S (some (.int r)) S' := by
  unfold f_X1_handOn at h
  refine Sp.of (by decide +kernel) (Nat.le_of_ble_eq_true rfl) ?_
  intro b hC hin hR
  show G b 0 [(0, .ref a0), (1, .int a1), (2, .int a2), (3, .int a3)] [] S 0 0
  refine g_iconst (v := (3 : Int32)) hC dX1_handOn_0 (by decide) ?_
  obtain ⟨hk1, h⟩ := gd_some h
  refine g_newi hC tw_53 dX1_handOn_1 (by decide) (by decide) hk1.1 hk1.2 (by decide) (by decide) ?_
  refine g_name (fun S2 eS3 => ?_)
  have h := ltS_use eS3 h
  refine g_dup hC dX1_handOn_3 rfl ?_
  refine g_iconst (v := (0 : Int32)) hC dX1_handOn_4 (by decide) ?_
  refine g_iload_n hC dX1_handOn_5 rfl ?_
  obtain ⟨hx4, h⟩ := gd_some h
  refine g_iast hC dX1_handOn_6 hx4.1 hx4.2 ?_
  refine g_name (fun S5 eS6 => ?_)
  have h := ltS_use eS6 h
  refine g_dup hC dX1_handOn_7 rfl ?_
  refine g_iconst (v := (1 : Int32)) hC dX1_handOn_8 (by decide) ?_
  refine g_iload_n hC dX1_handOn_9 rfl ?_
  obtain ⟨hx7, h⟩ := gd_some h
  refine g_iast hC dX1_handOn_10 hx7.1 hx7.2 ?_
  refine g_name (fun S8 eS9 => ?_)
  have h := ltS_use eS9 h
  refine g_dup hC dX1_handOn_11 rfl ?_
  refine g_iconst (v := (2 : Int32)) hC dX1_handOn_12 (by decide) ?_
  refine g_iload_n hC dX1_handOn_13 rfl ?_
  obtain ⟨hx10, h⟩ := gd_some h
  refine g_iast hC dX1_handOn_14 hx10.1 hx10.2 ?_
  refine g_name (fun S11 eS12 => ?_)
  have h := ltS_use eS12 h
  refine g_astore (L' := [(4, .ref (wn S)), (0, .ref a0), (1, .int a1), (2, .int a2), (3, .int a3)]) hC dX1_handOn_15 (by decide) rfl ?_
  refine g_aload_n hC dX1_handOn_17 rfl ?_
  obtain ⟨ho13, h⟩ := gd_some h
  obtain ⟨q14, hq15, h⟩ := Option.bind_eq_some_iff.mp h
  refine g_getr (k := 1) (q := q14) hC ck_X1 (by decide) tw_208 rfl (by decide) dX1_handOn_18 ho13 hq15 ?_
  refine g_aload hC dX1_handOn_21 rfl ?_
  obtain ⟨ho18, h⟩ := gd_some h
  obtain ⟨r19, S17, hr16, h⟩ := bd2_some h
  refine g_callV (rest := []) hC mi_X8_add (k_X8_add hr16) ck_X8.1 (by decide) ho18 tw_674 tw_420 tw_421 dX1_handOn_23 rfl rfl ⟨by decide, by decide⟩ (Nat.le_of_ble_eq_true rfl) ⟨by decide, by decide⟩ ?_
  cases h
  exact g_iret hC hR dX1_handOn_26 (by decide) (by decide)

theorem mi_X11_contract : MI yX11_contract cX11_contract 4 (some .int) 3 := ⟨tw_666, tw_1, by decide +kernel, by decide +kernel, by decide +kernel⟩
noncomputable def f_X11_contract (S : Wd) (a0 : Nat) (a1 : Int32) (a2 : Int32) (a3 : Int32) : Option (Int32 × Wd) := gd (ob S a0 11) (Option.bind (wO S a0 3) (fun q2 => gd (ob S q2 8) (bd2 (f_X8_has S q2 a1) (fun r7 S5 => if r7 = 0 then (gd (ob S5 a0 11) (bd2 (f_X11_told S5 a0 (-100001 : Int32)) (fun r12 S10 => some (r12, S10)))) else (bd2 (f_X11_isFirm S5 a2) (fun r15 S14 => if r15 = 0 then (gd (ob S14 a0 11) (bd2 (f_X11_told S14 a0 (-100001 : Int32)) (fun r20 S18 => some (r20, S18)))) else (bd2 (f_X11_isFirm S14 a3) (fun r23 S22 => if r23 = 0 then (gd (ob S22 a0 11) (bd2 (f_X11_told S22 a0 (-100001 : Int32)) (fun r44 S42 => some (r44, S42)))) else (if a2 = a3 then (gd (ob S22 a0 11) (bd2 (f_X11_told S22 a0 (-100003 : Int32)) (fun r40 S38 => some (r40, S38)))) else (gd (ob S22 a0 11) (Option.bind (wO S22 a0 7) (fun q27 => gd (ob S22 q27 1) (bd2 (f_X1_handOn S22 q27 a1 a2 a3) (fun r32 S30 => gd (ob S30 a0 11) (bd2 (f_X11_told S30 a0 r32) (fun r36 S34 => some (r36, S34)))))))))))))))))
set_option maxRecDepth 100000 in
set_option maxHeartbeats 4000000 in
theorem k_X11_contract {S : Wd} {a0 : Nat} {a1 : Int32} {a2 : Int32} {a3 : Int32} {r : Int32} {S' : Wd} (h : f_X11_contract S a0 a1 a2 a3 = some (r, S')) : Sp yX11_contract cX11_contract 4 (some .int) 6 145 2 203 [.ref a0, .int a1, .int a2, .int a3] S (some (.int r)) S' := by
  unfold f_X11_contract at h
  refine Sp.of (by decide +kernel) (Nat.le_of_ble_eq_true rfl) ?_
  intro b hC hin hR
  show G b 0 [(0, .ref a0), (1, .int a1), (2, .int a2), (3, .int a3)] [] S 0 0
  refine g_aload_n hC dX11_contract_0 rfl ?_
  obtain ⟨ho1, h⟩ := gd_some h
  obtain ⟨q2, hq3, h⟩ := Option.bind_eq_some_iff.mp h
  refine g_getr (k := 3) (q := q2) hC ck_X11 (by decide) tw_305 rfl (by decide) dX11_contract_1 ho1 hq3 ?_
  refine g_iload_n hC dX11_contract_4 rfl ?_
  obtain ⟨ho6, h⟩ := gd_some h
  obtain ⟨r7, S5, hr4, h⟩ := bd2_some h
  refine g_callV (rest := []) hC mi_X8_has (k_X8_has hr4) ck_X8.1 (by decide) ho6 tw_430 tw_431 tw_432 dX11_contract_5 rfl rfl ⟨by decide, by decide⟩ (Nat.le_of_ble_eq_true rfl) ⟨by decide, by decide⟩ ?_
  refine g_if_eq (tgt := 25) hC dX11_contract_8 (by decide) (fun hc8 => ?_) (fun hc8 => ?_)
  · rw [if_pos hc8] at h
    refine g_aload_n hC dX11_contract_25 rfl ?_
    refine g_ldc hC tw_352 dX11_contract_26 ?_
    obtain ⟨ho11, h⟩ := gd_some h
    obtain ⟨r12, S10, hr9, h⟩ := bd2_some h
    refine g_callV (rest := []) hC mi_X11_told (k_X11_told hr9) ck_X11.1 (by decide) ho11 tw_353 tw_355 ts_0 dX11_contract_28 rfl rfl ⟨by decide, by decide⟩ (Nat.le_of_ble_eq_true rfl) ⟨by decide, by decide⟩ ?_
    cases h
    exact g_iret hC hR dX11_contract_31 (by decide) (by decide)
  · rw [if_neg hc8] at h
    refine g_iload_n hC dX11_contract_11 rfl ?_
    obtain ⟨r15, S14, hr13, h⟩ := bd2_some h
    refine g_callS (rest := []) hC mi_X11_isFirm (k_X11_isFirm hr13) tw_667 tw_668 dX11_contract_12 rfl rfl ⟨by decide, by decide⟩ (Nat.le_of_ble_eq_true rfl) ⟨by decide, by decide⟩ ?_
    refine g_if_eq (tgt := 25) hC dX11_contract_15 (by decide) (fun hc16 => ?_) (fun hc16 => ?_)
    · rw [if_pos hc16] at h
      refine g_aload_n hC dX11_contract_25 rfl ?_
      refine g_ldc hC tw_352 dX11_contract_26 ?_
      obtain ⟨ho19, h⟩ := gd_some h
      obtain ⟨r20, S18, hr17, h⟩ := bd2_some h
      refine g_callV (rest := []) hC mi_X11_told (k_X11_told hr17) ck_X11.1 (by decide) ho19 tw_353 tw_355 ts_0 dX11_contract_28 rfl rfl ⟨by decide, by decide⟩ (Nat.le_of_ble_eq_true rfl) ⟨by decide, by decide⟩ ?_
      cases h
      exact g_iret hC hR dX11_contract_31 (by decide) (by decide)
    · rw [if_neg hc16] at h
      refine g_iload_n hC dX11_contract_18 rfl ?_
      obtain ⟨r23, S22, hr21, h⟩ := bd2_some h
      refine g_callS (rest := []) hC mi_X11_isFirm (k_X11_isFirm hr21) tw_667 tw_668 dX11_contract_19 rfl rfl ⟨by decide, by decide⟩ (Nat.le_of_ble_eq_true rfl) ⟨by decide, by decide⟩ ?_
      refine g_if_ne (tgt := 32) hC dX11_contract_22 (by decide) (fun hc24 => ?_) (fun hc24 => ?_)
      · rw [if_neg hc24] at h
        refine g_iload_n hC dX11_contract_32 rfl ?_
        refine g_iload_n hC dX11_contract_33 rfl ?_
        refine g_icmp_ne (tgt := 44) hC dX11_contract_34 (by decide) (fun hc25 => ?_) (fun hc25 => ?_)
        · rw [if_neg hc25] at h
          refine g_aload_n hC dX11_contract_44 rfl ?_
          refine g_aload_n hC dX11_contract_45 rfl ?_
          obtain ⟨ho26, h⟩ := gd_some h
          obtain ⟨q27, hq28, h⟩ := Option.bind_eq_some_iff.mp h
          refine g_getr (k := 7) (q := q27) hC ck_X11 (by decide) tw_309 rfl (by decide) dX11_contract_46 ho26 hq28 ?_
          refine g_iload_n hC dX11_contract_49 rfl ?_
          refine g_iload_n hC dX11_contract_50 rfl ?_
          refine g_iload_n hC dX11_contract_51 rfl ?_
          obtain ⟨ho31, h⟩ := gd_some h
          obtain ⟨r32, S30, hr29, h⟩ := bd2_some h
          refine g_callV (rest := [.ref a0]) hC mi_X1_handOn (k_X1_handOn hr29) ck_X1.1 (by decide) ho31 tw_670 tw_671 tw_672 dX11_contract_52 rfl rfl ⟨by decide, by decide⟩ (Nat.le_of_ble_eq_true rfl) ⟨by decide, by decide⟩ ?_
          obtain ⟨ho35, h⟩ := gd_some h
          obtain ⟨r36, S34, hr33, h⟩ := bd2_some h
          refine g_callV (rest := []) hC mi_X11_told (k_X11_told hr33) ck_X11.1 (by decide) ho35 tw_353 tw_355 ts_0 dX11_contract_55 rfl rfl ⟨by decide, by decide⟩ (Nat.le_of_ble_eq_true rfl) ⟨by decide, by decide⟩ ?_
          cases h
          exact g_iret hC hR dX11_contract_58 (by decide) (by decide)
        · rw [if_pos hc25] at h
          refine g_aload_n hC dX11_contract_37 rfl ?_
          refine g_ldc hC tw_462 dX11_contract_38 ?_
          obtain ⟨ho39, h⟩ := gd_some h
          obtain ⟨r40, S38, hr37, h⟩ := bd2_some h
          refine g_callV (rest := []) hC mi_X11_told (k_X11_told hr37) ck_X11.1 (by decide) ho39 tw_353 tw_355 ts_0 dX11_contract_40 rfl rfl ⟨by decide, by decide⟩ (Nat.le_of_ble_eq_true rfl) ⟨by decide, by decide⟩ ?_
          cases h
          exact g_iret hC hR dX11_contract_43 (by decide) (by decide)
      · rw [if_pos hc24] at h
        refine g_aload_n hC dX11_contract_25 rfl ?_
        refine g_ldc hC tw_352 dX11_contract_26 ?_
        obtain ⟨ho43, h⟩ := gd_some h
        obtain ⟨r44, S42, hr41, h⟩ := bd2_some h
        refine g_callV (rest := []) hC mi_X11_told (k_X11_told hr41) ck_X11.1 (by decide) ho43 tw_353 tw_355 ts_0 dX11_contract_28 rfl rfl ⟨by decide, by decide⟩ (Nat.le_of_ble_eq_true rfl) ⟨by decide, by decide⟩ ?_
        cases h
        exact g_iret hC hR dX11_contract_31 (by decide) (by decide)

theorem mi_X1_firstUnused : MI yX1_firstUnused cX1_firstUnused 5 (some .int) 3 := ⟨tw_686, tw_9, by decide +kernel, by decide +kernel, by decide +kernel⟩
noncomputable def B_X1_firstUnused_0 (S : Wd) (a0 : Nat) (a1 : Int32) (a2 : Int32) (a3 : Int32) : Option ((Int32 × Wd) ⊕ Cs) := some (.inr (1, [a0], [a1, a2, a3, (0 : Int32)], S))
noncomputable def B_X1_firstUnused_1 (S : Wd) (x0 : Nat) (x1 : Int32) (x2 : Int32) (x3 : Int32) (x4 : Int32) : Option ((Int32 × Wd) ⊕ Cs) := gd (ob S x0 1) (Option.bind (wO S x0 1) (fun q2 => gd (ob S q2 8) (bd2 (f_X8_count S q2) (fun r7 S5 => if r7 ≤ x4 then (some (.inl ((-1 : Int32), S5))) else (gd (ob S5 x0 1) (Option.bind (wO S5 x0 1) (fun q10 => gd (ob S5 q10 8) (bd2 (f_X8_at S5 q10 x4 (0 : Int32)) (fun r15 S13 => if r15 = x1 then (gd (ob S13 x0 1) (Option.bind (wO S13 x0 1) (fun q18 => gd (ob S13 q18 8) (bd2 (f_X8_at S13 q18 x4 (1 : Int32)) (fun r23 S21 => if r23 = x2 then (if (x3 &&& ((1 : Int32) <<< (x4 &&& 31))) = 0 then (some (.inl (x4, S21))) else (some (.inr (1, [x0], [x1, x2, x3, (x4 + (1 : Int32))], S21)))) else (some (.inr (1, [x0], [x1, x2, x3, (x4 + (1 : Int32))], S21)))))))) else (some (.inr (1, [x0], [x1, x2, x3, (x4 + (1 : Int32))], S13))))))))))))
noncomputable def B_X1_firstUnused : Cs → Option ((Int32 × Wd) ⊕ Cs)
  | (0, [a0], [a1, a2, a3], S) => B_X1_firstUnused_0 S a0 a1 a2 a3
  | (1, [x0], [x1, x2, x3, x4], S) => B_X1_firstUnused_1 S x0 x1 x2 x3 x4
  | _ => none
def P_X1_firstUnused : Cs → Option (Nat × List (Nat × Value) × Wd × Nat × Nat)
  | (0, [a0], [a1, a2, a3], S) => some (0, [(0, .ref a0), (1, .int a1), (2, .int a2), (3, .int a3)], S, 0, 0)
  | (1, [x0], [x1, x2, x3, x4], S) => some (3, [(0, .ref x0), (1, .int x1), (2, .int x2), (3, .int x3), (4, .int x4)], S, 0, 0)
  | _ => none
noncomputable def f_X1_firstUnused (S : Wd) (a0 : Nat) (a1 : Int32) (a2 : Int32) (a3 : Int32) : Option (Int32 × Wd) := ru B_X1_firstUnused (0, [a0], [a1, a2, a3], S)
abbrev N_X1_firstUnused (b : Bd) (r : Int32 × Wd) (c : (Int32 × Wd) ⊕ Cs) : Prop := match c with
  | .inl r' => r' = r
  | .inr s' => ∀ pc L S kc ks, P_X1_firstUnused s' = some (pc, L, S, kc, ks) → G b pc L [] S kc ks
set_option maxRecDepth 100000 in
set_option maxHeartbeats 4000000 in
theorem w_X1_firstUnused_0 {b : Bd} {r : Int32 × Wd} (hC : CX b yX1_firstUnused.cls cX1_firstUnused 5 { frames := 2, cells := 0, slots := 0, locals := 44 }) (hin : yX1_firstUnused.name = "<init>" → b.2.2.2.2.2.2.2.2.1.name = "<init>") (hR : RT b (some .int) (some (.int r.1)) r.2 0 0) {S : Wd} {a0 : Nat} {a1 : Int32} {a2 : Int32} {a3 : Int32} {c : (Int32 × Wd) ⊕ Cs} (h : B_X1_firstUnused_0 S a0 a1 a2 a3 = some c) (hk : N_X1_firstUnused b r c) : G b 0 [(0, .ref a0), (1, .int a1), (2, .int a2), (3, .int a3)] [] S 0 0 := by
  unfold B_X1_firstUnused_0 at h
  refine g_iconst (v := (0 : Int32)) hC dX1_firstUnused_0 (by decide) ?_
  refine g_istore (L' := [(4, .int (0 : Int32)), (0, .ref a0), (1, .int a1), (2, .int a2), (3, .int a3)]) hC dX1_firstUnused_1 (by decide) rfl ?_
  cases h
  refine g_pick (L' := [(0, .ref a0), (1, .int a1), (2, .int a2), (3, .int a3), (4, .int (0 : Int32))]) [1, 2, 3, 4, 0] rfl ?_
  exact hk _ _ _ _ _ rfl
set_option maxRecDepth 100000 in
set_option maxHeartbeats 4000000 in
theorem w_X1_firstUnused_1 {b : Bd} {r : Int32 × Wd} (hC : CX b yX1_firstUnused.cls cX1_firstUnused 5 { frames := 2, cells := 0, slots := 0, locals := 44 }) (hin : yX1_firstUnused.name = "<init>" → b.2.2.2.2.2.2.2.2.1.name = "<init>") (hR : RT b (some .int) (some (.int r.1)) r.2 0 0) {S : Wd} {x0 : Nat} {x1 : Int32} {x2 : Int32} {x3 : Int32} {x4 : Int32} {c : (Int32 × Wd) ⊕ Cs} (h : B_X1_firstUnused_1 S x0 x1 x2 x3 x4 = some c) (hk : N_X1_firstUnused b r c) : G b 3 [(0, .ref x0), (1, .int x1), (2, .int x2), (3, .int x3), (4, .int x4)] [] S 0 0 := by
  unfold B_X1_firstUnused_1 at h
  refine g_iload hC dX1_firstUnused_3 rfl ?_
  refine g_aload_n hC dX1_firstUnused_5 rfl ?_
  obtain ⟨ho1, h⟩ := gd_some h
  obtain ⟨q2, hq3, h⟩ := Option.bind_eq_some_iff.mp h
  refine g_getr (k := 1) (q := q2) hC ck_X1 (by decide) tw_208 rfl (by decide) dX1_firstUnused_6 ho1 hq3 ?_
  obtain ⟨ho6, h⟩ := gd_some h
  obtain ⟨r7, S5, hr4, h⟩ := bd2_some h
  refine g_callV (rest := [.int x4]) hC mi_X8_count (k_X8_count hr4) ck_X8.1 (by decide) ho6 tw_687 tw_452 tw_453 dX1_firstUnused_9 rfl rfl ⟨by decide, by decide⟩ (Nat.le_of_ble_eq_true rfl) ⟨by decide, by decide⟩ ?_
  refine g_icmp_ge (tgt := 61) hC dX1_firstUnused_12 (by decide) (fun hc8 => ?_) (fun hc8 => ?_)
  · rw [if_pos hc8] at h
    refine g_iconst (v := (-1 : Int32)) hC dX1_firstUnused_61 (by decide) ?_
    cases h
    subst hk
    exact g_iret hC hR dX1_firstUnused_62 (by decide) (by decide)
  · rw [if_neg hc8] at h
    refine g_aload_n hC dX1_firstUnused_15 rfl ?_
    obtain ⟨ho9, h⟩ := gd_some h
    obtain ⟨q10, hq11, h⟩ := Option.bind_eq_some_iff.mp h
    refine g_getr (k := 1) (q := q10) hC ck_X1 (by decide) tw_208 rfl (by decide) dX1_firstUnused_16 ho9 hq11 ?_
    refine g_iload hC dX1_firstUnused_19 rfl ?_
    refine g_iconst (v := (0 : Int32)) hC dX1_firstUnused_21 (by decide) ?_
    obtain ⟨ho14, h⟩ := gd_some h
    obtain ⟨r15, S13, hr12, h⟩ := bd2_some h
    refine g_callV (rest := []) hC mi_X8_at (k_X8_at hr12) ck_X8.1 (by decide) ho14 tw_688 tw_435 tw_436 dX1_firstUnused_22 rfl rfl ⟨by decide, by decide⟩ (Nat.le_of_ble_eq_true rfl) ⟨by decide, by decide⟩ ?_
    refine g_iload_n hC dX1_firstUnused_25 rfl ?_
    refine g_icmp_ne (tgt := 55) hC dX1_firstUnused_26 (by decide) (fun hc16 => ?_) (fun hc16 => ?_)
    · rw [if_neg hc16] at h
      refine g_iinc (v := (1 : Int32)) (L' := [(4, .int (x4 + (1 : Int32))), (0, .ref x0), (1, .int x1), (2, .int x2), (3, .int x3)]) hC dX1_firstUnused_55 rfl (by decide) (by decide) rfl ?_
      refine g_goto (tgt := 3) hC dX1_firstUnused_58 (by decide) ?_
      cases h
      refine g_pick (L' := [(0, .ref x0), (1, .int x1), (2, .int x2), (3, .int x3), (4, .int (x4 + (1 : Int32)))]) [1, 2, 3, 4, 0] rfl ?_
      exact hk _ _ _ _ _ rfl
    · rw [if_pos hc16] at h
      refine g_aload_n hC dX1_firstUnused_29 rfl ?_
      obtain ⟨ho17, h⟩ := gd_some h
      obtain ⟨q18, hq19, h⟩ := Option.bind_eq_some_iff.mp h
      refine g_getr (k := 1) (q := q18) hC ck_X1 (by decide) tw_208 rfl (by decide) dX1_firstUnused_30 ho17 hq19 ?_
      refine g_iload hC dX1_firstUnused_33 rfl ?_
      refine g_iconst (v := (1 : Int32)) hC dX1_firstUnused_35 (by decide) ?_
      obtain ⟨ho22, h⟩ := gd_some h
      obtain ⟨r23, S21, hr20, h⟩ := bd2_some h
      refine g_callV (rest := []) hC mi_X8_at (k_X8_at hr20) ck_X8.1 (by decide) ho22 tw_688 tw_435 tw_436 dX1_firstUnused_36 rfl rfl ⟨by decide, by decide⟩ (Nat.le_of_ble_eq_true rfl) ⟨by decide, by decide⟩ ?_
      refine g_iload_n hC dX1_firstUnused_39 rfl ?_
      refine g_icmp_ne (tgt := 55) hC dX1_firstUnused_40 (by decide) (fun hc24 => ?_) (fun hc24 => ?_)
      · rw [if_neg hc24] at h
        refine g_iinc (v := (1 : Int32)) (L' := [(4, .int (x4 + (1 : Int32))), (0, .ref x0), (1, .int x1), (2, .int x2), (3, .int x3)]) hC dX1_firstUnused_55 rfl (by decide) (by decide) rfl ?_
        refine g_goto (tgt := 3) hC dX1_firstUnused_58 (by decide) ?_
        cases h
        refine g_pick (L' := [(0, .ref x0), (1, .int x1), (2, .int x2), (3, .int x3), (4, .int (x4 + (1 : Int32)))]) [1, 2, 3, 4, 0] rfl ?_
        exact hk _ _ _ _ _ rfl
      · rw [if_pos hc24] at h
        refine g_iload_n hC dX1_firstUnused_43 rfl ?_
        refine g_iconst (v := (1 : Int32)) hC dX1_firstUnused_44 (by decide) ?_
        refine g_iload hC dX1_firstUnused_45 rfl ?_
        refine g_ishl hC dX1_firstUnused_47 ?_
        refine g_iand hC dX1_firstUnused_48 ?_
        refine g_if_ne (tgt := 55) hC dX1_firstUnused_49 (by decide) (fun hc25 => ?_) (fun hc25 => ?_)
        · rw [if_neg hc25] at h
          refine g_iinc (v := (1 : Int32)) (L' := [(4, .int (x4 + (1 : Int32))), (0, .ref x0), (1, .int x1), (2, .int x2), (3, .int x3)]) hC dX1_firstUnused_55 rfl (by decide) (by decide) rfl ?_
          refine g_goto (tgt := 3) hC dX1_firstUnused_58 (by decide) ?_
          cases h
          refine g_pick (L' := [(0, .ref x0), (1, .int x1), (2, .int x2), (3, .int x3), (4, .int (x4 + (1 : Int32)))]) [1, 2, 3, 4, 0] rfl ?_
          exact hk _ _ _ _ _ rfl
        · rw [if_pos hc25] at h
          refine g_iload hC dX1_firstUnused_52 rfl ?_
          cases h
          subst hk
          exact g_iret hC hR dX1_firstUnused_54 (by decide) (by decide)
theorem w_X1_firstUnused {b : Bd} {r : Int32 × Wd} (hC : CX b yX1_firstUnused.cls cX1_firstUnused 5 { frames := 2, cells := 0, slots := 0, locals := 44 }) (hin : yX1_firstUnused.name = "<init>" → b.2.2.2.2.2.2.2.2.1.name = "<init>") (hR : RT b (some .int) (some (.int r.1)) r.2 0 0) {s : Cs} {c : (Int32 × Wd) ⊕ Cs} (h : B_X1_firstUnused s = some c) (hk : N_X1_firstUnused b r c) : ∀ pc L S kc ks, P_X1_firstUnused s = some (pc, L, S, kc, ks) → G b pc L [] S kc ks := by
  intro pc L S kc ks hp
  unfold B_X1_firstUnused at h
  split at h
  · cases hp
    exact w_X1_firstUnused_0 hC hin hR h hk
  · cases hp
    exact w_X1_firstUnused_1 hC hin hR h hk
  · cases h
theorem k_X1_firstUnused {S : Wd} {a0 : Nat} {a1 : Int32} {a2 : Int32} {a3 : Int32} {r : Int32} {S' : Wd} (h : f_X1_firstUnused S a0 a1 a2 a3 = some (r, S')) : Sp yX1_firstUnused cX1_firstUnused 5 (some .int) 2 44 0 0 [.ref a0, .int a1, .int a2, .int a3] S (some (.int r)) S' := by
  unfold f_X1_firstUnused at h
  refine Sp.of (by decide +kernel) (Nat.le_of_ble_eq_true rfl) ?_
  intro b hC hin hR
  exact ru_ind (P := fun s q0 => q0 = (r, S') → ∀ pc L S kc ks, P_X1_firstUnused s = some (pc, L, S, kc, ks) → G b pc L [] S kc ks) (fun s q0 hB e => w_X1_firstUnused (r := (r, S')) hC hin hR hB e) (fun s s' q0 hB ih e => w_X1_firstUnused (r := (r, S')) hC hin hR hB (ih e)) h rfl _ _ _ _ _ rfl
