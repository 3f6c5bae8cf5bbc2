theorem mi_X12_findRows : MI yX12_findRows cX12_findRows 8 none 0 := ⟨tw_1198, tw_14, by decide +kernel, by decide +kernel, by decide +kernel⟩
noncomputable def B_X12_findRows_0 (S : Wd) (a0 : Nat) : Option ((Wd) ⊕ Cs) := gd (ob S a0 12) (Option.bind (f_X12_findFar S a0) (fun S2 => some (.inr (1, [a0], [(0 : Int32)], S2))))
noncomputable def B_X12_findRows_1 (S : Wd) (x0 : Nat) (x1 : Int32) : Option ((Wd) ⊕ Cs) := gd (ob S x0 12) (Option.bind (wO S x0 0) (fun q5 => gd (ix S q5 100 (64 : Int32)) (if (wI S q5 (64 : Int32).toNatClampNeg) ≤ x1 then (some (.inl S)) else (some (.inr (2, [x0], [x1, (0 : Int32)], S))))))
noncomputable def B_X12_findRows_2 (S : Wd) (x0 : Nat) (x1 : Int32) (x2 : Int32) : Option ((Wd) ⊕ Cs) := if (81 : Int32) ≤ x2 then (some (.inr (1, [x0], [(x1 + (1 : Int32))], S))) else (if 0 ≤ ((x2 / (9 : Int32)) - (1 : Int32)) then (gd (ob S x0 12) (Option.bind (wO S x0 0) (fun q12 => gd (ix S q12 100 (65 : Int32)) (if (wI S q12 (65 : Int32).toNatClampNeg) ≤ ((x2 / (9 : Int32)) - (1 : Int32)) then (some (.inr (3, [x0], [x1, x2, ((x2 / (9 : Int32)) - (1 : Int32)), ((irm x2 (9 : Int32)) - (1 : Int32)), (((81 : Int32) * x1) + x2), (0 : Int32)], S))) else (gd (ob S x0 12) (Option.bind (wO S x0 0) (fun q17 => gd (ix S q17 100 (65 : Int32)) (if (wI S q17 (65 : Int32).toNatClampNeg) ≤ ((irm x2 (9 : Int32)) - (1 : Int32)) then (some (.inr (3, [x0], [x1, x2, ((x2 / (9 : Int32)) - (1 : Int32)), ((irm x2 (9 : Int32)) - (1 : Int32)), (((81 : Int32) * x1) + x2), (0 : Int32)], S))) else (gd (ob S x0 12) (bd2 (f_X12_refused S x0 x1 ((x2 / (9 : Int32)) - (1 : Int32)) ((irm x2 (9 : Int32)) - (1 : Int32))) (fun r24 S22 => if r24 = 0 then (some (.inr (3, [x0], [x1, x2, ((x2 / (9 : Int32)) - (1 : Int32)), ((irm x2 (9 : Int32)) - (1 : Int32)), (((81 : Int32) * x1) + x2), (1 : Int32)], S22))) else (some (.inr (3, [x0], [x1, x2, ((x2 / (9 : Int32)) - (1 : Int32)), ((irm x2 (9 : Int32)) - (1 : Int32)), (((81 : Int32) * x1) + x2), (0 : Int32)], S22)))))))))))))) else (if 0 ≤ ((irm x2 (9 : Int32)) - (1 : Int32)) then (some (.inr (3, [x0], [x1, x2, ((x2 / (9 : Int32)) - (1 : Int32)), ((irm x2 (9 : Int32)) - (1 : Int32)), (((81 : Int32) * x1) + x2), (0 : Int32)], S))) else (gd (ob S x0 12) (Option.bind (wO S x0 0) (fun q28 => gd (ix S q28 100 (65 : Int32)) (if (wI S q28 (65 : Int32).toNatClampNeg) ≤ ((x2 / (9 : Int32)) - (1 : Int32)) then (some (.inr (3, [x0], [x1, x2, ((x2 / (9 : Int32)) - (1 : Int32)), ((irm x2 (9 : Int32)) - (1 : Int32)), (((81 : Int32) * x1) + x2), (0 : Int32)], S))) else (gd (ob S x0 12) (Option.bind (wO S x0 0) (fun q33 => gd (ix S q33 100 (65 : Int32)) (if (wI S q33 (65 : Int32).toNatClampNeg) ≤ ((irm x2 (9 : Int32)) - (1 : Int32)) then (some (.inr (3, [x0], [x1, x2, ((x2 / (9 : Int32)) - (1 : Int32)), ((irm x2 (9 : Int32)) - (1 : Int32)), (((81 : Int32) * x1) + x2), (0 : Int32)], S))) else (gd (ob S x0 12) (bd2 (f_X12_refused S x0 x1 ((x2 / (9 : Int32)) - (1 : Int32)) ((irm x2 (9 : Int32)) - (1 : Int32))) (fun r40 S38 => if r40 = 0 then (some (.inr (3, [x0], [x1, x2, ((x2 / (9 : Int32)) - (1 : Int32)), ((irm x2 (9 : Int32)) - (1 : Int32)), (((81 : Int32) * x1) + x2), (1 : Int32)], S38))) else (some (.inr (3, [x0], [x1, x2, ((x2 / (9 : Int32)) - (1 : Int32)), ((irm x2 (9 : Int32)) - (1 : Int32)), (((81 : Int32) * x1) + x2), (0 : Int32)], S38))))))))))))))))
noncomputable def B_X12_findRows_3 (S : Wd) (x0 : Nat) (x1 : Int32) (x2 : Int32) (x3 : Int32) (x4 : Int32) (x5 : Int32) (x6 : Int32) : Option ((Wd) ⊕ Cs) := if x6 = 0 then (some (.inr (4, [x0], [x1, x2, x3, x4, x5, x6, (0 : Int32)], S))) else (gd (ob S x0 12) (bd2 (f_X12_drives S x0 x1 x3 x4) (fun r46 S44 => if r46 = 0 then (some (.inr (4, [x0], [x1, x2, x3, x4, x5, x6, (1 : Int32)], S44))) else (some (.inr (4, [x0], [x1, x2, x3, x4, x5, x6, (0 : Int32)], S44))))))
noncomputable def B_X12_findRows_4 (S : Wd) (x0 : Nat) (x1 : Int32) (x2 : Int32) (x3 : Int32) (x4 : Int32) (x5 : Int32) (x6 : Int32) (x7 : Int32) : Option ((Wd) ⊕ Cs) := gd (ob S x0 12) (Option.bind (wO S x0 15) (fun q49 => if x7 = 0 then (if x2 = 0 then (gd (ix S q49 101 x5) (ltS (sI S q49 x5.toNatClampNeg (vp_nar .boolean (1 : Int32))) (fun S60 => some (.inr (5, [x0], [x1, x2, x3, x4, x5, x6, x7], S60))))) else (gd (ix S q49 101 x5) (ltS (sI S q49 x5.toNatClampNeg (vp_nar .boolean (0 : Int32))) (fun S57 => some (.inr (5, [x0], [x1, x2, x3, x4, x5, x6, x7], S57)))))) else (gd (ix S q49 101 x5) (ltS (sI S q49 x5.toNatClampNeg (vp_nar .boolean (1 : Int32))) (fun S53 => some (.inr (5, [x0], [x1, x2, x3, x4, x5, x6, x7], S53)))))))
noncomputable def B_X12_findRows_5 (S : Wd) (x0 : Nat) (x1 : Int32) (x2 : Int32) (x3 : Int32) (x4 : Int32) (x5 : Int32) (x6 : Int32) (x7 : Int32) : Option ((Wd) ⊕ Cs) := gd (ob S x0 12) (Option.bind (wO S x0 16) (fun q63 => if x7 = 0 then (gd (ix S q63 100 x5) (ltS (sI S q63 x5.toNatClampNeg (0 : Int32)) (fun S67 => some (.inr (6, [x0], [x1, x2, x3, x4, x5, x6, x7], S67))))) else (gd (ob S x0 12) (bd2 (f_X12_valueOf S x0 x3 x4) (fun r72 S70 => gd (ix S70 q63 100 x5) (ltS (sI S70 q63 x5.toNatClampNeg r72) (fun S74 => some (.inr (6, [x0], [x1, x2, x3, x4, x5, x6, x7], S74)))))))))
noncomputable def B_X12_findRows_6 (S : Wd) (x0 : Nat) (x1 : Int32) (x2 : Int32) (x3 : Int32) (x4 : Int32) (x5 : Int32) (x6 : Int32) (x7 : Int32) : Option ((Wd) ⊕ Cs) := gd (ob S x0 12) (Option.bind (wO S x0 17) (fun q77 => if x7 = 0 then (gd (ix S q77 100 x5) (ltS (sI S q77 x5.toNatClampNeg (0 : Int32)) (fun S81 => some (.inr (7, [x0], [x1, x2, x3, x4, x5, x6, x7], S81))))) else (gd (ob S x0 12) (gd (ix S q77 100 x5) (ltS (sI S q77 x5.toNatClampNeg (wI S x0 11)) (fun S85 => some (.inr (7, [x0], [x1, x2, x3, x4, x5, x6, x7], S85))))))))
noncomputable def B_X12_findRows_7 (S : Wd) (x0 : Nat) (x1 : Int32) (x2 : Int32) (x3 : Int32) (x4 : Int32) (x5 : Int32) (x6 : Int32) (x7 : Int32) : Option ((Wd) ⊕ Cs) := some (.inr (2, [x0], [x1, (x2 + (1 : Int32))], S))
noncomputable def B_X12_findRows : Cs → Option ((Wd) ⊕ Cs)
  | (0, [a0], [], S) => B_X12_findRows_0 S a0
  | (1, [x0], [x1], S) => B_X12_findRows_1 S x0 x1
  | (2, [x0], [x1, x2], S) => B_X12_findRows_2 S x0 x1 x2
  | (3, [x0], [x1, x2, x3, x4, x5, x6], S) => B_X12_findRows_3 S x0 x1 x2 x3 x4 x5 x6
  | (4, [x0], [x1, x2, x3, x4, x5, x6, x7], S) => B_X12_findRows_4 S x0 x1 x2 x3 x4 x5 x6 x7
  | (5, [x0], [x1, x2, x3, x4, x5, x6, x7], S) => B_X12_findRows_5 S x0 x1 x2 x3 x4 x5 x6 x7
  | (6, [x0], [x1, x2, x3, x4, x5, x6, x7], S) => B_X12_findRows_6 S x0 x1 x2 x3 x4 x5 x6 x7
  | (7, [x0], [x1, x2, x3, x4, x5, x6, x7], S) => B_X12_findRows_7 S x0 x1 x2 x3 x4 x5 x6 x7
  | _ => none
def P_X12_findRows : Cs → Option (Nat × List (Nat × Value) × Wd × Nat × Nat)
  | (0, [a0], [], S) => some (0, [(0, .ref a0)], S, 0, 0)
  | (1, [x0], [x1], S) => some (6, [(0, .ref x0), (1, .int x1)], S, 0, 0)
  | (2, [x0], [x1, x2], S) => some (19, [(0, .ref x0), (1, .int x1), (2, .int x2)], S, 0, 0)
  | (3, [x0], [x1, x2, x3, x4, x5, x6], S) => some (98, [(0, .ref x0), (1, .int x1), (2, .int x2), (3, .int x3), (4, .int x4), (5, .int x5), (6, .int x6)], S, 0, 0)
  | (4, [x0], [x1, x2, x3, x4, x5, x6, x7], S) => some (121, [(0, .ref x0), (1, .int x1), (2, .int x2), (3, .int x3), (4, .int x4), (5, .int x5), (6, .int x6), (7, .int x7)], S, 0, 0)
  | (5, [x0], [x1, x2, x3, x4, x5, x6, x7], S) => some (142, [(0, .ref x0), (1, .int x1), (2, .int x2), (3, .int x3), (4, .int x4), (5, .int x5), (6, .int x6), (7, .int x7)], S, 0, 0)
  | (6, [x0], [x1, x2, x3, x4, x5, x6, x7], S) => some (165, [(0, .ref x0), (1, .int x1), (2, .int x2), (3, .int x3), (4, .int x4), (5, .int x5), (6, .int x6), (7, .int x7)], S, 0, 0)
  | (7, [x0], [x1, x2, x3, x4, x5, x6, x7], S) => some (185, [(0, .ref x0), (1, .int x1), (2, .int x2), (3, .int x3), (4, .int x4), (5, .int x5), (6, .int x6), (7, .int x7)], S, 0, 0)
  | _ => none
noncomputable def f_X12_findRows (S : Wd) (a0 : Nat) : Option (Wd) := ru B_X12_findRows (0, [a0], [], S)
abbrev N_X12_findRows (b : Bd) (r : Wd) (c : (Wd) ⊕ Cs) : Prop := match c with
  | .inl r' => r' = r
  | .inr s' => ∀ pc L S kc ks, P_X12_findRows s' = some (pc, L, S, kc, ks) → G b pc L [] S kc ks
set_option maxRecDepth 100000 in
set_option maxHeartbeats 4000000 in
theorem w_X12_findRows_0 {b : Bd} {r : Wd} (hC : CX b yX12_findRows.cls cX12_findRows 8 { frames := 4, cells := 0, slots := 0, locals := 92 }) (hin : yX12_findRows.name = "<init>" → b.2.2.2.2.2.2.2.2.1.name = "<init>") (hR : RT b none none r 0 0) {S : Wd} {a0 : Nat} {c : (Wd) ⊕ Cs} (h : B_X12_findRows_0 S a0 = some c) (hk : N_X12_findRows b r c) : G b 0 [(0, .ref a0)] [] S 0 0 := by
  unfold B_X12_findRows_0 at h
  refine g_aload_n hC dX12_findRows_0 rfl ?_
  obtain ⟨ho3, h⟩ := gd_some h
  obtain ⟨S2, hr1, h⟩ := Option.bind_eq_some_iff.mp h
  refine g_callV (rest := []) hC mi_X12_findFar (k_X12_findFar hr1) ck_X12.1 (by decide) ho3 tw_1092 tw_1094 ts_26 dX12_findRows_1 rfl rfl ⟨by decide, by decide⟩ (Nat.le_of_ble_eq_true rfl) ⟨by decide, by decide⟩ ?_
  refine g_iconst (v := (0 : Int32)) hC dX12_findRows_4 (by decide) ?_
  refine g_istore_n (L' := [(1, .int (0 : Int32)), (0, .ref a0)]) hC dX12_findRows_5 (by decide) rfl ?_
  cases h
  refine g_pick (L' := [(0, .ref a0), (1, .int (0 : Int32))]) [1, 0] rfl ?_
  exact hk _ _ _ _ _ rfl
set_option maxRecDepth 100000 in
set_option maxHeartbeats 4000000 in
theorem w_X12_findRows_1 {b : Bd} {r : Wd} (hC : CX b yX12_findRows.cls cX12_findRows 8 { frames := 4, cells := 0, slots := 0, locals := 92 }) (hin : yX12_findRows.name = "<init>" → b.2.2.2.2.2.2.2.2.1.name = "<init>") (hR : RT b none none r 0 0) {S : Wd} {x0 : Nat} {x1 : Int32} {c : (Wd) ⊕ Cs} (h : B_X12_findRows_1 S x0 x1 = some c) (hk : N_X12_findRows b r c) : G b 6 [(0, .ref x0), (1, .int x1)] [] S 0 0 := by
  unfold B_X12_findRows_1 at h
  refine g_iload_n hC dX12_findRows_6 rfl ?_
  refine g_aload_n hC dX12_findRows_7 rfl ?_
  obtain ⟨ho4, h⟩ := gd_some h
  obtain ⟨q5, hq6, h⟩ := Option.bind_eq_some_iff.mp h
  refine g_getr (k := 0) (q := q5) hC ck_X12 (by decide) tw_984 rfl (by decide) dX12_findRows_8 ho4 hq6 ?_
  refine g_bipush (v := (64 : Int32)) hC dX12_findRows_11 (by decide) ?_
  obtain ⟨hx7, h⟩ := gd_some h
  refine g_iald hC dX12_findRows_13 hx7.1 hx7.2 ?_
  refine g_icmp_ge (tgt := 197) hC dX12_findRows_14 (by decide) (fun hc8 => ?_) (fun hc8 => ?_)
  · rw [if_pos hc8] at h
    cases h
    subst hk
    exact g_vret hC hR dX12_findRows_197 (by decide) (by decide)
  · rw [if_neg hc8] at h
    refine g_iconst (v := (0 : Int32)) hC dX12_findRows_17 (by decide) ?_
    refine g_istore_n (L' := [(2, .int (0 : Int32)), (0, .ref x0), (1, .int x1)]) hC dX12_findRows_18 (by decide) rfl ?_
    cases h
    refine g_pick (L' := [(0, .ref x0), (1, .int x1), (2, .int (0 : Int32))]) [1, 2, 0] rfl ?_
    exact hk _ _ _ _ _ rfl
set_option maxRecDepth 100000 in
set_option maxHeartbeats 4000000 in
theorem w_X12_findRows_2 {b : Bd} {r : Wd} (hC : CX b yX12_findRows.cls cX12_findRows 8 { frames := 4, cells := 0, slots := 0, locals := 92 }) (hin : yX12_findRows.name = "<init>" → b.2.2.2.2.2.2.2.2.1.name = "<init>") (hR : RT b none none r 0 0) {S : Wd} {x0 : Nat} {x1 : Int32} {x2 : Int32} {c : (Wd) ⊕ Cs} (h : B_X12_findRows_2 S x0 x1 x2 = some c) (hk : N_X12_findRows b r c) : G b 19 [(0, .ref x0), (1, .int x1), (2, .int x2)] [] S 0 0 := by
  unfold B_X12_findRows_2 at h
  refine g_iload_n hC dX12_findRows_19 rfl ?_
  refine g_bipush (v := (81 : Int32)) hC dX12_findRows_20 (by decide) ?_
  refine g_icmp_ge (tgt := 191) hC dX12_findRows_22 (by decide) (fun hc9 => ?_) (fun hc9 => ?_)
  · rw [if_pos hc9] at h
    refine g_iinc (v := (1 : Int32)) (L' := [(1, .int (x1 + (1 : Int32))), (0, .ref x0), (2, .int x2)]) hC dX12_findRows_191 rfl (by decide) (by decide) rfl ?_
    refine g_goto (tgt := 6) hC dX12_findRows_194 (by decide) ?_
    cases h
    refine g_pick (L' := [(0, .ref x0), (1, .int (x1 + (1 : Int32)))]) [1, 0] rfl ?_
    exact hk _ _ _ _ _ rfl
  · rw [if_neg hc9] at h
    refine g_iload_n hC dX12_findRows_25 rfl ?_
    refine g_bipush (v := (9 : Int32)) hC dX12_findRows_26 (by decide) ?_
    refine g_idiv hC dX12_findRows_28 (by decide) ?_
    refine g_iconst (v := (1 : Int32)) hC dX12_findRows_29 (by decide) ?_
    refine g_isub hC dX12_findRows_30 ?_
    refine g_istore_n (L' := [(3, .int ((x2 / (9 : Int32)) - (1 : Int32))), (0, .ref x0), (1, .int x1), (2, .int x2)]) hC dX12_findRows_31 (by decide) rfl ?_
    refine g_iload_n hC dX12_findRows_32 rfl ?_
    refine g_bipush (v := (9 : Int32)) hC dX12_findRows_33 (by decide) ?_
    refine g_irm hC dX12_findRows_35 (by decide) ?_
    refine g_iconst (v := (1 : Int32)) hC dX12_findRows_36 (by decide) ?_
    refine g_isub hC dX12_findRows_37 ?_
    refine g_istore (L' := [(4, .int ((irm x2 (9 : Int32)) - (1 : Int32))), (3, .int ((x2 / (9 : Int32)) - (1 : Int32))), (0, .ref x0), (1, .int x1), (2, .int x2)]) hC dX12_findRows_38 (by decide) rfl ?_
    refine g_bipush (v := (81 : Int32)) hC dX12_findRows_40 (by decide) ?_
    refine g_iload_n hC dX12_findRows_42 rfl ?_
    refine g_imul hC dX12_findRows_43 ?_
    refine g_iload_n hC dX12_findRows_44 rfl ?_
    refine g_iadd hC dX12_findRows_45 ?_
    refine g_istore (L' := [(5, .int (((81 : Int32) * x1) + x2)), (4, .int ((irm x2 (9 : Int32)) - (1 : Int32))), (3, .int ((x2 / (9 : Int32)) - (1 : Int32))), (0, .ref x0), (1, .int x1), (2, .int x2)]) hC dX12_findRows_46 (by decide) rfl ?_
    refine g_iload_n hC dX12_findRows_48 rfl ?_
    refine g_if_ge (tgt := 57) hC dX12_findRows_49 (by decide) (fun hc10 => ?_) (fun hc10 => ?_)
    · rw [if_pos hc10] at h
      refine g_iload_n hC dX12_findRows_57 rfl ?_
      refine g_aload_n hC dX12_findRows_58 rfl ?_
      obtain ⟨ho11, h⟩ := gd_some h
      obtain ⟨q12, hq13, h⟩ := Option.bind_eq_some_iff.mp h
      refine g_getr (k := 0) (q := q12) hC ck_X12 (by decide) tw_984 rfl (by decide) dX12_findRows_59 ho11 hq13 ?_
      refine g_bipush (v := (65 : Int32)) hC dX12_findRows_62 (by decide) ?_
      obtain ⟨hx14, h⟩ := gd_some h
      refine g_iald hC dX12_findRows_64 hx14.1 hx14.2 ?_
      refine g_icmp_ge (tgt := 95) hC dX12_findRows_65 (by decide) (fun hc15 => ?_) (fun hc15 => ?_)
      · rw [if_pos hc15] at h
        refine g_iconst (v := (0 : Int32)) hC dX12_findRows_95 (by decide) ?_
        refine g_istore (L' := [(6, .int (0 : Int32)), (5, .int (((81 : Int32) * x1) + x2)), (4, .int ((irm x2 (9 : Int32)) - (1 : Int32))), (3, .int ((x2 / (9 : Int32)) - (1 : Int32))), (0, .ref x0), (1, .int x1), (2, .int x2)]) hC dX12_findRows_96 (by decide) rfl ?_
        cases h
        refine g_pick (L' := [(0, .ref x0), (1, .int x1), (2, .int x2), (3, .int ((x2 / (9 : Int32)) - (1 : Int32))), (4, .int ((irm x2 (9 : Int32)) - (1 : Int32))), (5, .int (((81 : Int32) * x1) + x2)), (6, .int (0 : Int32))]) [4, 5, 6, 3, 2, 1, 0] rfl ?_
        exact hk _ _ _ _ _ rfl
      · rw [if_neg hc15] at h
        refine g_iload hC dX12_findRows_68 rfl ?_
        refine g_aload_n hC dX12_findRows_70 rfl ?_
        obtain ⟨ho16, h⟩ := gd_some h
        obtain ⟨q17, hq18, h⟩ := Option.bind_eq_some_iff.mp h
        refine g_getr (k := 0) (q := q17) hC ck_X12 (by decide) tw_984 rfl (by decide) dX12_findRows_71 ho16 hq18 ?_
        refine g_bipush (v := (65 : Int32)) hC dX12_findRows_74 (by decide) ?_
        obtain ⟨hx19, h⟩ := gd_some h
        refine g_iald hC dX12_findRows_76 hx19.1 hx19.2 ?_
        refine g_icmp_ge (tgt := 95) hC dX12_findRows_77 (by decide) (fun hc20 => ?_) (fun hc20 => ?_)
        · rw [if_pos hc20] at h
          refine g_iconst (v := (0 : Int32)) hC dX12_findRows_95 (by decide) ?_
          refine g_istore (L' := [(6, .int (0 : Int32)), (5, .int (((81 : Int32) * x1) + x2)), (4, .int ((irm x2 (9 : Int32)) - (1 : Int32))), (3, .int ((x2 / (9 : Int32)) - (1 : Int32))), (0, .ref x0), (1, .int x1), (2, .int x2)]) hC dX12_findRows_96 (by decide) rfl ?_
          cases h
          refine g_pick (L' := [(0, .ref x0), (1, .int x1), (2, .int x2), (3, .int ((x2 / (9 : Int32)) - (1 : Int32))), (4, .int ((irm x2 (9 : Int32)) - (1 : Int32))), (5, .int (((81 : Int32) * x1) + x2)), (6, .int (0 : Int32))]) [4, 5, 6, 3, 2, 1, 0] rfl ?_
          exact hk _ _ _ _ _ rfl
        · rw [if_neg hc20] at h
          refine g_aload_n hC dX12_findRows_80 rfl ?_
          refine g_iload_n hC dX12_findRows_81 rfl ?_
          refine g_iload_n hC dX12_findRows_82 rfl ?_
          refine g_iload hC dX12_findRows_83 rfl ?_
          obtain ⟨ho23, h⟩ := gd_some h
          obtain ⟨r24, S22, hr21, h⟩ := bd2_some h
          refine g_callV (rest := []) hC mi_X12_refused (k_X12_refused hr21) ck_X12.1 (by decide) ho23 tw_1159 tw_1161 ts_31 dX12_findRows_85 rfl rfl ⟨by decide, by decide⟩ (Nat.le_of_ble_eq_true rfl) ⟨by decide, by decide⟩ ?_
          refine g_if_ne (tgt := 95) hC dX12_findRows_88 (by decide) (fun hc25 => ?_) (fun hc25 => ?_)
          · rw [if_neg hc25] at h
            refine g_iconst (v := (0 : Int32)) hC dX12_findRows_95 (by decide) ?_
            refine g_istore (L' := [(6, .int (0 : Int32)), (5, .int (((81 : Int32) * x1) + x2)), (4, .int ((irm x2 (9 : Int32)) - (1 : Int32))), (3, .int ((x2 / (9 : Int32)) - (1 : Int32))), (0, .ref x0), (1, .int x1), (2, .int x2)]) hC dX12_findRows_96 (by decide) rfl ?_
            cases h
            refine g_pick (L' := [(0, .ref x0), (1, .int x1), (2, .int x2), (3, .int ((x2 / (9 : Int32)) - (1 : Int32))), (4, .int ((irm x2 (9 : Int32)) - (1 : Int32))), (5, .int (((81 : Int32) * x1) + x2)), (6, .int (0 : Int32))]) [4, 5, 6, 3, 2, 1, 0] rfl ?_
            exact hk _ _ _ _ _ rfl
          · rw [if_pos hc25] at h
            refine g_iconst (v := (1 : Int32)) hC dX12_findRows_91 (by decide) ?_
            refine g_goto (tgt := 96) hC dX12_findRows_92 (by decide) ?_
            refine g_istore (L' := [(6, .int (1 : Int32)), (5, .int (((81 : Int32) * x1) + x2)), (4, .int ((irm x2 (9 : Int32)) - (1 : Int32))), (3, .int ((x2 / (9 : Int32)) - (1 : Int32))), (0, .ref x0), (1, .int x1), (2, .int x2)]) hC dX12_findRows_96 (by decide) rfl ?_
            cases h
            refine g_pick (L' := [(0, .ref x0), (1, .int x1), (2, .int x2), (3, .int ((x2 / (9 : Int32)) - (1 : Int32))), (4, .int ((irm x2 (9 : Int32)) - (1 : Int32))), (5, .int (((81 : Int32) * x1) + x2)), (6, .int (1 : Int32))]) [4, 5, 6, 3, 2, 1, 0] rfl ?_
            exact hk _ _ _ _ _ rfl
    · rw [if_neg hc10] at h
      refine g_iload hC dX12_findRows_52 rfl ?_
      refine g_if_ge (tgt := 95) hC dX12_findRows_54 (by decide) (fun hc26 => ?_) (fun hc26 => ?_)
      · rw [if_pos hc26] at h
        refine g_iconst (v := (0 : Int32)) hC dX12_findRows_95 (by decide) ?_
        refine g_istore (L' := [(6, .int (0 : Int32)), (5, .int (((81 : Int32) * x1) + x2)), (4, .int ((irm x2 (9 : Int32)) - (1 : Int32))), (3, .int ((x2 / (9 : Int32)) - (1 : Int32))), (0, .ref x0), (1, .int x1), (2, .int x2)]) hC dX12_findRows_96 (by decide) rfl ?_
        cases h
        refine g_pick (L' := [(0, .ref x0), (1, .int x1), (2, .int x2), (3, .int ((x2 / (9 : Int32)) - (1 : Int32))), (4, .int ((irm x2 (9 : Int32)) - (1 : Int32))), (5, .int (((81 : Int32) * x1) + x2)), (6, .int (0 : Int32))]) [4, 5, 6, 3, 2, 1, 0] rfl ?_
        exact hk _ _ _ _ _ rfl
      · rw [if_neg hc26] at h
        refine g_iload_n hC dX12_findRows_57 rfl ?_
        refine g_aload_n hC dX12_findRows_58 rfl ?_
        obtain ⟨ho27, h⟩ := gd_some h
        obtain ⟨q28, hq29, h⟩ := Option.bind_eq_some_iff.mp h
        refine g_getr (k := 0) (q := q28) hC ck_X12 (by decide) tw_984 rfl (by decide) dX12_findRows_59 ho27 hq29 ?_
        refine g_bipush (v := (65 : Int32)) hC dX12_findRows_62 (by decide) ?_
        obtain ⟨hx30, h⟩ := gd_some h
        refine g_iald hC dX12_findRows_64 hx30.1 hx30.2 ?_
        refine g_icmp_ge (tgt := 95) hC dX12_findRows_65 (by decide) (fun hc31 => ?_) (fun hc31 => ?_)
        · rw [if_pos hc31] at h
          refine g_iconst (v := (0 : Int32)) hC dX12_findRows_95 (by decide) ?_
          refine g_istore (L' := [(6, .int (0 : Int32)), (5, .int (((81 : Int32) * x1) + x2)), (4, .int ((irm x2 (9 : Int32)) - (1 : Int32))), (3, .int ((x2 / (9 : Int32)) - (1 : Int32))), (0, .ref x0), (1, .int x1), (2, .int x2)]) hC dX12_findRows_96 (by decide) rfl ?_
          cases h
          refine g_pick (L' := [(0, .ref x0), (1, .int x1), (2, .int x2), (3, .int ((x2 / (9 : Int32)) - (1 : Int32))), (4, .int ((irm x2 (9 : Int32)) - (1 : Int32))), (5, .int (((81 : Int32) * x1) + x2)), (6, .int (0 : Int32))]) [4, 5, 6, 3, 2, 1, 0] rfl ?_
          exact hk _ _ _ _ _ rfl
        · rw [if_neg hc31] at h
          refine g_iload hC dX12_findRows_68 rfl ?_
          refine g_aload_n hC dX12_findRows_70 rfl ?_
          obtain ⟨ho32, h⟩ := gd_some h
          obtain ⟨q33, hq34, h⟩ := Option.bind_eq_some_iff.mp h
          refine g_getr (k := 0) (q := q33) hC ck_X12 (by decide) tw_984 rfl (by decide) dX12_findRows_71 ho32 hq34 ?_
          refine g_bipush (v := (65 : Int32)) hC dX12_findRows_74 (by decide) ?_
          obtain ⟨hx35, h⟩ := gd_some h
          refine g_iald hC dX12_findRows_76 hx35.1 hx35.2 ?_
          refine g_icmp_ge (tgt := 95) hC dX12_findRows_77 (by decide) (fun hc36 => ?_) (fun hc36 => ?_)
          · rw [if_pos hc36] at h
            refine g_iconst (v := (0 : Int32)) hC dX12_findRows_95 (by decide) ?_
            refine g_istore (L' := [(6, .int (0 : Int32)), (5, .int (((81 : Int32) * x1) + x2)), (4, .int ((irm x2 (9 : Int32)) - (1 : Int32))), (3, .int ((x2 / (9 : Int32)) - (1 : Int32))), (0, .ref x0), (1, .int x1), (2, .int x2)]) hC dX12_findRows_96 (by decide) rfl ?_
            cases h
            refine g_pick (L' := [(0, .ref x0), (1, .int x1), (2, .int x2), (3, .int ((x2 / (9 : Int32)) - (1 : Int32))), (4, .int ((irm x2 (9 : Int32)) - (1 : Int32))), (5, .int (((81 : Int32) * x1) + x2)), (6, .int (0 : Int32))]) [4, 5, 6, 3, 2, 1, 0] rfl ?_
            exact hk _ _ _ _ _ rfl
          · rw [if_neg hc36] at h
            refine g_aload_n hC dX12_findRows_80 rfl ?_
            refine g_iload_n hC dX12_findRows_81 rfl ?_
            refine g_iload_n hC dX12_findRows_82 rfl ?_
            refine g_iload hC dX12_findRows_83 rfl ?_
            obtain ⟨ho39, h⟩ := gd_some h
            obtain ⟨r40, S38, hr37, h⟩ := bd2_some h
            refine g_callV (rest := []) hC mi_X12_refused (k_X12_refused hr37) ck_X12.1 (by decide) ho39 tw_1159 tw_1161 ts_31 dX12_findRows_85 rfl rfl ⟨by decide, by decide⟩ (Nat.le_of_ble_eq_true rfl) ⟨by decide, by decide⟩ ?_
            refine g_if_ne (tgt := 95) hC dX12_findRows_88 (by decide) (fun hc41 => ?_) (fun hc41 => ?_)
            · rw [if_neg hc41] at h
              refine g_iconst (v := (0 : Int32)) hC dX12_findRows_95 (by decide) ?_
              refine g_istore (L' := [(6, .int (0 : Int32)), (5, .int (((81 : Int32) * x1) + x2)), (4, .int ((irm x2 (9 : Int32)) - (1 : Int32))), (3, .int ((x2 / (9 : Int32)) - (1 : Int32))), (0, .ref x0), (1, .int x1), (2, .int x2)]) hC dX12_findRows_96 (by decide) rfl ?_
              cases h
              refine g_pick (L' := [(0, .ref x0), (1, .int x1), (2, .int x2), (3, .int ((x2 / (9 : Int32)) - (1 : Int32))), (4, .int ((irm x2 (9 : Int32)) - (1 : Int32))), (5, .int (((81 : Int32) * x1) + x2)), (6, .int (0 : Int32))]) [4, 5, 6, 3, 2, 1, 0] rfl ?_
              exact hk _ _ _ _ _ rfl
            · rw [if_pos hc41] at h
              refine g_iconst (v := (1 : Int32)) hC dX12_findRows_91 (by decide) ?_
              refine g_goto (tgt := 96) hC dX12_findRows_92 (by decide) ?_
              refine g_istore (L' := [(6, .int (1 : Int32)), (5, .int (((81 : Int32) * x1) + x2)), (4, .int ((irm x2 (9 : Int32)) - (1 : Int32))), (3, .int ((x2 / (9 : Int32)) - (1 : Int32))), (0, .ref x0), (1, .int x1), (2, .int x2)]) hC dX12_findRows_96 (by decide) rfl ?_
              cases h
              refine g_pick (L' := [(0, .ref x0), (1, .int x1), (2, .int x2), (3, .int ((x2 / (9 : Int32)) - (1 : Int32))), (4, .int ((irm x2 (9 : Int32)) - (1 : Int32))), (5, .int (((81 : Int32) * x1) + x2)), (6, .int (1 : Int32))]) [4, 5, 6, 3, 2, 1, 0] rfl ?_
              exact hk _ _ _ _ _ rfl
set_option maxRecDepth 100000 in
set_option maxHeartbeats 4000000 in
theorem w_X12_findRows_3 {b : Bd} {r : Wd} (hC : CX b yX12_findRows.cls cX12_findRows 8 { frames := 4, cells := 0, slots := 0, locals := 92 }) (hin : yX12_findRows.name = "<init>" → b.2.2.2.2.2.2.2.2.1.name = "<init>") (hR : RT b none none r 0 0) {S : Wd} {x0 : Nat} {x1 : Int32} {x2 : Int32} {x3 : Int32} {x4 : Int32} {x5 : Int32} {x6 : Int32} {c : (Wd) ⊕ Cs} (h : B_X12_findRows_3 S x0 x1 x2 x3 x4 x5 x6 = some c) (hk : N_X12_findRows b r c) : G b 98 [(0, .ref x0), (1, .int x1), (2, .int x2), (3, .int x3), (4, .int x4), (5, .int x5), (6, .int x6)] [] S 0 0 := by
  unfold B_X12_findRows_3 at h
  refine g_iload hC dX12_findRows_98 rfl ?_
  refine g_if_eq (tgt := 118) hC dX12_findRows_100 (by decide) (fun hc42 => ?_) (fun hc42 => ?_)
  · rw [if_pos hc42] at h
    refine g_iconst (v := (0 : Int32)) hC dX12_findRows_118 (by decide) ?_
    refine g_istore (L' := [(7, .int (0 : Int32)), (0, .ref x0), (1, .int x1), (2, .int x2), (3, .int x3), (4, .int x4), (5, .int x5), (6, .int x6)]) hC dX12_findRows_119 (by decide) rfl ?_
    cases h
    refine g_pick (L' := [(0, .ref x0), (1, .int x1), (2, .int x2), (3, .int x3), (4, .int x4), (5, .int x5), (6, .int x6), (7, .int (0 : Int32))]) [1, 2, 3, 4, 5, 6, 7, 0] rfl ?_
    exact hk _ _ _ _ _ rfl
  · rw [if_neg hc42] at h
    refine g_aload_n hC dX12_findRows_103 rfl ?_
    refine g_iload_n hC dX12_findRows_104 rfl ?_
    refine g_iload_n hC dX12_findRows_105 rfl ?_
    refine g_iload hC dX12_findRows_106 rfl ?_
    obtain ⟨ho45, h⟩ := gd_some h
    obtain ⟨r46, S44, hr43, h⟩ := bd2_some h
    refine g_callV (rest := []) hC mi_X12_drives (k_X12_drives hr43) ck_X12.1 (by decide) ho45 tw_1163 tw_1165 ts_32 dX12_findRows_108 rfl rfl ⟨by decide, by decide⟩ (Nat.le_of_ble_eq_true rfl) ⟨by decide, by decide⟩ ?_
    refine g_if_ne (tgt := 118) hC dX12_findRows_111 (by decide) (fun hc47 => ?_) (fun hc47 => ?_)
    · rw [if_neg hc47] at h
      refine g_iconst (v := (0 : Int32)) hC dX12_findRows_118 (by decide) ?_
      refine g_istore (L' := [(7, .int (0 : Int32)), (0, .ref x0), (1, .int x1), (2, .int x2), (3, .int x3), (4, .int x4), (5, .int x5), (6, .int x6)]) hC dX12_findRows_119 (by decide) rfl ?_
      cases h
      refine g_pick (L' := [(0, .ref x0), (1, .int x1), (2, .int x2), (3, .int x3), (4, .int x4), (5, .int x5), (6, .int x6), (7, .int (0 : Int32))]) [1, 2, 3, 4, 5, 6, 7, 0] rfl ?_
      exact hk _ _ _ _ _ rfl
    · rw [if_pos hc47] at h
      refine g_iconst (v := (1 : Int32)) hC dX12_findRows_114 (by decide) ?_
      refine g_goto (tgt := 119) hC dX12_findRows_115 (by decide) ?_
      refine g_istore (L' := [(7, .int (1 : Int32)), (0, .ref x0), (1, .int x1), (2, .int x2), (3, .int x3), (4, .int x4), (5, .int x5), (6, .int x6)]) hC dX12_findRows_119 (by decide) rfl ?_
      cases h
      refine g_pick (L' := [(0, .ref x0), (1, .int x1), (2, .int x2), (3, .int x3), (4, .int x4), (5, .int x5), (6, .int x6), (7, .int (1 : Int32))]) [1, 2, 3, 4, 5, 6, 7, 0] rfl ?_
      exact hk _ _ _ _ _ rfl
set_option maxRecDepth 100000 in
set_option maxHeartbeats 4000000 in
theorem w_X12_findRows_4 {b : Bd} {r : Wd} (hC : CX b yX12_findRows.cls cX12_findRows 8 { frames := 4, cells := 0, slots := 0, locals := 92 }) (hin : yX12_findRows.name = "<init>" → b.2.2.2.2.2.2.2.2.1.name = "<init>") (hR : RT b none none r 0 0) {S : Wd} {x0 : Nat} {x1 : Int32} {x2 : Int32} {x3 : Int32} {x4 : Int32} {x5 : Int32} {x6 : Int32} {x7 : Int32} {c : (Wd) ⊕ Cs} (h : B_X12_findRows_4 S x0 x1 x2 x3 x4 x5 x6 x7 = some c) (hk : N_X12_findRows b r c) : G b 121 [(0, .ref x0), (1, .int x1), (2, .int x2), (3, .int x3), (4, .int x4), (5, .int x5), (6, .int x6), (7, .int x7)] [] S 0 0 := by
  unfold B_X12_findRows_4 at h
  refine g_aload_n hC dX12_findRows_121 rfl ?_
  obtain ⟨ho48, h⟩ := gd_some h
  obtain ⟨q49, hq50, h⟩ := Option.bind_eq_some_iff.mp h
  refine g_getr (k := 15) (q := q49) hC ck_X12 (by decide) tw_999 rfl (by decide) dX12_findRows_122 ho48 hq50 ?_
  refine g_iload hC dX12_findRows_125 rfl ?_
  refine g_iload hC dX12_findRows_127 rfl ?_
  refine g_if_ne (tgt := 136) hC dX12_findRows_129 (by decide) (fun hc51 => ?_) (fun hc51 => ?_)
  · rw [if_neg hc51] at h
    refine g_iconst (v := (1 : Int32)) hC dX12_findRows_136 (by decide) ?_
    refine g_goto (tgt := 141) hC dX12_findRows_137 (by decide) ?_
    obtain ⟨hx52, h⟩ := gd_some h
    refine g_zast hC dX12_findRows_141 hx52.1 hx52.2 ?_
    refine g_name (fun S53 eS54 => ?_)
    have h := ltS_use eS54 h
    cases h
    exact hk _ _ _ _ _ rfl
  · rw [if_pos hc51] at h
    refine g_iload_n hC dX12_findRows_132 rfl ?_
    refine g_if_ne (tgt := 140) hC dX12_findRows_133 (by decide) (fun hc55 => ?_) (fun hc55 => ?_)
    · rw [if_neg hc55] at h
      refine g_iconst (v := (0 : Int32)) hC dX12_findRows_140 (by decide) ?_
      obtain ⟨hx56, h⟩ := gd_some h
      refine g_zast hC dX12_findRows_141 hx56.1 hx56.2 ?_
      refine g_name (fun S57 eS58 => ?_)
      have h := ltS_use eS58 h
      cases h
      exact hk _ _ _ _ _ rfl
    · rw [if_pos hc55] at h
      refine g_iconst (v := (1 : Int32)) hC dX12_findRows_136 (by decide) ?_
      refine g_goto (tgt := 141) hC dX12_findRows_137 (by decide) ?_
      obtain ⟨hx59, h⟩ := gd_some h
      refine g_zast hC dX12_findRows_141 hx59.1 hx59.2 ?_
      refine g_name (fun S60 eS61 => ?_)
      have h := ltS_use eS61 h
      cases h
      exact hk _ _ _ _ _ rfl
set_option maxRecDepth 100000 in
set_option maxHeartbeats 4000000 in
theorem w_X12_findRows_5 {b : Bd} {r : Wd} (hC : CX b yX12_findRows.cls cX12_findRows 8 { frames := 4, cells := 0, slots := 0, locals := 92 }) (hin : yX12_findRows.name = "<init>" → b.2.2.2.2.2.2.2.2.1.name = "<init>") (hR : RT b none none r 0 0) {S : Wd} {x0 : Nat} {x1 : Int32} {x2 : Int32} {x3 : Int32} {x4 : Int32} {x5 : Int32} {x6 : Int32} {x7 : Int32} {c : (Wd) ⊕ Cs} (h : B_X12_findRows_5 S x0 x1 x2 x3 x4 x5 x6 x7 = some c) (hk : N_X12_findRows b r c) : G b 142 [(0, .ref x0), (1, .int x1), (2, .int x2), (3, .int x3), (4, .int x4), (5, .int x5), (6, .int x6), (7, .int x7)] [] S 0 0 := by
  unfold B_X12_findRows_5 at h
  refine g_aload_n hC dX12_findRows_142 rfl ?_
  obtain ⟨ho62, h⟩ := gd_some h
  obtain ⟨q63, hq64, h⟩ := Option.bind_eq_some_iff.mp h
  refine g_getr (k := 16) (q := q63) hC ck_X12 (by decide) tw_1000 rfl (by decide) dX12_findRows_143 ho62 hq64 ?_
  refine g_iload hC dX12_findRows_146 rfl ?_
  refine g_iload hC dX12_findRows_148 rfl ?_
  refine g_if_eq (tgt := 163) hC dX12_findRows_150 (by decide) (fun hc65 => ?_) (fun hc65 => ?_)
  · rw [if_pos hc65] at h
    refine g_iconst (v := (0 : Int32)) hC dX12_findRows_163 (by decide) ?_
    obtain ⟨hx66, h⟩ := gd_some h
    refine g_iast hC dX12_findRows_164 hx66.1 hx66.2 ?_
    refine g_name (fun S67 eS68 => ?_)
    have h := ltS_use eS68 h
    cases h
    exact hk _ _ _ _ _ rfl
  · rw [if_neg hc65] at h
    refine g_aload_n hC dX12_findRows_153 rfl ?_
    refine g_iload_n hC dX12_findRows_154 rfl ?_
    refine g_iload hC dX12_findRows_155 rfl ?_
    obtain ⟨ho71, h⟩ := gd_some h
    obtain ⟨r72, S70, hr69, h⟩ := bd2_some h
    refine g_callV (rest := [.int x5, .ref q63]) hC mi_X12_valueOf (k_X12_valueOf hr69) ck_X12.1 (by decide) ho71 tw_1183 tw_1185 ts_36 dX12_findRows_157 rfl rfl ⟨by decide, by decide⟩ (Nat.le_of_ble_eq_true rfl) ⟨by decide, by decide⟩ ?_
    refine g_goto (tgt := 164) hC dX12_findRows_160 (by decide) ?_
    obtain ⟨hx73, h⟩ := gd_some h
    refine g_iast hC dX12_findRows_164 hx73.1 hx73.2 ?_
    refine g_name (fun S74 eS75 => ?_)
    have h := ltS_use eS75 h
    cases h
    exact hk _ _ _ _ _ rfl
set_option maxRecDepth 100000 in
set_option maxHeartbeats 4000000 in
theorem w_X12_findRows_6 {b : Bd} {r : Wd} (hC : CX b yX12_findRows.cls cX12_findRows 8 { frames := 4, cells := 0, slots := 0, locals := 92 }) (hin : yX12_findRows.name = "<init>" → b.2.2.2.2.2.2.2.2.1.name = "<init>") (hR : RT b none none r 0 0) {S : Wd} {x0 : Nat} {x1 : Int32} {x2 : Int32} {x3 : Int32} {x4 : Int32} {x5 : Int32} {x6 : Int32} {x7 : Int32} {c : (Wd) ⊕ Cs} (h : B_X12_findRows_6 S x0 x1 x2 x3 x4 x5 x6 x7 = some c) (hk : N_X12_findRows b r c) : G b 165 [(0, .ref x0), (1, .int x1), (2, .int x2), (3, .int x3), (4, .int x4), (5, .int x5), (6, .int x6), (7, .int x7)] [] S 0 0 := by
  unfold B_X12_findRows_6 at h
  refine g_aload_n hC dX12_findRows_165 rfl ?_
  obtain ⟨ho76, h⟩ := gd_some h
  obtain ⟨q77, hq78, h⟩ := Option.bind_eq_some_iff.mp h
  refine g_getr (k := 17) (q := q77) hC ck_X12 (by decide) tw_1001 rfl (by decide) dX12_findRows_166 ho76 hq78 ?_
  refine g_iload hC dX12_findRows_169 rfl ?_
  refine g_iload hC dX12_findRows_171 rfl ?_
  refine g_if_eq (tgt := 183) hC dX12_findRows_173 (by decide) (fun hc79 => ?_) (fun hc79 => ?_)
  · rw [if_pos hc79] at h
    refine g_iconst (v := (0 : Int32)) hC dX12_findRows_183 (by decide) ?_
    obtain ⟨hx80, h⟩ := gd_some h
    refine g_iast hC dX12_findRows_184 hx80.1 hx80.2 ?_
    refine g_name (fun S81 eS82 => ?_)
    have h := ltS_use eS82 h
    cases h
    exact hk _ _ _ _ _ rfl
  · rw [if_neg hc79] at h
    refine g_aload_n hC dX12_findRows_176 rfl ?_
    obtain ⟨ho83, h⟩ := gd_some h
    refine g_geti (k := 11) hC ck_X12 (by decide) tw_995 rfl (by decide) dX12_findRows_177 ho83 ?_
    refine g_goto (tgt := 184) hC dX12_findRows_180 (by decide) ?_
    obtain ⟨hx84, h⟩ := gd_some h
    refine g_iast hC dX12_findRows_184 hx84.1 hx84.2 ?_
    refine g_name (fun S85 eS86 => ?_)
    have h := ltS_use eS86 h
    cases h
    exact hk _ _ _ _ _ rfl
set_option maxRecDepth 100000 in
set_option maxHeartbeats 4000000 in
theorem w_X12_findRows_7 {b : Bd} {r : Wd} (hC : CX b yX12_findRows.cls cX12_findRows 8 { frames := 4, cells := 0, slots := 0, locals := 92 }) (hin : yX12_findRows.name = "<init>" → b.2.2.2.2.2.2.2.2.1.name = "<init>") (hR : RT b none none r 0 0) {S : Wd} {x0 : Nat} {x1 : Int32} {x2 : Int32} {x3 : Int32} {x4 : Int32} {x5 : Int32} {x6 : Int32} {x7 : Int32} {c : (Wd) ⊕ Cs} (h : B_X12_findRows_7 S x0 x1 x2 x3 x4 x5 x6 x7 = some c) (hk : N_X12_findRows b r c) : G b 185 [(0, .ref x0), (1, .int x1), (2, .int x2), (3, .int x3), (4, .int x4), (5, .int x5), (6, .int x6), (7, .int x7)] [] S 0 0 := by
  unfold B_X12_findRows_7 at h
  refine g_iinc (v := (1 : Int32)) (L' := [(2, .int (x2 + (1 : Int32))), (0, .ref x0), (1, .int x1), (3, .int x3), (4, .int x4), (5, .int x5), (6, .int x6), (7, .int x7)]) hC dX12_findRows_185 rfl (by decide) (by decide) rfl ?_
  refine g_goto (tgt := 19) hC dX12_findRows_188 (by decide) ?_
  cases h
  refine g_pick (L' := [(0, .ref x0), (1, .int x1), (2, .int (x2 + (1 : Int32)))]) [1, 2, 0] rfl ?_
  exact hk _ _ _ _ _ rfl
theorem w_X12_findRows {b : Bd} {r : Wd} (hC : CX b yX12_findRows.cls cX12_findRows 8 { frames := 4, cells := 0, slots := 0, locals := 92 }) (hin : yX12_findRows.name = "<init>" → b.2.2.2.2.2.2.2.2.1.name = "<init>") (hR : RT b none none r 0 0) {s : Cs} {c : (Wd) ⊕ Cs} (h : B_X12_findRows s = some c) (hk : N_X12_findRows b r c) : ∀ pc L S kc ks, P_X12_findRows s = some (pc, L, S, kc, ks) → G b pc L [] S kc ks := by
  intro pc L S kc ks hp
  unfold B_X12_findRows at h
  split at h
  · cases hp
    exact w_X12_findRows_0 hC hin hR h hk
  · cases hp
    exact w_X12_findRows_1 hC hin hR h hk
  · cases hp
    exact w_X12_findRows_2 hC hin hR h hk
  · cases hp
    exact w_X12_findRows_3 hC hin hR h hk
  · cases hp
    exact w_X12_findRows_4 hC hin hR h hk
  · cases hp
    exact w_X12_findRows_5 hC hin hR h hk
  · cases hp
    exact w_X12_findRows_6 hC hin hR h hk
  · cases hp
    exact w_X12_findRows_7 hC hin hR h hk
  · cases h
theorem k_X12_findRows {S : Wd} {a0 : Nat} {S' : Wd} (h : f_X12_findRows S a0 = some S') : Sp yX12_findRows cX12_findRows 8 none 4 92 0 0 [.ref a0] S none S' := by
  unfold f_X12_findRows at h
  refine Sp.of (by decide +kernel) (Nat.le_of_ble_eq_true rfl) ?_
  intro b hC hin hR
  exact ru_ind (P := fun s q0 => q0 = S' → ∀ pc L S kc ks, P_X12_findRows s = some (pc, L, S, kc, ks) → G b pc L [] S kc ks) (fun s q0 hB e => w_X12_findRows (r := S') hC hin hR hB e) (fun s s' q0 hB ih e => w_X12_findRows (r := S') hC hin hR hB (ih e)) h rfl _ _ _ _ _ rfl

theorem mi_X12_given : MI yX12_given cX12_given 3 (some .int) 0 := ⟨tw_1202, tw_14, by decide +kernel, by decide +kernel, by decide +kernel⟩
noncomputable def B_X12_given_0 (S : Wd) (a0 : Nat) : Option ((Int32 × Wd) ⊕ Cs) := some (.inr (1, [a0], [(0 : Int32), (0 : Int32)], S))
noncomputable def B_X12_given_1 (S : Wd) (x0 : Nat) (x1 : Int32) (x2 : Int32) : Option ((Int32 × Wd) ⊕ Cs) := gd (ob S x0 12) (Option.bind (wO S x0 0) (fun q2 => gd (ix S q2 100 (65 : Int32)) (if (wI S q2 (65 : Int32).toNatClampNeg) ≤ x2 then (some (.inl (x1, S))) else (gd (ob S x0 12) (Option.bind (wO S x0 0) (fun q7 => bd2 (f_X12_ofLoad S x2 (10 : Int32)) (fun r11 S10 => gd (ix S10 q7 100 r11) (if (wI S10 q7 r11.toNatClampNeg) < 0 then (some (.inr (1, [x0], [(x1 ||| (0 : Int32)), (x2 + (1 : Int32))], S10))) else (some (.inr (1, [x0], [(x1 ||| ((1 : Int32) <<< (x2 &&& 31))), (x2 + (1 : Int32))], S10)))))))))))
noncomputable def B_X12_given : Cs → Option ((Int32 × Wd) ⊕ Cs)
  | (0, [a0], [], S) => B_X12_given_0 S a0
  | (1, [x0], [x1, x2], S) => B_X12_given_1 S x0 x1 x2
  | _ => none
def P_X12_given : Cs → Option (Nat × List (Nat × Value) × Wd × Nat × Nat)
  | (0, [a0], [], S) => some (0, [(0, .ref a0)], S, 0, 0)
  | (1, [x0], [x1, x2], S) => some (4, [(0, .ref x0), (1, .int x1), (2, .int x2)], S, 0, 0)
  | _ => none
noncomputable def f_X12_given (S : Wd) (a0 : Nat) : Option (Int32 × Wd) := ru B_X12_given (0, [a0], [], S)
abbrev N_X12_given (b : Bd) (r : Int32 × Wd) (c : (Int32 × Wd) ⊕ Cs) : Prop := match c with
  | .inl r' => r' = r
  | .inr s' => ∀ pc L S kc ks, P_X12_given s' = some (pc, L, S, kc, ks) → G b pc L [] S kc ks
set_option maxRecDepth 100000 in
set_option maxHeartbeats 4000000 in
theorem w_X12_given_0 {b : Bd} {r : Int32 × Wd} (hC : CX b yX12_given.cls cX12_given 3 { frames := 1, cells := 0, slots := 0, locals := 21 }) (hin : yX12_given.name = "<init>" → b.2.2.2.2.2.2.2.2.1.name = "<init>") (hR : RT b (some .int) (some (.int r.1)) r.2 0 0) {S : Wd} {a0 : Nat} {c : (Int32 × Wd) ⊕ Cs} (h : B_X12_given_0 S a0 = some c) (hk : N_X12_given b r c) : G b 0 [(0, .ref a0)] [] S 0 0 := by
  unfold B_X12_given_0 at h
  refine g_iconst (v := (0 : Int32)) hC dX12_given_0 (by decide) ?_
  refine g_istore_n (L' := [(1, .int (0 : Int32)), (0, .ref a0)]) hC dX12_given_1 (by decide) rfl ?_
  refine g_iconst (v := (0 : Int32)) hC dX12_given_2 (by decide) ?_
  refine g_istore_n (L' := [(2, .int (0 : Int32)), (1, .int (0 : Int32)), (0, .ref a0)]) hC dX12_given_3 (by decide) rfl ?_
  cases h
  refine g_pick (L' := [(0, .ref a0), (1, .int (0 : Int32)), (2, .int (0 : Int32))]) [2, 1, 0] rfl ?_
  exact hk _ _ _ _ _ rfl
set_option maxRecDepth 100000 in
set_option maxHeartbeats 4000000 in
theorem w_X12_given_1 {b : Bd} {r : Int32 × Wd} (hC : CX b yX12_given.cls cX12_given 3 { frames := 1, cells := 0, slots := 0, locals := 21 }) (hin : yX12_given.name = "<init>" → b.2.2.2.2.2.2.2.2.1.name = "<init>") (hR : RT b (some .int) (some (.int r.1)) r.2 0 0) {S : Wd} {x0 : Nat} {x1 : Int32} {x2 : Int32} {c : (Int32 × Wd) ⊕ Cs} (h : B_X12_given_1 S x0 x1 x2 = some c) (hk : N_X12_given b r c) : G b 4 [(0, .ref x0), (1, .int x1), (2, .int x2)] [] S 0 0 := by
  unfold B_X12_given_1 at h
  refine g_iload_n hC dX12_given_4 rfl ?_
  refine g_aload_n hC dX12_given_5 rfl ?_
  obtain ⟨ho1, h⟩ := gd_some h
  obtain ⟨q2, hq3, h⟩ := Option.bind_eq_some_iff.mp h
  refine g_getr (k := 0) (q := q2) hC ck_X12 (by decide) tw_984 rfl (by decide) dX12_given_6 ho1 hq3 ?_
  refine g_bipush (v := (65 : Int32)) hC dX12_given_9 (by decide) ?_
  obtain ⟨hx4, h⟩ := gd_some h
  refine g_iald hC dX12_given_11 hx4.1 hx4.2 ?_
  refine g_icmp_ge (tgt := 45) hC dX12_given_12 (by decide) (fun hc5 => ?_) (fun hc5 => ?_)
  · rw [if_pos hc5] at h
    refine g_iload_n hC dX12_given_45 rfl ?_
    cases h
    subst hk
    exact g_iret hC hR dX12_given_46 (by decide) (by decide)
  · rw [if_neg hc5] at h
    refine g_iload_n hC dX12_given_15 rfl ?_
    refine g_aload_n hC dX12_given_16 rfl ?_
    obtain ⟨ho6, h⟩ := gd_some h
    obtain ⟨q7, hq8, h⟩ := Option.bind_eq_some_iff.mp h
    refine g_getr (k := 0) (q := q7) hC ck_X12 (by decide) tw_984 rfl (by decide) dX12_given_17 ho6 hq8 ?_
    refine g_iload_n hC dX12_given_20 rfl ?_
    refine g_bipush (v := (10 : Int32)) hC dX12_given_21 (by decide) ?_
    obtain ⟨r11, S10, hr9, h⟩ := bd2_some h
    refine g_callS (rest := [.ref q7, .int x1]) hC mi_X12_ofLoad (k_X12_ofLoad hr9) tw_1123 tw_1124 dX12_given_23 rfl rfl ⟨by decide, by decide⟩ (Nat.le_of_ble_eq_true rfl) ⟨by decide, by decide⟩ ?_
    obtain ⟨hx12, h⟩ := gd_some h
    refine g_iald hC dX12_given_26 hx12.1 hx12.2 ?_
    refine g_if_lt (tgt := 36) hC dX12_given_27 (by decide) (fun hc13 => ?_) (fun hc13 => ?_)
    · rw [if_pos hc13] at h
      refine g_iconst (v := (0 : Int32)) hC dX12_given_36 (by decide) ?_
      refine g_ior hC dX12_given_37 ?_
      refine g_istore_n (L' := [(1, .int (x1 ||| (0 : Int32))), (0, .ref x0), (2, .int x2)]) hC dX12_given_38 (by decide) rfl ?_
      refine g_iinc (v := (1 : Int32)) (L' := [(2, .int (x2 + (1 : Int32))), (1, .int (x1 ||| (0 : Int32))), (0, .ref x0)]) hC dX12_given_39 rfl (by decide) (by decide) rfl ?_
      refine g_goto (tgt := 4) hC dX12_given_42 (by decide) ?_
      cases h
      refine g_pick (L' := [(0, .ref x0), (1, .int (x1 ||| (0 : Int32))), (2, .int (x2 + (1 : Int32)))]) [2, 1, 0] rfl ?_
      exact hk _ _ _ _ _ rfl
    · rw [if_neg hc13] at h
      refine g_iconst (v := (1 : Int32)) hC dX12_given_30 (by decide) ?_
      refine g_iload_n hC dX12_given_31 rfl ?_
      refine g_ishl hC dX12_given_32 ?_
      refine g_goto (tgt := 37) hC dX12_given_33 (by decide) ?_
      refine g_ior hC dX12_given_37 ?_
      refine g_istore_n (L' := [(1, .int (x1 ||| ((1 : Int32) <<< (x2 &&& 31)))), (0, .ref x0), (2, .int x2)]) hC dX12_given_38 (by decide) rfl ?_
      refine g_iinc (v := (1 : Int32)) (L' := [(2, .int (x2 + (1 : Int32))), (1, .int (x1 ||| ((1 : Int32) <<< (x2 &&& 31)))), (0, .ref x0)]) hC dX12_given_39 rfl (by decide) (by decide) rfl ?_
      refine g_goto (tgt := 4) hC dX12_given_42 (by decide) ?_
      cases h
      refine g_pick (L' := [(0, .ref x0), (1, .int (x1 ||| ((1 : Int32) <<< (x2 &&& 31)))), (2, .int (x2 + (1 : Int32)))]) [2, 1, 0] rfl ?_
      exact hk _ _ _ _ _ rfl
theorem w_X12_given {b : Bd} {r : Int32 × Wd} (hC : CX b yX12_given.cls cX12_given 3 { frames := 1, cells := 0, slots := 0, locals := 21 }) (hin : yX12_given.name = "<init>" → b.2.2.2.2.2.2.2.2.1.name = "<init>") (hR : RT b (some .int) (some (.int r.1)) r.2 0 0) {s : Cs} {c : (Int32 × Wd) ⊕ Cs} (h : B_X12_given s = some c) (hk : N_X12_given b r c) : ∀ pc L S kc ks, P_X12_given s = some (pc, L, S, kc, ks) → G b pc L [] S kc ks := by
  intro pc L S kc ks hp
  unfold B_X12_given at h
  split at h
  · cases hp
    exact w_X12_given_0 hC hin hR h hk
  · cases hp
    exact w_X12_given_1 hC hin hR h hk
  · cases h
theorem k_X12_given {S : Wd} {a0 : Nat} {r : Int32} {S' : Wd} (h : f_X12_given S a0 = some (r, S')) : Sp yX12_given cX12_given 3 (some .int) 1 21 0 0 [.ref a0] S (some (.int r)) S' := by
  unfold f_X12_given at h
  refine Sp.of (by decide +kernel) (Nat.le_of_ble_eq_true rfl) ?_
  intro b hC hin hR
  exact ru_ind (P := fun s q0 => q0 = (r, S') → ∀ pc L S kc ks, P_X12_given s = some (pc, L, S, kc, ks) → G b pc L [] S kc ks) (fun s q0 hB e => w_X12_given (r := (r, S')) hC hin hR hB e) (fun s s' q0 hB ih e => w_X12_given (r := (r, S')) hC hin hR hB (ih e)) h rfl _ _ _ _ _ rfl

theorem mi_X12_setOf : MI yX12_setOf cX12_setOf 1 (some .int) 1 := ⟨tw_1213, tw_14, by decide +kernel, by decide +kernel, by decide +kernel⟩
noncomputable def f_X12_setOf (S : Wd) (a0 : Int32) : Option (Int32 × Wd) := if (a0 / (9 : Int32)) ≤ 0 then (if (irm a0 (9 : Int32)) ≤ 0 then (some (((0 : Int32) ||| (0 : Int32)), S)) else (some (((0 : Int32) ||| ((1 : Int32) <<< (((irm a0 (9 : Int32)) - (1 : Int32)) &&& 31))), S))) else (if (irm a0 (9 : Int32)) ≤ 0 then (some ((((1 : Int32) <<< (((a0 / (9 : Int32)) - (1 : Int32)) &&& 31)) ||| (0 : Int32)), S)) else (some ((((1 : Int32) <<< (((a0 / (9 : Int32)) - (1 : Int32)) &&& 31)) ||| ((1 : Int32) <<< (((irm a0 (9 : Int32)) - (1 : Int32)) &&& 31))), S)))
set_option maxRecDepth 100000 in
set_option maxHeartbeats 4000000 in
theorem k_X12_setOf {S : Wd} {a0 : Int32} {r : Int32} {S' : Wd} (h : f_X12_setOf S a0 = some (r, S')) : Sp yX12_setOf cX12_setOf 1 (some .int) 0 0 0 0 [.int a0] S (some (.int r)) S' := by
  unfold f_X12_setOf at h
  refine Sp.of (by decide +kernel) (Nat.le_of_ble_eq_true rfl) ?_
  intro b hC hin hR
  show G b 0 [(0, .int a0)] [] S 0 0
  refine g_iload_n hC dX12_setOf_0 rfl ?_
  refine g_bipush (v := (9 : Int32)) hC dX12_setOf_1 (by decide) ?_
  refine g_idiv hC dX12_setOf_3 (by decide) ?_
  refine g_if_le (tgt := 18) hC dX12_setOf_4 (by decide) (fun hc1 => ?_) (fun hc1 => ?_)
  · rw [if_pos hc1] at h
    refine g_iconst (v := (0 : Int32)) hC dX12_setOf_18 (by decide) ?_
    refine g_iload_n hC dX12_setOf_19 rfl ?_
    refine g_bipush (v := (9 : Int32)) hC dX12_setOf_20 (by decide) ?_
    refine g_irm hC dX12_setOf_22 (by decide) ?_
    refine g_if_le (tgt := 37) hC dX12_setOf_23 (by decide) (fun hc2 => ?_) (fun hc2 => ?_)
    · rw [if_pos hc2] at h
      refine g_iconst (v := (0 : Int32)) hC dX12_setOf_37 (by decide) ?_
      refine g_ior hC dX12_setOf_38 ?_
      cases h
      exact g_iret hC hR dX12_setOf_39 (by decide) (by decide)
    · rw [if_neg hc2] at h
      refine g_iconst (v := (1 : Int32)) hC dX12_setOf_26 (by decide) ?_
      refine g_iload_n hC dX12_setOf_27 rfl ?_
      refine g_bipush (v := (9 : Int32)) hC dX12_setOf_28 (by decide) ?_
      refine g_irm hC dX12_setOf_30 (by decide) ?_
      refine g_iconst (v := (1 : Int32)) hC dX12_setOf_31 (by decide) ?_
      refine g_isub hC dX12_setOf_32 ?_
      refine g_ishl hC dX12_setOf_33 ?_
      refine g_goto (tgt := 38) hC dX12_setOf_34 (by decide) ?_
      refine g_ior hC dX12_setOf_38 ?_
      cases h
      exact g_iret hC hR dX12_setOf_39 (by decide) (by decide)
  · rw [if_neg hc1] at h
    refine g_iconst (v := (1 : Int32)) hC dX12_setOf_7 (by decide) ?_
    refine g_iload_n hC dX12_setOf_8 rfl ?_
    refine g_bipush (v := (9 : Int32)) hC dX12_setOf_9 (by decide) ?_
    refine g_idiv hC dX12_setOf_11 (by decide) ?_
    refine g_iconst (v := (1 : Int32)) hC dX12_setOf_12 (by decide) ?_
    refine g_isub hC dX12_setOf_13 ?_
    refine g_ishl hC dX12_setOf_14 ?_
    refine g_goto (tgt := 19) hC dX12_setOf_15 (by decide) ?_
    refine g_iload_n hC dX12_setOf_19 rfl ?_
    refine g_bipush (v := (9 : Int32)) hC dX12_setOf_20 (by decide) ?_
    refine g_irm hC dX12_setOf_22 (by decide) ?_
    refine g_if_le (tgt := 37) hC dX12_setOf_23 (by decide) (fun hc3 => ?_) (fun hc3 => ?_)
    · rw [if_pos hc3] at h
      refine g_iconst (v := (0 : Int32)) hC dX12_setOf_37 (by decide) ?_
      refine g_ior hC dX12_setOf_38 ?_
      cases h
      exact g_iret hC hR dX12_setOf_39 (by decide) (by decide)
    · rw [if_neg hc3] at h
      refine g_iconst (v := (1 : Int32)) hC dX12_setOf_26 (by decide) ?_
      refine g_iload_n hC dX12_setOf_27 rfl ?_
      refine g_bipush (v := (9 : Int32)) hC dX12_setOf_28 (by decide) ?_
      refine g_irm hC dX12_setOf_30 (by decide) ?_
      refine g_iconst (v := (1 : Int32)) hC dX12_setOf_31 (by decide) ?_
      refine g_isub hC dX12_setOf_32 ?_
      refine g_ishl hC dX12_setOf_33 ?_
      refine g_goto (tgt := 38) hC dX12_setOf_34 (by decide) ?_
      refine g_ior hC dX12_setOf_38 ?_
      cases h
      exact g_iret hC hR dX12_setOf_39 (by decide) (by decide)

theorem mi_X12_with : MI yX12_with cX12_with 4 (some .int) 3 := ⟨tw_1210, tw_14, by decide +kernel, by decide +kernel, by decide +kernel⟩
noncomputable def f_X12_with (S : Wd) (a0 : Nat) (a1 : Int32) (a2 : Int32) (a3 : Int32) : Option (Int32 × Wd) := gd (ob S a0 12) (Option.bind (wO S a0 16) (fun q2 => gd (ix S q2 100 (((81 : Int32) * a1) + a2)) (gd (ob S a0 12) (Option.bind (wO S a0 18) (fun q6 => bd2 (f_X12_setOf S a2) (fun r10 S9 => gd (ix S9 q6 100 (((256 : Int32) * (a1 + (1 : Int32))) + (a3 ||| r10))) (some (((wI S q2 (((81 : Int32) * a1) + a2).toNatClampNeg) + (wI S9 q6 (((256 : Int32) * (a1 + (1 : Int32))) + (a3 ||| r10)).toNatClampNeg)), S9))))))))
set_option maxRecDepth 100000 in
set_option maxHeartbeats 4000000 in
theorem k_X12_with {S : Wd} {a0 : Nat} {a1 : Int32} {a2 : Int32} {a3 : Int32} {r : Int32} {S' : Wd} (h : f_X12_with S a0 a1 a2 a3 = some (r, S')) : Sp yX12_with cX12_with 4 (some .int) 1 20 0 0 [.ref a0, .int a1, .int a2, .int a3] S (some (.int r)) S' := by
  unfold f_X12_with at h
  refine Sp.of (by decide +kernel) (Nat.le_of_ble_eq_true rfl) ?_
  intro b hC hin hR
  show G b 0 [(0, .ref a0), (1, .int a1), (2, .int a2), (3, .int a3)] [] S 0 0
  refine g_aload_n hC dX12_with_0 rfl ?_
  obtain ⟨ho1, h⟩ := gd_some h
  obtain ⟨q2, hq3, h⟩ := Option.bind_eq_some_iff.mp h
  refine g_getr (k := 16) (q := q2) hC ck_X12 (by decide) tw_1000 rfl (by decide) dX12_with_1 ho1 hq3 ?_
  refine g_bipush (v := (81 : Int32)) hC dX12_with_4 (by decide) ?_
  refine g_iload_n hC dX12_with_6 rfl ?_
  refine g_imul hC dX12_with_7 ?_
  refine g_iload_n hC dX12_with_8 rfl ?_
  refine g_iadd hC dX12_with_9 ?_
  obtain ⟨hx4, h⟩ := gd_some h
  refine g_iald hC dX12_with_10 hx4.1 hx4.2 ?_
  refine g_aload_n hC dX12_with_11 rfl ?_
  obtain ⟨ho5, h⟩ := gd_some h
  obtain ⟨q6, hq7, h⟩ := Option.bind_eq_some_iff.mp h
  refine g_getr (k := 18) (q := q6) hC ck_X12 (by decide) tw_1002 rfl (by decide) dX12_with_12 ho5 hq7 ?_
  refine g_sipush (v := (256 : Int32)) hC dX12_with_15 (by decide) ?_
  refine g_iload_n hC dX12_with_18 rfl ?_
  refine g_iconst (v := (1 : Int32)) hC dX12_with_19 (by decide) ?_
  refine g_iadd hC dX12_with_20 ?_
  refine g_imul hC dX12_with_21 ?_
  refine g_iload_n hC dX12_with_22 rfl ?_
  refine g_iload_n hC dX12_with_23 rfl ?_
  obtain ⟨r10, S9, hr8, h⟩ := bd2_some h
  refine g_callS (rest := [.int a3, .int ((256 : Int32) * (a1 + (1 : Int32))), .ref q6, .int (wI S q2 (((81 : Int32) * a1) + a2).toNatClampNeg)]) hC mi_X12_setOf (k_X12_setOf hr8) tw_1211 tw_1212 dX12_with_24 rfl rfl ⟨by decide, by decide⟩ (Nat.le_of_ble_eq_true rfl) ⟨by decide, by decide⟩ ?_
  refine g_ior hC dX12_with_27 ?_
  refine g_iadd hC dX12_with_28 ?_
  obtain ⟨hx11, h⟩ := gd_some h
  refine g_iald hC dX12_with_29 hx11.1 hx11.2 ?_
  refine g_iadd hC dX12_with_30 ?_
  cases h
  exact g_iret hC hR dX12_with_31 (by decide) (by decide)

theorem mi_X12_isOpen : MI yX12_isOpen cX12_isOpen 4 (some .boolean) 3 := ⟨tw_1217, tw_14, by decide +kernel, by decide +kernel, by decide +kernel⟩
noncomputable def f_X12_isOpen (S : Wd) (a0 : Nat) (a1 : Int32) (a2 : Int32) (a3 : Int32) : Option (Int32 × Wd) := gd (ob S a0 12) (Option.bind (wO S a0 15) (fun q2 => gd (ix S q2 101 (((81 : Int32) * a1) + a2)) (if (wI S q2 (((81 : Int32) * a1) + a2).toNatClampNeg) = 0 then (some ((0 : Int32), S)) else (bd2 (f_X12_setOf S a2) (fun r8 S7 => if (r8 &&& a3) = 0 then (some ((1 : Int32), S7)) else (some ((0 : Int32), S7)))))))
set_option maxRecDepth 100000 in
set_option maxHeartbeats 4000000 in
theorem k_X12_isOpen {S : Wd} {a0 : Nat} {a1 : Int32} {a2 : Int32} {a3 : Int32} {r : Int32} {S' : Wd} (h : f_X12_isOpen S a0 a1 a2 a3 = some (r, S')) : Sp yX12_isOpen cX12_isOpen 4 (some .boolean) 1 20 0 0 [.ref a0, .int a1, .int a2, .int a3] S (some (.int r)) S' := by
  unfold f_X12_isOpen at h
  refine Sp.of (by decide +kernel) (Nat.le_of_ble_eq_true rfl) ?_
  intro b hC hin hR
  show G b 0 [(0, .ref a0), (1, .int a1), (2, .int a2), (3, .int a3)] [] S 0 0
  refine g_aload_n hC dX12_isOpen_0 rfl ?_
  obtain ⟨ho1, h⟩ := gd_some h
  obtain ⟨q2, hq3, h⟩ := Option.bind_eq_some_iff.mp h
  refine g_getr (k := 15) (q := q2) hC ck_X12 (by decide) tw_999 rfl (by decide) dX12_isOpen_1 ho1 hq3 ?_
  refine g_bipush (v := (81 : Int32)) hC dX12_isOpen_4 (by decide) ?_
  refine g_iload_n hC dX12_isOpen_6 rfl ?_
  refine g_imul hC dX12_isOpen_7 ?_
  refine g_iload_n hC dX12_isOpen_8 rfl ?_
  refine g_iadd hC dX12_isOpen_9 ?_
  obtain ⟨hx4, h⟩ := gd_some h
  refine g_zald hC dX12_isOpen_10 hx4.1 hx4.2 ?_
  refine g_if_eq (tgt := 27) hC dX12_isOpen_11 (by decide) (fun hc5 => ?_) (fun hc5 => ?_)
  · rw [if_pos hc5] at h
    refine g_iconst (v := (0 : Int32)) hC dX12_isOpen_27 (by decide) ?_
    cases h
    exact g_zret hC hR rfl dX12_isOpen_28 (by decide) (by decide)
  · rw [if_neg hc5] at h
    refine g_iload_n hC dX12_isOpen_14 rfl ?_
    obtain ⟨r8, S7, hr6, h⟩ := bd2_some h
    refine g_callS (rest := []) hC mi_X12_setOf (k_X12_setOf hr6) tw_1211 tw_1212 dX12_isOpen_15 rfl rfl ⟨by decide, by decide⟩ (Nat.le_of_ble_eq_true rfl) ⟨by decide, by decide⟩ ?_
    refine g_iload_n hC dX12_isOpen_18 rfl ?_
    refine g_iand hC dX12_isOpen_19 ?_
    refine g_if_ne (tgt := 27) hC dX12_isOpen_20 (by decide) (fun hc9 => ?_) (fun hc9 => ?_)
    · rw [if_neg hc9] at h
      refine g_iconst (v := (0 : Int32)) hC dX12_isOpen_27 (by decide) ?_
      cases h
      exact g_zret hC hR rfl dX12_isOpen_28 (by decide) (by decide)
    · rw [if_pos hc9] at h
      refine g_iconst (v := (1 : Int32)) hC dX12_isOpen_23 (by decide) ?_
      refine g_goto (tgt := 28) hC dX12_isOpen_24 (by decide) ?_
      cases h
      exact g_zret hC hR rfl dX12_isOpen_28 (by decide) (by decide)

theorem mi_X12_findGiving : MI yX12_findGiving cX12_findGiving 7 (some .int) 1 := ⟨tw_1206, tw_14, by decide +kernel, by decide +kernel, by decide +kernel⟩
noncomputable def B_X12_findGiving_0 (S : Wd) (a0 : Nat) (a1 : Int32) : Option ((Int32 × Wd) ⊕ Cs) := gd (ob S a0 12) (Option.bind (wO S a0 0) (fun q2 => gd (ix S q2 100 (64 : Int32)) (some (.inr (1, [a0], [a1, (wI S q2 (64 : Int32).toNatClampNeg), (0 : Int32)], S)))))
noncomputable def B_X12_findGiving_1 (S : Wd) (x0 : Nat) (x1 : Int32) (x2 : Int32) (x3 : Int32) : Option ((Int32 × Wd) ⊕ Cs) := if (256 : Int32) ≤ x3 then (some (.inr (2, [x0], [x1, x2, (x2 - (1 : Int32))], S))) else (gd (ob S x0 12) (Option.bind (wO S x0 18) (fun q7 => gd (ix S q7 100 (((256 : Int32) * x2) + x3)) (ltS (sI S q7 (((256 : Int32) * x2) + x3).toNatClampNeg (0 : Int32)) (fun S10 => some (.inr (1, [x0], [x1, x2, (x3 + (1 : Int32))], S10)))))))
noncomputable def B_X12_findGiving_2 (S : Wd) (x0 : Nat) (x1 : Int32) (x2 : Int32) (x3 : Int32) : Option ((Int32 × Wd) ⊕ Cs) := if x3 < 0 then (some (.inr (5, [x0], [x1, x2, x1, (0 : Int32)], S))) else (some (.inr (3, [x0], [x1, x2, x3, (0 : Int32)], S)))
noncomputable def B_X12_findGiving_3 (S : Wd) (x0 : Nat) (x1 : Int32) (x2 : Int32) (x3 : Int32) (x4 : Int32) : Option ((Int32 × Wd) ⊕ Cs) := if (256 : Int32) ≤ x4 then (some (.inr (2, [x0], [x1, x2, (x3 + (-1 : Int32))], S))) else (gd (ob S x0 12) (bd2 (f_X12_with S x0 x3 (0 : Int32) x4) (fun r17 S15 => some (.inr (4, [x0], [x1, x2, x3, x4, r17, (1 : Int32)], S15)))))
noncomputable def B_X12_findGiving_4 (S : Wd) (x0 : Nat) (x1 : Int32) (x2 : Int32) (x3 : Int32) (x4 : Int32) (x5 : Int32) (x6 : Int32) : Option ((Int32 × Wd) ⊕ Cs) := if (81 : Int32) ≤ x6 then (gd (ob S x0 12) (Option.bind (wO S x0 18) (fun q20 => gd (ix S q20 100 (((256 : Int32) * x3) + x4)) (ltS (sI S q20 (((256 : Int32) * x3) + x4).toNatClampNeg x5) (fun S23 => some (.inr (3, [x0], [x1, x2, x3, (x4 + (1 : Int32))], S23))))))) else (gd (ob S x0 12) (bd2 (f_X12_isOpen S x0 x3 x6 x4) (fun r28 S26 => if r28 = 0 then (some (.inr (4, [x0], [x1, x2, x3, x4, x5, (x6 + (1 : Int32))], S26))) else (gd (ob S26 x0 12) (bd2 (f_X12_with S26 x0 x3 x6 x4) (fun r33 S31 => some (.inr (4, [x0], [x1, x2, x3, x4, (mMax x5 r33), (x6 + (1 : Int32))], S31))))))))
noncomputable def B_X12_findGiving_5 (S : Wd) (x0 : Nat) (x1 : Int32) (x2 : Int32) (x3 : Int32) (x4 : Int32) : Option ((Int32 × Wd) ⊕ Cs) := if x2 ≤ x4 then (gd (ob S x0 12) (Option.bind (wO S x0 18) (fun q36 => gd (ix S q36 100 x1) (some (.inl ((wI S q36 x1.toNatClampNeg), S)))))) else (some (.inr (6, [x0], [x1, x2, x3, x4, (0 : Int32)], S)))
noncomputable def B_X12_findGiving_6 (S : Wd) (x0 : Nat) (x1 : Int32) (x2 : Int32) (x3 : Int32) (x4 : Int32) (x5 : Int32) : Option ((Int32 × Wd) ⊕ Cs) := gd (ob S x0 12) (bd2 (f_X12_isOpen S x0 x4 x5 x3) (fun r42 S40 => if r42 = 0 then (some (.inr (6, [x0], [x1, x2, x3, x4, (x5 + (1 : Int32))], S40))) else (gd (ob S40 x0 12) (bd2 (f_X12_with S40 x0 x4 x5 x3) (fun r47 S45 => gd (ob S45 x0 12) (Option.bind (wO S45 x0 18) (fun q49 => gd (ix S45 q49 100 (((256 : Int32) * x4) + x3)) (if r47 = (wI S45 q49 (((256 : Int32) * x4) + x3).toNatClampNeg) then (gd (ob S45 x0 12) (Option.bind (wO S45 x0 19) (fun q54 => gd (ix S45 q54 100 x4) (ltS (sI S45 q54 x4.toNatClampNeg x5) (fun S57 => bd2 (f_X12_setOf S57 x5) (fun r61 S60 => some (.inr (5, [x0], [x1, x2, (x3 ||| r61), (x4 + (1 : Int32))], S60)))))))) else (some (.inr (6, [x0], [x1, x2, x3, x4, (x5 + (1 : Int32))], S45)))))))))))
noncomputable def B_X12_findGiving : Cs → Option ((Int32 × Wd) ⊕ Cs)
  | (0, [a0], [a1], S) => B_X12_findGiving_0 S a0 a1
  | (1, [x0], [x1, x2, x3], S) => B_X12_findGiving_1 S x0 x1 x2 x3
  | (2, [x0], [x1, x2, x3], S) => B_X12_findGiving_2 S x0 x1 x2 x3
  | (3, [x0], [x1, x2, x3, x4], S) => B_X12_findGiving_3 S x0 x1 x2 x3 x4
  | (4, [x0], [x1, x2, x3, x4, x5, x6], S) => B_X12_findGiving_4 S x0 x1 x2 x3 x4 x5 x6
  | (5, [x0], [x1, x2, x3, x4], S) => B_X12_findGiving_5 S x0 x1 x2 x3 x4
  | (6, [x0], [x1, x2, x3, x4, x5], S) => B_X12_findGiving_6 S x0 x1 x2 x3 x4 x5
  | _ => none
def P_X12_findGiving : Cs → Option (Nat × List (Nat × Value) × Wd × Nat × Nat)
  | (0, [a0], [a1], S) => some (0, [(0, .ref a0), (1, .int a1)], S, 0, 0)
  | (1, [x0], [x1, x2, x3], S) => some (10, [(0, .ref x0), (1, .int x1), (2, .int x2), (3, .int x3)], S, 0, 0)
  | (2, [x0], [x1, x2, x3], S) => some (40, [(0, .ref x0), (1, .int x1), (2, .int x2), (3, .int x3)], S, 0, 0)
  | (3, [x0], [x1, x2, x3, x4], S) => some (47, [(0, .ref x0), (1, .int x1), (2, .int x2), (3, .int x3), (4, .int x4)], S, 0, 0)
  | (4, [x0], [x1, x2, x3, x4, x5, x6], S) => some (68, [(0, .ref x0), (1, .int x1), (2, .int x2), (3, .int x3), (4, .int x4), (5, .int x5), (6, .int x6)], S, 0, 0)
  | (5, [x0], [x1, x2, x3, x4], S) => some (146, [(0, .ref x0), (1, .int x1), (2, .int x2), (3, .int x3), (4, .int x4)], S, 0, 0)
  | (6, [x0], [x1, x2, x3, x4, x5], S) => some (155, [(0, .ref x0), (1, .int x1), (2, .int x2), (3, .int x3), (4, .int x4), (5, .int x5)], S, 0, 0)
  | _ => none
noncomputable def f_X12_findGiving (S : Wd) (a0 : Nat) (a1 : Int32) : Option (Int32 × Wd) := ru B_X12_findGiving (0, [a0], [a1], S)
abbrev N_X12_findGiving (b : Bd) (r : Int32 × Wd) (c : (Int32 × Wd) ⊕ Cs) : Prop := match c with
  | .inl r' => r' = r
  | .inr s' => ∀ pc L S kc ks, P_X12_findGiving s' = some (pc, L, S, kc, ks) → G b pc L [] S kc ks
set_option maxRecDepth 100000 in
set_option maxHeartbeats 4000000 in
theorem w_X12_findGiving_0 {b : Bd} {r : Int32 × Wd} (hC : CX b yX12_findGiving.cls cX12_findGiving 7 { frames := 2, cells := 0, slots := 0, locals := 43 }) (hin : yX12_findGiving.name = "<init>" → b.2.2.2.2.2.2.2.2.1.name = "<init>") (hR : RT b (some .int) (some (.int r.1)) r.2 0 0) {S : Wd} {a0 : Nat} {a1 : Int32} {c : (Int32 × Wd) ⊕ Cs} (h : B_X12_findGiving_0 S a0 a1 = some c) (hk : N_X12_findGiving b r c) : G b 0 [(0, .ref a0), (1, .int a1)] [] S 0 0 := by
  unfold B_X12_findGiving_0 at h
  refine g_aload_n hC dX12_findGiving_0 rfl ?_
  obtain ⟨ho1, h⟩ := gd_some h
  obtain ⟨q2, hq3, h⟩ := Option.bind_eq_some_iff.mp h
  refine g_getr (k := 0) (q := q2) hC ck_X12 (by decide) tw_984 rfl (by decide) dX12_findGiving_1 ho1 hq3 ?_
  refine g_bipush (v := (64 : Int32)) hC dX12_findGiving_4 (by decide) ?_
  obtain ⟨hx4, h⟩ := gd_some h
  refine g_iald hC dX12_findGiving_6 hx4.1 hx4.2 ?_
  refine g_istore_n (L' := [(2, .int (wI S q2 (64 : Int32).toNatClampNeg)), (0, .ref a0), (1, .int a1)]) hC dX12_findGiving_7 (by decide) rfl ?_
  refine g_iconst (v := (0 : Int32)) hC dX12_findGiving_8 (by decide) ?_
  refine g_istore_n (L' := [(3, .int (0 : Int32)), (2, .int (wI S q2 (64 : Int32).toNatClampNeg)), (0, .ref a0), (1, .int a1)]) hC dX12_findGiving_9 (by decide) rfl ?_
  cases h
  refine g_pick (L' := [(0, .ref a0), (1, .int a1), (2, .int (wI S q2 (64 : Int32).toNatClampNeg)), (3, .int (0 : Int32))]) [2, 3, 1, 0] rfl ?_
  exact hk _ _ _ _ _ rfl
set_option maxRecDepth 100000 in
set_option maxHeartbeats 4000000 in
theorem w_X12_findGiving_1 {b : Bd} {r : Int32 × Wd} (hC : CX b yX12_findGiving.cls cX12_findGiving 7 { frames := 2, cells := 0, slots := 0, locals := 43 }) (hin : yX12_findGiving.name = "<init>" → b.2.2.2.2.2.2.2.2.1.name = "<init>") (hR : RT b (some .int) (some (.int r.1)) r.2 0 0) {S : Wd} {x0 : Nat} {x1 : Int32} {x2 : Int32} {x3 : Int32} {c : (Int32 × Wd) ⊕ Cs} (h : B_X12_findGiving_1 S x0 x1 x2 x3 = some c) (hk : N_X12_findGiving b r c) : G b 10 [(0, .ref x0), (1, .int x1), (2, .int x2), (3, .int x3)] [] S 0 0 := by
  unfold B_X12_findGiving_1 at h
  refine g_iload_n hC dX12_findGiving_10 rfl ?_
  refine g_sipush (v := (256 : Int32)) hC dX12_findGiving_11 (by decide) ?_
  refine g_icmp_ge (tgt := 36) hC dX12_findGiving_14 (by decide) (fun hc5 => ?_) (fun hc5 => ?_)
  · rw [if_pos hc5] at h
    refine g_iload_n hC dX12_findGiving_36 rfl ?_
    refine g_iconst (v := (1 : Int32)) hC dX12_findGiving_37 (by decide) ?_
    refine g_isub hC dX12_findGiving_38 ?_
    refine g_istore_n (L' := [(3, .int (x2 - (1 : Int32))), (0, .ref x0), (1, .int x1), (2, .int x2)]) hC dX12_findGiving_39 (by decide) rfl ?_
    cases h
    refine g_pick (L' := [(0, .ref x0), (1, .int x1), (2, .int x2), (3, .int (x2 - (1 : Int32)))]) [1, 2, 3, 0] rfl ?_
    exact hk _ _ _ _ _ rfl
  · rw [if_neg hc5] at h
    refine g_aload_n hC dX12_findGiving_17 rfl ?_
    obtain ⟨ho6, h⟩ := gd_some h
    obtain ⟨q7, hq8, h⟩ := Option.bind_eq_some_iff.mp h
    refine g_getr (k := 18) (q := q7) hC ck_X12 (by decide) tw_1002 rfl (by decide) dX12_findGiving_18 ho6 hq8 ?_
    refine g_sipush (v := (256 : Int32)) hC dX12_findGiving_21 (by decide) ?_
    refine g_iload_n hC dX12_findGiving_24 rfl ?_
    refine g_imul hC dX12_findGiving_25 ?_
    refine g_iload_n hC dX12_findGiving_26 rfl ?_
    refine g_iadd hC dX12_findGiving_27 ?_
    refine g_iconst (v := (0 : Int32)) hC dX12_findGiving_28 (by decide) ?_
    obtain ⟨hx9, h⟩ := gd_some h
    refine g_iast hC dX12_findGiving_29 hx9.1 hx9.2 ?_
    refine g_name (fun S10 eS11 => ?_)
    have h := ltS_use eS11 h
    refine g_iinc (v := (1 : Int32)) (L' := [(3, .int (x3 + (1 : Int32))), (0, .ref x0), (1, .int x1), (2, .int x2)]) hC dX12_findGiving_30 rfl (by decide) (by decide) rfl ?_
    refine g_goto (tgt := 10) hC dX12_findGiving_33 (by decide) ?_
    cases h
    refine g_pick (L' := [(0, .ref x0), (1, .int x1), (2, .int x2), (3, .int (x3 + (1 : Int32)))]) [1, 2, 3, 0] rfl ?_
    exact hk _ _ _ _ _ rfl
set_option maxRecDepth 100000 in
set_option maxHeartbeats 4000000 in
theorem w_X12_findGiving_2 {b : Bd} {r : Int32 × Wd} (hC : CX b yX12_findGiving.cls cX12_findGiving 7 { frames := 2, cells := 0, slots := 0, locals := 43 }) (hin : yX12_findGiving.name = "<init>" → b.2.2.2.2.2.2.2.2.1.name = "<init>") (hR : RT b (some .int) (some (.int r.1)) r.2 0 0) {S : Wd} {x0 : Nat} {x1 : Int32} {x2 : Int32} {x3 : Int32} {c : (Int32 × Wd) ⊕ Cs} (h : B_X12_findGiving_2 S x0 x1 x2 x3 = some c) (hk : N_X12_findGiving b r c) : G b 40 [(0, .ref x0), (1, .int x1), (2, .int x2), (3, .int x3)] [] S 0 0 := by
  unfold B_X12_findGiving_2 at h
  refine g_iload_n hC dX12_findGiving_40 rfl ?_
  refine g_if_lt (tgt := 141) hC dX12_findGiving_41 (by decide) (fun hc12 => ?_) (fun hc12 => ?_)
  · rw [if_pos hc12] at h
    refine g_iload_n hC dX12_findGiving_141 rfl ?_
    refine g_istore_n (L' := [(3, .int x1), (0, .ref x0), (1, .int x1), (2, .int x2)]) hC dX12_findGiving_142 (by decide) rfl ?_
    refine g_iconst (v := (0 : Int32)) hC dX12_findGiving_143 (by decide) ?_
    refine g_istore (L' := [(4, .int (0 : Int32)), (3, .int x1), (0, .ref x0), (1, .int x1), (2, .int x2)]) hC dX12_findGiving_144 (by decide) rfl ?_
    cases h
    refine g_pick (L' := [(0, .ref x0), (1, .int x1), (2, .int x2), (3, .int x1), (4, .int (0 : Int32))]) [2, 3, 4, 1, 0] rfl ?_
    exact hk _ _ _ _ _ rfl
  · rw [if_neg hc12] at h
    refine g_iconst (v := (0 : Int32)) hC dX12_findGiving_44 (by decide) ?_
    refine g_istore (L' := [(4, .int (0 : Int32)), (0, .ref x0), (1, .int x1), (2, .int x2), (3, .int x3)]) hC dX12_findGiving_45 (by decide) rfl ?_
    cases h
    refine g_pick (L' := [(0, .ref x0), (1, .int x1), (2, .int x2), (3, .int x3), (4, .int (0 : Int32))]) [1, 2, 3, 4, 0] rfl ?_
    exact hk _ _ _ _ _ rfl
set_option maxRecDepth 100000 in
set_option maxHeartbeats 4000000 in
theorem w_X12_findGiving_3 {b : Bd} {r : Int32 × Wd} (hC : CX b yX12_findGiving.cls cX12_findGiving 7 { frames := 2, cells := 0, slots := 0, locals := 43 }) (hin : yX12_findGiving.name = "<init>" → b.2.2.2.2.2.2.2.2.1.name = "<init>") (hR : RT b (some .int) (some (.int r.1)) r.2 0 0) {S : Wd} {x0 : Nat} {x1 : Int32} {x2 : Int32} {x3 : Int32} {x4 : Int32} {c : (Int32 × Wd) ⊕ Cs} (h : B_X12_findGiving_3 S x0 x1 x2 x3 x4 = some c) (hk : N_X12_findGiving b r c) : G b 47 [(0, .ref x0), (1, .int x1), (2, .int x2), (3, .int x3), (4, .int x4)] [] S 0 0 := by
  unfold B_X12_findGiving_3 at h
  refine g_iload hC dX12_findGiving_47 rfl ?_
  refine g_sipush (v := (256 : Int32)) hC dX12_findGiving_49 (by decide) ?_
  refine g_icmp_ge (tgt := 135) hC dX12_findGiving_52 (by decide) (fun hc13 => ?_) (fun hc13 => ?_)
  · rw [if_pos hc13] at h
    refine g_iinc (v := (-1 : Int32)) (L' := [(3, .int (x3 + (-1 : Int32))), (0, .ref x0), (1, .int x1), (2, .int x2), (4, .int x4)]) hC dX12_findGiving_135 rfl (by decide) (by decide) rfl ?_
    refine g_goto (tgt := 40) hC dX12_findGiving_138 (by decide) ?_
    cases h
    refine g_pick (L' := [(0, .ref x0), (1, .int x1), (2, .int x2), (3, .int (x3 + (-1 : Int32)))]) [1, 2, 3, 0] rfl ?_
    exact hk _ _ _ _ _ rfl
  · rw [if_neg hc13] at h
    refine g_aload_n hC dX12_findGiving_55 rfl ?_
    refine g_iload_n hC dX12_findGiving_56 rfl ?_
    refine g_iconst (v := (0 : Int32)) hC dX12_findGiving_57 (by decide) ?_
    refine g_iload hC dX12_findGiving_58 rfl ?_
    obtain ⟨ho16, h⟩ := gd_some h
    obtain ⟨r17, S15, hr14, h⟩ := bd2_some h
    refine g_callV (rest := []) hC mi_X12_with (k_X12_with hr14) ck_X12.1 (by decide) ho16 tw_1207 tw_1209 ts_41 dX12_findGiving_60 rfl rfl ⟨by decide, by decide⟩ (Nat.le_of_ble_eq_true rfl) ⟨by decide, by decide⟩ ?_
    refine g_istore (L' := [(5, .int r17), (0, .ref x0), (1, .int x1), (2, .int x2), (3, .int x3), (4, .int x4)]) hC dX12_findGiving_63 (by decide) rfl ?_
    refine g_iconst (v := (1 : Int32)) hC dX12_findGiving_65 (by decide) ?_
    refine g_istore (L' := [(6, .int (1 : Int32)), (5, .int r17), (0, .ref x0), (1, .int x1), (2, .int x2), (3, .int x3), (4, .int x4)]) hC dX12_findGiving_66 (by decide) rfl ?_
    cases h
    refine g_pick (L' := [(0, .ref x0), (1, .int x1), (2, .int x2), (3, .int x3), (4, .int x4), (5, .int r17), (6, .int (1 : Int32))]) [2, 3, 4, 5, 6, 1, 0] rfl ?_
    exact hk _ _ _ _ _ rfl
set_option maxRecDepth 100000 in
set_option maxHeartbeats 4000000 in
theorem w_X12_findGiving_4 {b : Bd} {r : Int32 × Wd} (hC : CX b yX12_findGiving.cls cX12_findGiving 7 { frames := 2, cells := 0, slots := 0, locals := 43 }) (hin : yX12_findGiving.name = "<init>" → b.2.2.2.2.2.2.2.2.1.name = "<init>") (hR : RT b (some .int) (some (.int r.1)) r.2 0 0) {S : Wd} {x0 : Nat} {x1 : Int32} {x2 : Int32} {x3 : Int32} {x4 : Int32} {x5 : Int32} {x6 : Int32} {c : (Int32 × Wd) ⊕ Cs} (h : B_X12_findGiving_4 S x0 x1 x2 x3 x4 x5 x6 = some c) (hk : N_X12_findGiving b r c) : G b 68 [(0, .ref x0), (1, .int x1), (2, .int x2), (3, .int x3), (4, .int x4), (5, .int x5), (6, .int x6)] [] S 0 0 := by
  unfold B_X12_findGiving_4 at h
  refine g_iload hC dX12_findGiving_68 rfl ?_
  refine g_bipush (v := (81 : Int32)) hC dX12_findGiving_70 (by decide) ?_
  refine g_icmp_ge (tgt := 114) hC dX12_findGiving_72 (by decide) (fun hc18 => ?_) (fun hc18 => ?_)
  · rw [if_pos hc18] at h
    refine g_aload_n hC dX12_findGiving_114 rfl ?_
    obtain ⟨ho19, h⟩ := gd_some h
    obtain ⟨q20, hq21, h⟩ := Option.bind_eq_some_iff.mp h
    refine g_getr (k := 18) (q := q20) hC ck_X12 (by decide) tw_1002 rfl (by decide) dX12_findGiving_115 ho19 hq21 ?_
    refine g_sipush (v := (256 : Int32)) hC dX12_findGiving_118 (by decide) ?_
    refine g_iload_n hC dX12_findGiving_121 rfl ?_
    refine g_imul hC dX12_findGiving_122 ?_
    refine g_iload hC dX12_findGiving_123 rfl ?_
    refine g_iadd hC dX12_findGiving_125 ?_
    refine g_iload hC dX12_findGiving_126 rfl ?_
    obtain ⟨hx22, h⟩ := gd_some h
    refine g_iast hC dX12_findGiving_128 hx22.1 hx22.2 ?_
    refine g_name (fun S23 eS24 => ?_)
    have h := ltS_use eS24 h
    refine g_iinc (v := (1 : Int32)) (L' := [(4, .int (x4 + (1 : Int32))), (0, .ref x0), (1, .int x1), (2, .int x2), (3, .int x3), (5, .int x5), (6, .int x6)]) hC dX12_findGiving_129 rfl (by decide) (by decide) rfl ?_
    refine g_goto (tgt := 47) hC dX12_findGiving_132 (by decide) ?_
    cases h
    refine g_pick (L' := [(0, .ref x0), (1, .int x1), (2, .int x2), (3, .int x3), (4, .int (x4 + (1 : Int32)))]) [1, 2, 3, 4, 0] rfl ?_
    exact hk _ _ _ _ _ rfl
  · rw [if_neg hc18] at h
    refine g_aload_n hC dX12_findGiving_75 rfl ?_
    refine g_iload_n hC dX12_findGiving_76 rfl ?_
    refine g_iload hC dX12_findGiving_77 rfl ?_
    refine g_iload hC dX12_findGiving_79 rfl ?_
    obtain ⟨ho27, h⟩ := gd_some h
    obtain ⟨r28, S26, hr25, h⟩ := bd2_some h
    refine g_callV (rest := []) hC mi_X12_isOpen (k_X12_isOpen hr25) ck_X12.1 (by decide) ho27 tw_1214 tw_1216 ts_42 dX12_findGiving_81 rfl rfl ⟨by decide, by decide⟩ (Nat.le_of_ble_eq_true rfl) ⟨by decide, by decide⟩ ?_
    refine g_if_eq (tgt := 104) hC dX12_findGiving_84 (by decide) (fun hc29 => ?_) (fun hc29 => ?_)
    · rw [if_pos hc29] at h
      refine g_iload hC dX12_findGiving_104 rfl ?_
      refine g_istore (L' := [(5, .int x5), (0, .ref x0), (1, .int x1), (2, .int x2), (3, .int x3), (4, .int x4), (6, .int x6)]) hC dX12_findGiving_106 (by decide) rfl ?_
      refine g_iinc (v := (1 : Int32)) (L' := [(6, .int (x6 + (1 : Int32))), (5, .int x5), (0, .ref x0), (1, .int x1), (2, .int x2), (3, .int x3), (4, .int x4)]) hC dX12_findGiving_108 rfl (by decide) (by decide) rfl ?_
      refine g_goto (tgt := 68) hC dX12_findGiving_111 (by decide) ?_
      cases h
      refine g_pick (L' := [(0, .ref x0), (1, .int x1), (2, .int x2), (3, .int x3), (4, .int x4), (5, .int x5), (6, .int (x6 + (1 : Int32)))]) [2, 3, 4, 5, 6, 1, 0] rfl ?_
      exact hk _ _ _ _ _ rfl
    · rw [if_neg hc29] at h
      refine g_iload hC dX12_findGiving_87 rfl ?_
      refine g_aload_n hC dX12_findGiving_89 rfl ?_
      refine g_iload_n hC dX12_findGiving_90 rfl ?_
      refine g_iload hC dX12_findGiving_91 rfl ?_
      refine g_iload hC dX12_findGiving_93 rfl ?_
      obtain ⟨ho32, h⟩ := gd_some h
      obtain ⟨r33, S31, hr30, h⟩ := bd2_some h
      refine g_callV (rest := [.int x5]) hC mi_X12_with (k_X12_with hr30) ck_X12.1 (by decide) ho32 tw_1207 tw_1209 ts_41 dX12_findGiving_95 rfl rfl ⟨by decide, by decide⟩ (Nat.le_of_ble_eq_true rfl) ⟨by decide, by decide⟩ ?_
      refine g_mmax (st := []) hC tw_1218 tw_80 tw_5 tw_81 dX12_findGiving_98 (by decide) (Nat.le_of_ble_eq_true rfl) (by decide) (by decide) ?_
      refine g_goto (tgt := 106) hC dX12_findGiving_101 (by decide) ?_
      refine g_istore (L' := [(5, .int (mMax x5 r33)), (0, .ref x0), (1, .int x1), (2, .int x2), (3, .int x3), (4, .int x4), (6, .int x6)]) hC dX12_findGiving_106 (by decide) rfl ?_
      refine g_iinc (v := (1 : Int32)) (L' := [(6, .int (x6 + (1 : Int32))), (5, .int (mMax x5 r33)), (0, .ref x0), (1, .int x1), (2, .int x2), (3, .int x3), (4, .int x4)]) hC dX12_findGiving_108 rfl (by decide) (by decide) rfl ?_
      refine g_goto (tgt := 68) hC dX12_findGiving_111 (by decide) ?_
      cases h
      refine g_pick (L' := [(0, .ref x0), (1, .int x1), (2, .int x2), (3, .int x3), (4, .int x4), (5, .int (mMax x5 r33)), (6, .int (x6 + (1 : Int32)))]) [2, 3, 4, 5, 6, 1, 0] rfl ?_
      exact hk _ _ _ _ _ rfl
set_option maxRecDepth 100000 in
set_option maxHeartbeats 4000000 in
theorem w_X12_findGiving_5 {b : Bd} {r : Int32 × Wd} (hC : CX b yX12_findGiving.cls cX12_findGiving 7 { frames := 2, cells := 0, slots := 0, locals := 43 }) (hin : yX12_findGiving.name = "<init>" → b.2.2.2.2.2.2.2.2.1.name = "<init>") (hR : RT b (some .int) (some (.int r.1)) r.2 0 0) {S : Wd} {x0 : Nat} {x1 : Int32} {x2 : Int32} {x3 : Int32} {x4 : Int32} {c : (Int32 × Wd) ⊕ Cs} (h : B_X12_findGiving_5 S x0 x1 x2 x3 x4 = some c) (hk : N_X12_findGiving b r c) : G b 146 [(0, .ref x0), (1, .int x1), (2, .int x2), (3, .int x3), (4, .int x4)] [] S 0 0 := by
  unfold B_X12_findGiving_5 at h
  refine g_iload hC dX12_findGiving_146 rfl ?_
  refine g_iload_n hC dX12_findGiving_148 rfl ?_
  refine g_icmp_ge (tgt := 221) hC dX12_findGiving_149 (by decide) (fun hc34 => ?_) (fun hc34 => ?_)
  · rw [if_pos hc34] at h
    refine g_aload_n hC dX12_findGiving_221 rfl ?_
    obtain ⟨ho35, h⟩ := gd_some h
    obtain ⟨q36, hq37, h⟩ := Option.bind_eq_some_iff.mp h
    refine g_getr (k := 18) (q := q36) hC ck_X12 (by decide) tw_1002 rfl (by decide) dX12_findGiving_222 ho35 hq37 ?_
    refine g_iload_n hC dX12_findGiving_225 rfl ?_
    obtain ⟨hx38, h⟩ := gd_some h
    refine g_iald hC dX12_findGiving_226 hx38.1 hx38.2 ?_
    cases h
    subst hk
    exact g_iret hC hR dX12_findGiving_227 (by decide) (by decide)
  · rw [if_neg hc34] at h
    refine g_iconst (v := (0 : Int32)) hC dX12_findGiving_152 (by decide) ?_
    refine g_istore (L' := [(5, .int (0 : Int32)), (0, .ref x0), (1, .int x1), (2, .int x2), (3, .int x3), (4, .int x4)]) hC dX12_findGiving_153 (by decide) rfl ?_
    cases h
    refine g_pick (L' := [(0, .ref x0), (1, .int x1), (2, .int x2), (3, .int x3), (4, .int x4), (5, .int (0 : Int32))]) [1, 2, 3, 4, 5, 0] rfl ?_
    exact hk _ _ _ _ _ rfl
set_option maxRecDepth 100000 in
set_option maxHeartbeats 4000000 in
theorem w_X12_findGiving_6 {b : Bd} {r : Int32 × Wd} (hC : CX b yX12_findGiving.cls cX12_findGiving 7 { frames := 2, cells := 0, slots := 0, locals := 43 }) (hin : yX12_findGiving.name = "<init>" → b.2.2.2.2.2.2.2.2.1.name = "<init>") (hR : RT b (some .int) (some (.int r.1)) r.2 0 0) {S : Wd} {x0 : Nat} {x1 : Int32} {x2 : Int32} {x3 : Int32} {x4 : Int32} {x5 : Int32} {c : (Int32 × Wd) ⊕ Cs} (h : B_X12_findGiving_6 S x0 x1 x2 x3 x4 x5 = some c) (hk : N_X12_findGiving b r c) : G b 155 [(0, .ref x0), (1, .int x1), (2, .int x2), (3, .int x3), (4, .int x4), (5, .int x5)] [] S 0 0 := by
  unfold B_X12_findGiving_6 at h
  refine g_aload_n hC dX12_findGiving_155 rfl ?_
  refine g_iload hC dX12_findGiving_156 rfl ?_
  refine g_iload hC dX12_findGiving_158 rfl ?_
  refine g_iload_n hC dX12_findGiving_160 rfl ?_
  obtain ⟨ho41, h⟩ := gd_some h
  obtain ⟨r42, S40, hr39, h⟩ := bd2_some h
  refine g_callV (rest := []) hC mi_X12_isOpen (k_X12_isOpen hr39) ck_X12.1 (by decide) ho41 tw_1214 tw_1216 ts_42 dX12_findGiving_161 rfl rfl ⟨by decide, by decide⟩ (Nat.le_of_ble_eq_true rfl) ⟨by decide, by decide⟩ ?_
  refine g_if_eq (tgt := 192) hC dX12_findGiving_164 (by decide) (fun hc43 => ?_) (fun hc43 => ?_)
  · rw [if_pos hc43] at h
    refine g_iinc (v := (1 : Int32)) (L' := [(5, .int (x5 + (1 : Int32))), (0, .ref x0), (1, .int x1), (2, .int x2), (3, .int x3), (4, .int x4)]) hC dX12_findGiving_192 rfl (by decide) (by decide) rfl ?_
    refine g_goto (tgt := 155) hC dX12_findGiving_195 (by decide) ?_
    cases h
    refine g_pick (L' := [(0, .ref x0), (1, .int x1), (2, .int x2), (3, .int x3), (4, .int x4), (5, .int (x5 + (1 : Int32)))]) [1, 2, 3, 4, 5, 0] rfl ?_
    exact hk _ _ _ _ _ rfl
  · rw [if_neg hc43] at h
    refine g_aload_n hC dX12_findGiving_167 rfl ?_
    refine g_iload hC dX12_findGiving_168 rfl ?_
    refine g_iload hC dX12_findGiving_170 rfl ?_
    refine g_iload_n hC dX12_findGiving_172 rfl ?_
    obtain ⟨ho46, h⟩ := gd_some h
    obtain ⟨r47, S45, hr44, h⟩ := bd2_some h
    refine g_callV (rest := []) hC mi_X12_with (k_X12_with hr44) ck_X12.1 (by decide) ho46 tw_1207 tw_1209 ts_41 dX12_findGiving_173 rfl rfl ⟨by decide, by decide⟩ (Nat.le_of_ble_eq_true rfl) ⟨by decide, by decide⟩ ?_
    refine g_aload_n hC dX12_findGiving_176 rfl ?_
    obtain ⟨ho48, h⟩ := gd_some h
    obtain ⟨q49, hq50, h⟩ := Option.bind_eq_some_iff.mp h
    refine g_getr (k := 18) (q := q49) hC ck_X12 (by decide) tw_1002 rfl (by decide) dX12_findGiving_177 ho48 hq50 ?_
    refine g_sipush (v := (256 : Int32)) hC dX12_findGiving_180 (by decide) ?_
    refine g_iload hC dX12_findGiving_183 rfl ?_
    refine g_imul hC dX12_findGiving_185 ?_
    refine g_iload_n hC dX12_findGiving_186 rfl ?_
    refine g_iadd hC dX12_findGiving_187 ?_
    obtain ⟨hx51, h⟩ := gd_some h
    refine g_iald hC dX12_findGiving_188 hx51.1 hx51.2 ?_
    refine g_icmp_eq (tgt := 198) hC dX12_findGiving_189 (by decide) (fun hc52 => ?_) (fun hc52 => ?_)
    · rw [if_pos hc52] at h
      refine g_aload_n hC dX12_findGiving_198 rfl ?_
      obtain ⟨ho53, h⟩ := gd_some h
      obtain ⟨q54, hq55, h⟩ := Option.bind_eq_some_iff.mp h
      refine g_getr (k := 19) (q := q54) hC ck_X12 (by decide) tw_1003 rfl (by decide) dX12_findGiving_199 ho53 hq55 ?_
      refine g_iload hC dX12_findGiving_202 rfl ?_
      refine g_iload hC dX12_findGiving_204 rfl ?_
      obtain ⟨hx56, h⟩ := gd_some h
      refine g_iast hC dX12_findGiving_206 hx56.1 hx56.2 ?_
      refine g_name (fun S57 eS58 => ?_)
      have h := ltS_use eS58 h
      refine g_iload_n hC dX12_findGiving_207 rfl ?_
      refine g_iload hC dX12_findGiving_208 rfl ?_
      obtain ⟨r61, S60, hr59, h⟩ := bd2_some h
      refine g_callS (rest := [.int x3]) hC mi_X12_setOf (k_X12_setOf hr59) tw_1211 tw_1212 dX12_findGiving_210 rfl rfl ⟨by decide, by decide⟩ (Nat.le_of_ble_eq_true rfl) ⟨by decide, by decide⟩ ?_
      refine g_ior hC dX12_findGiving_213 ?_
      refine g_istore_n (L' := [(3, .int (x3 ||| r61)), (0, .ref x0), (1, .int x1), (2, .int x2), (4, .int x4), (5, .int x5)]) hC dX12_findGiving_214 (by decide) rfl ?_
      refine g_iinc (v := (1 : Int32)) (L' := [(4, .int (x4 + (1 : Int32))), (3, .int (x3 ||| r61)), (0, .ref x0), (1, .int x1), (2, .int x2), (5, .int x5)]) hC dX12_findGiving_215 rfl (by decide) (by decide) rfl ?_
      refine g_goto (tgt := 146) hC dX12_findGiving_218 (by decide) ?_
      cases h
      refine g_pick (L' := [(0, .ref x0), (1, .int x1), (2, .int x2), (3, .int (x3 ||| r61)), (4, .int (x4 + (1 : Int32)))]) [2, 3, 4, 1, 0] rfl ?_
      exact hk _ _ _ _ _ rfl
    · rw [if_neg hc52] at h
      refine g_iinc (v := (1 : Int32)) (L' := [(5, .int (x5 + (1 : Int32))), (0, .ref x0), (1, .int x1), (2, .int x2), (3, .int x3), (4, .int x4)]) hC dX12_findGiving_192 rfl (by decide) (by decide) rfl ?_
      refine g_goto (tgt := 155) hC dX12_findGiving_195 (by decide) ?_
      cases h
      refine g_pick (L' := [(0, .ref x0), (1, .int x1), (2, .int x2), (3, .int x3), (4, .int x4), (5, .int (x5 + (1 : Int32)))]) [1, 2, 3, 4, 5, 0] rfl ?_
      exact hk _ _ _ _ _ rfl
theorem w_X12_findGiving {b : Bd} {r : Int32 × Wd} (hC : CX b yX12_findGiving.cls cX12_findGiving 7 { frames := 2, cells := 0, slots := 0, locals := 43 }) (hin : yX12_findGiving.name = "<init>" → b.2.2.2.2.2.2.2.2.1.name = "<init>") (hR : RT b (some .int) (some (.int r.1)) r.2 0 0) {s : Cs} {c : (Int32 × Wd) ⊕ Cs} (h : B_X12_findGiving s = some c) (hk : N_X12_findGiving b r c) : ∀ pc L S kc ks, P_X12_findGiving s = some (pc, L, S, kc, ks) → G b pc L [] S kc ks := by
  intro pc L S kc ks hp
  unfold B_X12_findGiving at h
  split at h
  · cases hp
    exact w_X12_findGiving_0 hC hin hR h hk
  · cases hp
    exact w_X12_findGiving_1 hC hin hR h hk
  · cases hp
    exact w_X12_findGiving_2 hC hin hR h hk
  · cases hp
    exact w_X12_findGiving_3 hC hin hR h hk
  · cases hp
    exact w_X12_findGiving_4 hC hin hR h hk
  · cases hp
    exact w_X12_findGiving_5 hC hin hR h hk
  · cases hp
    exact w_X12_findGiving_6 hC hin hR h hk
  · cases h
theorem k_X12_findGiving {S : Wd} {a0 : Nat} {a1 : Int32} {r : Int32} {S' : Wd} (h : f_X12_findGiving S a0 a1 = some (r, S')) : Sp yX12_findGiving cX12_findGiving 7 (some .int) 2 43 0 0 [.ref a0, .int a1] S (some (.int r)) S' := by
  unfold f_X12_findGiving at h
  refine Sp.of (by decide +kernel) (Nat.le_of_ble_eq_true rfl) ?_
  intro b hC hin hR
  exact ru_ind (P := fun s q0 => q0 = (r, S') → ∀ pc L S kc ks, P_X12_findGiving s = some (pc, L, S, kc, ks) → G b pc L [] S kc ks) (fun s q0 hB e => w_X12_findGiving (r := (r, S')) hC hin hR hB e) (fun s s' q0 hB ih e => w_X12_findGiving (r := (r, S')) hC hin hR hB (ih e)) h rfl _ _ _ _ _ rfl

theorem mi_X12_best : MI yX12_best cX12_best 1 (some .int) 0 := ⟨tw_1194, tw_14, by decide +kernel, by decide +kernel, by decide +kernel⟩
noncomputable def f_X12_best (S : Wd) (a0 : Nat) : Option (Int32 × Wd) := gd (ob S a0 12) (Option.bind (f_X12_findRows S a0) (fun S2 => gd (ob S2 a0 12) (bd2 (f_X12_given S2 a0) (fun r7 S5 => gd (ob S5 a0 12) (bd2 (f_X12_findGiving S5 a0 r7) (fun r11 S9 => some (r11, S9)))))))
set_option maxRecDepth 100000 in
set_option maxHeartbeats 4000000 in
theorem k_X12_best {S : Wd} {a0 : Nat} {r : Int32} {S' : Wd} (h : f_X12_best S a0 = some (r, S')) : Sp yX12_best cX12_best 1 (some .int) 5 119 0 0 [.ref a0] S (some (.int r)) S' := by
  unfold f_X12_best at h
  refine Sp.of (by decide +kernel) (Nat.le_of_ble_eq_true rfl) ?_
  intro b hC hin hR
  show G b 0 [(0, .ref a0)] [] S 0 0
  refine g_aload_n hC dX12_best_0 rfl ?_
  obtain ⟨ho3, h⟩ := gd_some h
  obtain ⟨S2, hr1, h⟩ := Option.bind_eq_some_iff.mp h
  refine g_callV (rest := []) hC mi_X12_findRows (k_X12_findRows hr1) ck_X12.1 (by decide) ho3 tw_1195 tw_1197 ts_38 dX12_best_1 rfl rfl ⟨by decide, by decide⟩ (Nat.le_of_ble_eq_true rfl) ⟨by decide, by decide⟩ ?_
  refine g_aload_n hC dX12_best_4 rfl ?_
  refine g_aload_n hC dX12_best_5 rfl ?_
  obtain ⟨ho6, h⟩ := gd_some h
  obtain ⟨r7, S5, hr4, h⟩ := bd2_some h
  refine g_callV (rest := [.ref a0]) hC mi_X12_given (k_X12_given hr4) ck_X12.1 (by decide) ho6 tw_1199 tw_1201 ts_39 dX12_best_6 rfl rfl ⟨by decide, by decide⟩ (Nat.le_of_ble_eq_true rfl) ⟨by decide, by decide⟩ ?_
  obtain ⟨ho10, h⟩ := gd_some h
  obtain ⟨r11, S9, hr8, h⟩ := bd2_some h
  refine g_callV (rest := []) hC mi_X12_findGiving (k_X12_findGiving hr8) ck_X12.1 (by decide) ho10 tw_1203 tw_1205 ts_40 dX12_best_9 rfl rfl ⟨by decide, by decide⟩ (Nat.le_of_ble_eq_true rfl) ⟨by decide, by decide⟩ ?_
  cases h
  exact g_iret hC hR dX12_best_12 (by decide) (by decide)

theorem mi_X12_gets : MI yX12_gets cX12_gets 5 (some .int) 2 := ⟨tw_1222, tw_14, by decide +kernel, by decide +kernel, by decide +kernel⟩
noncomputable def f_X12_gets (S : Wd) (a0 : Nat) (a1 : Int32) (a2 : Int32) : Option (Int32 × Wd) := gd (ob S a0 12) (bd2 (f_X12_isLorry S a0 a1) (fun r4 S2 => if r4 = 0 then (gd (ob S2 a0 12) (bd2 (f_X12_finding S2 a0 (-100001 : Int32)) (fun r9 S7 => some (r9, S7)))) else (bd2 (f_X12_within S2 a2 (0 : Int32) (1 : Int32)) (fun r12 S11 => if r12 = 0 then (gd (ob S11 a0 12) (bd2 (f_X12_finding S11 a0 (-100001 : Int32)) (fun r47 S45 => some (r47, S45)))) else (gd (ob S11 a0 12) (Option.bind (f_X12_findRows S11 a0) (fun S15 => gd (ob S15 a0 12) (bd2 (f_X12_given S15 a0) (fun r20 S18 => gd (ob S18 a0 12) (bd2 (f_X12_findGiving S18 a0 r20) (fun r24 S22 => if a2 = 0 then (gd (ob S22 a0 12) (Option.bind (wO S22 a0 19) (fun q36 => gd (ix S22 q36 100 a1) (if 0 ≤ (((wI S22 q36 a1.toNatClampNeg) / (9 : Int32)) - (1 : Int32)) then (some ((((wI S22 q36 a1.toNatClampNeg) / (9 : Int32)) - (1 : Int32)), S22)) else (gd (ob S22 a0 12) (bd2 (f_X12_finding S22 a0 (-100006 : Int32)) (fun r43 S41 => some (r43, S41)))))))) else (gd (ob S22 a0 12) (Option.bind (wO S22 a0 19) (fun q27 => gd (ix S22 q27 100 a1) (if 0 ≤ ((irm (wI S22 q27 a1.toNatClampNeg) (9 : Int32)) - (1 : Int32)) then (some (((irm (wI S22 q27 a1.toNatClampNeg) (9 : Int32)) - (1 : Int32)), S22)) else (gd (ob S22 a0 12) (bd2 (f_X12_finding S22 a0 (-100006 : Int32)) (fun r34 S32 => some (r34, S32)))))))))))))))))))
set_option maxRecDepth 100000 in
set_option maxHeartbeats 4000000 in
theorem k_X12_gets {S : Wd} {a0 : Nat} {a1 : Int32} {a2 : Int32} {r : Int32} {S' : Wd} (h : f_X12_gets S a0 a1 a2 = some (r, S')) : Sp yX12_gets cX12_gets 5 (some .int) 5 119 0 0 [.ref a0, .int a1, .int a2] S (some (.int r)) S' := by
  unfold f_X12_gets at h
  refine Sp.of (by decide +kernel) (Nat.le_of_ble_eq_true rfl) ?_
  intro b hC hin hR
  show G b 0 [(0, .ref a0), (1, .int a1), (2, .int a2)] [] S 0 0
  refine g_aload_n hC dX12_gets_0 rfl ?_
  refine g_iload_n hC dX12_gets_1 rfl ?_
  obtain ⟨ho3, h⟩ := gd_some h
  obtain ⟨r4, S2, hr1, h⟩ := bd2_some h
  refine g_callV (rest := []) hC mi_X12_isLorry (k_X12_isLorry hr1) ck_X12.1 (by decide) ho3 tw_1114 tw_1116 ts_28 dX12_gets_2 rfl rfl ⟨by decide, by decide⟩ (Nat.le_of_ble_eq_true rfl) ⟨by decide, by decide⟩ ?_
  refine g_if_eq (tgt := 17) hC dX12_gets_5 (by decide) (fun hc5 => ?_) (fun hc5 => ?_)
  · rw [if_pos hc5] at h
    refine g_aload_n hC dX12_gets_17 rfl ?_
    refine g_ldc hC tw_1083 dX12_gets_18 ?_
    obtain ⟨ho8, h⟩ := gd_some h
    obtain ⟨r9, S7, hr6, h⟩ := bd2_some h
    refine g_callV (rest := []) hC mi_X12_finding (k_X12_finding hr6) ck_X12.1 (by decide) ho8 tw_1069 tw_1071 ts_24 dX12_gets_20 rfl rfl ⟨by decide, by decide⟩ (Nat.le_of_ble_eq_true rfl) ⟨by decide, by decide⟩ ?_
    cases h
    exact g_iret hC hR dX12_gets_23 (by decide) (by decide)
  · rw [if_neg hc5] at h
    refine g_iload_n hC dX12_gets_8 rfl ?_
    refine g_iconst (v := (0 : Int32)) hC dX12_gets_9 (by decide) ?_
    refine g_iconst (v := (1 : Int32)) hC dX12_gets_10 (by decide) ?_
    obtain ⟨r12, S11, hr10, h⟩ := bd2_some h
    refine g_callS (rest := []) hC mi_X12_within (k_X12_within hr10) tw_1080 tw_1081 dX12_gets_11 rfl rfl ⟨by decide, by decide⟩ (Nat.le_of_ble_eq_true rfl) ⟨by decide, by decide⟩ ?_
    refine g_if_ne (tgt := 24) hC dX12_gets_14 (by decide) (fun hc13 => ?_) (fun hc13 => ?_)
    · rw [if_neg hc13] at h
      refine g_aload_n hC dX12_gets_24 rfl ?_
      obtain ⟨ho16, h⟩ := gd_some h
      obtain ⟨S15, hr14, h⟩ := Option.bind_eq_some_iff.mp h
      refine g_callV (rest := []) hC mi_X12_findRows (k_X12_findRows hr14) ck_X12.1 (by decide) ho16 tw_1195 tw_1197 ts_38 dX12_gets_25 rfl rfl ⟨by decide, by decide⟩ (Nat.le_of_ble_eq_true rfl) ⟨by decide, by decide⟩ ?_
      refine g_aload_n hC dX12_gets_28 rfl ?_
      refine g_aload_n hC dX12_gets_29 rfl ?_
      obtain ⟨ho19, h⟩ := gd_some h
      obtain ⟨r20, S18, hr17, h⟩ := bd2_some h
      refine g_callV (rest := [.ref a0]) hC mi_X12_given (k_X12_given hr17) ck_X12.1 (by decide) ho19 tw_1199 tw_1201 ts_39 dX12_gets_30 rfl rfl ⟨by decide, by decide⟩ (Nat.le_of_ble_eq_true rfl) ⟨by decide, by decide⟩ ?_
      obtain ⟨ho23, h⟩ := gd_some h
      obtain ⟨r24, S22, hr21, h⟩ := bd2_some h
      refine g_callV (rest := []) hC mi_X12_findGiving (k_X12_findGiving hr21) ck_X12.1 (by decide) ho23 tw_1203 tw_1205 ts_40 dX12_gets_33 rfl rfl ⟨by decide, by decide⟩ (Nat.le_of_ble_eq_true rfl) ⟨by decide, by decide⟩ ?_
      refine g_istore_n (L' := [(3, .int r24), (0, .ref a0), (1, .int a1), (2, .int a2)]) hC dX12_gets_36 (by decide) rfl ?_
      refine g_iload_n hC dX12_gets_37 rfl ?_
      refine g_if_ne (tgt := 53) hC dX12_gets_38 (by decide) (fun hc25 => ?_) (fun hc25 => ?_)
      · rw [if_neg hc25] at h
        refine g_aload_n hC dX12_gets_53 rfl ?_
        obtain ⟨ho26, h⟩ := gd_some h
        obtain ⟨q27, hq28, h⟩ := Option.bind_eq_some_iff.mp h
        refine g_getr (k := 19) (q := q27) hC ck_X12 (by decide) tw_1003 rfl (by decide) dX12_gets_54 ho26 hq28 ?_
        refine g_iload_n hC dX12_gets_57 rfl ?_
        obtain ⟨hx29, h⟩ := gd_some h
        refine g_iald hC dX12_gets_58 hx29.1 hx29.2 ?_
        refine g_bipush (v := (9 : Int32)) hC dX12_gets_59 (by decide) ?_
        refine g_irm hC dX12_gets_61 (by decide) ?_
        refine g_iconst (v := (1 : Int32)) hC dX12_gets_62 (by decide) ?_
        refine g_isub hC dX12_gets_63 ?_
        refine g_istore (L' := [(4, .int ((irm (wI S22 q27 a1.toNatClampNeg) (9 : Int32)) - (1 : Int32))), (3, .int r24), (0, .ref a0), (1, .int a1), (2, .int a2)]) hC dX12_gets_64 (by decide) rfl ?_
        refine g_iload hC dX12_gets_66 rfl ?_
        refine g_if_ge (tgt := 80) hC dX12_gets_68 (by decide) (fun hc30 => ?_) (fun hc30 => ?_)
        · rw [if_pos hc30] at h
          refine g_iload hC dX12_gets_80 rfl ?_
          cases h
          exact g_iret hC hR dX12_gets_82 (by decide) (by decide)
        · rw [if_neg hc30] at h
          refine g_aload_n hC dX12_gets_71 rfl ?_
          refine g_ldc hC tw_1068 dX12_gets_72 ?_
          obtain ⟨ho33, h⟩ := gd_some h
          obtain ⟨r34, S32, hr31, h⟩ := bd2_some h
          refine g_callV (rest := []) hC mi_X12_finding (k_X12_finding hr31) ck_X12.1 (by decide) ho33 tw_1069 tw_1071 ts_24 dX12_gets_74 rfl rfl ⟨by decide, by decide⟩ (Nat.le_of_ble_eq_true rfl) ⟨by decide, by decide⟩ ?_
          refine g_goto (tgt := 82) hC dX12_gets_77 (by decide) ?_
          cases h
          exact g_iret hC hR dX12_gets_82 (by decide) (by decide)
      · rw [if_pos hc25] at h
        refine g_aload_n hC dX12_gets_41 rfl ?_
        obtain ⟨ho35, h⟩ := gd_some h
        obtain ⟨q36, hq37, h⟩ := Option.bind_eq_some_iff.mp h
        refine g_getr (k := 19) (q := q36) hC ck_X12 (by decide) tw_1003 rfl (by decide) dX12_gets_42 ho35 hq37 ?_
        refine g_iload_n hC dX12_gets_45 rfl ?_
        obtain ⟨hx38, h⟩ := gd_some h
        refine g_iald hC dX12_gets_46 hx38.1 hx38.2 ?_
        refine g_bipush (v := (9 : Int32)) hC dX12_gets_47 (by decide) ?_
        refine g_idiv hC dX12_gets_49 (by decide) ?_
        refine g_goto (tgt := 62) hC dX12_gets_50 (by decide) ?_
        refine g_iconst (v := (1 : Int32)) hC dX12_gets_62 (by decide) ?_
        refine g_isub hC dX12_gets_63 ?_
        refine g_istore (L' := [(4, .int (((wI S22 q36 a1.toNatClampNeg) / (9 : Int32)) - (1 : Int32))), (3, .int r24), (0, .ref a0), (1, .int a1), (2, .int a2)]) hC dX12_gets_64 (by decide) rfl ?_
        refine g_iload hC dX12_gets_66 rfl ?_
        refine g_if_ge (tgt := 80) hC dX12_gets_68 (by decide) (fun hc39 => ?_) (fun hc39 => ?_)
        · rw [if_pos hc39] at h
          refine g_iload hC dX12_gets_80 rfl ?_
          cases h
          exact g_iret hC hR dX12_gets_82 (by decide) (by decide)
        · rw [if_neg hc39] at h
          refine g_aload_n hC dX12_gets_71 rfl ?_
          refine g_ldc hC tw_1068 dX12_gets_72 ?_
          obtain ⟨ho42, h⟩ := gd_some h
          obtain ⟨r43, S41, hr40, h⟩ := bd2_some h
          refine g_callV (rest := []) hC mi_X12_finding (k_X12_finding hr40) ck_X12.1 (by decide) ho42 tw_1069 tw_1071 ts_24 dX12_gets_74 rfl rfl ⟨by decide, by decide⟩ (Nat.le_of_ble_eq_true rfl) ⟨by decide, by decide⟩ ?_
          refine g_goto (tgt := 82) hC dX12_gets_77 (by decide) ?_
          cases h
          exact g_iret hC hR dX12_gets_82 (by decide) (by decide)
    · rw [if_pos hc13] at h
      refine g_aload_n hC dX12_gets_17 rfl ?_
      refine g_ldc hC tw_1083 dX12_gets_18 ?_
      obtain ⟨ho46, h⟩ := gd_some h
      obtain ⟨r47, S45, hr44, h⟩ := bd2_some h
      refine g_callV (rest := []) hC mi_X12_finding (k_X12_finding hr44) ck_X12.1 (by decide) ho46 tw_1069 tw_1071 ts_24 dX12_gets_20 rfl rfl ⟨by decide, by decide⟩ (Nat.le_of_ble_eq_true rfl) ⟨by decide, by decide⟩ ?_
      cases h
      exact g_iret hC hR dX12_gets_23 (by decide) (by decide)

theorem mi_X12_empty : MI yX12_empty cX12_empty 5 (some .int) 1 := ⟨tw_1226, tw_14, by decide +kernel, by decide +kernel, by decide +kernel⟩
noncomputable def B_X12_empty_0 (S : Wd) (a0 : Nat) (a1 : Int32) : Option ((Int32 × Wd) ⊕ Cs) := gd (ob S a0 12) (Option.bind (f_X12_findRows S a0) (fun S2 => gd (ob S2 a0 12) (bd2 (f_X12_given S2 a0) (fun r7 S5 => gd (ob S5 a0 12) (bd2 (f_X12_findGiving S5 a0 r7) (fun r11 S9 => some (.inr (1, [a0], [a1, r11, (0 : Int32), (0 : Int32)], S9))))))))
noncomputable def B_X12_empty_1 (S : Wd) (x0 : Nat) (x1 : Int32) (x2 : Int32) (x3 : Int32) (x4 : Int32) : Option ((Int32 × Wd) ⊕ Cs) := gd (ob S x0 12) (Option.bind (wO S x0 0) (fun q13 => gd (ix S q13 100 (64 : Int32)) (if (wI S q13 (64 : Int32).toNatClampNeg) ≤ x4 then (some (.inl (x3, S))) else (gd (ob S x0 12) (Option.bind (wO S x0 17) (fun q18 => if x1 = 0 then (gd (ob S x0 12) (Option.bind (wO S x0 19) (fun q22 => gd (ix S q22 100 x4) (gd (ix S q18 100 (((81 : Int32) * x4) + (wI S q22 x4.toNatClampNeg))) (some (.inr (1, [x0], [x1, x2, (x3 + (wI S q18 (((81 : Int32) * x4) + (wI S q22 x4.toNatClampNeg)).toNatClampNeg)), (x4 + (1 : Int32))], S))))))) else (gd (ix S q18 100 (((81 : Int32) * x4) + (0 : Int32))) (some (.inr (1, [x0], [x1, x2, (x3 + (wI S q18 (((81 : Int32) * x4) + (0 : Int32)).toNatClampNeg)), (x4 + (1 : Int32))], S))))))))))
noncomputable def B_X12_empty : Cs → Option ((Int32 × Wd) ⊕ Cs)
  | (0, [a0], [a1], S) => B_X12_empty_0 S a0 a1
  | (1, [x0], [x1, x2, x3, x4], S) => B_X12_empty_1 S x0 x1 x2 x3 x4
  | _ => none
def P_X12_empty : Cs → Option (Nat × List (Nat × Value) × Wd × Nat × Nat)
  | (0, [a0], [a1], S) => some (0, [(0, .ref a0), (1, .int a1)], S, 0, 0)
  | (1, [x0], [x1, x2, x3, x4], S) => some (18, [(0, .ref x0), (1, .int x1), (2, .int x2), (3, .int x3), (4, .int x4)], S, 0, 0)
  | _ => none
noncomputable def f_X12_empty (S : Wd) (a0 : Nat) (a1 : Int32) : Option (Int32 × Wd) := ru B_X12_empty (0, [a0], [a1], S)
abbrev N_X12_empty (b : Bd) (r : Int32 × Wd) (c : (Int32 × Wd) ⊕ Cs) : Prop := match c with
  | .inl r' => r' = r
  | .inr s' => ∀ pc L S kc ks, P_X12_empty s' = some (pc, L, S, kc, ks) → G b pc L [] S kc ks
set_option maxRecDepth 100000 in
set_option maxHeartbeats 4000000 in
theorem w_X12_empty_0 {b : Bd} {r : Int32 × Wd} (hC : CX b yX12_empty.cls cX12_empty 5 { frames := 5, cells := 0, slots := 0, locals := 119 }) (hin : yX12_empty.name = "<init>" → b.2.2.2.2.2.2.2.2.1.name = "<init>") (hR : RT b (some .int) (some (.int r.1)) r.2 0 0) {S : Wd} {a0 : Nat} {a1 : Int32} {c : (Int32 × Wd) ⊕ Cs} (h : B_X12_empty_0 S a0 a1 = some c) (hk : N_X12_empty b r c) : G b 0 [(0, .ref a0), (1, .int a1)] [] S 0 0 := by
  unfold B_X12_empty_0 at h
  refine g_aload_n hC dX12_empty_0 rfl ?_
  obtain ⟨ho3, h⟩ := gd_some h
  obtain ⟨S2, hr1, h⟩ := Option.bind_eq_some_iff.mp h
  refine g_callV (rest := []) hC mi_X12_findRows (k_X12_findRows hr1) ck_X12.1 (by decide) ho3 tw_1195 tw_1197 ts_38 dX12_empty_1 rfl rfl ⟨by decide, by decide⟩ (Nat.le_of_ble_eq_true rfl) ⟨by decide, by decide⟩ ?_
  refine g_aload_n hC dX12_empty_4 rfl ?_
  refine g_aload_n hC dX12_empty_5 rfl ?_
  obtain ⟨ho6, h⟩ := gd_some h
  obtain ⟨r7, S5, hr4, h⟩ := bd2_some h
  refine g_callV (rest := [.ref a0]) hC mi_X12_given (k_X12_given hr4) ck_X12.1 (by decide) ho6 tw_1199 tw_1201 ts_39 dX12_empty_6 rfl rfl ⟨by decide, by decide⟩ (Nat.le_of_ble_eq_true rfl) ⟨by decide, by decide⟩ ?_
  obtain ⟨ho10, h⟩ := gd_some h
  obtain ⟨r11, S9, hr8, h⟩ := bd2_some h
  refine g_callV (rest := []) hC mi_X12_findGiving (k_X12_findGiving hr8) ck_X12.1 (by decide) ho10 tw_1203 tw_1205 ts_40 dX12_empty_9 rfl rfl ⟨by decide, by decide⟩ (Nat.le_of_ble_eq_true rfl) ⟨by decide, by decide⟩ ?_
  refine g_istore_n (L' := [(2, .int r11), (0, .ref a0), (1, .int a1)]) hC dX12_empty_12 (by decide) rfl ?_
  refine g_iconst (v := (0 : Int32)) hC dX12_empty_13 (by decide) ?_
  refine g_istore_n (L' := [(3, .int (0 : Int32)), (2, .int r11), (0, .ref a0), (1, .int a1)]) hC dX12_empty_14 (by decide) rfl ?_
  refine g_iconst (v := (0 : Int32)) hC dX12_empty_15 (by decide) ?_
  refine g_istore (L' := [(4, .int (0 : Int32)), (3, .int (0 : Int32)), (2, .int r11), (0, .ref a0), (1, .int a1)]) hC dX12_empty_16 (by decide) rfl ?_
  cases h
  refine g_pick (L' := [(0, .ref a0), (1, .int a1), (2, .int r11), (3, .int (0 : Int32)), (4, .int (0 : Int32))]) [3, 4, 2, 1, 0] rfl ?_
  exact hk _ _ _ _ _ rfl
set_option maxRecDepth 100000 in
set_option maxHeartbeats 4000000 in
theorem w_X12_empty_1 {b : Bd} {r : Int32 × Wd} (hC : CX b yX12_empty.cls cX12_empty 5 { frames := 5, cells := 0, slots := 0, locals := 119 }) (hin : yX12_empty.name = "<init>" → b.2.2.2.2.2.2.2.2.1.name = "<init>") (hR : RT b (some .int) (some (.int r.1)) r.2 0 0) {S : Wd} {x0 : Nat} {x1 : Int32} {x2 : Int32} {x3 : Int32} {x4 : Int32} {c : (Int32 × Wd) ⊕ Cs} (h : B_X12_empty_1 S x0 x1 x2 x3 x4 = some c) (hk : N_X12_empty b r c) : G b 18 [(0, .ref x0), (1, .int x1), (2, .int x2), (3, .int x3), (4, .int x4)] [] S 0 0 := by
  unfold B_X12_empty_1 at h
  refine g_iload hC dX12_empty_18 rfl ?_
  refine g_aload_n hC dX12_empty_20 rfl ?_
  obtain ⟨ho12, h⟩ := gd_some h
  obtain ⟨q13, hq14, h⟩ := Option.bind_eq_some_iff.mp h
  refine g_getr (k := 0) (q := q13) hC ck_X12 (by decide) tw_984 rfl (by decide) dX12_empty_21 ho12 hq14 ?_
  refine g_bipush (v := (64 : Int32)) hC dX12_empty_24 (by decide) ?_
  obtain ⟨hx15, h⟩ := gd_some h
  refine g_iald hC dX12_empty_26 hx15.1 hx15.2 ?_
  refine g_icmp_ge (tgt := 65) hC dX12_empty_27 (by decide) (fun hc16 => ?_) (fun hc16 => ?_)
  · rw [if_pos hc16] at h
    refine g_iload_n hC dX12_empty_65 rfl ?_
    cases h
    subst hk
    exact g_iret hC hR dX12_empty_66 (by decide) (by decide)
  · rw [if_neg hc16] at h
    refine g_iload_n hC dX12_empty_30 rfl ?_
    refine g_aload_n hC dX12_empty_31 rfl ?_
    obtain ⟨ho17, h⟩ := gd_some h
    obtain ⟨q18, hq19, h⟩ := Option.bind_eq_some_iff.mp h
    refine g_getr (k := 17) (q := q18) hC ck_X12 (by decide) tw_1001 rfl (by decide) dX12_empty_32 ho17 hq19 ?_
    refine g_bipush (v := (81 : Int32)) hC dX12_empty_35 (by decide) ?_
    refine g_iload hC dX12_empty_37 rfl ?_
    refine g_imul hC dX12_empty_39 ?_
    refine g_iload_n hC dX12_empty_40 rfl ?_
    refine g_if_eq (tgt := 48) hC dX12_empty_41 (by decide) (fun hc20 => ?_) (fun hc20 => ?_)
    · rw [if_pos hc20] at h
      refine g_aload_n hC dX12_empty_48 rfl ?_
      obtain ⟨ho21, h⟩ := gd_some h
      obtain ⟨q22, hq23, h⟩ := Option.bind_eq_some_iff.mp h
      refine g_getr (k := 19) (q := q22) hC ck_X12 (by decide) tw_1003 rfl (by decide) dX12_empty_49 ho21 hq23 ?_
      refine g_iload hC dX12_empty_52 rfl ?_
      obtain ⟨hx24, h⟩ := gd_some h
      refine g_iald hC dX12_empty_54 hx24.1 hx24.2 ?_
      refine g_iadd hC dX12_empty_55 ?_
      obtain ⟨hx25, h⟩ := gd_some h
      refine g_iald hC dX12_empty_56 hx25.1 hx25.2 ?_
      refine g_iadd hC dX12_empty_57 ?_
      refine g_istore_n (L' := [(3, .int (x3 + (wI S q18 (((81 : Int32) * x4) + (wI S q22 x4.toNatClampNeg)).toNatClampNeg))), (0, .ref x0), (1, .int x1), (2, .int x2), (4, .int x4)]) hC dX12_empty_58 (by decide) rfl ?_
      refine g_iinc (v := (1 : Int32)) (L' := [(4, .int (x4 + (1 : Int32))), (3, .int (x3 + (wI S q18 (((81 : Int32) * x4) + (wI S q22 x4.toNatClampNeg)).toNatClampNeg))), (0, .ref x0), (1, .int x1), (2, .int x2)]) hC dX12_empty_59 rfl (by decide) (by decide) rfl ?_
      refine g_goto (tgt := 18) hC dX12_empty_62 (by decide) ?_
      cases h
      refine g_pick (L' := [(0, .ref x0), (1, .int x1), (2, .int x2), (3, .int (x3 + (wI S q18 (((81 : Int32) * x4) + (wI S q22 x4.toNatClampNeg)).toNatClampNeg))), (4, .int (x4 + (1 : Int32)))]) [2, 3, 4, 1, 0] rfl ?_
      exact hk _ _ _ _ _ rfl
    · rw [if_neg hc20] at h
      refine g_iconst (v := (0 : Int32)) hC dX12_empty_44 (by decide) ?_
      refine g_goto (tgt := 55) hC dX12_empty_45 (by decide) ?_
      refine g_iadd hC dX12_empty_55 ?_
      obtain ⟨hx26, h⟩ := gd_some h
      refine g_iald hC dX12_empty_56 hx26.1 hx26.2 ?_
      refine g_iadd hC dX12_empty_57 ?_
      refine g_istore_n (L' := [(3, .int (x3 + (wI S q18 (((81 : Int32) * x4) + (0 : Int32)).toNatClampNeg))), (0, .ref x0), (1, .int x1), (2, .int x2), (4, .int x4)]) hC dX12_empty_58 (by decide) rfl ?_
      refine g_iinc (v := (1 : Int32)) (L' := [(4, .int (x4 + (1 : Int32))), (3, .int (x3 + (wI S q18 (((81 : Int32) * x4) + (0 : Int32)).toNatClampNeg))), (0, .ref x0), (1, .int x1), (2, .int x2)]) hC dX12_empty_59 rfl (by decide) (by decide) rfl ?_
      refine g_goto (tgt := 18) hC dX12_empty_62 (by decide) ?_
      cases h
      refine g_pick (L' := [(0, .ref x0), (1, .int x1), (2, .int x2), (3, .int (x3 + (wI S q18 (((81 : Int32) * x4) + (0 : Int32)).toNatClampNeg))), (4, .int (x4 + (1 : Int32)))]) [2, 3, 4, 1, 0] rfl ?_
      exact hk _ _ _ _ _ rfl
theorem w_X12_empty {b : Bd} {r : Int32 × Wd} (hC : CX b yX12_empty.cls cX12_empty 5 { frames := 5, cells := 0, slots := 0, locals := 119 }) (hin : yX12_empty.name = "<init>" → b.2.2.2.2.2.2.2.2.1.name = "<init>") (hR : RT b (some .int) (some (.int r.1)) r.2 0 0) {s : Cs} {c : (Int32 × Wd) ⊕ Cs} (h : B_X12_empty s = some c) (hk : N_X12_empty b r c) : ∀ pc L S kc ks, P_X12_empty s = some (pc, L, S, kc, ks) → G b pc L [] S kc ks := by
  intro pc L S kc ks hp
  unfold B_X12_empty at h
  split at h
  · cases hp
    exact w_X12_empty_0 hC hin hR h hk
  · cases hp
    exact w_X12_empty_1 hC hin hR h hk
  · cases h
theorem k_X12_empty {S : Wd} {a0 : Nat} {a1 : Int32} {r : Int32} {S' : Wd} (h : f_X12_empty S a0 a1 = some (r, S')) : Sp yX12_empty cX12_empty 5 (some .int) 5 119 0 0 [.ref a0, .int a1] S (some (.int r)) S' := by
  unfold f_X12_empty at h
  refine Sp.of (by decide +kernel) (Nat.le_of_ble_eq_true rfl) ?_
  intro b hC hin hR
  exact ru_ind (P := fun s q0 => q0 = (r, S') → ∀ pc L S kc ks, P_X12_empty s = some (pc, L, S, kc, ks) → G b pc L [] S kc ks) (fun s q0 hB e => w_X12_empty (r := (r, S')) hC hin hR hB e) (fun s s' q0 hB ih e => w_X12_empty (r := (r, S')) hC hin hR hB (ih e)) h rfl _ _ _ _ _ rfl

theorem mi_X12_worth : MI yX12_worth cX12_worth 2 (some .int) 1 := ⟨tw_1230, tw_14, by decide +kernel, by decide +kernel, by decide +kernel⟩
noncomputable def f_X12_worth (S : Wd) (a0 : Nat) (a1 : Int32) : Option (Int32 × Wd) := gd (ob S a0 12) (bd2 (f_X12_isLoad S a0 a1) (fun r4 S2 => if r4 = 0 then (gd (ob S2 a0 12) (bd2 (f_X12_finding S2 a0 (-100001 : Int32)) (fun r28 S26 => some (r28, S26)))) else (gd (ob S2 a0 12) (Option.bind (f_X12_findRows S2 a0) (fun S7 => gd (ob S7 a0 12) (bd2 (f_X12_given S7 a0) (fun r12 S10 => gd (ob S10 a0 12) (bd2 (f_X12_findGiving S10 a0 r12) (fun r16 S14 => gd (ob S14 a0 12) (bd2 (f_X12_given S14 a0) (fun r20 S18 => gd (ob S18 a0 12) (bd2 (f_X12_findGiving S18 a0 (r20 ||| ((1 : Int32) <<< (a1 &&& 31)))) (fun r24 S22 => some ((r16 - r24), S22))))))))))))))
set_option maxRecDepth 100000 in
set_option maxHeartbeats 4000000 in
theorem k_X12_worth {S : Wd} {a0 : Nat} {a1 : Int32} {r : Int32} {S' : Wd} (h : f_X12_worth S a0 a1 = some (r, S')) : Sp yX12_worth cX12_worth 2 (some .int) 5 119 0 0 [.ref a0, .int a1] S (some (.int r)) S' := by
  unfold f_X12_worth at h
  refine Sp.of (by decide +kernel) (Nat.le_of_ble_eq_true rfl) ?_
  intro b hC hin hR
  show G b 0 [(0, .ref a0), (1, .int a1)] [] S 0 0
  refine g_aload_n hC dX12_worth_0 rfl ?_
  refine g_iload_n hC dX12_worth_1 rfl ?_
  obtain ⟨ho3, h⟩ := gd_some h
  obtain ⟨r4, S2, hr1, h⟩ := bd2_some h
  refine g_callV (rest := []) hC mi_X12_isLoad (k_X12_isLoad hr1) ck_X12.1 (by decide) ho3 tw_1135 tw_1137 ts_29 dX12_worth_2 rfl rfl ⟨by decide, by decide⟩ (Nat.le_of_ble_eq_true rfl) ⟨by decide, by decide⟩ ?_
  refine g_if_ne (tgt := 15) hC dX12_worth_5 (by decide) (fun hc5 => ?_) (fun hc5 => ?_)
  · rw [if_neg hc5] at h
    refine g_aload_n hC dX12_worth_15 rfl ?_
    obtain ⟨ho8, h⟩ := gd_some h
    obtain ⟨S7, hr6, h⟩ := Option.bind_eq_some_iff.mp h
    refine g_callV (rest := []) hC mi_X12_findRows (k_X12_findRows hr6) ck_X12.1 (by decide) ho8 tw_1195 tw_1197 ts_38 dX12_worth_16 rfl rfl ⟨by decide, by decide⟩ (Nat.le_of_ble_eq_true rfl) ⟨by decide, by decide⟩ ?_
    refine g_aload_n hC dX12_worth_19 rfl ?_
    refine g_aload_n hC dX12_worth_20 rfl ?_
    obtain ⟨ho11, h⟩ := gd_some h
    obtain ⟨r12, S10, hr9, h⟩ := bd2_some h
    refine g_callV (rest := [.ref a0]) hC mi_X12_given (k_X12_given hr9) ck_X12.1 (by decide) ho11 tw_1199 tw_1201 ts_39 dX12_worth_21 rfl rfl ⟨by decide, by decide⟩ (Nat.le_of_ble_eq_true rfl) ⟨by decide, by decide⟩ ?_
    obtain ⟨ho15, h⟩ := gd_some h
    obtain ⟨r16, S14, hr13, h⟩ := bd2_some h
    refine g_callV (rest := []) hC mi_X12_findGiving (k_X12_findGiving hr13) ck_X12.1 (by decide) ho15 tw_1203 tw_1205 ts_40 dX12_worth_24 rfl rfl ⟨by decide, by decide⟩ (Nat.le_of_ble_eq_true rfl) ⟨by decide, by decide⟩ ?_
    refine g_aload_n hC dX12_worth_27 rfl ?_
    refine g_aload_n hC dX12_worth_28 rfl ?_
    obtain ⟨ho19, h⟩ := gd_some h
    obtain ⟨r20, S18, hr17, h⟩ := bd2_some h
    refine g_callV (rest := [.ref a0, .int r16]) hC mi_X12_given (k_X12_given hr17) ck_X12.1 (by decide) ho19 tw_1199 tw_1201 ts_39 dX12_worth_29 rfl rfl ⟨by decide, by decide⟩ (Nat.le_of_ble_eq_true rfl) ⟨by decide, by decide⟩ ?_
    refine g_iconst (v := (1 : Int32)) hC dX12_worth_32 (by decide) ?_
    refine g_iload_n hC dX12_worth_33 rfl ?_
    refine g_ishl hC dX12_worth_34 ?_
    refine g_ior hC dX12_worth_35 ?_
    obtain ⟨ho23, h⟩ := gd_some h
    obtain ⟨r24, S22, hr21, h⟩ := bd2_some h
    refine g_callV (rest := [.int r16]) hC mi_X12_findGiving (k_X12_findGiving hr21) ck_X12.1 (by decide) ho23 tw_1203 tw_1205 ts_40 dX12_worth_36 rfl rfl ⟨by decide, by decide⟩ (Nat.le_of_ble_eq_true rfl) ⟨by decide, by decide⟩ ?_
    refine g_isub hC dX12_worth_39 ?_
    cases h
    exact g_iret hC hR dX12_worth_40 (by decide) (by decide)
  · rw [if_pos hc5] at h
    refine g_aload_n hC dX12_worth_8 rfl ?_
    refine g_ldc hC tw_1083 dX12_worth_9 ?_
    obtain ⟨ho27, h⟩ := gd_some h
    obtain ⟨r28, S26, hr25, h⟩ := bd2_some h
    refine g_callV (rest := []) hC mi_X12_finding (k_X12_finding hr25) ck_X12.1 (by decide) ho27 tw_1069 tw_1071 ts_24 dX12_worth_11 rfl rfl ⟨by decide, by decide⟩ (Nat.le_of_ble_eq_true rfl) ⟨by decide, by decide⟩ ?_
    cases h
    exact g_iret hC hR dX12_worth_14 (by decide) (by decide)

theorem mi_X12_isSheet : MI yX12_isSheet cX12_isSheet 1 (some .boolean) 1 := ⟨tw_1237, tw_14, by decide +kernel, by decide +kernel, by decide +kernel⟩
noncomputable def f_X12_isSheet (S : Wd) (a0 : Int32) : Option (Int32 × Wd) := bd2 (f_X12_within S a0 (0 : Int32) (3 : Int32)) (fun r3 S2 => gd (narrow .boolean (.int r3) = .int r3) (some (r3, S2)))
set_option maxRecDepth 100000 in
set_option maxHeartbeats 4000000 in
theorem k_X12_isSheet {S : Wd} {a0 : Int32} {r : Int32} {S' : Wd} (h : f_X12_isSheet S a0 = some (r, S')) : Sp yX12_isSheet cX12_isSheet 1 (some .boolean) 1 22 0 0 [.int a0] S (some (.int r)) S' := by
  unfold f_X12_isSheet at h
  refine Sp.of (by decide +kernel) (Nat.le_of_ble_eq_true rfl) ?_
  intro b hC hin hR
  show G b 0 [(0, .int a0)] [] S 0 0
  refine g_iload_n hC dX12_isSheet_0 rfl ?_
  refine g_iconst (v := (0 : Int32)) hC dX12_isSheet_1 (by decide) ?_
  refine g_iconst (v := (3 : Int32)) hC dX12_isSheet_2 (by decide) ?_
  obtain ⟨r3, S2, hr1, h⟩ := bd2_some h
  refine g_callS (rest := []) hC mi_X12_within (k_X12_within hr1) tw_1080 tw_1081 dX12_isSheet_3 rfl rfl ⟨by decide, by decide⟩ (Nat.le_of_ble_eq_true rfl) ⟨by decide, by decide⟩ ?_
  obtain ⟨hv4, h⟩ := gd_some h
  cases h
  exact g_zret hC hR hv4 dX12_isSheet_6 (by decide) (by decide)

theorem mi_X12_proves : MI yX12_proves cX12_proves 9 (some .int) 1 := ⟨tw_1234, tw_14, by decide +kernel, by decide +kernel, by decide +kernel⟩
noncomputable def B_X12_proves_0 (S : Wd) (a0 : Nat) (a1 : Int32) : Option ((Int32 × Wd) ⊕ Cs) := bd2 (f_X12_isSheet S a1) (fun r3 S2 => if r3 = 0 then (gd (ob S2 a0 12) (bd2 (f_X12_finding S2 a0 (-100001 : Int32)) (fun r37 S35 => some (.inl (r37, S35))))) else (gd (ob S2 a0 12) (Option.bind (wO S2 a0 4) (fun q6 => gd (ix S2 q6 100 a1) (if (wI S2 q6 a1.toNatClampNeg) = 0 then (gd (ob S2 a0 12) (bd2 (f_X12_finding S2 a0 (-100002 : Int32)) (fun r33 S31 => some (.inl (r33, S31))))) else (gd (ob S2 a0 12) (Option.bind (wO S2 a0 0) (fun q11 => gd (ix S2 q11 100 (64 : Int32)) (gd (ob S2 a0 12) (Option.bind (wO S2 a0 5) (fun q15 => gd (ix S2 q15 100 a1) (if (wI S2 q15 a1.toNatClampNeg) = (wI S2 q11 (64 : Int32).toNatClampNeg) then (gd (ob S2 a0 12) (Option.bind (f_X12_findRows S2 a0) (fun S20 => gd (ob S20 a0 12) (bd2 (f_X12_given S20 a0) (fun r25 S23 => some (.inr (1, [a0], [a1, (wI S2 q11 (64 : Int32).toNatClampNeg), r25, (0 : Int32), (0 : Int32)], S23))))))) else (gd (ob S2 a0 12) (bd2 (f_X12_finding S2 a0 (-100003 : Int32)) (fun r29 S27 => some (.inl (r29, S27)))))))))))))))))
noncomputable def B_X12_proves_1 (S : Wd) (x0 : Nat) (x1 : Int32) (x2 : Int32) (x3 : Int32) (x4 : Int32) (x5 : Int32) : Option ((Int32 × Wd) ⊕ Cs) := if x2 ≤ x5 then (gd (ob S x0 12) (bd2 (f_X12_given S x0) (fun r42 S40 => gd (ob S40 x0 12) (bd2 (f_X12_findGiving S40 x0 r42) (fun r46 S44 => if x4 = r46 then (some (.inl ((-1 : Int32), S44))) else (some (.inl (x2, S44)))))))) else (gd (ob S x0 12) (Option.bind (wO S x0 6) (fun q49 => gd (ix S q49 100 (((20 : Int32) * x1) + x5)) (if (wI S q49 (((20 : Int32) * x1) + x5).toNatClampNeg) < 0 then (if (0 : Int32) = 0 then (if (0 : Int32) = 0 then (some (.inl (x5, S))) else (none)) else (none)) else (gd (ob S x0 12) (Option.bind (wO S x0 0) (fun q56 => gd (ix S q56 100 (65 : Int32)) (if (wI S q56 (65 : Int32).toNatClampNeg) < ((wI S q49 (((20 : Int32) * x1) + x5).toNatClampNeg) / (100 : Int32)) then (if (0 : Int32) = 0 then (if (0 : Int32) = 0 then (some (.inl (x5, S))) else (none)) else (none)) else (gd (ob S x0 12) (Option.bind (wO S x0 0) (fun q63 => gd (ix S q63 100 (65 : Int32)) (if (wI S q63 (65 : Int32).toNatClampNeg) < (irm (wI S q49 (((20 : Int32) * x1) + x5).toNatClampNeg) (100 : Int32)) then (if (0 : Int32) = 0 then (if (0 : Int32) = 0 then (some (.inl (x5, S))) else (none)) else (none)) else (if (1 : Int32) = 0 then (none) else (if (1 : Int32) = 0 then (none) else (gd (ob S x0 12) (bd2 (f_X12_isOpen S x0 x5 (((9 : Int32) * ((wI S q49 (((20 : Int32) * x1) + x5).toNatClampNeg) / (100 : Int32))) + (irm (wI S q49 (((20 : Int32) * x1) + x5).toNatClampNeg) (100 : Int32))) x3) (fun r74 S72 => if r74 = 0 then (some (.inl (x5, S72))) else (bd2 (f_X12_setOf S72 (((9 : Int32) * ((wI S q49 (((20 : Int32) * x1) + x5).toNatClampNeg) / (100 : Int32))) + (irm (wI S q49 (((20 : Int32) * x1) + x5).toNatClampNeg) (100 : Int32)))) (fun r78 S77 => gd (ob S77 x0 12) (Option.bind (wO S77 x0 16) (fun q80 => gd (ix S77 q80 100 (((81 : Int32) * x5) + (((9 : Int32) * ((wI S q49 (((20 : Int32) * x1) + x5).toNatClampNeg) / (100 : Int32))) + (irm (wI S q49 (((20 : Int32) * x1) + x5).toNatClampNeg) (100 : Int32))))) (some (.inr (1, [x0], [x1, x2, (x3 ||| r78), (x4 + (wI S77 q80 (((81 : Int32) * x5) + (((9 : Int32) * ((wI S q49 (((20 : Int32) * x1) + x5).toNatClampNeg) / (100 : Int32))) + (irm (wI S q49 (((20 : Int32) * x1) + x5).toNatClampNeg) (100 : Int32)))).toNatClampNeg)), (x5 + (1 : Int32))], S77))))))))))))))))))))))))
noncomputable def B_X12_proves : Cs → Option ((Int32 × Wd) ⊕ Cs)
  | (0, [a0], [a1], S) => B_X12_proves_0 S a0 a1
  | (1, [x0], [x1, x2, x3, x4, x5], S) => B_X12_proves_1 S x0 x1 x2 x3 x4 x5
  | _ => none
def P_X12_proves : Cs → Option (Nat × List (Nat × Value) × Wd × Nat × Nat)
  | (0, [a0], [a1], S) => some (0, [(0, .ref a0), (1, .int a1)], S, 0, 0)
  | (1, [x0], [x1, x2, x3, x4, x5], S) => some (70, [(0, .ref x0), (1, .int x1), (2, .int x2), (3, .int x3), (4, .int x4), (5, .int x5)], S, 0, 0)
  | _ => none
noncomputable def f_X12_proves (S : Wd) (a0 : Nat) (a1 : Int32) : Option (Int32 × Wd) := ru B_X12_proves (0, [a0], [a1], S)
abbrev N_X12_proves (b : Bd) (r : Int32 × Wd) (c : (Int32 × Wd) ⊕ Cs) : Prop := match c with
  | .inl r' => r' = r
  | .inr s' => ∀ pc L S kc ks, P_X12_proves s' = some (pc, L, S, kc, ks) → G b pc L [] S kc ks
set_option maxRecDepth 100000 in
set_option maxHeartbeats 4000000 in
theorem w_X12_proves_0 {b : Bd} {r : Int32 × Wd} (hC : CX b yX12_proves.cls cX12_proves 9 { frames := 5, cells := 0, slots := 0, locals := 119 }) (hin : yX12_proves.name = "<init>" → b.2.2.2.2.2.2.2.2.1.name = "<init>") (hR : RT b (some .int) (some (.int r.1)) r.2 0 0) {S : Wd} {a0 : Nat} {a1 : Int32} {c : (Int32 × Wd) ⊕ Cs} (h : B_X12_proves_0 S a0 a1 = some c) (hk : N_X12_proves b r c) : G b 0 [(0, .ref a0), (1, .int a1)] [] S 0 0 := by
  unfold B_X12_proves_0 at h
  refine g_iload_n hC dX12_proves_0 rfl ?_
  obtain ⟨r3, S2, hr1, h⟩ := bd2_some h
  refine g_callS (rest := []) hC mi_X12_isSheet (k_X12_isSheet hr1) tw_1235 tw_1236 dX12_proves_1 rfl rfl ⟨by decide, by decide⟩ (Nat.le_of_ble_eq_true rfl) ⟨by decide, by decide⟩ ?_
  refine g_if_ne (tgt := 14) hC dX12_proves_4 (by decide) (fun hc4 => ?_) (fun hc4 => ?_)
  · rw [if_neg hc4] at h
    refine g_aload_n hC dX12_proves_14 rfl ?_
    obtain ⟨ho5, h⟩ := gd_some h
    obtain ⟨q6, hq7, h⟩ := Option.bind_eq_some_iff.mp h
    refine g_getr (k := 4) (q := q6) hC ck_X12 (by decide) tw_988 rfl (by decide) dX12_proves_15 ho5 hq7 ?_
    refine g_iload_n hC dX12_proves_18 rfl ?_
    obtain ⟨hx8, h⟩ := gd_some h
    refine g_iald hC dX12_proves_19 hx8.1 hx8.2 ?_
    refine g_if_ne (tgt := 30) hC dX12_proves_20 (by decide) (fun hc9 => ?_) (fun hc9 => ?_)
    · rw [if_neg hc9] at h
      refine g_aload_n hC dX12_proves_30 rfl ?_
      obtain ⟨ho10, h⟩ := gd_some h
      obtain ⟨q11, hq12, h⟩ := Option.bind_eq_some_iff.mp h
      refine g_getr (k := 0) (q := q11) hC ck_X12 (by decide) tw_984 rfl (by decide) dX12_proves_31 ho10 hq12 ?_
      refine g_bipush (v := (64 : Int32)) hC dX12_proves_34 (by decide) ?_
      obtain ⟨hx13, h⟩ := gd_some h
      refine g_iald hC dX12_proves_36 hx13.1 hx13.2 ?_
      refine g_istore_n (L' := [(2, .int (wI S2 q11 (64 : Int32).toNatClampNeg)), (0, .ref a0), (1, .int a1)]) hC dX12_proves_37 (by decide) rfl ?_
      refine g_aload_n hC dX12_proves_38 rfl ?_
      obtain ⟨ho14, h⟩ := gd_some h
      obtain ⟨q15, hq16, h⟩ := Option.bind_eq_some_iff.mp h
      refine g_getr (k := 5) (q := q15) hC ck_X12 (by decide) tw_989 rfl (by decide) dX12_proves_39 ho14 hq16 ?_
      refine g_iload_n hC dX12_proves_42 rfl ?_
      obtain ⟨hx17, h⟩ := gd_some h
      refine g_iald hC dX12_proves_43 hx17.1 hx17.2 ?_
      refine g_iload_n hC dX12_proves_44 rfl ?_
      refine g_icmp_eq (tgt := 55) hC dX12_proves_45 (by decide) (fun hc18 => ?_) (fun hc18 => ?_)
      · rw [if_pos hc18] at h
        refine g_aload_n hC dX12_proves_55 rfl ?_
        obtain ⟨ho21, h⟩ := gd_some h
        obtain ⟨S20, hr19, h⟩ := Option.bind_eq_some_iff.mp h
        refine g_callV (rest := []) hC mi_X12_findRows (k_X12_findRows hr19) ck_X12.1 (by decide) ho21 tw_1195 tw_1197 ts_38 dX12_proves_56 rfl rfl ⟨by decide, by decide⟩ (Nat.le_of_ble_eq_true rfl) ⟨by decide, by decide⟩ ?_
        refine g_aload_n hC dX12_proves_59 rfl ?_
        obtain ⟨ho24, h⟩ := gd_some h
        obtain ⟨r25, S23, hr22, h⟩ := bd2_some h
        refine g_callV (rest := []) hC mi_X12_given (k_X12_given hr22) ck_X12.1 (by decide) ho24 tw_1199 tw_1201 ts_39 dX12_proves_60 rfl rfl ⟨by decide, by decide⟩ (Nat.le_of_ble_eq_true rfl) ⟨by decide, by decide⟩ ?_
        refine g_istore_n (L' := [(3, .int r25), (2, .int (wI S2 q11 (64 : Int32).toNatClampNeg)), (0, .ref a0), (1, .int a1)]) hC dX12_proves_63 (by decide) rfl ?_
        refine g_iconst (v := (0 : Int32)) hC dX12_proves_64 (by decide) ?_
        refine g_istore (L' := [(4, .int (0 : Int32)), (3, .int r25), (2, .int (wI S2 q11 (64 : Int32).toNatClampNeg)), (0, .ref a0), (1, .int a1)]) hC dX12_proves_65 (by decide) rfl ?_
        refine g_iconst (v := (0 : Int32)) hC dX12_proves_67 (by decide) ?_
        refine g_istore (L' := [(5, .int (0 : Int32)), (4, .int (0 : Int32)), (3, .int r25), (2, .int (wI S2 q11 (64 : Int32).toNatClampNeg)), (0, .ref a0), (1, .int a1)]) hC dX12_proves_68 (by decide) rfl ?_
        cases h
        refine g_pick (L' := [(0, .ref a0), (1, .int a1), (2, .int (wI S2 q11 (64 : Int32).toNatClampNeg)), (3, .int r25), (4, .int (0 : Int32)), (5, .int (0 : Int32))]) [4, 5, 3, 2, 1, 0] rfl ?_
        exact hk _ _ _ _ _ rfl
      · rw [if_neg hc18] at h
        refine g_aload_n hC dX12_proves_48 rfl ?_
        refine g_ldc hC tw_1130 dX12_proves_49 ?_
        obtain ⟨ho28, h⟩ := gd_some h
        obtain ⟨r29, S27, hr26, h⟩ := bd2_some h
        refine g_callV (rest := []) hC mi_X12_finding (k_X12_finding hr26) ck_X12.1 (by decide) ho28 tw_1069 tw_1071 ts_24 dX12_proves_51 rfl rfl ⟨by decide, by decide⟩ (Nat.le_of_ble_eq_true rfl) ⟨by decide, by decide⟩ ?_
        cases h
        subst hk
        exact g_iret hC hR dX12_proves_54 (by decide) (by decide)
    · rw [if_pos hc9] at h
      refine g_aload_n hC dX12_proves_23 rfl ?_
      refine g_ldc hC tw_1238 dX12_proves_24 ?_
      obtain ⟨ho32, h⟩ := gd_some h
      obtain ⟨r33, S31, hr30, h⟩ := bd2_some h
      refine g_callV (rest := []) hC mi_X12_finding (k_X12_finding hr30) ck_X12.1 (by decide) ho32 tw_1069 tw_1071 ts_24 dX12_proves_26 rfl rfl ⟨by decide, by decide⟩ (Nat.le_of_ble_eq_true rfl) ⟨by decide, by decide⟩ ?_
      cases h
      subst hk
      exact g_iret hC hR dX12_proves_29 (by decide) (by decide)
  · rw [if_pos hc4] at h
    refine g_aload_n hC dX12_proves_7 rfl ?_
    refine g_ldc hC tw_1083 dX12_proves_8 ?_
    obtain ⟨ho36, h⟩ := gd_some h
    obtain ⟨r37, S35, hr34, h⟩ := bd2_some h
    refine g_callV (rest := []) hC mi_X12_finding (k_X12_finding hr34) ck_X12.1 (by decide) ho36 tw_1069 tw_1071 ts_24 dX12_proves_10 rfl rfl ⟨by decide, by decide⟩ (Nat.le_of_ble_eq_true rfl) ⟨by decide, by decide⟩ ?_
    cases h
    subst hk
    exact g_iret hC hR dX12_proves_13 (by decide) (by decide)
set_option maxRecDepth 100000 in
set_option maxHeartbeats 4000000 in
theorem w_X12_proves_1 {b : Bd} {r : Int32 × Wd} (hC : CX b yX12_proves.cls cX12_proves 9 { frames := 5, cells := 0, slots := 0, locals := 119 }) (hin : yX12_proves.name = "<init>" → b.2.2.2.2.2.2.2.2.1.name = "<init>") (hR : RT b (some .int) (some (.int r.1)) r.2 0 0) {S : Wd} {x0 : Nat} {x1 : Int32} {x2 : Int32} {x3 : Int32} {x4 : Int32} {x5 : Int32} {c : (Int32 × Wd) ⊕ Cs} (h : B_X12_proves_1 S x0 x1 x2 x3 x4 x5 = some c) (hk : N_X12_proves b r c) : G b 70 [(0, .ref x0), (1, .int x1), (2, .int x2), (3, .int x3), (4, .int x4), (5, .int x5)] [] S 0 0 := by
  unfold B_X12_proves_1 at h
  refine g_iload hC dX12_proves_70 rfl ?_
  refine g_iload_n hC dX12_proves_72 rfl ?_
  refine g_icmp_ge (tgt := 209) hC dX12_proves_73 (by decide) (fun hc38 => ?_) (fun hc38 => ?_)
  · rw [if_pos hc38] at h
    refine g_iload hC dX12_proves_209 rfl ?_
    refine g_aload_n hC dX12_proves_211 rfl ?_
    refine g_aload_n hC dX12_proves_212 rfl ?_
    obtain ⟨ho41, h⟩ := gd_some h
    obtain ⟨r42, S40, hr39, h⟩ := bd2_some h
    refine g_callV (rest := [.ref x0, .int x4]) hC mi_X12_given (k_X12_given hr39) ck_X12.1 (by decide) ho41 tw_1199 tw_1201 ts_39 dX12_proves_213 rfl rfl ⟨by decide, by decide⟩ (Nat.le_of_ble_eq_true rfl) ⟨by decide, by decide⟩ ?_
    obtain ⟨ho45, h⟩ := gd_some h
    obtain ⟨r46, S44, hr43, h⟩ := bd2_some h
    refine g_callV (rest := [.int x4]) hC mi_X12_findGiving (k_X12_findGiving hr43) ck_X12.1 (by decide) ho45 tw_1203 tw_1205 ts_40 dX12_proves_216 rfl rfl ⟨by decide, by decide⟩ (Nat.le_of_ble_eq_true rfl) ⟨by decide, by decide⟩ ?_
    refine g_icmp_ne (tgt := 226) hC dX12_proves_219 (by decide) (fun hc47 => ?_) (fun hc47 => ?_)
    · rw [if_neg hc47] at h
      refine g_iload_n hC dX12_proves_226 rfl ?_
      cases h
      subst hk
      exact g_iret hC hR dX12_proves_227 (by decide) (by decide)
    · rw [if_pos hc47] at h
      refine g_iconst (v := (-1 : Int32)) hC dX12_proves_222 (by decide) ?_
      refine g_goto (tgt := 227) hC dX12_proves_223 (by decide) ?_
      cases h
      subst hk
      exact g_iret hC hR dX12_proves_227 (by decide) (by decide)
  · rw [if_neg hc38] at h
    refine g_aload_n hC dX12_proves_76 rfl ?_
    obtain ⟨ho48, h⟩ := gd_some h
    obtain ⟨q49, hq50, h⟩ := Option.bind_eq_some_iff.mp h
    refine g_getr (k := 6) (q := q49) hC ck_X12 (by decide) tw_990 rfl (by decide) dX12_proves_77 ho48 hq50 ?_
    refine g_bipush (v := (20 : Int32)) hC dX12_proves_80 (by decide) ?_
    refine g_iload_n hC dX12_proves_82 rfl ?_
    refine g_imul hC dX12_proves_83 ?_
    refine g_iload hC dX12_proves_84 rfl ?_
    refine g_iadd hC dX12_proves_86 ?_
    obtain ⟨hx51, h⟩ := gd_some h
    refine g_iald hC dX12_proves_87 hx51.1 hx51.2 ?_
    refine g_istore (L' := [(6, .int (wI S q49 (((20 : Int32) * x1) + x5).toNatClampNeg)), (0, .ref x0), (1, .int x1), (2, .int x2), (3, .int x3), (4, .int x4), (5, .int x5)]) hC dX12_proves_88 (by decide) rfl ?_
    refine g_iload hC dX12_proves_90 rfl ?_
    refine g_if_lt (tgt := 129) hC dX12_proves_92 (by decide) (fun hc52 => ?_) (fun hc52 => ?_)
    · rw [if_pos hc52] at h
      refine g_iconst (v := (0 : Int32)) hC dX12_proves_129 (by decide) ?_
      refine g_istore (L' := [(7, .int (0 : Int32)), (6, .int (wI S q49 (((20 : Int32) * x1) + x5).toNatClampNeg)), (0, .ref x0), (1, .int x1), (2, .int x2), (3, .int x3), (4, .int x4), (5, .int x5)]) hC dX12_proves_130 (by decide) rfl ?_
      refine g_iload hC dX12_proves_132 rfl ?_
      refine g_if_eq (tgt := 154) hC dX12_proves_134 (by decide) (fun hc53 => ?_) (fun hc53 => ?_)
      · rw [if_pos hc53] at h
        refine g_iconst (v := (0 : Int32)) hC dX12_proves_154 (by decide) ?_
        refine g_istore (L' := [(8, .int (0 : Int32)), (7, .int (0 : Int32)), (6, .int (wI S q49 (((20 : Int32) * x1) + x5).toNatClampNeg)), (0, .ref x0), (1, .int x1), (2, .int x2), (3, .int x3), (4, .int x4), (5, .int x5)]) hC dX12_proves_155 (by decide) rfl ?_
        refine g_iload hC dX12_proves_157 rfl ?_
        refine g_if_eq (tgt := 174) hC dX12_proves_159 (by decide) (fun hc54 => ?_) (fun hc54 => ?_)
        · rw [if_pos hc54] at h
          refine g_iload hC dX12_proves_174 rfl ?_
          cases h
          subst hk
          exact g_iret hC hR dX12_proves_176 (by decide) (by decide)
        · rw [if_neg hc54] at h
          cases h
      · rw [if_neg hc53] at h
        cases h
    · rw [if_neg hc52] at h
      refine g_iload hC dX12_proves_95 rfl ?_
      refine g_bipush (v := (100 : Int32)) hC dX12_proves_97 (by decide) ?_
      refine g_idiv hC dX12_proves_99 (by decide) ?_
      refine g_aload_n hC dX12_proves_100 rfl ?_
      obtain ⟨ho55, h⟩ := gd_some h
      obtain ⟨q56, hq57, h⟩ := Option.bind_eq_some_iff.mp h
      refine g_getr (k := 0) (q := q56) hC ck_X12 (by decide) tw_984 rfl (by decide) dX12_proves_101 ho55 hq57 ?_
      refine g_bipush (v := (65 : Int32)) hC dX12_proves_104 (by decide) ?_
      obtain ⟨hx58, h⟩ := gd_some h
      refine g_iald hC dX12_proves_106 hx58.1 hx58.2 ?_
      refine g_icmp_gt (tgt := 129) hC dX12_proves_107 (by decide) (fun hc59 => ?_) (fun hc59 => ?_)
      · rw [if_pos hc59] at h
        refine g_iconst (v := (0 : Int32)) hC dX12_proves_129 (by decide) ?_
        refine g_istore (L' := [(7, .int (0 : Int32)), (6, .int (wI S q49 (((20 : Int32) * x1) + x5).toNatClampNeg)), (0, .ref x0), (1, .int x1), (2, .int x2), (3, .int x3), (4, .int x4), (5, .int x5)]) hC dX12_proves_130 (by decide) rfl ?_
        refine g_iload hC dX12_proves_132 rfl ?_
        refine g_if_eq (tgt := 154) hC dX12_proves_134 (by decide) (fun hc60 => ?_) (fun hc60 => ?_)
        · rw [if_pos hc60] at h
          refine g_iconst (v := (0 : Int32)) hC dX12_proves_154 (by decide) ?_
          refine g_istore (L' := [(8, .int (0 : Int32)), (7, .int (0 : Int32)), (6, .int (wI S q49 (((20 : Int32) * x1) + x5).toNatClampNeg)), (0, .ref x0), (1, .int x1), (2, .int x2), (3, .int x3), (4, .int x4), (5, .int x5)]) hC dX12_proves_155 (by decide) rfl ?_
          refine g_iload hC dX12_proves_157 rfl ?_
          refine g_if_eq (tgt := 174) hC dX12_proves_159 (by decide) (fun hc61 => ?_) (fun hc61 => ?_)
          · rw [if_pos hc61] at h
            refine g_iload hC dX12_proves_174 rfl ?_
            cases h
            subst hk
            exact g_iret hC hR dX12_proves_176 (by decide) (by decide)
          · rw [if_neg hc61] at h
            cases h
        · rw [if_neg hc60] at h
          cases h
      · rw [if_neg hc59] at h
        refine g_iload hC dX12_proves_110 rfl ?_
        refine g_bipush (v := (100 : Int32)) hC dX12_proves_112 (by decide) ?_
        refine g_irm hC dX12_proves_114 (by decide) ?_
        refine g_aload_n hC dX12_proves_115 rfl ?_
        obtain ⟨ho62, h⟩ := gd_some h
        obtain ⟨q63, hq64, h⟩ := Option.bind_eq_some_iff.mp h
        refine g_getr (k := 0) (q := q63) hC ck_X12 (by decide) tw_984 rfl (by decide) dX12_proves_116 ho62 hq64 ?_
        refine g_bipush (v := (65 : Int32)) hC dX12_proves_119 (by decide) ?_
        obtain ⟨hx65, h⟩ := gd_some h
        refine g_iald hC dX12_proves_121 hx65.1 hx65.2 ?_
        refine g_icmp_gt (tgt := 129) hC dX12_proves_122 (by decide) (fun hc66 => ?_) (fun hc66 => ?_)
        · rw [if_pos hc66] at h
          refine g_iconst (v := (0 : Int32)) hC dX12_proves_129 (by decide) ?_
          refine g_istore (L' := [(7, .int (0 : Int32)), (6, .int (wI S q49 (((20 : Int32) * x1) + x5).toNatClampNeg)), (0, .ref x0), (1, .int x1), (2, .int x2), (3, .int x3), (4, .int x4), (5, .int x5)]) hC dX12_proves_130 (by decide) rfl ?_
          refine g_iload hC dX12_proves_132 rfl ?_
          refine g_if_eq (tgt := 154) hC dX12_proves_134 (by decide) (fun hc67 => ?_) (fun hc67 => ?_)
          · rw [if_pos hc67] at h
            refine g_iconst (v := (0 : Int32)) hC dX12_proves_154 (by decide) ?_
            refine g_istore (L' := [(8, .int (0 : Int32)), (7, .int (0 : Int32)), (6, .int (wI S q49 (((20 : Int32) * x1) + x5).toNatClampNeg)), (0, .ref x0), (1, .int x1), (2, .int x2), (3, .int x3), (4, .int x4), (5, .int x5)]) hC dX12_proves_155 (by decide) rfl ?_
            refine g_iload hC dX12_proves_157 rfl ?_
            refine g_if_eq (tgt := 174) hC dX12_proves_159 (by decide) (fun hc68 => ?_) (fun hc68 => ?_)
            · rw [if_pos hc68] at h
              refine g_iload hC dX12_proves_174 rfl ?_
              cases h
              subst hk
              exact g_iret hC hR dX12_proves_176 (by decide) (by decide)
            · rw [if_neg hc68] at h
              cases h
          · rw [if_neg hc67] at h
            cases h
        · rw [if_neg hc66] at h
          refine g_iconst (v := (1 : Int32)) hC dX12_proves_125 (by decide) ?_
          refine g_goto (tgt := 130) hC dX12_proves_126 (by decide) ?_
          refine g_istore (L' := [(7, .int (1 : Int32)), (6, .int (wI S q49 (((20 : Int32) * x1) + x5).toNatClampNeg)), (0, .ref x0), (1, .int x1), (2, .int x2), (3, .int x3), (4, .int x4), (5, .int x5)]) hC dX12_proves_130 (by decide) rfl ?_
          refine g_iload hC dX12_proves_132 rfl ?_
          refine g_if_eq (tgt := 154) hC dX12_proves_134 (by decide) (fun hc69 => ?_) (fun hc69 => ?_)
          · rw [if_pos hc69] at h
            cases h
          · rw [if_neg hc69] at h
            refine g_bipush (v := (9 : Int32)) hC dX12_proves_137 (by decide) ?_
            refine g_iload hC dX12_proves_139 rfl ?_
            refine g_bipush (v := (100 : Int32)) hC dX12_proves_141 (by decide) ?_
            refine g_idiv hC dX12_proves_143 (by decide) ?_
            refine g_imul hC dX12_proves_144 ?_
            refine g_iload hC dX12_proves_145 rfl ?_
            refine g_bipush (v := (100 : Int32)) hC dX12_proves_147 (by decide) ?_
            refine g_irm hC dX12_proves_149 (by decide) ?_
            refine g_iadd hC dX12_proves_150 ?_
            refine g_goto (tgt := 155) hC dX12_proves_151 (by decide) ?_
            refine g_istore (L' := [(8, .int (((9 : Int32) * ((wI S q49 (((20 : Int32) * x1) + x5).toNatClampNeg) / (100 : Int32))) + (irm (wI S q49 (((20 : Int32) * x1) + x5).toNatClampNeg) (100 : Int32)))), (7, .int (1 : Int32)), (6, .int (wI S q49 (((20 : Int32) * x1) + x5).toNatClampNeg)), (0, .ref x0), (1, .int x1), (2, .int x2), (3, .int x3), (4, .int x4), (5, .int x5)]) hC dX12_proves_155 (by decide) rfl ?_
            refine g_iload hC dX12_proves_157 rfl ?_
            refine g_if_eq (tgt := 174) hC dX12_proves_159 (by decide) (fun hc70 => ?_) (fun hc70 => ?_)
            · rw [if_pos hc70] at h
              cases h
            · rw [if_neg hc70] at h
              refine g_aload_n hC dX12_proves_162 rfl ?_
              refine g_iload hC dX12_proves_163 rfl ?_
              refine g_iload hC dX12_proves_165 rfl ?_
              refine g_iload_n hC dX12_proves_167 rfl ?_
              obtain ⟨ho73, h⟩ := gd_some h
              obtain ⟨r74, S72, hr71, h⟩ := bd2_some h
              refine g_callV (rest := []) hC mi_X12_isOpen (k_X12_isOpen hr71) ck_X12.1 (by decide) ho73 tw_1214 tw_1216 ts_42 dX12_proves_168 rfl rfl ⟨by decide, by decide⟩ (Nat.le_of_ble_eq_true rfl) ⟨by decide, by decide⟩ ?_
              refine g_if_ne (tgt := 177) hC dX12_proves_171 (by decide) (fun hc75 => ?_) (fun hc75 => ?_)
              · rw [if_neg hc75] at h
                refine g_iload_n hC dX12_proves_177 rfl ?_
                refine g_iload hC dX12_proves_178 rfl ?_
                obtain ⟨r78, S77, hr76, h⟩ := bd2_some h
                refine g_callS (rest := [.int x3]) hC mi_X12_setOf (k_X12_setOf hr76) tw_1211 tw_1212 dX12_proves_180 rfl rfl ⟨by decide, by decide⟩ (Nat.le_of_ble_eq_true rfl) ⟨by decide, by decide⟩ ?_
                refine g_ior hC dX12_proves_183 ?_
                refine g_istore_n (L' := [(3, .int (x3 ||| r78)), (8, .int (((9 : Int32) * ((wI S q49 (((20 : Int32) * x1) + x5).toNatClampNeg) / (100 : Int32))) + (irm (wI S q49 (((20 : Int32) * x1) + x5).toNatClampNeg) (100 : Int32)))), (7, .int (1 : Int32)), (6, .int (wI S q49 (((20 : Int32) * x1) + x5).toNatClampNeg)), (0, .ref x0), (1, .int x1), (2, .int x2), (4, .int x4), (5, .int x5)]) hC dX12_proves_184 (by decide) rfl ?_
                refine g_iload hC dX12_proves_185 rfl ?_
                refine g_aload_n hC dX12_proves_187 rfl ?_
                obtain ⟨ho79, h⟩ := gd_some h
                obtain ⟨q80, hq81, h⟩ := Option.bind_eq_some_iff.mp h
                refine g_getr (k := 16) (q := q80) hC ck_X12 (by decide) tw_1000 rfl (by decide) dX12_proves_188 ho79 hq81 ?_
                refine g_bipush (v := (81 : Int32)) hC dX12_proves_191 (by decide) ?_
                refine g_iload hC dX12_proves_193 rfl ?_
                refine g_imul hC dX12_proves_195 ?_
                refine g_iload hC dX12_proves_196 rfl ?_
                refine g_iadd hC dX12_proves_198 ?_
                obtain ⟨hx82, h⟩ := gd_some h
                refine g_iald hC dX12_proves_199 hx82.1 hx82.2 ?_
                refine g_iadd hC dX12_proves_200 ?_
                refine g_istore (L' := [(4, .int (x4 + (wI S77 q80 (((81 : Int32) * x5) + (((9 : Int32) * ((wI S q49 (((20 : Int32) * x1) + x5).toNatClampNeg) / (100 : Int32))) + (irm (wI S q49 (((20 : Int32) * x1) + x5).toNatClampNeg) (100 : Int32)))).toNatClampNeg))), (3, .int (x3 ||| r78)), (8, .int (((9 : Int32) * ((wI S q49 (((20 : Int32) * x1) + x5).toNatClampNeg) / (100 : Int32))) + (irm (wI S q49 (((20 : Int32) * x1) + x5).toNatClampNeg) (100 : Int32)))), (7, .int (1 : Int32)), (6, .int (wI S q49 (((20 : Int32) * x1) + x5).toNatClampNeg)), (0, .ref x0), (1, .int x1), (2, .int x2), (5, .int x5)]) hC dX12_proves_201 (by decide) rfl ?_
                refine g_iinc (v := (1 : Int32)) (L' := [(5, .int (x5 + (1 : Int32))), (4, .int (x4 + (wI S77 q80 (((81 : Int32) * x5) + (((9 : Int32) * ((wI S q49 (((20 : Int32) * x1) + x5).toNatClampNeg) / (100 : Int32))) + (irm (wI S q49 (((20 : Int32) * x1) + x5).toNatClampNeg) (100 : Int32)))).toNatClampNeg))), (3, .int (x3 ||| r78)), (8, .int (((9 : Int32) * ((wI S q49 (((20 : Int32) * x1) + x5).toNatClampNeg) / (100 : Int32))) + (irm (wI S q49 (((20 : Int32) * x1) + x5).toNatClampNeg) (100 : Int32)))), (7, .int (1 : Int32)), (6, .int (wI S q49 (((20 : Int32) * x1) + x5).toNatClampNeg)), (0, .ref x0), (1, .int x1), (2, .int x2)]) hC dX12_proves_203 rfl (by decide) (by decide) rfl ?_
                refine g_goto (tgt := 70) hC dX12_proves_206 (by decide) ?_
                cases h
                refine g_pick (L' := [(0, .ref x0), (1, .int x1), (2, .int x2), (3, .int (x3 ||| r78)), (4, .int (x4 + (wI S77 q80 (((81 : Int32) * x5) + (((9 : Int32) * ((wI S q49 (((20 : Int32) * x1) + x5).toNatClampNeg) / (100 : Int32))) + (irm (wI S q49 (((20 : Int32) * x1) + x5).toNatClampNeg) (100 : Int32)))).toNatClampNeg))), (5, .int (x5 + (1 : Int32)))]) [6, 7, 8, 2, 1, 0] rfl ?_
                exact hk _ _ _ _ _ rfl
              · rw [if_pos hc75] at h
                refine g_iload hC dX12_proves_174 rfl ?_
                cases h
                subst hk
                exact g_iret hC hR dX12_proves_176 (by decide) (by decide)
theorem w_X12_proves {b : Bd} {r : Int32 × Wd} (hC : CX b yX12_proves.cls cX12_proves 9 { frames := 5, cells := 0, slots := 0, locals := 119 }) (hin : yX12_proves.name = "<init>" → b.2.2.2.2.2.2.2.2.1.name = "<init>") (hR : RT b (some .int) (some (.int r.1)) r.2 0 0) {s : Cs} {c : (Int32 × Wd) ⊕ Cs} (h : B_X12_proves s = some c) (hk : N_X12_proves b r c) : ∀ pc L S kc ks, P_X12_proves s = some (pc, L, S, kc, ks) → G b pc L [] S kc ks := by
  intro pc L S kc ks hp
  unfold B_X12_proves at h
  split at h
  · cases hp
    exact w_X12_proves_0 hC hin hR h hk
  · cases hp
    exact w_X12_proves_1 hC hin hR h hk
  · cases h
theorem k_X12_proves {S : Wd} {a0 : Nat} {a1 : Int32} {r : Int32} {S' : Wd} (h : f_X12_proves S a0 a1 = some (r, S')) : Sp yX12_proves cX12_proves 9 (some .int) 5 119 0 0 [.ref a0, .int a1] S (some (.int r)) S' := by
  unfold f_X12_proves at h
  refine Sp.of (by decide +kernel) (Nat.le_of_ble_eq_true rfl) ?_
  intro b hC hin hR
  exact ru_ind (P := fun s q0 => q0 = (r, S') → ∀ pc L S kc ks, P_X12_proves s = some (pc, L, S, kc, ks) → G b pc L [] S kc ks) (fun s q0 hB e => w_X12_proves (r := (r, S')) hC hin hR hB e) (fun s s' q0 hB ih e => w_X12_proves (r := (r, S')) hC hin hR hB (ih e)) h rfl _ _ _ _ _ rfl
