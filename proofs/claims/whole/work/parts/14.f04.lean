theorem mi_X1_follow : MI yX1_follow cX1_follow 6 none 2 := ⟨tw_682, tw_9, by decide +kernel, by decide +kernel, by decide +kernel⟩
noncomputable def B_X1_follow_0 (S : Wd) (a0 : Nat) (a1 : Int32) (a2 : Int32) : Option ((Wd) ⊕ Cs) := gd (ob S a0 1) (ltS (sI S a0 3 (0 : Int32)) (fun S2 => gd (ob S2 a0 1) (ltS (sI S2 a0 4 a2) (fun S5 => some (.inr (1, [a0], [a1, a2, (0 : Int32), (0 : Int32)], S5))))))
noncomputable def B_X1_follow_1 (S : Wd) (x0 : Nat) (x1 : Int32) (x2 : Int32) (x3 : Int32) (x4 : Int32) : Option ((Wd) ⊕ Cs) := if (20 : Int32) ≤ x4 then (some (.inl S)) else (gd (ob S x0 1) (gd (ob S x0 1) (bd2 (f_X1_firstUnused S x0 x1 (wI S x0 4) x3) (fun r12 S10 => if 0 ≤ r12 then (gd (ob S10 x0 1) (Option.bind (wO S10 x0 1) (fun q15 => gd (ob S10 q15 8) (bd2 (f_X8_at S10 q15 r12 (2 : Int32)) (fun r20 S18 => gd (ob S18 x0 1) (ltS (sI S18 x0 4 r20) (fun S22 => gd (ob S22 x0 1) (gd (ob S22 x0 1) (ltS (sI S22 x0 3 ((wI S22 x0 3) + (1 : Int32))) (fun S26 => some (.inr (1, [x0], [x1, x2, (x3 ||| ((1 : Int32) <<< (r12 &&& 31))), (x4 + (1 : Int32))], S26)))))))))))) else (some (.inl S10))))))
noncomputable def B_X1_follow : Cs → Option ((Wd) ⊕ Cs)
  | (0, [a0], [a1, a2], S) => B_X1_follow_0 S a0 a1 a2
  | (1, [x0], [x1, x2, x3, x4], S) => B_X1_follow_1 S x0 x1 x2 x3 x4
  | _ => none
def P_X1_follow : Cs → Option (Nat × List (Nat × Value) × Wd × Nat × Nat)
  | (0, [a0], [a1, a2], S) => some (0, [(0, .ref a0), (1, .int a1), (2, .int a2)], S, 0, 0)
  | (1, [x0], [x1, x2, x3, x4], S) => some (15, [(0, .ref x0), (1, .int x1), (2, .int x2), (3, .int x3), (4, .int x4)], S, 0, 0)
  | _ => none
noncomputable def f_X1_follow (S : Wd) (a0 : Nat) (a1 : Int32) (a2 : Int32) : Option (Wd) := ru B_X1_follow (0, [a0], [a1, a2], S)
abbrev N_X1_follow (b : Bd) (r : Wd) (c : (Wd) ⊕ Cs) : Prop := match c with
  | .inl r' => r' = r
  | .inr s' => ∀ pc L S kc ks, P_X1_follow s' = some (pc, L, S, kc, ks) → G b pc L [] S kc ks
set_option maxRecDepth 100000 in
set_option maxHeartbeats 4000000 in
theorem w_X1_follow_0 {b : Bd} {r : Wd} (hC : CX b yX1_follow.cls cX1_follow 6 { frames := 3, cells := 0, slots := 0, locals := 68 }) (hin : yX1_follow.name = "<init>" → b.2.2.2.2.2.2.2.2.1.name = "<init>") (hR : RT b none none r 0 0) {S : Wd} {a0 : Nat} {a1 : Int32} {a2 : Int32} {c : (Wd) ⊕ Cs} (h : B_X1_follow_0 S a0 a1 a2 = some c) (hk : N_X1_follow b r c) : G b 0 [(0, .ref a0), (1, .int a1), (2, .int a2)] [] S 0 0 := by
  unfold B_X1_follow_0 at h
  refine g_aload_n hC dX1_follow_0 rfl ?_
  refine g_iconst (v := (0 : Int32)) hC dX1_follow_1 (by decide) ?_
  obtain ⟨ho1, h⟩ := gd_some h
  refine g_puti (k := 3) hC ck_X1 (by decide) tw_210 rfl (by decide) rfl rfl dX1_follow_2 ho1 ?_
  refine g_name (fun S2 eS3 => ?_)
  have h := ltS_use eS3 h
  refine g_aload_n hC dX1_follow_5 rfl ?_
  refine g_iload_n hC dX1_follow_6 rfl ?_
  obtain ⟨ho4, h⟩ := gd_some h
  refine g_puti (k := 4) hC ck_X1 (by decide) tw_211 rfl (by decide) rfl rfl dX1_follow_7 ho4 ?_
  refine g_name (fun S5 eS6 => ?_)
  have h := ltS_use eS6 h
  refine g_iconst (v := (0 : Int32)) hC dX1_follow_10 (by decide) ?_
  refine g_istore_n (L' := [(3, .int (0 : Int32)), (0, .ref a0), (1, .int a1), (2, .int a2)]) hC dX1_follow_11 (by decide) rfl ?_
  refine g_iconst (v := (0 : Int32)) hC dX1_follow_12 (by decide) ?_
  refine g_istore (L' := [(4, .int (0 : Int32)), (3, .int (0 : Int32)), (0, .ref a0), (1, .int a1), (2, .int a2)]) hC dX1_follow_13 (by decide) rfl ?_
  cases h
  refine g_pick (L' := [(0, .ref a0), (1, .int a1), (2, .int a2), (3, .int (0 : Int32)), (4, .int (0 : Int32))]) [2, 3, 4, 1, 0] rfl ?_
  exact hk _ _ _ _ _ rfl
set_option maxRecDepth 100000 in
set_option maxHeartbeats 4000000 in
theorem w_X1_follow_1 {b : Bd} {r : Wd} (hC : CX b yX1_follow.cls cX1_follow 6 { frames := 3, cells := 0, slots := 0, locals := 68 }) (hin : yX1_follow.name = "<init>" → b.2.2.2.2.2.2.2.2.1.name = "<init>") (hR : RT b none none r 0 0) {S : Wd} {x0 : Nat} {x1 : Int32} {x2 : Int32} {x3 : Int32} {x4 : Int32} {c : (Wd) ⊕ Cs} (h : B_X1_follow_1 S x0 x1 x2 x3 x4 = some c) (hk : N_X1_follow b r c) : G b 15 [(0, .ref x0), (1, .int x1), (2, .int x2), (3, .int x3), (4, .int x4)] [] S 0 0 := by
  unfold B_X1_follow_1 at h
  refine g_iload hC dX1_follow_15 rfl ?_
  refine g_bipush (v := (20 : Int32)) hC dX1_follow_17 (by decide) ?_
  refine g_icmp_ge (tgt := 77) hC dX1_follow_19 (by decide) (fun hc7 => ?_) (fun hc7 => ?_)
  · rw [if_pos hc7] at h
    cases h
    subst hk
    exact g_vret hC hR dX1_follow_77 (by decide) (by decide)
  · rw [if_neg hc7] at h
    refine g_aload_n hC dX1_follow_22 rfl ?_
    refine g_iload_n hC dX1_follow_23 rfl ?_
    refine g_aload_n hC dX1_follow_24 rfl ?_
    obtain ⟨ho8, h⟩ := gd_some h
    refine g_geti (k := 4) hC ck_X1 (by decide) tw_211 rfl (by decide) dX1_follow_25 ho8 ?_
    refine g_iload_n hC dX1_follow_28 rfl ?_
    obtain ⟨ho11, h⟩ := gd_some h
    obtain ⟨r12, S10, hr9, h⟩ := bd2_some h
    refine g_callV (rest := []) hC mi_X1_firstUnused (k_X1_firstUnused hr9) ck_X1.1 (by decide) ho11 tw_683 tw_685 ts_17 dX1_follow_29 rfl rfl ⟨by decide, by decide⟩ (Nat.le_of_ble_eq_true rfl) ⟨by decide, by decide⟩ ?_
    refine g_istore (L' := [(5, .int r12), (0, .ref x0), (1, .int x1), (2, .int x2), (3, .int x3), (4, .int x4)]) hC dX1_follow_32 (by decide) rfl ?_
    refine g_iload hC dX1_follow_34 rfl ?_
    refine g_if_ge (tgt := 40) hC dX1_follow_36 (by decide) (fun hc13 => ?_) (fun hc13 => ?_)
    · rw [if_pos hc13] at h
      refine g_iload_n hC dX1_follow_40 rfl ?_
      refine g_iconst (v := (1 : Int32)) hC dX1_follow_41 (by decide) ?_
      refine g_iload hC dX1_follow_42 rfl ?_
      refine g_ishl hC dX1_follow_44 ?_
      refine g_ior hC dX1_follow_45 ?_
      refine g_istore_n (L' := [(3, .int (x3 ||| ((1 : Int32) <<< (r12 &&& 31)))), (5, .int r12), (0, .ref x0), (1, .int x1), (2, .int x2), (4, .int x4)]) hC dX1_follow_46 (by decide) rfl ?_
      refine g_aload_n hC dX1_follow_47 rfl ?_
      refine g_aload_n hC dX1_follow_48 rfl ?_
      obtain ⟨ho14, h⟩ := gd_some h
      obtain ⟨q15, hq16, h⟩ := Option.bind_eq_some_iff.mp h
      refine g_getr (k := 1) (q := q15) hC ck_X1 (by decide) tw_208 rfl (by decide) dX1_follow_49 ho14 hq16 ?_
      refine g_iload hC dX1_follow_52 rfl ?_
      refine g_iconst (v := (2 : Int32)) hC dX1_follow_54 (by decide) ?_
      obtain ⟨ho19, h⟩ := gd_some h
      obtain ⟨r20, S18, hr17, h⟩ := bd2_some h
      refine g_callV (rest := [.ref x0]) hC mi_X8_at (k_X8_at hr17) ck_X8.1 (by decide) ho19 tw_688 tw_435 tw_436 dX1_follow_55 rfl rfl ⟨by decide, by decide⟩ (Nat.le_of_ble_eq_true rfl) ⟨by decide, by decide⟩ ?_
      obtain ⟨ho21, h⟩ := gd_some h
      refine g_puti (k := 4) hC ck_X1 (by decide) tw_211 rfl (by decide) rfl rfl dX1_follow_58 ho21 ?_
      refine g_name (fun S22 eS23 => ?_)
      have h := ltS_use eS23 h
      refine g_aload_n hC dX1_follow_61 rfl ?_
      refine g_dup hC dX1_follow_62 rfl ?_
      obtain ⟨ho24, h⟩ := gd_some h
      refine g_geti (k := 3) hC ck_X1 (by decide) tw_210 rfl (by decide) dX1_follow_63 ho24 ?_
      refine g_iconst (v := (1 : Int32)) hC dX1_follow_66 (by decide) ?_
      refine g_iadd hC dX1_follow_67 ?_
      obtain ⟨ho25, h⟩ := gd_some h
      refine g_puti (k := 3) hC ck_X1 (by decide) tw_210 rfl (by decide) rfl rfl dX1_follow_68 ho25 ?_
      refine g_name (fun S26 eS27 => ?_)
      have h := ltS_use eS27 h
      refine g_iinc (v := (1 : Int32)) (L' := [(4, .int (x4 + (1 : Int32))), (3, .int (x3 ||| ((1 : Int32) <<< (r12 &&& 31)))), (5, .int r12), (0, .ref x0), (1, .int x1), (2, .int x2)]) hC dX1_follow_71 rfl (by decide) (by decide) rfl ?_
      refine g_goto (tgt := 15) hC dX1_follow_74 (by decide) ?_
      cases h
      refine g_pick (L' := [(0, .ref x0), (1, .int x1), (2, .int x2), (3, .int (x3 ||| ((1 : Int32) <<< (r12 &&& 31)))), (4, .int (x4 + (1 : Int32)))]) [3, 4, 5, 1, 0] rfl ?_
      exact hk _ _ _ _ _ rfl
    · rw [if_neg hc13] at h
      cases h
      subst hk
      exact g_vret hC hR dX1_follow_39 (by decide) (by decide)
theorem w_X1_follow {b : Bd} {r : Wd} (hC : CX b yX1_follow.cls cX1_follow 6 { frames := 3, cells := 0, slots := 0, locals := 68 }) (hin : yX1_follow.name = "<init>" → b.2.2.2.2.2.2.2.2.1.name = "<init>") (hR : RT b none none r 0 0) {s : Cs} {c : (Wd) ⊕ Cs} (h : B_X1_follow s = some c) (hk : N_X1_follow b r c) : ∀ pc L S kc ks, P_X1_follow s = some (pc, L, S, kc, ks) → G b pc L [] S kc ks := by
  intro pc L S kc ks hp
  unfold B_X1_follow at h
  split at h
  · cases hp
    exact w_X1_follow_0 hC hin hR h hk
  · cases hp
    exact w_X1_follow_1 hC hin hR h hk
  · cases h
theorem k_X1_follow {S : Wd} {a0 : Nat} {a1 : Int32} {a2 : Int32} {S' : Wd} (h : f_X1_follow S a0 a1 a2 = some S') : Sp yX1_follow cX1_follow 6 none 3 68 0 0 [.ref a0, .int a1, .int a2] S none S' := by
  unfold f_X1_follow at h
  refine Sp.of (by decide +kernel) (Nat.le_of_ble_eq_true rfl) ?_
  intro b hC hin hR
  exact ru_ind (P := fun s q0 => q0 = S' → ∀ pc L S kc ks, P_X1_follow s = some (pc, L, S, kc, ks) → G b pc L [] S kc ks) (fun s q0 hB e => w_X1_follow (r := S') hC hin hR hB e) (fun s s' q0 hB ih e => w_X1_follow (r := S') hC hin hR hB (ih e)) h rfl _ _ _ _ _ rfl

theorem mi_X1_links : MI yX1_links cX1_links 1 (some .int) 0 := ⟨tw_696, tw_9, by decide +kernel, by decide +kernel, by decide +kernel⟩
noncomputable def f_X1_links (S : Wd) (a0 : Nat) : Option (Int32 × Wd) := gd (ob S a0 1) (some ((wI S a0 3), S))
set_option maxRecDepth 100000 in
set_option maxHeartbeats 4000000 in
theorem k_X1_links {S : Wd} {a0 : Nat} {r : Int32} {S' : Wd} (h : f_X1_links S a0 = some (r, S')) : Sp yX1_links cX1_links 1 (some .int) 0 0 0 0 [.ref a0] S (some (.int r)) S' := by
  unfold f_X1_links at h
  refine Sp.of (by decide +kernel) (Nat.le_of_ble_eq_true rfl) ?_
  intro b hC hin hR
  show G b 0 [(0, .ref a0)] [] S 0 0
  refine g_aload_n hC dX1_links_0 rfl ?_
  obtain ⟨ho1, h⟩ := gd_some h
  refine g_geti (k := 3) hC ck_X1 (by decide) tw_210 rfl (by decide) dX1_links_1 ho1 ?_
  cases h
  exact g_iret hC hR dX1_links_4 (by decide) (by decide)

theorem mi_X1_carrier : MI yX1_carrier cX1_carrier 1 (some .int) 0 := ⟨tw_692, tw_9, by decide +kernel, by decide +kernel, by decide +kernel⟩
noncomputable def f_X1_carrier (S : Wd) (a0 : Nat) : Option (Int32 × Wd) := gd (ob S a0 1) (some ((wI S a0 4), S))
set_option maxRecDepth 100000 in
set_option maxHeartbeats 4000000 in
theorem k_X1_carrier {S : Wd} {a0 : Nat} {r : Int32} {S' : Wd} (h : f_X1_carrier S a0 = some (r, S')) : Sp yX1_carrier cX1_carrier 1 (some .int) 0 0 0 0 [.ref a0] S (some (.int r)) S' := by
  unfold f_X1_carrier at h
  refine Sp.of (by decide +kernel) (Nat.le_of_ble_eq_true rfl) ?_
  intro b hC hin hR
  show G b 0 [(0, .ref a0)] [] S 0 0
  refine g_aload_n hC dX1_carrier_0 rfl ?_
  obtain ⟨ho1, h⟩ := gd_some h
  refine g_geti (k := 4) hC ck_X1 (by decide) tw_211 rfl (by decide) dX1_carrier_1 ho1 ?_
  cases h
  exact g_iret hC hR dX1_carrier_4 (by decide) (by decide)

theorem mi_X11_chain : MI yX11_chain cX11_chain 4 (some .int) 3 := ⟨tw_678, tw_1, by decide +kernel, by decide +kernel, by decide +kernel⟩
noncomputable def f_X11_chain (S : Wd) (a0 : Nat) (a1 : Int32) (a2 : Int32) (a3 : Int32) : Option (Int32 × Wd) := gd (ob S a0 11) (Option.bind (wO S a0 3) (fun q2 => gd (ob S q2 8) (bd2 (f_X8_has S q2 a1) (fun r7 S5 => if r7 = 0 then (gd (ob S5 a0 11) (bd2 (f_X11_told S5 a0 (-100001 : Int32)) (fun r12 S10 => some (r12, S10)))) else (bd2 (f_X11_isFirm S5 a2) (fun r15 S14 => if r15 = 0 then (gd (ob S14 a0 11) (bd2 (f_X11_told S14 a0 (-100001 : Int32)) (fun r41 S39 => some (r41, S39)))) else (gd (ob S14 a0 11) (Option.bind (wO S14 a0 7) (fun q18 => gd (ob S14 q18 1) (Option.bind (f_X1_follow S14 q18 a1 a2) (fun S21 => if a3 = 0 then (gd (ob S21 a0 11) (Option.bind (wO S21 a0 7) (fun q25 => gd (ob S21 q25 1) (bd2 (f_X1_links S21 q25) (fun r30 S28 => some (r30, S28)))))) else (gd (ob S21 a0 11) (Option.bind (wO S21 a0 7) (fun q32 => gd (ob S21 q32 1) (bd2 (f_X1_carrier S21 q32) (fun r37 S35 => some (r37, S35)))))))))))))))))
set_option maxRecDepth 100000 in
set_option maxHeartbeats 4000000 in
theorem k_X11_chain {S : Wd} {a0 : Nat} {a1 : Int32} {a2 : Int32} {a3 : Int32} {r : Int32} {S' : Wd} (h : f_X11_chain S a0 a1 a2 a3 = some (r, S')) : Sp yX11_chain cX11_chain 4 (some .int) 4 93 0 0 [.ref a0, .int a1, .int a2, .int a3] S (some (.int r)) S' := by
  unfold f_X11_chain at h
  refine Sp.of (by decide +kernel) (Nat.le_of_ble_eq_true rfl) ?_
  intro b hC hin hR
  show G b 0 [(0, .ref a0), (1, .int a1), (2, .int a2), (3, .int a3)] [] S 0 0
  refine g_aload_n hC dX11_chain_0 rfl ?_
  obtain ⟨ho1, h⟩ := gd_some h
  obtain ⟨q2, hq3, h⟩ := Option.bind_eq_some_iff.mp h
  refine g_getr (k := 3) (q := q2) hC ck_X11 (by decide) tw_305 rfl (by decide) dX11_chain_1 ho1 hq3 ?_
  refine g_iload_n hC dX11_chain_4 rfl ?_
  obtain ⟨ho6, h⟩ := gd_some h
  obtain ⟨r7, S5, hr4, h⟩ := bd2_some h
  refine g_callV (rest := []) hC mi_X8_has (k_X8_has hr4) ck_X8.1 (by decide) ho6 tw_430 tw_431 tw_432 dX11_chain_5 rfl rfl ⟨by decide, by decide⟩ (Nat.le_of_ble_eq_true rfl) ⟨by decide, by decide⟩ ?_
  refine g_if_eq (tgt := 18) hC dX11_chain_8 (by decide) (fun hc8 => ?_) (fun hc8 => ?_)
  · rw [if_pos hc8] at h
    refine g_aload_n hC dX11_chain_18 rfl ?_
    refine g_ldc hC tw_352 dX11_chain_19 ?_
    obtain ⟨ho11, h⟩ := gd_some h
    obtain ⟨r12, S10, hr9, h⟩ := bd2_some h
    refine g_callV (rest := []) hC mi_X11_told (k_X11_told hr9) ck_X11.1 (by decide) ho11 tw_353 tw_355 ts_0 dX11_chain_21 rfl rfl ⟨by decide, by decide⟩ (Nat.le_of_ble_eq_true rfl) ⟨by decide, by decide⟩ ?_
    cases h
    exact g_iret hC hR dX11_chain_24 (by decide) (by decide)
  · rw [if_neg hc8] at h
    refine g_iload_n hC dX11_chain_11 rfl ?_
    obtain ⟨r15, S14, hr13, h⟩ := bd2_some h
    refine g_callS (rest := []) hC mi_X11_isFirm (k_X11_isFirm hr13) tw_667 tw_668 dX11_chain_12 rfl rfl ⟨by decide, by decide⟩ (Nat.le_of_ble_eq_true rfl) ⟨by decide, by decide⟩ ?_
    refine g_if_ne (tgt := 25) hC dX11_chain_15 (by decide) (fun hc16 => ?_) (fun hc16 => ?_)
    · rw [if_neg hc16] at h
      refine g_aload_n hC dX11_chain_25 rfl ?_
      obtain ⟨ho17, h⟩ := gd_some h
      obtain ⟨q18, hq19, h⟩ := Option.bind_eq_some_iff.mp h
      refine g_getr (k := 7) (q := q18) hC ck_X11 (by decide) tw_309 rfl (by decide) dX11_chain_26 ho17 hq19 ?_
      refine g_iload_n hC dX11_chain_29 rfl ?_
      refine g_iload_n hC dX11_chain_30 rfl ?_
      obtain ⟨ho22, h⟩ := gd_some h
      obtain ⟨S21, hr20, h⟩ := Option.bind_eq_some_iff.mp h
      refine g_callV (rest := []) hC mi_X1_follow (k_X1_follow hr20) ck_X1.1 (by decide) ho22 tw_679 tw_680 tw_681 dX11_chain_31 rfl rfl ⟨by decide, by decide⟩ (Nat.le_of_ble_eq_true rfl) ⟨by decide, by decide⟩ ?_
      refine g_iload_n hC dX11_chain_34 rfl ?_
      refine g_if_eq (tgt := 48) hC dX11_chain_35 (by decide) (fun hc23 => ?_) (fun hc23 => ?_)
      · rw [if_pos hc23] at h
        refine g_aload_n hC dX11_chain_48 rfl ?_
        obtain ⟨ho24, h⟩ := gd_some h
        obtain ⟨q25, hq26, h⟩ := Option.bind_eq_some_iff.mp h
        refine g_getr (k := 7) (q := q25) hC ck_X11 (by decide) tw_309 rfl (by decide) dX11_chain_49 ho24 hq26 ?_
        obtain ⟨ho29, h⟩ := gd_some h
        obtain ⟨r30, S28, hr27, h⟩ := bd2_some h
        refine g_callV (rest := []) hC mi_X1_links (k_X1_links hr27) ck_X1.1 (by decide) ho29 tw_693 tw_694 tw_695 dX11_chain_52 rfl rfl ⟨by decide, by decide⟩ (Nat.le_of_ble_eq_true rfl) ⟨by decide, by decide⟩ ?_
        cases h
        exact g_iret hC hR dX11_chain_55 (by decide) (by decide)
      · rw [if_neg hc23] at h
        refine g_aload_n hC dX11_chain_38 rfl ?_
        obtain ⟨ho31, h⟩ := gd_some h
        obtain ⟨q32, hq33, h⟩ := Option.bind_eq_some_iff.mp h
        refine g_getr (k := 7) (q := q32) hC ck_X11 (by decide) tw_309 rfl (by decide) dX11_chain_39 ho31 hq33 ?_
        obtain ⟨ho36, h⟩ := gd_some h
        obtain ⟨r37, S35, hr34, h⟩ := bd2_some h
        refine g_callV (rest := []) hC mi_X1_carrier (k_X1_carrier hr34) ck_X1.1 (by decide) ho36 tw_689 tw_690 tw_691 dX11_chain_42 rfl rfl ⟨by decide, by decide⟩ (Nat.le_of_ble_eq_true rfl) ⟨by decide, by decide⟩ ?_
        refine g_goto (tgt := 55) hC dX11_chain_45 (by decide) ?_
        cases h
        exact g_iret hC hR dX11_chain_55 (by decide) (by decide)
    · rw [if_pos hc16] at h
      refine g_aload_n hC dX11_chain_18 rfl ?_
      refine g_ldc hC tw_352 dX11_chain_19 ?_
      obtain ⟨ho40, h⟩ := gd_some h
      obtain ⟨r41, S39, hr38, h⟩ := bd2_some h
      refine g_callV (rest := []) hC mi_X11_told (k_X11_told hr38) ck_X11.1 (by decide) ho40 tw_353 tw_355 ts_0 dX11_chain_21 rfl rfl ⟨by decide, by decide⟩ (Nat.le_of_ble_eq_true rfl) ⟨by decide, by decide⟩ ?_
      cases h
      exact g_iret hC hR dX11_chain_24 (by decide) (by decide)

theorem mi_X1_doubleGivers : MI yX1_doubleGivers cX1_doubleGivers 6 (some .int) 1 := ⟨tw_704, tw_9, by decide +kernel, by decide +kernel, by decide +kernel⟩
noncomputable def B_X1_doubleGivers_0 (S : Wd) (a0 : Nat) (a1 : Int32) : Option ((Int32 × Wd) ⊕ Cs) := some (.inr (1, [a0], [a1, (0 : Int32), (0 : Int32)], S))
noncomputable def B_X1_doubleGivers_1 (S : Wd) (x0 : Nat) (x1 : Int32) (x2 : Int32) (x3 : Int32) : Option ((Int32 × Wd) ⊕ Cs) := if (10 : Int32) ≤ x3 then (some (.inl (x2, S))) else (some (.inr (2, [x0], [x1, x2, x3, (0 : Int32), (0 : Int32)], S)))
noncomputable def B_X1_doubleGivers_2 (S : Wd) (x0 : Nat) (x1 : Int32) (x2 : Int32) (x3 : Int32) (x4 : Int32) (x5 : Int32) : Option ((Int32 × Wd) ⊕ Cs) := gd (ob S x0 1) (Option.bind (wO S x0 1) (fun q3 => gd (ob S q3 8) (bd2 (f_X8_count S q3) (fun r8 S6 => if r8 ≤ x5 then (bd2 (f_J6_bitCount_0f7a4 S6 x4) (fun r12 S11 => if r12 ≤ (1 : Int32) then (some (.inr (1, [x0], [x1, x2, (x3 + (1 : Int32))], S11))) else (some (.inr (1, [x0], [x1, (x2 + (1 : Int32)), (x3 + (1 : Int32))], S11))))) else (gd (ob S6 x0 1) (Option.bind (wO S6 x0 1) (fun q15 => gd (ob S6 q15 8) (bd2 (f_X8_at S6 q15 x5 (0 : Int32)) (fun r20 S18 => if r20 = x1 then (gd (ob S18 x0 1) (Option.bind (wO S18 x0 1) (fun q23 => gd (ob S18 q23 8) (bd2 (f_X8_at S18 q23 x5 (1 : Int32)) (fun r28 S26 => if r28 = x3 then (gd (ob S26 x0 1) (Option.bind (wO S26 x0 1) (fun q31 => gd (ob S26 q31 8) (bd2 (f_X8_at S26 q31 x5 (2 : Int32)) (fun r36 S34 => some (.inr (2, [x0], [x1, x2, x3, (x4 ||| ((1 : Int32) <<< (r36 &&& 31))), (x5 + (1 : Int32))], S34))))))) else (some (.inr (2, [x0], [x1, x2, x3, x4, (x5 + (1 : Int32))], S26)))))))) else (some (.inr (2, [x0], [x1, x2, x3, x4, (x5 + (1 : Int32))], S18))))))))))))
noncomputable def B_X1_doubleGivers : Cs → Option ((Int32 × Wd) ⊕ Cs)
  | (0, [a0], [a1], S) => B_X1_doubleGivers_0 S a0 a1
  | (1, [x0], [x1, x2, x3], S) => B_X1_doubleGivers_1 S x0 x1 x2 x3
  | (2, [x0], [x1, x2, x3, x4, x5], S) => B_X1_doubleGivers_2 S x0 x1 x2 x3 x4 x5
  | _ => none
def P_X1_doubleGivers : Cs → Option (Nat × List (Nat × Value) × Wd × Nat × Nat)
  | (0, [a0], [a1], S) => some (0, [(0, .ref a0), (1, .int a1)], S, 0, 0)
  | (1, [x0], [x1, x2, x3], S) => some (4, [(0, .ref x0), (1, .int x1), (2, .int x2), (3, .int x3)], S, 0, 0)
  | (2, [x0], [x1, x2, x3, x4, x5], S) => some (16, [(0, .ref x0), (1, .int x1), (2, .int x2), (3, .int x3), (4, .int x4), (5, .int x5)], S, 0, 0)
  | _ => none
noncomputable def f_X1_doubleGivers (S : Wd) (a0 : Nat) (a1 : Int32) : Option (Int32 × Wd) := ru B_X1_doubleGivers (0, [a0], [a1], S)
abbrev N_X1_doubleGivers (b : Bd) (r : Int32 × Wd) (c : (Int32 × Wd) ⊕ Cs) : Prop := match c with
  | .inl r' => r' = r
  | .inr s' => ∀ pc L S kc ks, P_X1_doubleGivers s' = some (pc, L, S, kc, ks) → G b pc L [] S kc ks
set_option maxRecDepth 100000 in
set_option maxHeartbeats 4000000 in
theorem w_X1_doubleGivers_0 {b : Bd} {r : Int32 × Wd} (hC : CX b yX1_doubleGivers.cls cX1_doubleGivers 6 { frames := 2, cells := 0, slots := 0, locals := 44 }) (hin : yX1_doubleGivers.name = "<init>" → b.2.2.2.2.2.2.2.2.1.name = "<init>") (hR : RT b (some .int) (some (.int r.1)) r.2 0 0) {S : Wd} {a0 : Nat} {a1 : Int32} {c : (Int32 × Wd) ⊕ Cs} (h : B_X1_doubleGivers_0 S a0 a1 = some c) (hk : N_X1_doubleGivers b r c) : G b 0 [(0, .ref a0), (1, .int a1)] [] S 0 0 := by
  unfold B_X1_doubleGivers_0 at h
  refine g_iconst (v := (0 : Int32)) hC dX1_doubleGivers_0 (by decide) ?_
  refine g_istore_n (L' := [(2, .int (0 : Int32)), (0, .ref a0), (1, .int a1)]) hC dX1_doubleGivers_1 (by decide) rfl ?_
  refine g_iconst (v := (0 : Int32)) hC dX1_doubleGivers_2 (by decide) ?_
  refine g_istore_n (L' := [(3, .int (0 : Int32)), (2, .int (0 : Int32)), (0, .ref a0), (1, .int a1)]) hC dX1_doubleGivers_3 (by decide) rfl ?_
  cases h
  refine g_pick (L' := [(0, .ref a0), (1, .int a1), (2, .int (0 : Int32)), (3, .int (0 : Int32))]) [2, 3, 1, 0] rfl ?_
  exact hk _ _ _ _ _ rfl
set_option maxRecDepth 100000 in
set_option maxHeartbeats 4000000 in
theorem w_X1_doubleGivers_1 {b : Bd} {r : Int32 × Wd} (hC : CX b yX1_doubleGivers.cls cX1_doubleGivers 6 { frames := 2, cells := 0, slots := 0, locals := 44 }) (hin : yX1_doubleGivers.name = "<init>" → b.2.2.2.2.2.2.2.2.1.name = "<init>") (hR : RT b (some .int) (some (.int r.1)) r.2 0 0) {S : Wd} {x0 : Nat} {x1 : Int32} {x2 : Int32} {x3 : Int32} {c : (Int32 × Wd) ⊕ Cs} (h : B_X1_doubleGivers_1 S x0 x1 x2 x3 = some c) (hk : N_X1_doubleGivers b r c) : G b 4 [(0, .ref x0), (1, .int x1), (2, .int x2), (3, .int x3)] [] S 0 0 := by
  unfold B_X1_doubleGivers_1 at h
  refine g_iload_n hC dX1_doubleGivers_4 rfl ?_
  refine g_bipush (v := (10 : Int32)) hC dX1_doubleGivers_5 (by decide) ?_
  refine g_icmp_ge (tgt := 97) hC dX1_doubleGivers_7 (by decide) (fun hc1 => ?_) (fun hc1 => ?_)
  · rw [if_pos hc1] at h
    refine g_iload_n hC dX1_doubleGivers_97 rfl ?_
    cases h
    subst hk
    exact g_iret hC hR dX1_doubleGivers_98 (by decide) (by decide)
  · rw [if_neg hc1] at h
    refine g_iconst (v := (0 : Int32)) hC dX1_doubleGivers_10 (by decide) ?_
    refine g_istore (L' := [(4, .int (0 : Int32)), (0, .ref x0), (1, .int x1), (2, .int x2), (3, .int x3)]) hC dX1_doubleGivers_11 (by decide) rfl ?_
    refine g_iconst (v := (0 : Int32)) hC dX1_doubleGivers_13 (by decide) ?_
    refine g_istore (L' := [(5, .int (0 : Int32)), (4, .int (0 : Int32)), (0, .ref x0), (1, .int x1), (2, .int x2), (3, .int x3)]) hC dX1_doubleGivers_14 (by decide) rfl ?_
    cases h
    refine g_pick (L' := [(0, .ref x0), (1, .int x1), (2, .int x2), (3, .int x3), (4, .int (0 : Int32)), (5, .int (0 : Int32))]) [2, 3, 4, 5, 1, 0] rfl ?_
    exact hk _ _ _ _ _ rfl
set_option maxRecDepth 100000 in
set_option maxHeartbeats 4000000 in
theorem w_X1_doubleGivers_2 {b : Bd} {r : Int32 × Wd} (hC : CX b yX1_doubleGivers.cls cX1_doubleGivers 6 { frames := 2, cells := 0, slots := 0, locals := 44 }) (hin : yX1_doubleGivers.name = "<init>" → b.2.2.2.2.2.2.2.2.1.name = "<init>") (hR : RT b (some .int) (some (.int r.1)) r.2 0 0) {S : Wd} {x0 : Nat} {x1 : Int32} {x2 : Int32} {x3 : Int32} {x4 : Int32} {x5 : Int32} {c : (Int32 × Wd) ⊕ Cs} (h : B_X1_doubleGivers_2 S x0 x1 x2 x3 x4 x5 = some c) (hk : N_X1_doubleGivers b r c) : G b 16 [(0, .ref x0), (1, .int x1), (2, .int x2), (3, .int x3), (4, .int x4), (5, .int x5)] [] S 0 0 := by
  unfold B_X1_doubleGivers_2 at h
  refine g_iload hC dX1_doubleGivers_16 rfl ?_
  refine g_aload_n hC dX1_doubleGivers_18 rfl ?_
  obtain ⟨ho2, h⟩ := gd_some h
  obtain ⟨q3, hq4, h⟩ := Option.bind_eq_some_iff.mp h
  refine g_getr (k := 1) (q := q3) hC ck_X1 (by decide) tw_208 rfl (by decide) dX1_doubleGivers_19 ho2 hq4 ?_
  obtain ⟨ho7, h⟩ := gd_some h
  obtain ⟨r8, S6, hr5, h⟩ := bd2_some h
  refine g_callV (rest := [.int x5]) hC mi_X8_count (k_X8_count hr5) ck_X8.1 (by decide) ho7 tw_687 tw_452 tw_453 dX1_doubleGivers_22 rfl rfl ⟨by decide, by decide⟩ (Nat.le_of_ble_eq_true rfl) ⟨by decide, by decide⟩ ?_
  refine g_icmp_ge (tgt := 79) hC dX1_doubleGivers_25 (by decide) (fun hc9 => ?_) (fun hc9 => ?_)
  · rw [if_pos hc9] at h
    refine g_iload hC dX1_doubleGivers_79 rfl ?_
    obtain ⟨r12, S11, hr10, h⟩ := bd2_some h
    refine g_callS (rest := []) hC mi_J6_bitCount_0f7a4 (k_J6_bitCount_0f7a4 hr10) tw_705 tw_587 dX1_doubleGivers_81 rfl rfl ⟨by decide, by decide⟩ (Nat.le_of_ble_eq_true rfl) ⟨by decide, by decide⟩ ?_
    refine g_iconst (v := (1 : Int32)) hC dX1_doubleGivers_84 (by decide) ?_
    refine g_icmp_le (tgt := 91) hC dX1_doubleGivers_85 (by decide) (fun hc13 => ?_) (fun hc13 => ?_)
    · rw [if_pos hc13] at h
      refine g_iinc (v := (1 : Int32)) (L' := [(3, .int (x3 + (1 : Int32))), (0, .ref x0), (1, .int x1), (2, .int x2), (4, .int x4), (5, .int x5)]) hC dX1_doubleGivers_91 rfl (by decide) (by decide) rfl ?_
      refine g_goto (tgt := 4) hC dX1_doubleGivers_94 (by decide) ?_
      cases h
      refine g_pick (L' := [(0, .ref x0), (1, .int x1), (2, .int x2), (3, .int (x3 + (1 : Int32)))]) [1, 2, 3, 0] rfl ?_
      exact hk _ _ _ _ _ rfl
    · rw [if_neg hc13] at h
      refine g_iinc (v := (1 : Int32)) (L' := [(2, .int (x2 + (1 : Int32))), (0, .ref x0), (1, .int x1), (3, .int x3), (4, .int x4), (5, .int x5)]) hC dX1_doubleGivers_88 rfl (by decide) (by decide) rfl ?_
      refine g_iinc (v := (1 : Int32)) (L' := [(3, .int (x3 + (1 : Int32))), (2, .int (x2 + (1 : Int32))), (0, .ref x0), (1, .int x1), (4, .int x4), (5, .int x5)]) hC dX1_doubleGivers_91 rfl (by decide) (by decide) rfl ?_
      refine g_goto (tgt := 4) hC dX1_doubleGivers_94 (by decide) ?_
      cases h
      refine g_pick (L' := [(0, .ref x0), (1, .int x1), (2, .int (x2 + (1 : Int32))), (3, .int (x3 + (1 : Int32)))]) [2, 3, 1, 0] rfl ?_
      exact hk _ _ _ _ _ rfl
  · rw [if_neg hc9] at h
    refine g_aload_n hC dX1_doubleGivers_28 rfl ?_
    obtain ⟨ho14, h⟩ := gd_some h
    obtain ⟨q15, hq16, h⟩ := Option.bind_eq_some_iff.mp h
    refine g_getr (k := 1) (q := q15) hC ck_X1 (by decide) tw_208 rfl (by decide) dX1_doubleGivers_29 ho14 hq16 ?_
    refine g_iload hC dX1_doubleGivers_32 rfl ?_
    refine g_iconst (v := (0 : Int32)) hC dX1_doubleGivers_34 (by decide) ?_
    obtain ⟨ho19, h⟩ := gd_some h
    obtain ⟨r20, S18, hr17, h⟩ := bd2_some h
    refine g_callV (rest := []) hC mi_X8_at (k_X8_at hr17) ck_X8.1 (by decide) ho19 tw_688 tw_435 tw_436 dX1_doubleGivers_35 rfl rfl ⟨by decide, by decide⟩ (Nat.le_of_ble_eq_true rfl) ⟨by decide, by decide⟩ ?_
    refine g_iload_n hC dX1_doubleGivers_38 rfl ?_
    refine g_icmp_ne (tgt := 73) hC dX1_doubleGivers_39 (by decide) (fun hc21 => ?_) (fun hc21 => ?_)
    · rw [if_neg hc21] at h
      refine g_iinc (v := (1 : Int32)) (L' := [(5, .int (x5 + (1 : Int32))), (0, .ref x0), (1, .int x1), (2, .int x2), (3, .int x3), (4, .int x4)]) hC dX1_doubleGivers_73 rfl (by decide) (by decide) rfl ?_
      refine g_goto (tgt := 16) hC dX1_doubleGivers_76 (by decide) ?_
      cases h
      refine g_pick (L' := [(0, .ref x0), (1, .int x1), (2, .int x2), (3, .int x3), (4, .int x4), (5, .int (x5 + (1 : Int32)))]) [1, 2, 3, 4, 5, 0] rfl ?_
      exact hk _ _ _ _ _ rfl
    · rw [if_pos hc21] at h
      refine g_aload_n hC dX1_doubleGivers_42 rfl ?_
      obtain ⟨ho22, h⟩ := gd_some h
      obtain ⟨q23, hq24, h⟩ := Option.bind_eq_some_iff.mp h
      refine g_getr (k := 1) (q := q23) hC ck_X1 (by decide) tw_208 rfl (by decide) dX1_doubleGivers_43 ho22 hq24 ?_
      refine g_iload hC dX1_doubleGivers_46 rfl ?_
      refine g_iconst (v := (1 : Int32)) hC dX1_doubleGivers_48 (by decide) ?_
      obtain ⟨ho27, h⟩ := gd_some h
      obtain ⟨r28, S26, hr25, h⟩ := bd2_some h
      refine g_callV (rest := []) hC mi_X8_at (k_X8_at hr25) ck_X8.1 (by decide) ho27 tw_688 tw_435 tw_436 dX1_doubleGivers_49 rfl rfl ⟨by decide, by decide⟩ (Nat.le_of_ble_eq_true rfl) ⟨by decide, by decide⟩ ?_
      refine g_iload_n hC dX1_doubleGivers_52 rfl ?_
      refine g_icmp_ne (tgt := 73) hC dX1_doubleGivers_53 (by decide) (fun hc29 => ?_) (fun hc29 => ?_)
      · rw [if_neg hc29] at h
        refine g_iinc (v := (1 : Int32)) (L' := [(5, .int (x5 + (1 : Int32))), (0, .ref x0), (1, .int x1), (2, .int x2), (3, .int x3), (4, .int x4)]) hC dX1_doubleGivers_73 rfl (by decide) (by decide) rfl ?_
        refine g_goto (tgt := 16) hC dX1_doubleGivers_76 (by decide) ?_
        cases h
        refine g_pick (L' := [(0, .ref x0), (1, .int x1), (2, .int x2), (3, .int x3), (4, .int x4), (5, .int (x5 + (1 : Int32)))]) [1, 2, 3, 4, 5, 0] rfl ?_
        exact hk _ _ _ _ _ rfl
      · rw [if_pos hc29] at h
        refine g_iload hC dX1_doubleGivers_56 rfl ?_
        refine g_iconst (v := (1 : Int32)) hC dX1_doubleGivers_58 (by decide) ?_
        refine g_aload_n hC dX1_doubleGivers_59 rfl ?_
        obtain ⟨ho30, h⟩ := gd_some h
        obtain ⟨q31, hq32, h⟩ := Option.bind_eq_some_iff.mp h
        refine g_getr (k := 1) (q := q31) hC ck_X1 (by decide) tw_208 rfl (by decide) dX1_doubleGivers_60 ho30 hq32 ?_
        refine g_iload hC dX1_doubleGivers_63 rfl ?_
        refine g_iconst (v := (2 : Int32)) hC dX1_doubleGivers_65 (by decide) ?_
        obtain ⟨ho35, h⟩ := gd_some h
        obtain ⟨r36, S34, hr33, h⟩ := bd2_some h
        refine g_callV (rest := [.int (1 : Int32), .int x4]) hC mi_X8_at (k_X8_at hr33) ck_X8.1 (by decide) ho35 tw_688 tw_435 tw_436 dX1_doubleGivers_66 rfl rfl ⟨by decide, by decide⟩ (Nat.le_of_ble_eq_true rfl) ⟨by decide, by decide⟩ ?_
        refine g_ishl hC dX1_doubleGivers_69 ?_
        refine g_ior hC dX1_doubleGivers_70 ?_
        refine g_istore (L' := [(4, .int (x4 ||| ((1 : Int32) <<< (r36 &&& 31)))), (0, .ref x0), (1, .int x1), (2, .int x2), (3, .int x3), (5, .int x5)]) hC dX1_doubleGivers_71 (by decide) rfl ?_
        refine g_iinc (v := (1 : Int32)) (L' := [(5, .int (x5 + (1 : Int32))), (4, .int (x4 ||| ((1 : Int32) <<< (r36 &&& 31)))), (0, .ref x0), (1, .int x1), (2, .int x2), (3, .int x3)]) hC dX1_doubleGivers_73 rfl (by decide) (by decide) rfl ?_
        refine g_goto (tgt := 16) hC dX1_doubleGivers_76 (by decide) ?_
        cases h
        refine g_pick (L' := [(0, .ref x0), (1, .int x1), (2, .int x2), (3, .int x3), (4, .int (x4 ||| ((1 : Int32) <<< (r36 &&& 31)))), (5, .int (x5 + (1 : Int32)))]) [2, 3, 4, 5, 1, 0] rfl ?_
        exact hk _ _ _ _ _ rfl
theorem w_X1_doubleGivers {b : Bd} {r : Int32 × Wd} (hC : CX b yX1_doubleGivers.cls cX1_doubleGivers 6 { frames := 2, cells := 0, slots := 0, locals := 44 }) (hin : yX1_doubleGivers.name = "<init>" → b.2.2.2.2.2.2.2.2.1.name = "<init>") (hR : RT b (some .int) (some (.int r.1)) r.2 0 0) {s : Cs} {c : (Int32 × Wd) ⊕ Cs} (h : B_X1_doubleGivers s = some c) (hk : N_X1_doubleGivers b r c) : ∀ pc L S kc ks, P_X1_doubleGivers s = some (pc, L, S, kc, ks) → G b pc L [] S kc ks := by
  intro pc L S kc ks hp
  unfold B_X1_doubleGivers at h
  split at h
  · cases hp
    exact w_X1_doubleGivers_0 hC hin hR h hk
  · cases hp
    exact w_X1_doubleGivers_1 hC hin hR h hk
  · cases hp
    exact w_X1_doubleGivers_2 hC hin hR h hk
  · cases h
theorem k_X1_doubleGivers {S : Wd} {a0 : Nat} {a1 : Int32} {r : Int32} {S' : Wd} (h : f_X1_doubleGivers S a0 a1 = some (r, S')) : Sp yX1_doubleGivers cX1_doubleGivers 6 (some .int) 2 44 0 0 [.ref a0, .int a1] S (some (.int r)) S' := by
  unfold f_X1_doubleGivers at h
  refine Sp.of (by decide +kernel) (Nat.le_of_ble_eq_true rfl) ?_
  intro b hC hin hR
  exact ru_ind (P := fun s q0 => q0 = (r, S') → ∀ pc L S kc ks, P_X1_doubleGivers s = some (pc, L, S, kc, ks) → G b pc L [] S kc ks) (fun s q0 hB e => w_X1_doubleGivers (r := (r, S')) hC hin hR hB e) (fun s s' q0 hB ih e => w_X1_doubleGivers (r := (r, S')) hC hin hR hB (ih e)) h rfl _ _ _ _ _ rfl

theorem mi_X11_doubles : MI yX11_doubles cX11_doubles 2 (some .int) 1 := ⟨tw_700, tw_1, by decide +kernel, by decide +kernel, by decide +kernel⟩
noncomputable def f_X11_doubles (S : Wd) (a0 : Nat) (a1 : Int32) : Option (Int32 × Wd) := gd (ob S a0 11) (Option.bind (wO S a0 3) (fun q2 => gd (ob S q2 8) (bd2 (f_X8_has S q2 a1) (fun r7 S5 => if r7 = 0 then (gd (ob S5 a0 11) (bd2 (f_X11_told S5 a0 (-100001 : Int32)) (fun r19 S17 => some (r19, S17)))) else (gd (ob S5 a0 11) (Option.bind (wO S5 a0 7) (fun q10 => gd (ob S5 q10 1) (bd2 (f_X1_doubleGivers S5 q10 a1) (fun r15 S13 => some (r15, S13))))))))))
set_option maxRecDepth 100000 in
set_option maxHeartbeats 4000000 in
theorem k_X11_doubles {S : Wd} {a0 : Nat} {a1 : Int32} {r : Int32} {S' : Wd} (h : f_X11_doubles S a0 a1 = some (r, S')) : Sp yX11_doubles cX11_doubles 2 (some .int) 3 69 0 0 [.ref a0, .int a1] S (some (.int r)) S' := by
  unfold f_X11_doubles at h
  refine Sp.of (by decide +kernel) (Nat.le_of_ble_eq_true rfl) ?_
  intro b hC hin hR
  show G b 0 [(0, .ref a0), (1, .int a1)] [] S 0 0
  refine g_aload_n hC dX11_doubles_0 rfl ?_
  obtain ⟨ho1, h⟩ := gd_some h
  obtain ⟨q2, hq3, h⟩ := Option.bind_eq_some_iff.mp h
  refine g_getr (k := 3) (q := q2) hC ck_X11 (by decide) tw_305 rfl (by decide) dX11_doubles_1 ho1 hq3 ?_
  refine g_iload_n hC dX11_doubles_4 rfl ?_
  obtain ⟨ho6, h⟩ := gd_some h
  obtain ⟨r7, S5, hr4, h⟩ := bd2_some h
  refine g_callV (rest := []) hC mi_X8_has (k_X8_has hr4) ck_X8.1 (by decide) ho6 tw_430 tw_431 tw_432 dX11_doubles_5 rfl rfl ⟨by decide, by decide⟩ (Nat.le_of_ble_eq_true rfl) ⟨by decide, by decide⟩ ?_
  refine g_if_ne (tgt := 18) hC dX11_doubles_8 (by decide) (fun hc8 => ?_) (fun hc8 => ?_)
  · rw [if_neg hc8] at h
    refine g_aload_n hC dX11_doubles_18 rfl ?_
    obtain ⟨ho9, h⟩ := gd_some h
    obtain ⟨q10, hq11, h⟩ := Option.bind_eq_some_iff.mp h
    refine g_getr (k := 7) (q := q10) hC ck_X11 (by decide) tw_309 rfl (by decide) dX11_doubles_19 ho9 hq11 ?_
    refine g_iload_n hC dX11_doubles_22 rfl ?_
    obtain ⟨ho14, h⟩ := gd_some h
    obtain ⟨r15, S13, hr12, h⟩ := bd2_some h
    refine g_callV (rest := []) hC mi_X1_doubleGivers (k_X1_doubleGivers hr12) ck_X1.1 (by decide) ho14 tw_701 tw_702 tw_703 dX11_doubles_23 rfl rfl ⟨by decide, by decide⟩ (Nat.le_of_ble_eq_true rfl) ⟨by decide, by decide⟩ ?_
    cases h
    exact g_iret hC hR dX11_doubles_26 (by decide) (by decide)
  · rw [if_pos hc8] at h
    refine g_aload_n hC dX11_doubles_11 rfl ?_
    refine g_ldc hC tw_352 dX11_doubles_12 ?_
    obtain ⟨ho18, h⟩ := gd_some h
    obtain ⟨r19, S17, hr16, h⟩ := bd2_some h
    refine g_callV (rest := []) hC mi_X11_told (k_X11_told hr16) ck_X11.1 (by decide) ho18 tw_353 tw_355 ts_0 dX11_doubles_14 rfl rfl ⟨by decide, by decide⟩ (Nat.le_of_ble_eq_true rfl) ⟨by decide, by decide⟩ ?_
    cases h
    exact g_iret hC hR dX11_doubles_17 (by decide) (by decide)

theorem mi_X6_enter : MI yX6_enter cX6_enter 5 (some .int) 3 := ⟨tw_713, tw_10, by decide +kernel, by decide +kernel, by decide +kernel⟩
noncomputable def f_X6_enter (S : Wd) (a0 : Nat) (a1 : Int32) (a2 : Int32) (a3 : Int32) : Option (Int32 × Wd) := gd (nk S 100 (3 : Int32).toNatClampNeg) (ltS (sN S (3 : Int32).toNatClampNeg) (fun S2 => gd (ix S2 (wn S) 100 (0 : Int32)) (ltS (sI S2 (wn S) (0 : Int32).toNatClampNeg a1) (fun S5 => gd (ix S5 (wn S) 100 (1 : Int32)) (ltS (sI S5 (wn S) (1 : Int32).toNatClampNeg a2) (fun S8 => gd (ix S8 (wn S) 100 (2 : Int32)) (ltS (sI S8 (wn S) (2 : Int32).toNatClampNeg a3) (fun S11 => gd (ob S11 a0 6) (Option.bind (wO S11 a0 1) (fun q14 => gd (ob S11 q14 8) (bd2 (f_X8_add S11 q14 (wn S)) (fun r19 S17 => some (r19, S17)))))))))))))
set_option maxRecDepth 100000 in
set_option maxHeartbeats 4000000 in
theorem k_X6_enter {S : Wd} {a0 : Nat} {a1 : Int32} {a2 : Int32} {a3 : Int32} {r : Int32} {S' : Wd} (h : f_X6_enter S a0 a1 a2 a3 = some (r, S')) : Sp yX6_enter cX6_enter 5 (some .int) 5 121 2 203 [.ref a0, .int a1, .int a2, .int a3] S (some (.int r)) S' := by
  unfold f_X6_enter at h
  refine Sp.of (by decide +kernel) (Nat.le_of_ble_eq_true rfl) ?_
  intro b hC hin hR
  show G b 0 [(0, .ref a0), (1, .int a1), (2, .int a2), (3, .int a3)] [] S 0 0
  refine g_iconst (v := (3 : Int32)) hC dX6_enter_0 (by decide) ?_
  obtain ⟨hk1, h⟩ := gd_some h
  refine g_newi hC tw_53 dX6_enter_1 (by decide) (by decide) hk1.1 hk1.2 (by decide) (by decide) ?_
  refine g_name (fun S2 eS3 => ?_)
  have h := ltS_use eS3 h
  refine g_dup hC dX6_enter_3 rfl ?_
  refine g_iconst (v := (0 : Int32)) hC dX6_enter_4 (by decide) ?_
  refine g_iload_n hC dX6_enter_5 rfl ?_
  obtain ⟨hx4, h⟩ := gd_some h
  refine g_iast hC dX6_enter_6 hx4.1 hx4.2 ?_
  refine g_name (fun S5 eS6 => ?_)
  have h := ltS_use eS6 h
  refine g_dup hC dX6_enter_7 rfl ?_
  refine g_iconst (v := (1 : Int32)) hC dX6_enter_8 (by decide) ?_
  refine g_iload_n hC dX6_enter_9 rfl ?_
  obtain ⟨hx7, h⟩ := gd_some h
  refine g_iast hC dX6_enter_10 hx7.1 hx7.2 ?_
  refine g_name (fun S8 eS9 => ?_)
  have h := ltS_use eS9 h
  refine g_dup hC dX6_enter_11 rfl ?_
  refine g_iconst (v := (2 : Int32)) hC dX6_enter_12 (by decide) ?_
  refine g_iload_n hC dX6_enter_13 rfl ?_
  obtain ⟨hx10, h⟩ := gd_some h
  refine g_iast hC dX6_enter_14 hx10.1 hx10.2 ?_
  refine g_name (fun S11 eS12 => ?_)
  have h := ltS_use eS12 h
  refine g_astore (L' := [(4, .ref (wn S)), (0, .ref a0), (1, .int a1), (2, .int a2), (3, .int a3)]) hC dX6_enter_15 (by decide) rfl ?_
  refine g_aload_n hC dX6_enter_17 rfl ?_
  obtain ⟨ho13, h⟩ := gd_some h
  obtain ⟨q14, hq15, h⟩ := Option.bind_eq_some_iff.mp h
  refine g_getr (k := 1) (q := q14) hC ck_X6 (by decide) tw_232 rfl (by decide) dX6_enter_18 ho13 hq15 ?_
  refine g_aload hC dX6_enter_21 rfl ?_
  obtain ⟨ho18, h⟩ := gd_some h
  obtain ⟨r19, S17, hr16, h⟩ := bd2_some h
  refine g_callV (rest := []) hC mi_X8_add (k_X8_add hr16) ck_X8.1 (by decide) ho18 tw_714 tw_420 tw_421 dX6_enter_23 rfl rfl ⟨by decide, by decide⟩ (Nat.le_of_ble_eq_true rfl) ⟨by decide, by decide⟩ ?_
  cases h
  exact g_iret hC hR dX6_enter_26 (by decide) (by decide)

theorem mi_X11_report : MI yX11_report cX11_report 4 (some .int) 3 := ⟨tw_709, tw_1, by decide +kernel, by decide +kernel, by decide +kernel⟩
noncomputable def f_X11_report (S : Wd) (a0 : Nat) (a1 : Int32) (a2 : Int32) (a3 : Int32) : Option (Int32 × Wd) := gd (ob S a0 11) (Option.bind (wO S a0 2) (fun q2 => gd (ob S q2 8) (bd2 (f_X8_has S q2 a1) (fun r7 S5 => if r7 = 0 then (gd (ob S5 a0 11) (bd2 (f_X11_told S5 a0 (-100001 : Int32)) (fun r12 S10 => some (r12, S10)))) else (bd2 (f_X11_isTown S5 a2) (fun r15 S14 => if r15 = 0 then (gd (ob S14 a0 11) (bd2 (f_X11_told S14 a0 (-100001 : Int32)) (fun r20 S18 => some (r20, S18)))) else (bd2 (f_X11_within S14 a3 (0 : Int32) (4000 : Int32)) (fun r23 S22 => if r23 = 0 then (gd (ob S22 a0 11) (bd2 (f_X11_told S22 a0 (-100001 : Int32)) (fun r39 S37 => some (r39, S37)))) else (gd (ob S22 a0 11) (Option.bind (wO S22 a0 8) (fun q26 => gd (ob S22 q26 6) (bd2 (f_X6_enter S22 q26 a1 a2 a3) (fun r31 S29 => gd (ob S29 a0 11) (bd2 (f_X11_told S29 a0 r31) (fun r35 S33 => some (r35, S33))))))))))))))))
set_option maxRecDepth 100000 in
set_option maxHeartbeats 4000000 in
theorem k_X11_report {S : Wd} {a0 : Nat} {a1 : Int32} {a2 : Int32} {a3 : Int32} {r : Int32} {S' : Wd} (h : f_X11_report S a0 a1 a2 a3 = some (r, S')) : Sp yX11_report cX11_report 4 (some .int) 6 145 2 203 [.ref a0, .int a1, .int a2, .int a3] S (some (.int r)) S' := by
  unfold f_X11_report at h
  refine Sp.of (by decide +kernel) (Nat.le_of_ble_eq_true rfl) ?_
  intro b hC hin hR
  show G b 0 [(0, .ref a0), (1, .int a1), (2, .int a2), (3, .int a3)] [] S 0 0
  refine g_aload_n hC dX11_report_0 rfl ?_
  obtain ⟨ho1, h⟩ := gd_some h
  obtain ⟨q2, hq3, h⟩ := Option.bind_eq_some_iff.mp h
  refine g_getr (k := 2) (q := q2) hC ck_X11 (by decide) tw_304 rfl (by decide) dX11_report_1 ho1 hq3 ?_
  refine g_iload_n hC dX11_report_4 rfl ?_
  obtain ⟨ho6, h⟩ := gd_some h
  obtain ⟨r7, S5, hr4, h⟩ := bd2_some h
  refine g_callV (rest := []) hC mi_X8_has (k_X8_has hr4) ck_X8.1 (by decide) ho6 tw_430 tw_431 tw_432 dX11_report_5 rfl rfl ⟨by decide, by decide⟩ (Nat.le_of_ble_eq_true rfl) ⟨by decide, by decide⟩ ?_
  refine g_if_eq (tgt := 29) hC dX11_report_8 (by decide) (fun hc8 => ?_) (fun hc8 => ?_)
  · rw [if_pos hc8] at h
    refine g_aload_n hC dX11_report_29 rfl ?_
    refine g_ldc hC tw_352 dX11_report_30 ?_
    obtain ⟨ho11, h⟩ := gd_some h
    obtain ⟨r12, S10, hr9, h⟩ := bd2_some h
    refine g_callV (rest := []) hC mi_X11_told (k_X11_told hr9) ck_X11.1 (by decide) ho11 tw_353 tw_355 ts_0 dX11_report_32 rfl rfl ⟨by decide, by decide⟩ (Nat.le_of_ble_eq_true rfl) ⟨by decide, by decide⟩ ?_
    cases h
    exact g_iret hC hR dX11_report_35 (by decide) (by decide)
  · rw [if_neg hc8] at h
    refine g_iload_n hC dX11_report_11 rfl ?_
    obtain ⟨r15, S14, hr13, h⟩ := bd2_some h
    refine g_callS (rest := []) hC mi_X11_isTown (k_X11_isTown hr13) tw_346 tw_347 dX11_report_12 rfl rfl ⟨by decide, by decide⟩ (Nat.le_of_ble_eq_true rfl) ⟨by decide, by decide⟩ ?_
    refine g_if_eq (tgt := 29) hC dX11_report_15 (by decide) (fun hc16 => ?_) (fun hc16 => ?_)
    · rw [if_pos hc16] at h
      refine g_aload_n hC dX11_report_29 rfl ?_
      refine g_ldc hC tw_352 dX11_report_30 ?_
      obtain ⟨ho19, h⟩ := gd_some h
      obtain ⟨r20, S18, hr17, h⟩ := bd2_some h
      refine g_callV (rest := []) hC mi_X11_told (k_X11_told hr17) ck_X11.1 (by decide) ho19 tw_353 tw_355 ts_0 dX11_report_32 rfl rfl ⟨by decide, by decide⟩ (Nat.le_of_ble_eq_true rfl) ⟨by decide, by decide⟩ ?_
      cases h
      exact g_iret hC hR dX11_report_35 (by decide) (by decide)
    · rw [if_neg hc16] at h
      refine g_iload_n hC dX11_report_18 rfl ?_
      refine g_iconst (v := (0 : Int32)) hC dX11_report_19 (by decide) ?_
      refine g_sipush (v := (4000 : Int32)) hC dX11_report_20 (by decide) ?_
      obtain ⟨r23, S22, hr21, h⟩ := bd2_some h
      refine g_callS (rest := []) hC mi_X11_within (k_X11_within hr21) tw_349 tw_350 dX11_report_23 rfl rfl ⟨by decide, by decide⟩ (Nat.le_of_ble_eq_true rfl) ⟨by decide, by decide⟩ ?_
      refine g_if_ne (tgt := 36) hC dX11_report_26 (by decide) (fun hc24 => ?_) (fun hc24 => ?_)
      · rw [if_neg hc24] at h
        refine g_aload_n hC dX11_report_36 rfl ?_
        refine g_aload_n hC dX11_report_37 rfl ?_
        obtain ⟨ho25, h⟩ := gd_some h
        obtain ⟨q26, hq27, h⟩ := Option.bind_eq_some_iff.mp h
        refine g_getr (k := 8) (q := q26) hC ck_X11 (by decide) tw_310 rfl (by decide) dX11_report_38 ho25 hq27 ?_
        refine g_iload_n hC dX11_report_41 rfl ?_
        refine g_iload_n hC dX11_report_42 rfl ?_
        refine g_iload_n hC dX11_report_43 rfl ?_
        obtain ⟨ho30, h⟩ := gd_some h
        obtain ⟨r31, S29, hr28, h⟩ := bd2_some h
        refine g_callV (rest := [.ref a0]) hC mi_X6_enter (k_X6_enter hr28) ck_X6.1 (by decide) ho30 tw_710 tw_711 tw_712 dX11_report_44 rfl rfl ⟨by decide, by decide⟩ (Nat.le_of_ble_eq_true rfl) ⟨by decide, by decide⟩ ?_
        obtain ⟨ho34, h⟩ := gd_some h
        obtain ⟨r35, S33, hr32, h⟩ := bd2_some h
        refine g_callV (rest := []) hC mi_X11_told (k_X11_told hr32) ck_X11.1 (by decide) ho34 tw_353 tw_355 ts_0 dX11_report_47 rfl rfl ⟨by decide, by decide⟩ (Nat.le_of_ble_eq_true rfl) ⟨by decide, by decide⟩ ?_
        cases h
        exact g_iret hC hR dX11_report_50 (by decide) (by decide)
      · rw [if_pos hc24] at h
        refine g_aload_n hC dX11_report_29 rfl ?_
        refine g_ldc hC tw_352 dX11_report_30 ?_
        obtain ⟨ho38, h⟩ := gd_some h
        obtain ⟨r39, S37, hr36, h⟩ := bd2_some h
        refine g_callV (rest := []) hC mi_X11_told (k_X11_told hr36) ck_X11.1 (by decide) ho38 tw_353 tw_355 ts_0 dX11_report_32 rfl rfl ⟨by decide, by decide⟩ (Nat.le_of_ble_eq_true rfl) ⟨by decide, by decide⟩ ?_
        cases h
        exact g_iret hC hR dX11_report_35 (by decide) (by decide)

theorem mi_X6_cannotBe : MI yX6_cannotBe cX6_cannotBe 4 (some .boolean) 2 := ⟨tw_730, tw_10, by decide +kernel, by decide +kernel, by decide +kernel⟩
noncomputable def f_X6_cannotBe (S : Wd) (a0 : Nat) (a1 : Int32) (a2 : Int32) : Option (Int32 × Wd) := gd (ob S a0 6) (Option.bind (wO S a0 1) (fun q2 => gd (ob S q2 8) (bd2 (f_X8_at S q2 a1 (2 : Int32)) (fun r7 S5 => gd (ob S5 a0 6) (Option.bind (wO S5 a0 1) (fun q9 => gd (ob S5 q9 8) (bd2 (f_X8_at S5 q9 a2 (2 : Int32)) (fun r14 S12 => gd (ob S12 a0 6) (Option.bind (wO S12 a0 0) (fun q16 => gd (ob S12 a0 6) (Option.bind (wO S12 a0 1) (fun q19 => gd (ob S12 q19 8) (bd2 (f_X8_at S12 q19 a1 (1 : Int32)) (fun r24 S22 => gd (ob S22 a0 6) (Option.bind (wO S22 a0 1) (fun q26 => gd (ob S22 q26 8) (bd2 (f_X8_at S22 q26 a2 (1 : Int32)) (fun r31 S29 => gd (ob S29 q16 10) (bd2 (f_X10_between S29 q16 r24 r31) (fun r35 S33 => if r35 ≤ (mAbs (r7 - r14)) then (some ((0 : Int32), S33)) else (some ((1 : Int32), S33))))))))))))))))))))))
set_option maxRecDepth 100000 in
set_option maxHeartbeats 4000000 in
theorem k_X6_cannotBe {S : Wd} {a0 : Nat} {a1 : Int32} {a2 : Int32} {r : Int32} {S' : Wd} (h : f_X6_cannotBe S a0 a1 a2 = some (r, S')) : Sp yX6_cannotBe cX6_cannotBe 4 (some .boolean) 2 44 0 0 [.ref a0, .int a1, .int a2] S (some (.int r)) S' := by
  unfold f_X6_cannotBe at h
  refine Sp.of (by decide +kernel) (Nat.le_of_ble_eq_true rfl) ?_
  intro b hC hin hR
  show G b 0 [(0, .ref a0), (1, .int a1), (2, .int a2)] [] S 0 0
  refine g_aload_n hC dX6_cannotBe_0 rfl ?_
  obtain ⟨ho1, h⟩ := gd_some h
  obtain ⟨q2, hq3, h⟩ := Option.bind_eq_some_iff.mp h
  refine g_getr (k := 1) (q := q2) hC ck_X6 (by decide) tw_232 rfl (by decide) dX6_cannotBe_1 ho1 hq3 ?_
  refine g_iload_n hC dX6_cannotBe_4 rfl ?_
  refine g_iconst (v := (2 : Int32)) hC dX6_cannotBe_5 (by decide) ?_
  obtain ⟨ho6, h⟩ := gd_some h
  obtain ⟨r7, S5, hr4, h⟩ := bd2_some h
  refine g_callV (rest := []) hC mi_X8_at (k_X8_at hr4) ck_X8.1 (by decide) ho6 tw_726 tw_435 tw_436 dX6_cannotBe_6 rfl rfl ⟨by decide, by decide⟩ (Nat.le_of_ble_eq_true rfl) ⟨by decide, by decide⟩ ?_
  refine g_aload_n hC dX6_cannotBe_9 rfl ?_
  obtain ⟨ho8, h⟩ := gd_some h
  obtain ⟨q9, hq10, h⟩ := Option.bind_eq_some_iff.mp h
  refine g_getr (k := 1) (q := q9) hC ck_X6 (by decide) tw_232 rfl (by decide) dX6_cannotBe_10 ho8 hq10 ?_
  refine g_iload_n hC dX6_cannotBe_13 rfl ?_
  refine g_iconst (v := (2 : Int32)) hC dX6_cannotBe_14 (by decide) ?_
  obtain ⟨ho13, h⟩ := gd_some h
  obtain ⟨r14, S12, hr11, h⟩ := bd2_some h
  refine g_callV (rest := [.int r7]) hC mi_X8_at (k_X8_at hr11) ck_X8.1 (by decide) ho13 tw_726 tw_435 tw_436 dX6_cannotBe_15 rfl rfl ⟨by decide, by decide⟩ (Nat.le_of_ble_eq_true rfl) ⟨by decide, by decide⟩ ?_
  refine g_isub hC dX6_cannotBe_18 ?_
  refine g_mabs (st := []) hC tw_731 tw_732 tw_5 tw_733 dX6_cannotBe_19 (by decide) (Nat.le_of_ble_eq_true rfl) (by decide) (by decide) ?_
  refine g_istore_n (L' := [(3, .int (mAbs (r7 - r14))), (0, .ref a0), (1, .int a1), (2, .int a2)]) hC dX6_cannotBe_22 (by decide) rfl ?_
  refine g_aload_n hC dX6_cannotBe_23 rfl ?_
  obtain ⟨ho15, h⟩ := gd_some h
  obtain ⟨q16, hq17, h⟩ := Option.bind_eq_some_iff.mp h
  refine g_getr (k := 0) (q := q16) hC ck_X6 (by decide) tw_231 rfl (by decide) dX6_cannotBe_24 ho15 hq17 ?_
  refine g_aload_n hC dX6_cannotBe_27 rfl ?_
  obtain ⟨ho18, h⟩ := gd_some h
  obtain ⟨q19, hq20, h⟩ := Option.bind_eq_some_iff.mp h
  refine g_getr (k := 1) (q := q19) hC ck_X6 (by decide) tw_232 rfl (by decide) dX6_cannotBe_28 ho18 hq20 ?_
  refine g_iload_n hC dX6_cannotBe_31 rfl ?_
  refine g_iconst (v := (1 : Int32)) hC dX6_cannotBe_32 (by decide) ?_
  obtain ⟨ho23, h⟩ := gd_some h
  obtain ⟨r24, S22, hr21, h⟩ := bd2_some h
  refine g_callV (rest := [.ref q16]) hC mi_X8_at (k_X8_at hr21) ck_X8.1 (by decide) ho23 tw_726 tw_435 tw_436 dX6_cannotBe_33 rfl rfl ⟨by decide, by decide⟩ (Nat.le_of_ble_eq_true rfl) ⟨by decide, by decide⟩ ?_
  refine g_aload_n hC dX6_cannotBe_36 rfl ?_
  obtain ⟨ho25, h⟩ := gd_some h
  obtain ⟨q26, hq27, h⟩ := Option.bind_eq_some_iff.mp h
  refine g_getr (k := 1) (q := q26) hC ck_X6 (by decide) tw_232 rfl (by decide) dX6_cannotBe_37 ho25 hq27 ?_
  refine g_iload_n hC dX6_cannotBe_40 rfl ?_
  refine g_iconst (v := (1 : Int32)) hC dX6_cannotBe_41 (by decide) ?_
  obtain ⟨ho30, h⟩ := gd_some h
  obtain ⟨r31, S29, hr28, h⟩ := bd2_some h
  refine g_callV (rest := [.int r24, .ref q16]) hC mi_X8_at (k_X8_at hr28) ck_X8.1 (by decide) ho30 tw_726 tw_435 tw_436 dX6_cannotBe_42 rfl rfl ⟨by decide, by decide⟩ (Nat.le_of_ble_eq_true rfl) ⟨by decide, by decide⟩ ?_
  obtain ⟨ho34, h⟩ := gd_some h
  obtain ⟨r35, S33, hr32, h⟩ := bd2_some h
  refine g_callV (rest := []) hC mi_X10_between (k_X10_between hr32) ck_X10.1 (by decide) ho34 tw_734 tw_410 tw_411 dX6_cannotBe_45 rfl rfl ⟨by decide, by decide⟩ (Nat.le_of_ble_eq_true rfl) ⟨by decide, by decide⟩ ?_
  refine g_iload_n hC dX6_cannotBe_48 rfl ?_
  refine g_icmp_le (tgt := 56) hC dX6_cannotBe_49 (by decide) (fun hc36 => ?_) (fun hc36 => ?_)
  · rw [if_pos hc36] at h
    refine g_iconst (v := (0 : Int32)) hC dX6_cannotBe_56 (by decide) ?_
    cases h
    exact g_zret hC hR rfl dX6_cannotBe_57 (by decide) (by decide)
  · rw [if_neg hc36] at h
    refine g_iconst (v := (1 : Int32)) hC dX6_cannotBe_52 (by decide) ?_
    refine g_goto (tgt := 57) hC dX6_cannotBe_53 (by decide) ?_
    cases h
    exact g_zret hC hR rfl dX6_cannotBe_57 (by decide) (by decide)

theorem mi_X6_compare : MI yX6_compare cX6_compare 4 none 1 := ⟨tw_722, tw_10, by decide +kernel, by decide +kernel, by decide +kernel⟩
noncomputable def B_X6_compare_0 (S : Wd) (a0 : Nat) (a1 : Int32) : Option ((Wd) ⊕ Cs) := gd (ob S a0 6) (Option.bind (wO S a0 0) (fun q2 => gd (ob S q2 10) (Option.bind (f_X10_measure S q2) (fun S5 => gd (ob S5 a0 6) (ltS (sI S5 a0 2 (0 : Int32)) (fun S8 => gd (ob S8 a0 6) (ltS (sI S8 a0 3 (-100006 : Int32)) (fun S11 => some (.inr (1, [a0], [a1, (0 : Int32)], S11))))))))))
noncomputable def B_X6_compare_1 (S : Wd) (x0 : Nat) (x1 : Int32) (x2 : Int32) : Option ((Wd) ⊕ Cs) := gd (ob S x0 6) (Option.bind (wO S x0 1) (fun q14 => gd (ob S q14 8) (bd2 (f_X8_count S q14) (fun r19 S17 => if r19 ≤ x2 then (some (.inl S17)) else (some (.inr (2, [x0], [x1, x2, (x2 + (1 : Int32))], S17)))))))
noncomputable def B_X6_compare_2 (S : Wd) (x0 : Nat) (x1 : Int32) (x2 : Int32) (x3 : Int32) : Option ((Wd) ⊕ Cs) := gd (ob S x0 6) (Option.bind (wO S x0 1) (fun q22 => gd (ob S q22 8) (bd2 (f_X8_count S q22) (fun r27 S25 => if r27 ≤ x3 then (some (.inr (1, [x0], [x1, (x2 + (1 : Int32))], S25))) else (gd (ob S25 x0 6) (Option.bind (wO S25 x0 1) (fun q30 => gd (ob S25 q30 8) (bd2 (f_X8_at S25 q30 x2 (0 : Int32)) (fun r35 S33 => if r35 = x1 then (gd (ob S33 x0 6) (Option.bind (wO S33 x0 1) (fun q38 => gd (ob S33 q38 8) (bd2 (f_X8_at S33 q38 x3 (0 : Int32)) (fun r43 S41 => if r43 = x1 then (gd (ob S41 x0 6) (bd2 (f_X6_cannotBe S41 x0 x2 x3) (fun r48 S46 => if r48 = 0 then (some (.inr (2, [x0], [x1, x2, (x3 + (1 : Int32))], S46))) else (gd (ob S46 x0 6) (if (wI S46 x0 2) = 0 then (gd (ob S46 x0 6) (ltS (sI S46 x0 3 (((100 : Int32) * x2) + x3)) (fun S61 => gd (ob S61 x0 6) (gd (ob S61 x0 6) (ltS (sI S61 x0 2 ((wI S61 x0 2) + (1 : Int32))) (fun S65 => some (.inr (2, [x0], [x1, x2, (x3 + (1 : Int32))], S65)))))))) else (gd (ob S46 x0 6) (gd (ob S46 x0 6) (ltS (sI S46 x0 3 (wI S46 x0 3)) (fun S54 => gd (ob S54 x0 6) (gd (ob S54 x0 6) (ltS (sI S54 x0 2 ((wI S54 x0 2) + (1 : Int32))) (fun S58 => some (.inr (2, [x0], [x1, x2, (x3 + (1 : Int32))], S58)))))))))))))) else (some (.inr (2, [x0], [x1, x2, (x3 + (1 : Int32))], S41)))))))) else (some (.inr (2, [x0], [x1, x2, (x3 + (1 : Int32))], S33))))))))))))
noncomputable def B_X6_compare : Cs → Option ((Wd) ⊕ Cs)
  | (0, [a0], [a1], S) => B_X6_compare_0 S a0 a1
  | (1, [x0], [x1, x2], S) => B_X6_compare_1 S x0 x1 x2
  | (2, [x0], [x1, x2, x3], S) => B_X6_compare_2 S x0 x1 x2 x3
  | _ => none
def P_X6_compare : Cs → Option (Nat × List (Nat × Value) × Wd × Nat × Nat)
  | (0, [a0], [a1], S) => some (0, [(0, .ref a0), (1, .int a1)], S, 0, 0)
  | (1, [x0], [x1, x2], S) => some (20, [(0, .ref x0), (1, .int x1), (2, .int x2)], S, 0, 0)
  | (2, [x0], [x1, x2, x3], S) => some (35, [(0, .ref x0), (1, .int x1), (2, .int x2), (3, .int x3)], S, 0, 0)
  | _ => none
noncomputable def f_X6_compare (S : Wd) (a0 : Nat) (a1 : Int32) : Option (Wd) := ru B_X6_compare (0, [a0], [a1], S)
abbrev N_X6_compare (b : Bd) (r : Wd) (c : (Wd) ⊕ Cs) : Prop := match c with
  | .inl r' => r' = r
  | .inr s' => ∀ pc L S kc ks, P_X6_compare s' = some (pc, L, S, kc, ks) → G b pc L [] S kc ks
set_option maxRecDepth 100000 in
set_option maxHeartbeats 4000000 in
theorem w_X6_compare_0 {b : Bd} {r : Wd} (hC : CX b yX6_compare.cls cX6_compare 4 { frames := 3, cells := 0, slots := 0, locals := 67 }) (hin : yX6_compare.name = "<init>" → b.2.2.2.2.2.2.2.2.1.name = "<init>") (hR : RT b none none r 0 0) {S : Wd} {a0 : Nat} {a1 : Int32} {c : (Wd) ⊕ Cs} (h : B_X6_compare_0 S a0 a1 = some c) (hk : N_X6_compare b r c) : G b 0 [(0, .ref a0), (1, .int a1)] [] S 0 0 := by
  unfold B_X6_compare_0 at h
  refine g_aload_n hC dX6_compare_0 rfl ?_
  obtain ⟨ho1, h⟩ := gd_some h
  obtain ⟨q2, hq3, h⟩ := Option.bind_eq_some_iff.mp h
  refine g_getr (k := 0) (q := q2) hC ck_X6 (by decide) tw_231 rfl (by decide) dX6_compare_1 ho1 hq3 ?_
  obtain ⟨ho6, h⟩ := gd_some h
  obtain ⟨S5, hr4, h⟩ := Option.bind_eq_some_iff.mp h
  refine g_callV (rest := []) hC mi_X10_measure (k_X10_measure hr4) ck_X10.1 (by decide) ho6 tw_723 tw_397 tw_398 dX6_compare_4 rfl rfl ⟨by decide, by decide⟩ (Nat.le_of_ble_eq_true rfl) ⟨by decide, by decide⟩ ?_
  refine g_aload_n hC dX6_compare_7 rfl ?_
  refine g_iconst (v := (0 : Int32)) hC dX6_compare_8 (by decide) ?_
  obtain ⟨ho7, h⟩ := gd_some h
  refine g_puti (k := 2) hC ck_X6 (by decide) tw_233 rfl (by decide) rfl rfl dX6_compare_9 ho7 ?_
  refine g_name (fun S8 eS9 => ?_)
  have h := ltS_use eS9 h
  refine g_aload_n hC dX6_compare_12 rfl ?_
  refine g_ldc hC tw_724 dX6_compare_13 ?_
  obtain ⟨ho10, h⟩ := gd_some h
  refine g_puti (k := 3) hC ck_X6 (by decide) tw_234 rfl (by decide) rfl rfl dX6_compare_15 ho10 ?_
  refine g_name (fun S11 eS12 => ?_)
  have h := ltS_use eS12 h
  refine g_iconst (v := (0 : Int32)) hC dX6_compare_18 (by decide) ?_
  refine g_istore_n (L' := [(2, .int (0 : Int32)), (0, .ref a0), (1, .int a1)]) hC dX6_compare_19 (by decide) rfl ?_
  cases h
  refine g_pick (L' := [(0, .ref a0), (1, .int a1), (2, .int (0 : Int32))]) [1, 2, 0] rfl ?_
  exact hk _ _ _ _ _ rfl
set_option maxRecDepth 100000 in
set_option maxHeartbeats 4000000 in
theorem w_X6_compare_1 {b : Bd} {r : Wd} (hC : CX b yX6_compare.cls cX6_compare 4 { frames := 3, cells := 0, slots := 0, locals := 67 }) (hin : yX6_compare.name = "<init>" → b.2.2.2.2.2.2.2.2.1.name = "<init>") (hR : RT b none none r 0 0) {S : Wd} {x0 : Nat} {x1 : Int32} {x2 : Int32} {c : (Wd) ⊕ Cs} (h : B_X6_compare_1 S x0 x1 x2 = some c) (hk : N_X6_compare b r c) : G b 20 [(0, .ref x0), (1, .int x1), (2, .int x2)] [] S 0 0 := by
  unfold B_X6_compare_1 at h
  refine g_iload_n hC dX6_compare_20 rfl ?_
  refine g_aload_n hC dX6_compare_21 rfl ?_
  obtain ⟨ho13, h⟩ := gd_some h
  obtain ⟨q14, hq15, h⟩ := Option.bind_eq_some_iff.mp h
  refine g_getr (k := 1) (q := q14) hC ck_X6 (by decide) tw_232 rfl (by decide) dX6_compare_22 ho13 hq15 ?_
  obtain ⟨ho18, h⟩ := gd_some h
  obtain ⟨r19, S17, hr16, h⟩ := bd2_some h
  refine g_callV (rest := [.int x2]) hC mi_X8_count (k_X8_count hr16) ck_X8.1 (by decide) ho18 tw_725 tw_452 tw_453 dX6_compare_25 rfl rfl ⟨by decide, by decide⟩ (Nat.le_of_ble_eq_true rfl) ⟨by decide, by decide⟩ ?_
  refine g_icmp_ge (tgt := 127) hC dX6_compare_28 (by decide) (fun hc20 => ?_) (fun hc20 => ?_)
  · rw [if_pos hc20] at h
    cases h
    subst hk
    exact g_vret hC hR dX6_compare_127 (by decide) (by decide)
  · rw [if_neg hc20] at h
    refine g_iload_n hC dX6_compare_31 rfl ?_
    refine g_iconst (v := (1 : Int32)) hC dX6_compare_32 (by decide) ?_
    refine g_iadd hC dX6_compare_33 ?_
    refine g_istore_n (L' := [(3, .int (x2 + (1 : Int32))), (0, .ref x0), (1, .int x1), (2, .int x2)]) hC dX6_compare_34 (by decide) rfl ?_
    cases h
    refine g_pick (L' := [(0, .ref x0), (1, .int x1), (2, .int x2), (3, .int (x2 + (1 : Int32)))]) [1, 2, 3, 0] rfl ?_
    exact hk _ _ _ _ _ rfl
set_option maxRecDepth 100000 in
set_option maxHeartbeats 4000000 in
theorem w_X6_compare_2 {b : Bd} {r : Wd} (hC : CX b yX6_compare.cls cX6_compare 4 { frames := 3, cells := 0, slots := 0, locals := 67 }) (hin : yX6_compare.name = "<init>" → b.2.2.2.2.2.2.2.2.1.name = "<init>") (hR : RT b none none r 0 0) {S : Wd} {x0 : Nat} {x1 : Int32} {x2 : Int32} {x3 : Int32} {c : (Wd) ⊕ Cs} (h : B_X6_compare_2 S x0 x1 x2 x3 = some c) (hk : N_X6_compare b r c) : G b 35 [(0, .ref x0), (1, .int x1), (2, .int x2), (3, .int x3)] [] S 0 0 := by
  unfold B_X6_compare_2 at h
  refine g_iload_n hC dX6_compare_35 rfl ?_
  refine g_aload_n hC dX6_compare_36 rfl ?_
  obtain ⟨ho21, h⟩ := gd_some h
  obtain ⟨q22, hq23, h⟩ := Option.bind_eq_some_iff.mp h
  refine g_getr (k := 1) (q := q22) hC ck_X6 (by decide) tw_232 rfl (by decide) dX6_compare_37 ho21 hq23 ?_
  obtain ⟨ho26, h⟩ := gd_some h
  obtain ⟨r27, S25, hr24, h⟩ := bd2_some h
  refine g_callV (rest := [.int x3]) hC mi_X8_count (k_X8_count hr24) ck_X8.1 (by decide) ho26 tw_725 tw_452 tw_453 dX6_compare_40 rfl rfl ⟨by decide, by decide⟩ (Nat.le_of_ble_eq_true rfl) ⟨by decide, by decide⟩ ?_
  refine g_icmp_ge (tgt := 121) hC dX6_compare_43 (by decide) (fun hc28 => ?_) (fun hc28 => ?_)
  · rw [if_pos hc28] at h
    refine g_iinc (v := (1 : Int32)) (L' := [(2, .int (x2 + (1 : Int32))), (0, .ref x0), (1, .int x1), (3, .int x3)]) hC dX6_compare_121 rfl (by decide) (by decide) rfl ?_
    refine g_goto (tgt := 20) hC dX6_compare_124 (by decide) ?_
    cases h
    refine g_pick (L' := [(0, .ref x0), (1, .int x1), (2, .int (x2 + (1 : Int32)))]) [1, 2, 0] rfl ?_
    exact hk _ _ _ _ _ rfl
  · rw [if_neg hc28] at h
    refine g_aload_n hC dX6_compare_46 rfl ?_
    obtain ⟨ho29, h⟩ := gd_some h
    obtain ⟨q30, hq31, h⟩ := Option.bind_eq_some_iff.mp h
    refine g_getr (k := 1) (q := q30) hC ck_X6 (by decide) tw_232 rfl (by decide) dX6_compare_47 ho29 hq31 ?_
    refine g_iload_n hC dX6_compare_50 rfl ?_
    refine g_iconst (v := (0 : Int32)) hC dX6_compare_51 (by decide) ?_
    obtain ⟨ho34, h⟩ := gd_some h
    obtain ⟨r35, S33, hr32, h⟩ := bd2_some h
    refine g_callV (rest := []) hC mi_X8_at (k_X8_at hr32) ck_X8.1 (by decide) ho34 tw_726 tw_435 tw_436 dX6_compare_52 rfl rfl ⟨by decide, by decide⟩ (Nat.le_of_ble_eq_true rfl) ⟨by decide, by decide⟩ ?_
    refine g_iload_n hC dX6_compare_55 rfl ?_
    refine g_icmp_ne (tgt := 115) hC dX6_compare_56 (by decide) (fun hc36 => ?_) (fun hc36 => ?_)
    · rw [if_neg hc36] at h
      refine g_iinc (v := (1 : Int32)) (L' := [(3, .int (x3 + (1 : Int32))), (0, .ref x0), (1, .int x1), (2, .int x2)]) hC dX6_compare_115 rfl (by decide) (by decide) rfl ?_
      refine g_goto (tgt := 35) hC dX6_compare_118 (by decide) ?_
      cases h
      refine g_pick (L' := [(0, .ref x0), (1, .int x1), (2, .int x2), (3, .int (x3 + (1 : Int32)))]) [1, 2, 3, 0] rfl ?_
      exact hk _ _ _ _ _ rfl
    · rw [if_pos hc36] at h
      refine g_aload_n hC dX6_compare_59 rfl ?_
      obtain ⟨ho37, h⟩ := gd_some h
      obtain ⟨q38, hq39, h⟩ := Option.bind_eq_some_iff.mp h
      refine g_getr (k := 1) (q := q38) hC ck_X6 (by decide) tw_232 rfl (by decide) dX6_compare_60 ho37 hq39 ?_
      refine g_iload_n hC dX6_compare_63 rfl ?_
      refine g_iconst (v := (0 : Int32)) hC dX6_compare_64 (by decide) ?_
      obtain ⟨ho42, h⟩ := gd_some h
      obtain ⟨r43, S41, hr40, h⟩ := bd2_some h
      refine g_callV (rest := []) hC mi_X8_at (k_X8_at hr40) ck_X8.1 (by decide) ho42 tw_726 tw_435 tw_436 dX6_compare_65 rfl rfl ⟨by decide, by decide⟩ (Nat.le_of_ble_eq_true rfl) ⟨by decide, by decide⟩ ?_
      refine g_iload_n hC dX6_compare_68 rfl ?_
      refine g_icmp_ne (tgt := 115) hC dX6_compare_69 (by decide) (fun hc44 => ?_) (fun hc44 => ?_)
      · rw [if_neg hc44] at h
        refine g_iinc (v := (1 : Int32)) (L' := [(3, .int (x3 + (1 : Int32))), (0, .ref x0), (1, .int x1), (2, .int x2)]) hC dX6_compare_115 rfl (by decide) (by decide) rfl ?_
        refine g_goto (tgt := 35) hC dX6_compare_118 (by decide) ?_
        cases h
        refine g_pick (L' := [(0, .ref x0), (1, .int x1), (2, .int x2), (3, .int (x3 + (1 : Int32)))]) [1, 2, 3, 0] rfl ?_
        exact hk _ _ _ _ _ rfl
      · rw [if_pos hc44] at h
        refine g_aload_n hC dX6_compare_72 rfl ?_
        refine g_iload_n hC dX6_compare_73 rfl ?_
        refine g_iload_n hC dX6_compare_74 rfl ?_
        obtain ⟨ho47, h⟩ := gd_some h
        obtain ⟨r48, S46, hr45, h⟩ := bd2_some h
        refine g_callV (rest := []) hC mi_X6_cannotBe (k_X6_cannotBe hr45) ck_X6.1 (by decide) ho47 tw_727 tw_729 ts_18 dX6_compare_75 rfl rfl ⟨by decide, by decide⟩ (Nat.le_of_ble_eq_true rfl) ⟨by decide, by decide⟩ ?_
        refine g_if_eq (tgt := 115) hC dX6_compare_78 (by decide) (fun hc49 => ?_) (fun hc49 => ?_)
        · rw [if_pos hc49] at h
          refine g_iinc (v := (1 : Int32)) (L' := [(3, .int (x3 + (1 : Int32))), (0, .ref x0), (1, .int x1), (2, .int x2)]) hC dX6_compare_115 rfl (by decide) (by decide) rfl ?_
          refine g_goto (tgt := 35) hC dX6_compare_118 (by decide) ?_
          cases h
          refine g_pick (L' := [(0, .ref x0), (1, .int x1), (2, .int x2), (3, .int (x3 + (1 : Int32)))]) [1, 2, 3, 0] rfl ?_
          exact hk _ _ _ _ _ rfl
        · rw [if_neg hc49] at h
          refine g_aload_n hC dX6_compare_81 rfl ?_
          refine g_aload_n hC dX6_compare_82 rfl ?_
          obtain ⟨ho50, h⟩ := gd_some h
          refine g_geti (k := 2) hC ck_X6 (by decide) tw_233 rfl (by decide) dX6_compare_83 ho50 ?_
          refine g_if_ne (tgt := 98) hC dX6_compare_86 (by decide) (fun hc51 => ?_) (fun hc51 => ?_)
          · rw [if_neg hc51] at h
            refine g_aload_n hC dX6_compare_98 rfl ?_
            obtain ⟨ho52, h⟩ := gd_some h
            refine g_geti (k := 3) hC ck_X6 (by decide) tw_234 rfl (by decide) dX6_compare_99 ho52 ?_
            obtain ⟨ho53, h⟩ := gd_some h
            refine g_puti (k := 3) hC ck_X6 (by decide) tw_234 rfl (by decide) rfl rfl dX6_compare_102 ho53 ?_
            refine g_name (fun S54 eS55 => ?_)
            have h := ltS_use eS55 h
            refine g_aload_n hC dX6_compare_105 rfl ?_
            refine g_dup hC dX6_compare_106 rfl ?_
            obtain ⟨ho56, h⟩ := gd_some h
            refine g_geti (k := 2) hC ck_X6 (by decide) tw_233 rfl (by decide) dX6_compare_107 ho56 ?_
            refine g_iconst (v := (1 : Int32)) hC dX6_compare_110 (by decide) ?_
            refine g_iadd hC dX6_compare_111 ?_
            obtain ⟨ho57, h⟩ := gd_some h
            refine g_puti (k := 2) hC ck_X6 (by decide) tw_233 rfl (by decide) rfl rfl dX6_compare_112 ho57 ?_
            refine g_name (fun S58 eS59 => ?_)
            have h := ltS_use eS59 h
            refine g_iinc (v := (1 : Int32)) (L' := [(3, .int (x3 + (1 : Int32))), (0, .ref x0), (1, .int x1), (2, .int x2)]) hC dX6_compare_115 rfl (by decide) (by decide) rfl ?_
            refine g_goto (tgt := 35) hC dX6_compare_118 (by decide) ?_
            cases h
            refine g_pick (L' := [(0, .ref x0), (1, .int x1), (2, .int x2), (3, .int (x3 + (1 : Int32)))]) [1, 2, 3, 0] rfl ?_
            exact hk _ _ _ _ _ rfl
          · rw [if_pos hc51] at h
            refine g_bipush (v := (100 : Int32)) hC dX6_compare_89 (by decide) ?_
            refine g_iload_n hC dX6_compare_91 rfl ?_
            refine g_imul hC dX6_compare_92 ?_
            refine g_iload_n hC dX6_compare_93 rfl ?_
            refine g_iadd hC dX6_compare_94 ?_
            refine g_goto (tgt := 102) hC dX6_compare_95 (by decide) ?_
            obtain ⟨ho60, h⟩ := gd_some h
            refine g_puti (k := 3) hC ck_X6 (by decide) tw_234 rfl (by decide) rfl rfl dX6_compare_102 ho60 ?_
            refine g_name (fun S61 eS62 => ?_)
            have h := ltS_use eS62 h
            refine g_aload_n hC dX6_compare_105 rfl ?_
            refine g_dup hC dX6_compare_106 rfl ?_
            obtain ⟨ho63, h⟩ := gd_some h
            refine g_geti (k := 2) hC ck_X6 (by decide) tw_233 rfl (by decide) dX6_compare_107 ho63 ?_
            refine g_iconst (v := (1 : Int32)) hC dX6_compare_110 (by decide) ?_
            refine g_iadd hC dX6_compare_111 ?_
            obtain ⟨ho64, h⟩ := gd_some h
            refine g_puti (k := 2) hC ck_X6 (by decide) tw_233 rfl (by decide) rfl rfl dX6_compare_112 ho64 ?_
            refine g_name (fun S65 eS66 => ?_)
            have h := ltS_use eS66 h
            refine g_iinc (v := (1 : Int32)) (L' := [(3, .int (x3 + (1 : Int32))), (0, .ref x0), (1, .int x1), (2, .int x2)]) hC dX6_compare_115 rfl (by decide) (by decide) rfl ?_
            refine g_goto (tgt := 35) hC dX6_compare_118 (by decide) ?_
            cases h
            refine g_pick (L' := [(0, .ref x0), (1, .int x1), (2, .int x2), (3, .int (x3 + (1 : Int32)))]) [1, 2, 3, 0] rfl ?_
            exact hk _ _ _ _ _ rfl
theorem w_X6_compare {b : Bd} {r : Wd} (hC : CX b yX6_compare.cls cX6_compare 4 { frames := 3, cells := 0, slots := 0, locals := 67 }) (hin : yX6_compare.name = "<init>" → b.2.2.2.2.2.2.2.2.1.name = "<init>") (hR : RT b none none r 0 0) {s : Cs} {c : (Wd) ⊕ Cs} (h : B_X6_compare s = some c) (hk : N_X6_compare b r c) : ∀ pc L S kc ks, P_X6_compare s = some (pc, L, S, kc, ks) → G b pc L [] S kc ks := by
  intro pc L S kc ks hp
  unfold B_X6_compare at h
  split at h
  · cases hp
    exact w_X6_compare_0 hC hin hR h hk
  · cases hp
    exact w_X6_compare_1 hC hin hR h hk
  · cases hp
    exact w_X6_compare_2 hC hin hR h hk
  · cases h
theorem k_X6_compare {S : Wd} {a0 : Nat} {a1 : Int32} {S' : Wd} (h : f_X6_compare S a0 a1 = some S') : Sp yX6_compare cX6_compare 4 none 3 67 0 0 [.ref a0, .int a1] S none S' := by
  unfold f_X6_compare at h
  refine Sp.of (by decide +kernel) (Nat.le_of_ble_eq_true rfl) ?_
  intro b hC hin hR
  exact ru_ind (P := fun s q0 => q0 = S' → ∀ pc L S kc ks, P_X6_compare s = some (pc, L, S, kc, ks) → G b pc L [] S kc ks) (fun s q0 hB e => w_X6_compare (r := S') hC hin hR hB e) (fun s s' q0 hB ih e => w_X6_compare (r := S') hC hin hR hB (ih e)) h rfl _ _ _ _ _ rfl

theorem mi_X6_pairs : MI yX6_pairs cX6_pairs 1 (some .int) 0 := ⟨tw_742, tw_10, by decide +kernel, by decide +kernel, by decide +kernel⟩
noncomputable def f_X6_pairs (S : Wd) (a0 : Nat) : Option (Int32 × Wd) := gd (ob S a0 6) (some ((wI S a0 2), S))
set_option maxRecDepth 100000 in
set_option maxHeartbeats 4000000 in
theorem k_X6_pairs {S : Wd} {a0 : Nat} {r : Int32} {S' : Wd} (h : f_X6_pairs S a0 = some (r, S')) : Sp yX6_pairs cX6_pairs 1 (some .int) 0 0 0 0 [.ref a0] S (some (.int r)) S' := by
  unfold f_X6_pairs at h
  refine Sp.of (by decide +kernel) (Nat.le_of_ble_eq_true rfl) ?_
  intro b hC hin hR
  show G b 0 [(0, .ref a0)] [] S 0 0
  refine g_aload_n hC dX6_pairs_0 rfl ?_
  obtain ⟨ho1, h⟩ := gd_some h
  refine g_geti (k := 2) hC ck_X6 (by decide) tw_233 rfl (by decide) dX6_pairs_1 ho1 ?_
  cases h
  exact g_iret hC hR dX6_pairs_4 (by decide) (by decide)

theorem mi_X6_firstPair : MI yX6_firstPair cX6_firstPair 1 (some .int) 0 := ⟨tw_738, tw_10, by decide +kernel, by decide +kernel, by decide +kernel⟩
noncomputable def f_X6_firstPair (S : Wd) (a0 : Nat) : Option (Int32 × Wd) := gd (ob S a0 6) (some ((wI S a0 3), S))
set_option maxRecDepth 100000 in
set_option maxHeartbeats 4000000 in
theorem k_X6_firstPair {S : Wd} {a0 : Nat} {r : Int32} {S' : Wd} (h : f_X6_firstPair S a0 = some (r, S')) : Sp yX6_firstPair cX6_firstPair 1 (some .int) 0 0 0 0 [.ref a0] S (some (.int r)) S' := by
  unfold f_X6_firstPair at h
  refine Sp.of (by decide +kernel) (Nat.le_of_ble_eq_true rfl) ?_
  intro b hC hin hR
  show G b 0 [(0, .ref a0)] [] S 0 0
  refine g_aload_n hC dX6_firstPair_0 rfl ?_
  obtain ⟨ho1, h⟩ := gd_some h
  refine g_geti (k := 3) hC ck_X6 (by decide) tw_234 rfl (by decide) dX6_firstPair_1 ho1 ?_
  cases h
  exact g_iret hC hR dX6_firstPair_4 (by decide) (by decide)

theorem mi_X11_cannot : MI yX11_cannot cX11_cannot 3 (some .int) 2 := ⟨tw_718, tw_1, by decide +kernel, by decide +kernel, by decide +kernel⟩
noncomputable def f_X11_cannot (S : Wd) (a0 : Nat) (a1 : Int32) (a2 : Int32) : Option (Int32 × Wd) := gd (ob S a0 11) (Option.bind (wO S a0 2) (fun q2 => gd (ob S q2 8) (bd2 (f_X8_has S q2 a1) (fun r7 S5 => if r7 = 0 then (gd (ob S5 a0 11) (bd2 (f_X11_told S5 a0 (-100001 : Int32)) (fun r41 S39 => some (r41, S39)))) else (gd (ob S5 a0 11) (Option.bind (wO S5 a0 8) (fun q10 => gd (ob S5 q10 6) (Option.bind (f_X6_compare S5 q10 a1) (fun S13 => if a2 = 0 then (gd (ob S13 a0 11) (Option.bind (wO S13 a0 8) (fun q17 => gd (ob S13 q17 6) (bd2 (f_X6_pairs S13 q17) (fun r22 S20 => gd (ob S20 a0 11) (bd2 (f_X11_told S20 a0 r22) (fun r26 S24 => some (r26, S24)))))))) else (gd (ob S13 a0 11) (Option.bind (wO S13 a0 8) (fun q28 => gd (ob S13 q28 6) (bd2 (f_X6_firstPair S13 q28) (fun r33 S31 => gd (ob S31 a0 11) (bd2 (f_X11_told S31 a0 r33) (fun r37 S35 => some (r37, S35)))))))))))))))))
set_option maxRecDepth 100000 in
set_option maxHeartbeats 4000000 in
theorem k_X11_cannot {S : Wd} {a0 : Nat} {a1 : Int32} {a2 : Int32} {r : Int32} {S' : Wd} (h : f_X11_cannot S a0 a1 a2 = some (r, S')) : Sp yX11_cannot cX11_cannot 3 (some .int) 4 90 0 0 [.ref a0, .int a1, .int a2] S (some (.int r)) S' := by
  unfold f_X11_cannot at h
  refine Sp.of (by decide +kernel) (Nat.le_of_ble_eq_true rfl) ?_
  intro b hC hin hR
  show G b 0 [(0, .ref a0), (1, .int a1), (2, .int a2)] [] S 0 0
  refine g_aload_n hC dX11_cannot_0 rfl ?_
  obtain ⟨ho1, h⟩ := gd_some h
  obtain ⟨q2, hq3, h⟩ := Option.bind_eq_some_iff.mp h
  refine g_getr (k := 2) (q := q2) hC ck_X11 (by decide) tw_304 rfl (by decide) dX11_cannot_1 ho1 hq3 ?_
  refine g_iload_n hC dX11_cannot_4 rfl ?_
  obtain ⟨ho6, h⟩ := gd_some h
  obtain ⟨r7, S5, hr4, h⟩ := bd2_some h
  refine g_callV (rest := []) hC mi_X8_has (k_X8_has hr4) ck_X8.1 (by decide) ho6 tw_430 tw_431 tw_432 dX11_cannot_5 rfl rfl ⟨by decide, by decide⟩ (Nat.le_of_ble_eq_true rfl) ⟨by decide, by decide⟩ ?_
  refine g_if_ne (tgt := 18) hC dX11_cannot_8 (by decide) (fun hc8 => ?_) (fun hc8 => ?_)
  · rw [if_neg hc8] at h
    refine g_aload_n hC dX11_cannot_18 rfl ?_
    obtain ⟨ho9, h⟩ := gd_some h
    obtain ⟨q10, hq11, h⟩ := Option.bind_eq_some_iff.mp h
    refine g_getr (k := 8) (q := q10) hC ck_X11 (by decide) tw_310 rfl (by decide) dX11_cannot_19 ho9 hq11 ?_
    refine g_iload_n hC dX11_cannot_22 rfl ?_
    obtain ⟨ho14, h⟩ := gd_some h
    obtain ⟨S13, hr12, h⟩ := Option.bind_eq_some_iff.mp h
    refine g_callV (rest := []) hC mi_X6_compare (k_X6_compare hr12) ck_X6.1 (by decide) ho14 tw_719 tw_720 tw_721 dX11_cannot_23 rfl rfl ⟨by decide, by decide⟩ (Nat.le_of_ble_eq_true rfl) ⟨by decide, by decide⟩ ?_
    refine g_aload_n hC dX11_cannot_26 rfl ?_
    refine g_iload_n hC dX11_cannot_27 rfl ?_
    refine g_if_eq (tgt := 41) hC dX11_cannot_28 (by decide) (fun hc15 => ?_) (fun hc15 => ?_)
    · rw [if_pos hc15] at h
      refine g_aload_n hC dX11_cannot_41 rfl ?_
      obtain ⟨ho16, h⟩ := gd_some h
      obtain ⟨q17, hq18, h⟩ := Option.bind_eq_some_iff.mp h
      refine g_getr (k := 8) (q := q17) hC ck_X11 (by decide) tw_310 rfl (by decide) dX11_cannot_42 ho16 hq18 ?_
      obtain ⟨ho21, h⟩ := gd_some h
      obtain ⟨r22, S20, hr19, h⟩ := bd2_some h
      refine g_callV (rest := [.ref a0]) hC mi_X6_pairs (k_X6_pairs hr19) ck_X6.1 (by decide) ho21 tw_739 tw_740 tw_741 dX11_cannot_45 rfl rfl ⟨by decide, by decide⟩ (Nat.le_of_ble_eq_true rfl) ⟨by decide, by decide⟩ ?_
      obtain ⟨ho25, h⟩ := gd_some h
      obtain ⟨r26, S24, hr23, h⟩ := bd2_some h
      refine g_callV (rest := []) hC mi_X11_told (k_X11_told hr23) ck_X11.1 (by decide) ho25 tw_353 tw_355 ts_0 dX11_cannot_48 rfl rfl ⟨by decide, by decide⟩ (Nat.le_of_ble_eq_true rfl) ⟨by decide, by decide⟩ ?_
      cases h
      exact g_iret hC hR dX11_cannot_51 (by decide) (by decide)
    · rw [if_neg hc15] at h
      refine g_aload_n hC dX11_cannot_31 rfl ?_
      obtain ⟨ho27, h⟩ := gd_some h
      obtain ⟨q28, hq29, h⟩ := Option.bind_eq_some_iff.mp h
      refine g_getr (k := 8) (q := q28) hC ck_X11 (by decide) tw_310 rfl (by decide) dX11_cannot_32 ho27 hq29 ?_
      obtain ⟨ho32, h⟩ := gd_some h
      obtain ⟨r33, S31, hr30, h⟩ := bd2_some h
      refine g_callV (rest := [.ref a0]) hC mi_X6_firstPair (k_X6_firstPair hr30) ck_X6.1 (by decide) ho32 tw_735 tw_736 tw_737 dX11_cannot_35 rfl rfl ⟨by decide, by decide⟩ (Nat.le_of_ble_eq_true rfl) ⟨by decide, by decide⟩ ?_
      refine g_goto (tgt := 48) hC dX11_cannot_38 (by decide) ?_
      obtain ⟨ho36, h⟩ := gd_some h
      obtain ⟨r37, S35, hr34, h⟩ := bd2_some h
      refine g_callV (rest := []) hC mi_X11_told (k_X11_told hr34) ck_X11.1 (by decide) ho36 tw_353 tw_355 ts_0 dX11_cannot_48 rfl rfl ⟨by decide, by decide⟩ (Nat.le_of_ble_eq_true rfl) ⟨by decide, by decide⟩ ?_
      cases h
      exact g_iret hC hR dX11_cannot_51 (by decide) (by decide)
  · rw [if_pos hc8] at h
    refine g_aload_n hC dX11_cannot_11 rfl ?_
    refine g_ldc hC tw_352 dX11_cannot_12 ?_
    obtain ⟨ho40, h⟩ := gd_some h
    obtain ⟨r41, S39, hr38, h⟩ := bd2_some h
    refine g_callV (rest := []) hC mi_X11_told (k_X11_told hr38) ck_X11.1 (by decide) ho40 tw_353 tw_355 ts_0 dX11_cannot_14 rfl rfl ⟨by decide, by decide⟩ (Nat.le_of_ble_eq_true rfl) ⟨by decide, by decide⟩ ?_
    cases h
    exact g_iret hC hR dX11_cannot_17 (by decide) (by decide)

theorem mi_X1_judgedOf : MI yX1_judgedOf cX1_judgedOf 2 (some .int) 1 := ⟨tw_756, tw_9, by decide +kernel, by decide +kernel, by decide +kernel⟩
noncomputable def f_X1_judgedOf (S : Wd) (a0 : Nat) (a1 : Int32) : Option (Int32 × Wd) := bd2 (f_X11_isFirm S a1) (fun r3 S2 => if r3 = 0 then (some ((0 : Int32), S2)) else (gd (ob S2 a0 1) (Option.bind (wO S2 a0 2) (fun q6 => gd (ix S2 q6 100 ((2 : Int32) * a1)) (gd (ob S2 a0 1) (Option.bind (wO S2 a0 2) (fun q10 => gd (ix S2 q10 100 (((2 : Int32) * a1) + (1 : Int32))) (some (((wI S2 q6 ((2 : Int32) * a1).toNatClampNeg) + (wI S2 q10 (((2 : Int32) * a1) + (1 : Int32)).toNatClampNeg)), S2)))))))))
set_option maxRecDepth 100000 in
set_option maxHeartbeats 4000000 in
theorem k_X1_judgedOf {S : Wd} {a0 : Nat} {a1 : Int32} {r : Int32} {S' : Wd} (h : f_X1_judgedOf S a0 a1 = some (r, S')) : Sp yX1_judgedOf cX1_judgedOf 2 (some .int) 2 42 0 0 [.ref a0, .int a1] S (some (.int r)) S' := by
  unfold f_X1_judgedOf at h
  refine Sp.of (by decide +kernel) (Nat.le_of_ble_eq_true rfl) ?_
  intro b hC hin hR
  show G b 0 [(0, .ref a0), (1, .int a1)] [] S 0 0
  refine g_iload_n hC dX1_judgedOf_0 rfl ?_
  obtain ⟨r3, S2, hr1, h⟩ := bd2_some h
  refine g_callSN (rest := []) hC mi_X11_isFirm (k_X11_isFirm hr1) nwm_751 tw_668 dX1_judgedOf_1 rfl rfl ⟨by decide, by decide⟩ (Nat.le_of_ble_eq_true rfl) ⟨by decide, by decide⟩ ?_
  refine g_if_eq (tgt := 29) hC dX1_judgedOf_4 (by decide) (fun hc4 => ?_) (fun hc4 => ?_)
  · rw [if_pos hc4] at h
    refine g_iconst (v := (0 : Int32)) hC dX1_judgedOf_29 (by decide) ?_
    cases h
    exact g_iret hC hR dX1_judgedOf_30 (by decide) (by decide)
  · rw [if_neg hc4] at h
    refine g_aload_n hC dX1_judgedOf_7 rfl ?_
    obtain ⟨ho5, h⟩ := gd_some h
    obtain ⟨q6, hq7, h⟩ := Option.bind_eq_some_iff.mp h
    refine g_getr (k := 2) (q := q6) hC ck_X1 (by decide) tw_209 rfl (by decide) dX1_judgedOf_8 ho5 hq7 ?_
    refine g_iconst (v := (2 : Int32)) hC dX1_judgedOf_11 (by decide) ?_
    refine g_iload_n hC dX1_judgedOf_12 rfl ?_
    refine g_imul hC dX1_judgedOf_13 ?_
    obtain ⟨hx8, h⟩ := gd_some h
    refine g_iald hC dX1_judgedOf_14 hx8.1 hx8.2 ?_
    refine g_aload_n hC dX1_judgedOf_15 rfl ?_
    obtain ⟨ho9, h⟩ := gd_some h
    obtain ⟨q10, hq11, h⟩ := Option.bind_eq_some_iff.mp h
    refine g_getr (k := 2) (q := q10) hC ck_X1 (by decide) tw_209 rfl (by decide) dX1_judgedOf_16 ho9 hq11 ?_
    refine g_iconst (v := (2 : Int32)) hC dX1_judgedOf_19 (by decide) ?_
    refine g_iload_n hC dX1_judgedOf_20 rfl ?_
    refine g_imul hC dX1_judgedOf_21 ?_
    refine g_iconst (v := (1 : Int32)) hC dX1_judgedOf_22 (by decide) ?_
    refine g_iadd hC dX1_judgedOf_23 ?_
    obtain ⟨hx12, h⟩ := gd_some h
    refine g_iald hC dX1_judgedOf_24 hx12.1 hx12.2 ?_
    refine g_iadd hC dX1_judgedOf_25 ?_
    refine g_goto (tgt := 30) hC dX1_judgedOf_26 (by decide) ?_
    cases h
    exact g_iret hC hR dX1_judgedOf_30 (by decide) (by decide)

theorem mi_X1_judge : MI yX1_judge cX1_judge 5 (some .int) 2 := ⟨tw_750, tw_9, by decide +kernel, by decide +kernel, by decide +kernel⟩
noncomputable def f_X1_judge (S : Wd) (a0 : Nat) (a1 : Int32) (a2 : Int32) : Option (Int32 × Wd) := bd2 (f_X11_isFirm S a1) (fun r3 S2 => if r3 = 0 then (some ((-100001 : Int32), S2)) else (gd (ob S2 a0 1) (bd2 (f_X1_judgedOf S2 a0 a1) (fun r8 S6 => if r8 < (200 : Int32) then (if a2 = 0 then (gd (ob S6 a0 1) (Option.bind (wO S6 a0 0) (fun q12 => gd (ob S6 a0 1) (Option.bind (wO S6 a0 2) (fun q15 => gd (ob S6 q12 3) (Option.bind (f_X3_keep S6 q12 q15 (((2 : Int32) * a1) + (1 : Int32)) (1 : Int32)) (fun S18 => gd (ob S18 a0 1) (Option.bind (wO S18 a0 2) (fun q21 => gd (ix S18 q21 100 (((2 : Int32) * a1) + (1 : Int32))) (gd (ix S18 q21 100 (((2 : Int32) * a1) + (1 : Int32))) (ltS (sI S18 q21 (((2 : Int32) * a1) + (1 : Int32)).toNatClampNeg ((wI S18 q21 (((2 : Int32) * a1) + (1 : Int32)).toNatClampNeg) + (1 : Int32))) (fun S25 => some ((r8 + (1 : Int32)), S25))))))))))))) else (gd (ob S6 a0 1) (Option.bind (wO S6 a0 0) (fun q28 => gd (ob S6 a0 1) (Option.bind (wO S6 a0 2) (fun q31 => gd (ob S6 q28 3) (Option.bind (f_X3_keep S6 q28 q31 ((2 : Int32) * a1) (1 : Int32)) (fun S34 => gd (ob S34 a0 1) (Option.bind (wO S34 a0 2) (fun q37 => gd (ix S34 q37 100 ((2 : Int32) * a1)) (gd (ix S34 q37 100 ((2 : Int32) * a1)) (ltS (sI S34 q37 ((2 : Int32) * a1).toNatClampNeg ((wI S34 q37 ((2 : Int32) * a1).toNatClampNeg) + (1 : Int32))) (fun S41 => some ((r8 + (1 : Int32)), S41)))))))))))))) else (some ((-100005 : Int32), S6))))))
set_option maxRecDepth 100000 in
set_option maxHeartbeats 4000000 in
theorem k_X1_judge {S : Wd} {a0 : Nat} {a1 : Int32} {a2 : Int32} {r : Int32} {S' : Wd} (h : f_X1_judge S a0 a1 a2 = some (r, S')) : Sp yX1_judge cX1_judge 5 (some .int) 4 99 1 200 [.ref a0, .int a1, .int a2] S (some (.int r)) S' := by
  unfold f_X1_judge at h
  refine Sp.of (by decide +kernel) (Nat.le_of_ble_eq_true rfl) ?_
  intro b hC hin hR
  show G b 0 [(0, .ref a0), (1, .int a1), (2, .int a2)] [] S 0 0
  refine g_iload_n hC dX1_judge_0 rfl ?_
  obtain ⟨r3, S2, hr1, h⟩ := bd2_some h
  refine g_callSN (rest := []) hC mi_X11_isFirm (k_X11_isFirm hr1) nwm_751 tw_668 dX1_judge_1 rfl rfl ⟨by decide, by decide⟩ (Nat.le_of_ble_eq_true rfl) ⟨by decide, by decide⟩ ?_
  refine g_if_ne (tgt := 10) hC dX1_judge_4 (by decide) (fun hc4 => ?_) (fun hc4 => ?_)
  · rw [if_neg hc4] at h
    refine g_aload_n hC dX1_judge_10 rfl ?_
    refine g_iload_n hC dX1_judge_11 rfl ?_
    obtain ⟨ho7, h⟩ := gd_some h
    obtain ⟨r8, S6, hr5, h⟩ := bd2_some h
    refine g_callV (rest := []) hC mi_X1_judgedOf (k_X1_judgedOf hr5) ck_X1.1 (by decide) ho7 tw_753 tw_755 ts_19 dX1_judge_12 rfl rfl ⟨by decide, by decide⟩ (Nat.le_of_ble_eq_true rfl) ⟨by decide, by decide⟩ ?_
    refine g_istore_n (L' := [(3, .int r8), (0, .ref a0), (1, .int a1), (2, .int a2)]) hC dX1_judge_15 (by decide) rfl ?_
    refine g_iload_n hC dX1_judge_16 rfl ?_
    refine g_sipush (v := (200 : Int32)) hC dX1_judge_17 (by decide) ?_
    refine g_icmp_lt (tgt := 26) hC dX1_judge_20 (by decide) (fun hc9 => ?_) (fun hc9 => ?_)
    · rw [if_pos hc9] at h
      refine g_iload_n hC dX1_judge_26 rfl ?_
      refine g_if_eq (tgt := 36) hC dX1_judge_27 (by decide) (fun hc10 => ?_) (fun hc10 => ?_)
      · rw [if_pos hc10] at h
        refine g_iconst (v := (2 : Int32)) hC dX1_judge_36 (by decide) ?_
        refine g_iload_n hC dX1_judge_37 rfl ?_
        refine g_imul hC dX1_judge_38 ?_
        refine g_iconst (v := (1 : Int32)) hC dX1_judge_39 (by decide) ?_
        refine g_iadd hC dX1_judge_40 ?_
        refine g_istore (L' := [(4, .int (((2 : Int32) * a1) + (1 : Int32))), (3, .int r8), (0, .ref a0), (1, .int a1), (2, .int a2)]) hC dX1_judge_41 (by decide) rfl ?_
        refine g_aload_n hC dX1_judge_43 rfl ?_
        obtain ⟨ho11, h⟩ := gd_some h
        obtain ⟨q12, hq13, h⟩ := Option.bind_eq_some_iff.mp h
        refine g_getr (k := 0) (q := q12) hC ck_X1 (by decide) tw_207 rfl (by decide) dX1_judge_44 ho11 hq13 ?_
        refine g_aload_n hC dX1_judge_47 rfl ?_
        obtain ⟨ho14, h⟩ := gd_some h
        obtain ⟨q15, hq16, h⟩ := Option.bind_eq_some_iff.mp h
        refine g_getr (k := 2) (q := q15) hC ck_X1 (by decide) tw_209 rfl (by decide) dX1_judge_48 ho14 hq16 ?_
        refine g_iload hC dX1_judge_51 rfl ?_
        refine g_iconst (v := (1 : Int32)) hC dX1_judge_53 (by decide) ?_
        obtain ⟨ho19, h⟩ := gd_some h
        obtain ⟨S18, hr17, h⟩ := Option.bind_eq_some_iff.mp h
        refine g_callV (rest := []) hC mi_X3_keep (k_X3_keep hr17) ck_X3.1 (by decide) ho19 tw_758 tw_368 tw_369 dX1_judge_54 rfl rfl ⟨by decide, by decide⟩ (Nat.le_of_ble_eq_true rfl) ⟨by decide, by decide⟩ ?_
        refine g_aload_n hC dX1_judge_57 rfl ?_
        obtain ⟨ho20, h⟩ := gd_some h
        obtain ⟨q21, hq22, h⟩ := Option.bind_eq_some_iff.mp h
        refine g_getr (k := 2) (q := q21) hC ck_X1 (by decide) tw_209 rfl (by decide) dX1_judge_58 ho20 hq22 ?_
        refine g_iload hC dX1_judge_61 rfl ?_
        refine g_dup2 hC dX1_judge_63 rfl rfl ?_
        obtain ⟨hx23, h⟩ := gd_some h
        refine g_iald hC dX1_judge_64 hx23.1 hx23.2 ?_
        refine g_iconst (v := (1 : Int32)) hC dX1_judge_65 (by decide) ?_
        refine g_iadd hC dX1_judge_66 ?_
        obtain ⟨hx24, h⟩ := gd_some h
        refine g_iast hC dX1_judge_67 hx24.1 hx24.2 ?_
        refine g_name (fun S25 eS26 => ?_)
        have h := ltS_use eS26 h
        refine g_iload_n hC dX1_judge_68 rfl ?_
        refine g_iconst (v := (1 : Int32)) hC dX1_judge_69 (by decide) ?_
        refine g_iadd hC dX1_judge_70 ?_
        cases h
        exact g_iret hC hR dX1_judge_71 (by decide) (by decide)
      · rw [if_neg hc10] at h
        refine g_iconst (v := (2 : Int32)) hC dX1_judge_30 (by decide) ?_
        refine g_iload_n hC dX1_judge_31 rfl ?_
        refine g_imul hC dX1_judge_32 ?_
        refine g_goto (tgt := 41) hC dX1_judge_33 (by decide) ?_
        refine g_istore (L' := [(4, .int ((2 : Int32) * a1)), (3, .int r8), (0, .ref a0), (1, .int a1), (2, .int a2)]) hC dX1_judge_41 (by decide) rfl ?_
        refine g_aload_n hC dX1_judge_43 rfl ?_
        obtain ⟨ho27, h⟩ := gd_some h
        obtain ⟨q28, hq29, h⟩ := Option.bind_eq_some_iff.mp h
        refine g_getr (k := 0) (q := q28) hC ck_X1 (by decide) tw_207 rfl (by decide) dX1_judge_44 ho27 hq29 ?_
        refine g_aload_n hC dX1_judge_47 rfl ?_
        obtain ⟨ho30, h⟩ := gd_some h
        obtain ⟨q31, hq32, h⟩ := Option.bind_eq_some_iff.mp h
        refine g_getr (k := 2) (q := q31) hC ck_X1 (by decide) tw_209 rfl (by decide) dX1_judge_48 ho30 hq32 ?_
        refine g_iload hC dX1_judge_51 rfl ?_
        refine g_iconst (v := (1 : Int32)) hC dX1_judge_53 (by decide) ?_
        obtain ⟨ho35, h⟩ := gd_some h
        obtain ⟨S34, hr33, h⟩ := Option.bind_eq_some_iff.mp h
        refine g_callV (rest := []) hC mi_X3_keep (k_X3_keep hr33) ck_X3.1 (by decide) ho35 tw_758 tw_368 tw_369 dX1_judge_54 rfl rfl ⟨by decide, by decide⟩ (Nat.le_of_ble_eq_true rfl) ⟨by decide, by decide⟩ ?_
        refine g_aload_n hC dX1_judge_57 rfl ?_
        obtain ⟨ho36, h⟩ := gd_some h
        obtain ⟨q37, hq38, h⟩ := Option.bind_eq_some_iff.mp h
        refine g_getr (k := 2) (q := q37) hC ck_X1 (by decide) tw_209 rfl (by decide) dX1_judge_58 ho36 hq38 ?_
        refine g_iload hC dX1_judge_61 rfl ?_
        refine g_dup2 hC dX1_judge_63 rfl rfl ?_
        obtain ⟨hx39, h⟩ := gd_some h
        refine g_iald hC dX1_judge_64 hx39.1 hx39.2 ?_
        refine g_iconst (v := (1 : Int32)) hC dX1_judge_65 (by decide) ?_
        refine g_iadd hC dX1_judge_66 ?_
        obtain ⟨hx40, h⟩ := gd_some h
        refine g_iast hC dX1_judge_67 hx40.1 hx40.2 ?_
        refine g_name (fun S41 eS42 => ?_)
        have h := ltS_use eS42 h
        refine g_iload_n hC dX1_judge_68 rfl ?_
        refine g_iconst (v := (1 : Int32)) hC dX1_judge_69 (by decide) ?_
        refine g_iadd hC dX1_judge_70 ?_
        cases h
        exact g_iret hC hR dX1_judge_71 (by decide) (by decide)
    · rw [if_neg hc9] at h
      refine g_ldc hC tw_757 dX1_judge_23 ?_
      cases h
      exact g_iret hC hR dX1_judge_25 (by decide) (by decide)
  · rw [if_pos hc4] at h
    refine g_ldc hC tw_752 dX1_judge_7 ?_
    cases h
    exact g_iret hC hR dX1_judge_9 (by decide) (by decide)

theorem mi_X11_trusts : MI yX11_trusts cX11_trusts 3 (some .int) 2 := ⟨tw_746, tw_1, by decide +kernel, by decide +kernel, by decide +kernel⟩
noncomputable def f_X11_trusts (S : Wd) (a0 : Nat) (a1 : Int32) (a2 : Int32) : Option (Int32 × Wd) := bd2 (f_X11_isFirm S a1) (fun r3 S2 => if r3 = 0 then (gd (ob S2 a0 11) (bd2 (f_X11_told S2 a0 (-100001 : Int32)) (fun r19 S17 => some (r19, S17)))) else (gd (ob S2 a0 11) (Option.bind (wO S2 a0 7) (fun q6 => gd (ob S2 q6 1) (bd2 (f_X1_judge S2 q6 a1 a2) (fun r11 S9 => gd (ob S9 a0 11) (bd2 (f_X11_told S9 a0 r11) (fun r15 S13 => some (r15, S13)))))))))
set_option maxRecDepth 100000 in
set_option maxHeartbeats 4000000 in
theorem k_X11_trusts {S : Wd} {a0 : Nat} {a1 : Int32} {a2 : Int32} {r : Int32} {S' : Wd} (h : f_X11_trusts S a0 a1 a2 = some (r, S')) : Sp yX11_trusts cX11_trusts 3 (some .int) 5 123 1 200 [.ref a0, .int a1, .int a2] S (some (.int r)) S' := by
  unfold f_X11_trusts at h
  refine Sp.of (by decide +kernel) (Nat.le_of_ble_eq_true rfl) ?_
  intro b hC hin hR
  show G b 0 [(0, .ref a0), (1, .int a1), (2, .int a2)] [] S 0 0
  refine g_iload_n hC dX11_trusts_0 rfl ?_
  obtain ⟨r3, S2, hr1, h⟩ := bd2_some h
  refine g_callS (rest := []) hC mi_X11_isFirm (k_X11_isFirm hr1) tw_667 tw_668 dX11_trusts_1 rfl rfl ⟨by decide, by decide⟩ (Nat.le_of_ble_eq_true rfl) ⟨by decide, by decide⟩ ?_
  refine g_if_ne (tgt := 14) hC dX11_trusts_4 (by decide) (fun hc4 => ?_) (fun hc4 => ?_)
  · rw [if_neg hc4] at h
    refine g_aload_n hC dX11_trusts_14 rfl ?_
    refine g_aload_n hC dX11_trusts_15 rfl ?_
    obtain ⟨ho5, h⟩ := gd_some h
    obtain ⟨q6, hq7, h⟩ := Option.bind_eq_some_iff.mp h
    refine g_getr (k := 7) (q := q6) hC ck_X11 (by decide) tw_309 rfl (by decide) dX11_trusts_16 ho5 hq7 ?_
    refine g_iload_n hC dX11_trusts_19 rfl ?_
    refine g_iload_n hC dX11_trusts_20 rfl ?_
    obtain ⟨ho10, h⟩ := gd_some h
    obtain ⟨r11, S9, hr8, h⟩ := bd2_some h
    refine g_callV (rest := [.ref a0]) hC mi_X1_judge (k_X1_judge hr8) ck_X1.1 (by decide) ho10 tw_747 tw_748 tw_749 dX11_trusts_21 rfl rfl ⟨by decide, by decide⟩ (Nat.le_of_ble_eq_true rfl) ⟨by decide, by decide⟩ ?_
    obtain ⟨ho14, h⟩ := gd_some h
    obtain ⟨r15, S13, hr12, h⟩ := bd2_some h
    refine g_callV (rest := []) hC mi_X11_told (k_X11_told hr12) ck_X11.1 (by decide) ho14 tw_353 tw_355 ts_0 dX11_trusts_24 rfl rfl ⟨by decide, by decide⟩ (Nat.le_of_ble_eq_true rfl) ⟨by decide, by decide⟩ ?_
    cases h
    exact g_iret hC hR dX11_trusts_27 (by decide) (by decide)
  · rw [if_pos hc4] at h
    refine g_aload_n hC dX11_trusts_7 rfl ?_
    refine g_ldc hC tw_352 dX11_trusts_8 ?_
    obtain ⟨ho18, h⟩ := gd_some h
    obtain ⟨r19, S17, hr16, h⟩ := bd2_some h
    refine g_callV (rest := []) hC mi_X11_told (k_X11_told hr16) ck_X11.1 (by decide) ho18 tw_353 tw_355 ts_0 dX11_trusts_10 rfl rfl ⟨by decide, by decide⟩ (Nat.le_of_ble_eq_true rfl) ⟨by decide, by decide⟩ ?_
    cases h
    exact g_iret hC hR dX11_trusts_13 (by decide) (by decide)

theorem mi_X1_doneOf : MI yX1_doneOf cX1_doneOf 2 (some .int) 1 := ⟨tw_770, tw_9, by decide +kernel, by decide +kernel, by decide +kernel⟩
noncomputable def f_X1_doneOf (S : Wd) (a0 : Nat) (a1 : Int32) : Option (Int32 × Wd) := bd2 (f_X11_isFirm S a1) (fun r3 S2 => if r3 = 0 then (some ((0 : Int32), S2)) else (gd (ob S2 a0 1) (Option.bind (wO S2 a0 2) (fun q6 => gd (ix S2 q6 100 ((2 : Int32) * a1)) (some ((wI S2 q6 ((2 : Int32) * a1).toNatClampNeg), S2))))))
set_option maxRecDepth 100000 in
set_option maxHeartbeats 4000000 in
theorem k_X1_doneOf {S : Wd} {a0 : Nat} {a1 : Int32} {r : Int32} {S' : Wd} (h : f_X1_doneOf S a0 a1 = some (r, S')) : Sp yX1_doneOf cX1_doneOf 2 (some .int) 2 42 0 0 [.ref a0, .int a1] S (some (.int r)) S' := by
  unfold f_X1_doneOf at h
  refine Sp.of (by decide +kernel) (Nat.le_of_ble_eq_true rfl) ?_
  intro b hC hin hR
  show G b 0 [(0, .ref a0), (1, .int a1)] [] S 0 0
  refine g_iload_n hC dX1_doneOf_0 rfl ?_
  obtain ⟨r3, S2, hr1, h⟩ := bd2_some h
  refine g_callSN (rest := []) hC mi_X11_isFirm (k_X11_isFirm hr1) nwm_751 tw_668 dX1_doneOf_1 rfl rfl ⟨by decide, by decide⟩ (Nat.le_of_ble_eq_true rfl) ⟨by decide, by decide⟩ ?_
  refine g_if_eq (tgt := 18) hC dX1_doneOf_4 (by decide) (fun hc4 => ?_) (fun hc4 => ?_)
  · rw [if_pos hc4] at h
    refine g_iconst (v := (0 : Int32)) hC dX1_doneOf_18 (by decide) ?_
    cases h
    exact g_iret hC hR dX1_doneOf_19 (by decide) (by decide)
  · rw [if_neg hc4] at h
    refine g_aload_n hC dX1_doneOf_7 rfl ?_
    obtain ⟨ho5, h⟩ := gd_some h
    obtain ⟨q6, hq7, h⟩ := Option.bind_eq_some_iff.mp h
    refine g_getr (k := 2) (q := q6) hC ck_X1 (by decide) tw_209 rfl (by decide) dX1_doneOf_8 ho5 hq7 ?_
    refine g_iconst (v := (2 : Int32)) hC dX1_doneOf_11 (by decide) ?_
    refine g_iload_n hC dX1_doneOf_12 rfl ?_
    refine g_imul hC dX1_doneOf_13 ?_
    obtain ⟨hx8, h⟩ := gd_some h
    refine g_iald hC dX1_doneOf_14 hx8.1 hx8.2 ?_
    refine g_goto (tgt := 19) hC dX1_doneOf_15 (by decide) ?_
    cases h
    exact g_iret hC hR dX1_doneOf_19 (by decide) (by decide)

theorem mi_X1_leastTrust : MI yX1_leastTrust cX1_leastTrust 2 (some .int) 1 := ⟨tw_774, tw_9, by decide +kernel, by decide +kernel, by decide +kernel⟩
noncomputable def f_X1_leastTrust (S : Wd) (a0 : Nat) (a1 : Int32) : Option (Int32 × Wd) := gd (ob S a0 1) (bd2 (f_X1_doneOf S a0 a1) (fun r4 S2 => gd (ob S2 a0 1) (bd2 (f_X1_judgedOf S2 a0 a1) (fun r8 S6 => gd (¬ (r8 + (3 : Int32)) = 0) (some ((((100 : Int32) * r4) / (r8 + (3 : Int32))), S6))))))
set_option maxRecDepth 100000 in
set_option maxHeartbeats 4000000 in
theorem k_X1_leastTrust {S : Wd} {a0 : Nat} {a1 : Int32} {r : Int32} {S' : Wd} (h : f_X1_leastTrust S a0 a1 = some (r, S')) : Sp yX1_leastTrust cX1_leastTrust 2 (some .int) 3 63 0 0 [.ref a0, .int a1] S (some (.int r)) S' := by
  unfold f_X1_leastTrust at h
  refine Sp.of (by decide +kernel) (Nat.le_of_ble_eq_true rfl) ?_
  intro b hC hin hR
  show G b 0 [(0, .ref a0), (1, .int a1)] [] S 0 0
  refine g_bipush (v := (100 : Int32)) hC dX1_leastTrust_0 (by decide) ?_
  refine g_aload_n hC dX1_leastTrust_2 rfl ?_
  refine g_iload_n hC dX1_leastTrust_3 rfl ?_
  obtain ⟨ho3, h⟩ := gd_some h
  obtain ⟨r4, S2, hr1, h⟩ := bd2_some h
  refine g_callV (rest := [.int (100 : Int32)]) hC mi_X1_doneOf (k_X1_doneOf hr1) ck_X1.1 (by decide) ho3 tw_767 tw_769 ts_20 dX1_leastTrust_4 rfl rfl ⟨by decide, by decide⟩ (Nat.le_of_ble_eq_true rfl) ⟨by decide, by decide⟩ ?_
  refine g_imul hC dX1_leastTrust_7 ?_
  refine g_aload_n hC dX1_leastTrust_8 rfl ?_
  refine g_iload_n hC dX1_leastTrust_9 rfl ?_
  obtain ⟨ho7, h⟩ := gd_some h
  obtain ⟨r8, S6, hr5, h⟩ := bd2_some h
  refine g_callV (rest := [.int ((100 : Int32) * r4)]) hC mi_X1_judgedOf (k_X1_judgedOf hr5) ck_X1.1 (by decide) ho7 tw_753 tw_755 ts_19 dX1_leastTrust_10 rfl rfl ⟨by decide, by decide⟩ (Nat.le_of_ble_eq_true rfl) ⟨by decide, by decide⟩ ?_
  refine g_iconst (v := (3 : Int32)) hC dX1_leastTrust_13 (by decide) ?_
  refine g_iadd hC dX1_leastTrust_14 ?_
  obtain ⟨hz9, h⟩ := gd_some h
  refine g_idiv hC dX1_leastTrust_15 hz9 ?_
  cases h
  exact g_iret hC hR dX1_leastTrust_16 (by decide) (by decide)

theorem mi_X1_greatestTrust : MI yX1_greatestTrust cX1_greatestTrust 2 (some .int) 1 := ⟨tw_766, tw_9, by decide +kernel, by decide +kernel, by decide +kernel⟩
noncomputable def f_X1_greatestTrust (S : Wd) (a0 : Nat) (a1 : Int32) : Option (Int32 × Wd) := gd (ob S a0 1) (bd2 (f_X1_doneOf S a0 a1) (fun r4 S2 => gd (ob S2 a0 1) (bd2 (f_X1_judgedOf S2 a0 a1) (fun r8 S6 => gd (¬ (r8 + (3 : Int32)) = 0) (some ((((100 : Int32) * (r4 + (3 : Int32))) / (r8 + (3 : Int32))), S6))))))
set_option maxRecDepth 100000 in
set_option maxHeartbeats 4000000 in
theorem k_X1_greatestTrust {S : Wd} {a0 : Nat} {a1 : Int32} {r : Int32} {S' : Wd} (h : f_X1_greatestTrust S a0 a1 = some (r, S')) : Sp yX1_greatestTrust cX1_greatestTrust 2 (some .int) 3 63 0 0 [.ref a0, .int a1] S (some (.int r)) S' := by
  unfold f_X1_greatestTrust at h
  refine Sp.of (by decide +kernel) (Nat.le_of_ble_eq_true rfl) ?_
  intro b hC hin hR
  show G b 0 [(0, .ref a0), (1, .int a1)] [] S 0 0
  refine g_bipush (v := (100 : Int32)) hC dX1_greatestTrust_0 (by decide) ?_
  refine g_aload_n hC dX1_greatestTrust_2 rfl ?_
  refine g_iload_n hC dX1_greatestTrust_3 rfl ?_
  obtain ⟨ho3, h⟩ := gd_some h
  obtain ⟨r4, S2, hr1, h⟩ := bd2_some h
  refine g_callV (rest := [.int (100 : Int32)]) hC mi_X1_doneOf (k_X1_doneOf hr1) ck_X1.1 (by decide) ho3 tw_767 tw_769 ts_20 dX1_greatestTrust_4 rfl rfl ⟨by decide, by decide⟩ (Nat.le_of_ble_eq_true rfl) ⟨by decide, by decide⟩ ?_
  refine g_iconst (v := (3 : Int32)) hC dX1_greatestTrust_7 (by decide) ?_
  refine g_iadd hC dX1_greatestTrust_8 ?_
  refine g_imul hC dX1_greatestTrust_9 ?_
  refine g_aload_n hC dX1_greatestTrust_10 rfl ?_
  refine g_iload_n hC dX1_greatestTrust_11 rfl ?_
  obtain ⟨ho7, h⟩ := gd_some h
  obtain ⟨r8, S6, hr5, h⟩ := bd2_some h
  refine g_callV (rest := [.int ((100 : Int32) * (r4 + (3 : Int32)))]) hC mi_X1_judgedOf (k_X1_judgedOf hr5) ck_X1.1 (by decide) ho7 tw_753 tw_755 ts_19 dX1_greatestTrust_12 rfl rfl ⟨by decide, by decide⟩ (Nat.le_of_ble_eq_true rfl) ⟨by decide, by decide⟩ ?_
  refine g_iconst (v := (3 : Int32)) hC dX1_greatestTrust_15 (by decide) ?_
  refine g_iadd hC dX1_greatestTrust_16 ?_
  obtain ⟨hz9, h⟩ := gd_some h
  refine g_idiv hC dX1_greatestTrust_17 hz9 ?_
  cases h
  exact g_iret hC hR dX1_greatestTrust_18 (by decide) (by decide)

theorem mi_X11_trust : MI yX11_trust cX11_trust 3 (some .int) 2 := ⟨tw_762, tw_1, by decide +kernel, by decide +kernel, by decide +kernel⟩
noncomputable def f_X11_trust (S : Wd) (a0 : Nat) (a1 : Int32) (a2 : Int32) : Option (Int32 × Wd) := bd2 (f_X11_isFirm S a1) (fun r3 S2 => if r3 = 0 then (gd (ob S2 a0 11) (bd2 (f_X11_told S2 a0 (-100001 : Int32)) (fun r23 S21 => some (r23, S21)))) else (if a2 = 0 then (gd (ob S2 a0 11) (Option.bind (wO S2 a0 7) (fun q7 => gd (ob S2 q7 1) (bd2 (f_X1_leastTrust S2 q7 a1) (fun r12 S10 => some (r12, S10)))))) else (gd (ob S2 a0 11) (Option.bind (wO S2 a0 7) (fun q14 => gd (ob S2 q14 1) (bd2 (f_X1_greatestTrust S2 q14 a1) (fun r19 S17 => some (r19, S17))))))))
set_option maxRecDepth 100000 in
set_option maxHeartbeats 4000000 in
theorem k_X11_trust {S : Wd} {a0 : Nat} {a1 : Int32} {a2 : Int32} {r : Int32} {S' : Wd} (h : f_X11_trust S a0 a1 a2 = some (r, S')) : Sp yX11_trust cX11_trust 3 (some .int) 4 84 0 0 [.ref a0, .int a1, .int a2] S (some (.int r)) S' := by
  unfold f_X11_trust at h
  refine Sp.of (by decide +kernel) (Nat.le_of_ble_eq_true rfl) ?_
  intro b hC hin hR
  show G b 0 [(0, .ref a0), (1, .int a1), (2, .int a2)] [] S 0 0
  refine g_iload_n hC dX11_trust_0 rfl ?_
  obtain ⟨r3, S2, hr1, h⟩ := bd2_some h
  refine g_callS (rest := []) hC mi_X11_isFirm (k_X11_isFirm hr1) tw_667 tw_668 dX11_trust_1 rfl rfl ⟨by decide, by decide⟩ (Nat.le_of_ble_eq_true rfl) ⟨by decide, by decide⟩ ?_
  refine g_if_ne (tgt := 14) hC dX11_trust_4 (by decide) (fun hc4 => ?_) (fun hc4 => ?_)
  · rw [if_neg hc4] at h
    refine g_iload_n hC dX11_trust_14 rfl ?_
    refine g_if_eq (tgt := 29) hC dX11_trust_15 (by decide) (fun hc5 => ?_) (fun hc5 => ?_)
    · rw [if_pos hc5] at h
      refine g_aload_n hC dX11_trust_29 rfl ?_
      obtain ⟨ho6, h⟩ := gd_some h
      obtain ⟨q7, hq8, h⟩ := Option.bind_eq_some_iff.mp h
      refine g_getr (k := 7) (q := q7) hC ck_X11 (by decide) tw_309 rfl (by decide) dX11_trust_30 ho6 hq8 ?_
      refine g_iload_n hC dX11_trust_33 rfl ?_
      obtain ⟨ho11, h⟩ := gd_some h
      obtain ⟨r12, S10, hr9, h⟩ := bd2_some h
      refine g_callV (rest := []) hC mi_X1_leastTrust (k_X1_leastTrust hr9) ck_X1.1 (by decide) ho11 tw_771 tw_772 tw_773 dX11_trust_34 rfl rfl ⟨by decide, by decide⟩ (Nat.le_of_ble_eq_true rfl) ⟨by decide, by decide⟩ ?_
      cases h
      exact g_iret hC hR dX11_trust_37 (by decide) (by decide)
    · rw [if_neg hc5] at h
      refine g_aload_n hC dX11_trust_18 rfl ?_
      obtain ⟨ho13, h⟩ := gd_some h
      obtain ⟨q14, hq15, h⟩ := Option.bind_eq_some_iff.mp h
      refine g_getr (k := 7) (q := q14) hC ck_X11 (by decide) tw_309 rfl (by decide) dX11_trust_19 ho13 hq15 ?_
      refine g_iload_n hC dX11_trust_22 rfl ?_
      obtain ⟨ho18, h⟩ := gd_some h
      obtain ⟨r19, S17, hr16, h⟩ := bd2_some h
      refine g_callV (rest := []) hC mi_X1_greatestTrust (k_X1_greatestTrust hr16) ck_X1.1 (by decide) ho18 tw_763 tw_764 tw_765 dX11_trust_23 rfl rfl ⟨by decide, by decide⟩ (Nat.le_of_ble_eq_true rfl) ⟨by decide, by decide⟩ ?_
      refine g_goto (tgt := 37) hC dX11_trust_26 (by decide) ?_
      cases h
      exact g_iret hC hR dX11_trust_37 (by decide) (by decide)
  · rw [if_pos hc4] at h
    refine g_aload_n hC dX11_trust_7 rfl ?_
    refine g_ldc hC tw_352 dX11_trust_8 ?_
    obtain ⟨ho22, h⟩ := gd_some h
    obtain ⟨r23, S21, hr20, h⟩ := bd2_some h
    refine g_callV (rest := []) hC mi_X11_told (k_X11_told hr20) ck_X11.1 (by decide) ho22 tw_353 tw_355 ts_0 dX11_trust_10 rfl rfl ⟨by decide, by decide⟩ (Nat.le_of_ble_eq_true rfl) ⟨by decide, by decide⟩ ?_
    cases h
    exact g_iret hC hR dX11_trust_13 (by decide) (by decide)

theorem mi_X4_move : MI yX4_move cX4_move 6 (some .int) 3 := ⟨tw_782, tw_11, by decide +kernel, by decide +kernel, by decide +kernel⟩
noncomputable def f_X4_move (S : Wd) (a0 : Nat) (a1 : Int32) (a2 : Int32) (a3 : Int32) : Option (Int32 × Wd) := bd2 (f_X11_isFirm S a1) (fun r3 S2 => if r3 = 0 then (some ((-100001 : Int32), S2)) else (bd2 (f_X11_isFirm S2 a2) (fun r7 S6 => if r7 = 0 then (some ((-100001 : Int32), S6)) else (gd (ob S6 a0 4) (Option.bind (wO S6 a0 1) (fun q10 => gd (ix S6 q10 100 ((a1 * (10 : Int32)) + a2)) (bd2 (f_X11_within S6 ((wI S6 q10 ((a1 * (10 : Int32)) + a2).toNatClampNeg) + a3) (-9999 : Int32) (9999 : Int32)) (fun r15 S14 => if r15 = 0 then (some ((-100005 : Int32), S14)) else (gd (ob S14 a0 4) (Option.bind (wO S14 a0 0) (fun q18 => gd (ob S14 a0 4) (Option.bind (wO S14 a0 1) (fun q21 => gd (ob S14 q18 3) (Option.bind (f_X3_keep S14 q18 q21 ((a1 * (10 : Int32)) + a2) (1 : Int32)) (fun S24 => gd (ob S24 a0 4) (Option.bind (wO S24 a0 1) (fun q27 => gd (ix S24 q27 100 ((a1 * (10 : Int32)) + a2)) (ltS (sI S24 q27 ((a1 * (10 : Int32)) + a2).toNatClampNeg ((wI S6 q10 ((a1 * (10 : Int32)) + a2).toNatClampNeg) + a3)) (fun S30 => some (((wI S6 q10 ((a1 * (10 : Int32)) + a2).toNatClampNeg) + a3), S30))))))))))))))))))))
set_option maxRecDepth 100000 in
set_option maxHeartbeats 4000000 in
theorem k_X4_move {S : Wd} {a0 : Nat} {a1 : Int32} {a2 : Int32} {a3 : Int32} {r : Int32} {S' : Wd} (h : f_X4_move S a0 a1 a2 a3 = some (r, S')) : Sp yX4_move cX4_move 6 (some .int) 4 99 1 200 [.ref a0, .int a1, .int a2, .int a3] S (some (.int r)) S' := by
  unfold f_X4_move at h
  refine Sp.of (by decide +kernel) (Nat.le_of_ble_eq_true rfl) ?_
  intro b hC hin hR
  show G b 0 [(0, .ref a0), (1, .int a1), (2, .int a2), (3, .int a3)] [] S 0 0
  refine g_iload_n hC dX4_move_0 rfl ?_
  obtain ⟨r3, S2, hr1, h⟩ := bd2_some h
  refine g_callSN (rest := []) hC mi_X11_isFirm (k_X11_isFirm hr1) nwm_783 tw_668 dX4_move_1 rfl rfl ⟨by decide, by decide⟩ (Nat.le_of_ble_eq_true rfl) ⟨by decide, by decide⟩ ?_
  refine g_if_eq (tgt := 14) hC dX4_move_4 (by decide) (fun hc4 => ?_) (fun hc4 => ?_)
  · rw [if_pos hc4] at h
    refine g_ldc hC tw_784 dX4_move_14 ?_
    cases h
    exact g_iret hC hR dX4_move_16 (by decide) (by decide)
  · rw [if_neg hc4] at h
    refine g_iload_n hC dX4_move_7 rfl ?_
    obtain ⟨r7, S6, hr5, h⟩ := bd2_some h
    refine g_callSN (rest := []) hC mi_X11_isFirm (k_X11_isFirm hr5) nwm_783 tw_668 dX4_move_8 rfl rfl ⟨by decide, by decide⟩ (Nat.le_of_ble_eq_true rfl) ⟨by decide, by decide⟩ ?_
    refine g_if_ne (tgt := 17) hC dX4_move_11 (by decide) (fun hc8 => ?_) (fun hc8 => ?_)
    · rw [if_neg hc8] at h
      refine g_iload_n hC dX4_move_17 rfl ?_
      refine g_bipush (v := (10 : Int32)) hC dX4_move_18 (by decide) ?_
      refine g_imul hC dX4_move_20 ?_
      refine g_iload_n hC dX4_move_21 rfl ?_
      refine g_iadd hC dX4_move_22 ?_
      refine g_istore (L' := [(4, .int ((a1 * (10 : Int32)) + a2)), (0, .ref a0), (1, .int a1), (2, .int a2), (3, .int a3)]) hC dX4_move_23 (by decide) rfl ?_
      refine g_aload_n hC dX4_move_25 rfl ?_
      obtain ⟨ho9, h⟩ := gd_some h
      obtain ⟨q10, hq11, h⟩ := Option.bind_eq_some_iff.mp h
      refine g_getr (k := 1) (q := q10) hC ck_X4 (by decide) tw_251 rfl (by decide) dX4_move_26 ho9 hq11 ?_
      refine g_iload hC dX4_move_29 rfl ?_
      obtain ⟨hx12, h⟩ := gd_some h
      refine g_iald hC dX4_move_31 hx12.1 hx12.2 ?_
      refine g_iload_n hC dX4_move_32 rfl ?_
      refine g_iadd hC dX4_move_33 ?_
      refine g_istore (L' := [(5, .int ((wI S6 q10 ((a1 * (10 : Int32)) + a2).toNatClampNeg) + a3)), (4, .int ((a1 * (10 : Int32)) + a2)), (0, .ref a0), (1, .int a1), (2, .int a2), (3, .int a3)]) hC dX4_move_34 (by decide) rfl ?_
      refine g_iload hC dX4_move_36 rfl ?_
      refine g_sipush (v := (-9999 : Int32)) hC dX4_move_38 (by decide) ?_
      refine g_sipush (v := (9999 : Int32)) hC dX4_move_41 (by decide) ?_
      obtain ⟨r15, S14, hr13, h⟩ := bd2_some h
      refine g_callSN (rest := []) hC mi_X11_within (k_X11_within hr13) nwm_785 tw_350 dX4_move_44 rfl rfl ⟨by decide, by decide⟩ (Nat.le_of_ble_eq_true rfl) ⟨by decide, by decide⟩ ?_
      refine g_if_ne (tgt := 53) hC dX4_move_47 (by decide) (fun hc16 => ?_) (fun hc16 => ?_)
      · rw [if_neg hc16] at h
        refine g_aload_n hC dX4_move_53 rfl ?_
        obtain ⟨ho17, h⟩ := gd_some h
        obtain ⟨q18, hq19, h⟩ := Option.bind_eq_some_iff.mp h
        refine g_getr (k := 0) (q := q18) hC ck_X4 (by decide) tw_250 rfl (by decide) dX4_move_54 ho17 hq19 ?_
        refine g_aload_n hC dX4_move_57 rfl ?_
        obtain ⟨ho20, h⟩ := gd_some h
        obtain ⟨q21, hq22, h⟩ := Option.bind_eq_some_iff.mp h
        refine g_getr (k := 1) (q := q21) hC ck_X4 (by decide) tw_251 rfl (by decide) dX4_move_58 ho20 hq22 ?_
        refine g_iload hC dX4_move_61 rfl ?_
        refine g_iconst (v := (1 : Int32)) hC dX4_move_63 (by decide) ?_
        obtain ⟨ho25, h⟩ := gd_some h
        obtain ⟨S24, hr23, h⟩ := Option.bind_eq_some_iff.mp h
        refine g_callV (rest := []) hC mi_X3_keep (k_X3_keep hr23) ck_X3.1 (by decide) ho25 tw_787 tw_368 tw_369 dX4_move_64 rfl rfl ⟨by decide, by decide⟩ (Nat.le_of_ble_eq_true rfl) ⟨by decide, by decide⟩ ?_
        refine g_aload_n hC dX4_move_67 rfl ?_
        obtain ⟨ho26, h⟩ := gd_some h
        obtain ⟨q27, hq28, h⟩ := Option.bind_eq_some_iff.mp h
        refine g_getr (k := 1) (q := q27) hC ck_X4 (by decide) tw_251 rfl (by decide) dX4_move_68 ho26 hq28 ?_
        refine g_iload hC dX4_move_71 rfl ?_
        refine g_iload hC dX4_move_73 rfl ?_
        obtain ⟨hx29, h⟩ := gd_some h
        refine g_iast hC dX4_move_75 hx29.1 hx29.2 ?_
        refine g_name (fun S30 eS31 => ?_)
        have h := ltS_use eS31 h
        refine g_iload hC dX4_move_76 rfl ?_
        cases h
        exact g_iret hC hR dX4_move_78 (by decide) (by decide)
      · rw [if_pos hc16] at h
        refine g_ldc hC tw_786 dX4_move_50 ?_
        cases h
        exact g_iret hC hR dX4_move_52 (by decide) (by decide)
    · rw [if_pos hc8] at h
      refine g_ldc hC tw_784 dX4_move_14 ?_
      cases h
      exact g_iret hC hR dX4_move_16 (by decide) (by decide)

theorem mi_X11_owe : MI yX11_owe cX11_owe 4 (some .int) 3 := ⟨tw_778, tw_1, by decide +kernel, by decide +kernel, by decide +kernel⟩
noncomputable def f_X11_owe (S : Wd) (a0 : Nat) (a1 : Int32) (a2 : Int32) (a3 : Int32) : Option (Int32 × Wd) := bd2 (f_X11_isFirm S a1) (fun r3 S2 => if r3 = 0 then (gd (ob S2 a0 11) (bd2 (f_X11_told S2 a0 (-100001 : Int32)) (fun r8 S6 => some (r8, S6)))) else (bd2 (f_X11_isFirm S2 a2) (fun r11 S10 => if r11 = 0 then (gd (ob S10 a0 11) (bd2 (f_X11_told S10 a0 (-100001 : Int32)) (fun r16 S14 => some (r16, S14)))) else (bd2 (f_X11_within S10 a3 (-99 : Int32) (99 : Int32)) (fun r19 S18 => if r19 = 0 then (gd (ob S18 a0 11) (bd2 (f_X11_told S18 a0 (-100001 : Int32)) (fun r40 S38 => some (r40, S38)))) else (if a1 = a2 then (gd (ob S18 a0 11) (bd2 (f_X11_told S18 a0 (-100003 : Int32)) (fun r36 S34 => some (r36, S34)))) else (gd (ob S18 a0 11) (Option.bind (wO S18 a0 9) (fun q23 => gd (ob S18 q23 4) (bd2 (f_X4_move S18 q23 a1 a2 a3) (fun r28 S26 => gd (ob S26 a0 11) (bd2 (f_X11_told S26 a0 r28) (fun r32 S30 => some (r32, S30))))))))))))))
set_option maxRecDepth 100000 in
set_option maxHeartbeats 4000000 in
theorem k_X11_owe {S : Wd} {a0 : Nat} {a1 : Int32} {a2 : Int32} {a3 : Int32} {r : Int32} {S' : Wd} (h : f_X11_owe S a0 a1 a2 a3 = some (r, S')) : Sp yX11_owe cX11_owe 4 (some .int) 5 124 1 200 [.ref a0, .int a1, .int a2, .int a3] S (some (.int r)) S' := by
  unfold f_X11_owe at h
  refine Sp.of (by decide +kernel) (Nat.le_of_ble_eq_true rfl) ?_
  intro b hC hin hR
  show G b 0 [(0, .ref a0), (1, .int a1), (2, .int a2), (3, .int a3)] [] S 0 0
  refine g_iload_n hC dX11_owe_0 rfl ?_
  obtain ⟨r3, S2, hr1, h⟩ := bd2_some h
  refine g_callS (rest := []) hC mi_X11_isFirm (k_X11_isFirm hr1) tw_667 tw_668 dX11_owe_1 rfl rfl ⟨by decide, by decide⟩ (Nat.le_of_ble_eq_true rfl) ⟨by decide, by decide⟩ ?_
  refine g_if_eq (tgt := 25) hC dX11_owe_4 (by decide) (fun hc4 => ?_) (fun hc4 => ?_)
  · rw [if_pos hc4] at h
    refine g_aload_n hC dX11_owe_25 rfl ?_
    refine g_ldc hC tw_352 dX11_owe_26 ?_
    obtain ⟨ho7, h⟩ := gd_some h
    obtain ⟨r8, S6, hr5, h⟩ := bd2_some h
    refine g_callV (rest := []) hC mi_X11_told (k_X11_told hr5) ck_X11.1 (by decide) ho7 tw_353 tw_355 ts_0 dX11_owe_28 rfl rfl ⟨by decide, by decide⟩ (Nat.le_of_ble_eq_true rfl) ⟨by decide, by decide⟩ ?_
    cases h
    exact g_iret hC hR dX11_owe_31 (by decide) (by decide)
  · rw [if_neg hc4] at h
    refine g_iload_n hC dX11_owe_7 rfl ?_
    obtain ⟨r11, S10, hr9, h⟩ := bd2_some h
    refine g_callS (rest := []) hC mi_X11_isFirm (k_X11_isFirm hr9) tw_667 tw_668 dX11_owe_8 rfl rfl ⟨by decide, by decide⟩ (Nat.le_of_ble_eq_true rfl) ⟨by decide, by decide⟩ ?_
    refine g_if_eq (tgt := 25) hC dX11_owe_11 (by decide) (fun hc12 => ?_) (fun hc12 => ?_)
    · rw [if_pos hc12] at h
      refine g_aload_n hC dX11_owe_25 rfl ?_
      refine g_ldc hC tw_352 dX11_owe_26 ?_
      obtain ⟨ho15, h⟩ := gd_some h
      obtain ⟨r16, S14, hr13, h⟩ := bd2_some h
      refine g_callV (rest := []) hC mi_X11_told (k_X11_told hr13) ck_X11.1 (by decide) ho15 tw_353 tw_355 ts_0 dX11_owe_28 rfl rfl ⟨by decide, by decide⟩ (Nat.le_of_ble_eq_true rfl) ⟨by decide, by decide⟩ ?_
      cases h
      exact g_iret hC hR dX11_owe_31 (by decide) (by decide)
    · rw [if_neg hc12] at h
      refine g_iload_n hC dX11_owe_14 rfl ?_
      refine g_bipush (v := (-99 : Int32)) hC dX11_owe_15 (by decide) ?_
      refine g_bipush (v := (99 : Int32)) hC dX11_owe_17 (by decide) ?_
      obtain ⟨r19, S18, hr17, h⟩ := bd2_some h
      refine g_callS (rest := []) hC mi_X11_within (k_X11_within hr17) tw_349 tw_350 dX11_owe_19 rfl rfl ⟨by decide, by decide⟩ (Nat.le_of_ble_eq_true rfl) ⟨by decide, by decide⟩ ?_
      refine g_if_ne (tgt := 32) hC dX11_owe_22 (by decide) (fun hc20 => ?_) (fun hc20 => ?_)
      · rw [if_neg hc20] at h
        refine g_iload_n hC dX11_owe_32 rfl ?_
        refine g_iload_n hC dX11_owe_33 rfl ?_
        refine g_icmp_ne (tgt := 44) hC dX11_owe_34 (by decide) (fun hc21 => ?_) (fun hc21 => ?_)
        · rw [if_neg hc21] at h
          refine g_aload_n hC dX11_owe_44 rfl ?_
          refine g_aload_n hC dX11_owe_45 rfl ?_
          obtain ⟨ho22, h⟩ := gd_some h
          obtain ⟨q23, hq24, h⟩ := Option.bind_eq_some_iff.mp h
          refine g_getr (k := 9) (q := q23) hC ck_X11 (by decide) tw_311 rfl (by decide) dX11_owe_46 ho22 hq24 ?_
          refine g_iload_n hC dX11_owe_49 rfl ?_
          refine g_iload_n hC dX11_owe_50 rfl ?_
          refine g_iload_n hC dX11_owe_51 rfl ?_
          obtain ⟨ho27, h⟩ := gd_some h
          obtain ⟨r28, S26, hr25, h⟩ := bd2_some h
          refine g_callV (rest := [.ref a0]) hC mi_X4_move (k_X4_move hr25) ck_X4.1 (by decide) ho27 tw_779 tw_780 tw_781 dX11_owe_52 rfl rfl ⟨by decide, by decide⟩ (Nat.le_of_ble_eq_true rfl) ⟨by decide, by decide⟩ ?_
          obtain ⟨ho31, h⟩ := gd_some h
          obtain ⟨r32, S30, hr29, h⟩ := bd2_some h
          refine g_callV (rest := []) hC mi_X11_told (k_X11_told hr29) ck_X11.1 (by decide) ho31 tw_353 tw_355 ts_0 dX11_owe_55 rfl rfl ⟨by decide, by decide⟩ (Nat.le_of_ble_eq_true rfl) ⟨by decide, by decide⟩ ?_
          cases h
          exact g_iret hC hR dX11_owe_58 (by decide) (by decide)
        · rw [if_pos hc21] at h
          refine g_aload_n hC dX11_owe_37 rfl ?_
          refine g_ldc hC tw_462 dX11_owe_38 ?_
          obtain ⟨ho35, h⟩ := gd_some h
          obtain ⟨r36, S34, hr33, h⟩ := bd2_some h
          refine g_callV (rest := []) hC mi_X11_told (k_X11_told hr33) ck_X11.1 (by decide) ho35 tw_353 tw_355 ts_0 dX11_owe_40 rfl rfl ⟨by decide, by decide⟩ (Nat.le_of_ble_eq_true rfl) ⟨by decide, by decide⟩ ?_
          cases h
          exact g_iret hC hR dX11_owe_43 (by decide) (by decide)
      · rw [if_pos hc20] at h
        refine g_aload_n hC dX11_owe_25 rfl ?_
        refine g_ldc hC tw_352 dX11_owe_26 ?_
        obtain ⟨ho39, h⟩ := gd_some h
        obtain ⟨r40, S38, hr37, h⟩ := bd2_some h
        refine g_callV (rest := []) hC mi_X11_told (k_X11_told hr37) ck_X11.1 (by decide) ho39 tw_353 tw_355 ts_0 dX11_owe_28 rfl rfl ⟨by decide, by decide⟩ (Nat.le_of_ble_eq_true rfl) ⟨by decide, by decide⟩ ?_
        cases h
        exact g_iret hC hR dX11_owe_31 (by decide) (by decide)

theorem mi_X4_sumOf : MI yX4_sumOf cX4_sumOf 4 (some .int) 1 := ⟨tw_795, tw_11, by decide +kernel, by decide +kernel, by decide +kernel⟩
noncomputable def B_X4_sumOf_0 (S : Wd) (a0 : Nat) (a1 : Int32) : Option ((Int32 × Wd) ⊕ Cs) := bd2 (f_X11_isFirm S a1) (fun r3 S2 => if r3 = 0 then (some (.inl ((0 : Int32), S2))) else (some (.inr (1, [a0], [a1, (0 : Int32), (0 : Int32)], S2))))
noncomputable def B_X4_sumOf_1 (S : Wd) (x0 : Nat) (x1 : Int32) (x2 : Int32) (x3 : Int32) : Option ((Int32 × Wd) ⊕ Cs) := if (10 : Int32) ≤ x3 then (some (.inl (x2, S))) else (gd (ob S x0 4) (Option.bind (wO S x0 1) (fun q7 => gd (ix S q7 100 ((x3 * (10 : Int32)) + x1)) (gd (ob S x0 4) (Option.bind (wO S x0 1) (fun q11 => gd (ix S q11 100 ((x1 * (10 : Int32)) + x3)) (some (.inr (1, [x0], [x1, (x2 + ((wI S q7 ((x3 * (10 : Int32)) + x1).toNatClampNeg) - (wI S q11 ((x1 * (10 : Int32)) + x3).toNatClampNeg))), (x3 + (1 : Int32))], S)))))))))
noncomputable def B_X4_sumOf : Cs → Option ((Int32 × Wd) ⊕ Cs)
  | (0, [a0], [a1], S) => B_X4_sumOf_0 S a0 a1
  | (1, [x0], [x1, x2, x3], S) => B_X4_sumOf_1 S x0 x1 x2 x3
  | _ => none
def P_X4_sumOf : Cs → Option (Nat × List (Nat × Value) × Wd × Nat × Nat)
  | (0, [a0], [a1], S) => some (0, [(0, .ref a0), (1, .int a1)], S, 0, 0)
  | (1, [x0], [x1, x2, x3], S) => some (13, [(0, .ref x0), (1, .int x1), (2, .int x2), (3, .int x3)], S, 0, 0)
  | _ => none
noncomputable def f_X4_sumOf (S : Wd) (a0 : Nat) (a1 : Int32) : Option (Int32 × Wd) := ru B_X4_sumOf (0, [a0], [a1], S)
abbrev N_X4_sumOf (b : Bd) (r : Int32 × Wd) (c : (Int32 × Wd) ⊕ Cs) : Prop := match c with
  | .inl r' => r' = r
  | .inr s' => ∀ pc L S kc ks, P_X4_sumOf s' = some (pc, L, S, kc, ks) → G b pc L [] S kc ks
set_option maxRecDepth 100000 in
set_option maxHeartbeats 4000000 in
theorem w_X4_sumOf_0 {b : Bd} {r : Int32 × Wd} (hC : CX b yX4_sumOf.cls cX4_sumOf 4 { frames := 2, cells := 0, slots := 0, locals := 42 }) (hin : yX4_sumOf.name = "<init>" → b.2.2.2.2.2.2.2.2.1.name = "<init>") (hR : RT b (some .int) (some (.int r.1)) r.2 0 0) {S : Wd} {a0 : Nat} {a1 : Int32} {c : (Int32 × Wd) ⊕ Cs} (h : B_X4_sumOf_0 S a0 a1 = some c) (hk : N_X4_sumOf b r c) : G b 0 [(0, .ref a0), (1, .int a1)] [] S 0 0 := by
  unfold B_X4_sumOf_0 at h
  refine g_iload_n hC dX4_sumOf_0 rfl ?_
  obtain ⟨r3, S2, hr1, h⟩ := bd2_some h
  refine g_callSN (rest := []) hC mi_X11_isFirm (k_X11_isFirm hr1) nwm_783 tw_668 dX4_sumOf_1 rfl rfl ⟨by decide, by decide⟩ (Nat.le_of_ble_eq_true rfl) ⟨by decide, by decide⟩ ?_
  refine g_if_ne (tgt := 9) hC dX4_sumOf_4 (by decide) (fun hc4 => ?_) (fun hc4 => ?_)
  · rw [if_neg hc4] at h
    refine g_iconst (v := (0 : Int32)) hC dX4_sumOf_9 (by decide) ?_
    refine g_istore_n (L' := [(2, .int (0 : Int32)), (0, .ref a0), (1, .int a1)]) hC dX4_sumOf_10 (by decide) rfl ?_
    refine g_iconst (v := (0 : Int32)) hC dX4_sumOf_11 (by decide) ?_
    refine g_istore_n (L' := [(3, .int (0 : Int32)), (2, .int (0 : Int32)), (0, .ref a0), (1, .int a1)]) hC dX4_sumOf_12 (by decide) rfl ?_
    cases h
    refine g_pick (L' := [(0, .ref a0), (1, .int a1), (2, .int (0 : Int32)), (3, .int (0 : Int32))]) [2, 3, 1, 0] rfl ?_
    exact hk _ _ _ _ _ rfl
  · rw [if_pos hc4] at h
    refine g_iconst (v := (0 : Int32)) hC dX4_sumOf_7 (by decide) ?_
    cases h
    subst hk
    exact g_iret hC hR dX4_sumOf_8 (by decide) (by decide)
set_option maxRecDepth 100000 in
set_option maxHeartbeats 4000000 in
theorem w_X4_sumOf_1 {b : Bd} {r : Int32 × Wd} (hC : CX b yX4_sumOf.cls cX4_sumOf 4 { frames := 2, cells := 0, slots := 0, locals := 42 }) (hin : yX4_sumOf.name = "<init>" → b.2.2.2.2.2.2.2.2.1.name = "<init>") (hR : RT b (some .int) (some (.int r.1)) r.2 0 0) {S : Wd} {x0 : Nat} {x1 : Int32} {x2 : Int32} {x3 : Int32} {c : (Int32 × Wd) ⊕ Cs} (h : B_X4_sumOf_1 S x0 x1 x2 x3 = some c) (hk : N_X4_sumOf b r c) : G b 13 [(0, .ref x0), (1, .int x1), (2, .int x2), (3, .int x3)] [] S 0 0 := by
  unfold B_X4_sumOf_1 at h
  refine g_iload_n hC dX4_sumOf_13 rfl ?_
  refine g_bipush (v := (10 : Int32)) hC dX4_sumOf_14 (by decide) ?_
  refine g_icmp_ge (tgt := 51) hC dX4_sumOf_16 (by decide) (fun hc5 => ?_) (fun hc5 => ?_)
  · rw [if_pos hc5] at h
    refine g_iload_n hC dX4_sumOf_51 rfl ?_
    cases h
    subst hk
    exact g_iret hC hR dX4_sumOf_52 (by decide) (by decide)
  · rw [if_neg hc5] at h
    refine g_iload_n hC dX4_sumOf_19 rfl ?_
    refine g_aload_n hC dX4_sumOf_20 rfl ?_
    obtain ⟨ho6, h⟩ := gd_some h
    obtain ⟨q7, hq8, h⟩ := Option.bind_eq_some_iff.mp h
    refine g_getr (k := 1) (q := q7) hC ck_X4 (by decide) tw_251 rfl (by decide) dX4_sumOf_21 ho6 hq8 ?_
    refine g_iload_n hC dX4_sumOf_24 rfl ?_
    refine g_bipush (v := (10 : Int32)) hC dX4_sumOf_25 (by decide) ?_
    refine g_imul hC dX4_sumOf_27 ?_
    refine g_iload_n hC dX4_sumOf_28 rfl ?_
    refine g_iadd hC dX4_sumOf_29 ?_
    obtain ⟨hx9, h⟩ := gd_some h
    refine g_iald hC dX4_sumOf_30 hx9.1 hx9.2 ?_
    refine g_aload_n hC dX4_sumOf_31 rfl ?_
    obtain ⟨ho10, h⟩ := gd_some h
    obtain ⟨q11, hq12, h⟩ := Option.bind_eq_some_iff.mp h
    refine g_getr (k := 1) (q := q11) hC ck_X4 (by decide) tw_251 rfl (by decide) dX4_sumOf_32 ho10 hq12 ?_
    refine g_iload_n hC dX4_sumOf_35 rfl ?_
    refine g_bipush (v := (10 : Int32)) hC dX4_sumOf_36 (by decide) ?_
    refine g_imul hC dX4_sumOf_38 ?_
    refine g_iload_n hC dX4_sumOf_39 rfl ?_
    refine g_iadd hC dX4_sumOf_40 ?_
    obtain ⟨hx13, h⟩ := gd_some h
    refine g_iald hC dX4_sumOf_41 hx13.1 hx13.2 ?_
    refine g_isub hC dX4_sumOf_42 ?_
    refine g_iadd hC dX4_sumOf_43 ?_
    refine g_istore_n (L' := [(2, .int (x2 + ((wI S q7 ((x3 * (10 : Int32)) + x1).toNatClampNeg) - (wI S q11 ((x1 * (10 : Int32)) + x3).toNatClampNeg)))), (0, .ref x0), (1, .int x1), (3, .int x3)]) hC dX4_sumOf_44 (by decide) rfl ?_
    refine g_iinc (v := (1 : Int32)) (L' := [(3, .int (x3 + (1 : Int32))), (2, .int (x2 + ((wI S q7 ((x3 * (10 : Int32)) + x1).toNatClampNeg) - (wI S q11 ((x1 * (10 : Int32)) + x3).toNatClampNeg)))), (0, .ref x0), (1, .int x1)]) hC dX4_sumOf_45 rfl (by decide) (by decide) rfl ?_
    refine g_goto (tgt := 13) hC dX4_sumOf_48 (by decide) ?_
    cases h
    refine g_pick (L' := [(0, .ref x0), (1, .int x1), (2, .int (x2 + ((wI S q7 ((x3 * (10 : Int32)) + x1).toNatClampNeg) - (wI S q11 ((x1 * (10 : Int32)) + x3).toNatClampNeg)))), (3, .int (x3 + (1 : Int32)))]) [2, 3, 1, 0] rfl ?_
    exact hk _ _ _ _ _ rfl
theorem w_X4_sumOf {b : Bd} {r : Int32 × Wd} (hC : CX b yX4_sumOf.cls cX4_sumOf 4 { frames := 2, cells := 0, slots := 0, locals := 42 }) (hin : yX4_sumOf.name = "<init>" → b.2.2.2.2.2.2.2.2.1.name = "<init>") (hR : RT b (some .int) (some (.int r.1)) r.2 0 0) {s : Cs} {c : (Int32 × Wd) ⊕ Cs} (h : B_X4_sumOf s = some c) (hk : N_X4_sumOf b r c) : ∀ pc L S kc ks, P_X4_sumOf s = some (pc, L, S, kc, ks) → G b pc L [] S kc ks := by
  intro pc L S kc ks hp
  unfold B_X4_sumOf at h
  split at h
  · cases hp
    exact w_X4_sumOf_0 hC hin hR h hk
  · cases hp
    exact w_X4_sumOf_1 hC hin hR h hk
  · cases h
theorem k_X4_sumOf {S : Wd} {a0 : Nat} {a1 : Int32} {r : Int32} {S' : Wd} (h : f_X4_sumOf S a0 a1 = some (r, S')) : Sp yX4_sumOf cX4_sumOf 4 (some .int) 2 42 0 0 [.ref a0, .int a1] S (some (.int r)) S' := by
  unfold f_X4_sumOf at h
  refine Sp.of (by decide +kernel) (Nat.le_of_ble_eq_true rfl) ?_
  intro b hC hin hR
  exact ru_ind (P := fun s q0 => q0 = (r, S') → ∀ pc L S kc ks, P_X4_sumOf s = some (pc, L, S, kc, ks) → G b pc L [] S kc ks) (fun s q0 hB e => w_X4_sumOf (r := (r, S')) hC hin hR hB e) (fun s s' q0 hB ih e => w_X4_sumOf (r := (r, S')) hC hin hR hB (ih e)) h rfl _ _ _ _ _ rfl

theorem mi_X11_net : MI yX11_net cX11_net 2 (some .int) 1 := ⟨tw_791, tw_1, by decide +kernel, by decide +kernel, by decide +kernel⟩
noncomputable def f_X11_net (S : Wd) (a0 : Nat) (a1 : Int32) : Option (Int32 × Wd) := bd2 (f_X11_isFirm S a1) (fun r3 S2 => if r3 = 0 then (gd (ob S2 a0 11) (bd2 (f_X11_told S2 a0 (-100001 : Int32)) (fun r15 S13 => some (r15, S13)))) else (gd (ob S2 a0 11) (Option.bind (wO S2 a0 9) (fun q6 => gd (ob S2 q6 4) (bd2 (f_X4_sumOf S2 q6 a1) (fun r11 S9 => some (r11, S9)))))))
set_option maxRecDepth 100000 in
set_option maxHeartbeats 4000000 in
theorem k_X11_net {S : Wd} {a0 : Nat} {a1 : Int32} {r : Int32} {S' : Wd} (h : f_X11_net S a0 a1 = some (r, S')) : Sp yX11_net cX11_net 2 (some .int) 3 65 0 0 [.ref a0, .int a1] S (some (.int r)) S' := by
  unfold f_X11_net at h
  refine Sp.of (by decide +kernel) (Nat.le_of_ble_eq_true rfl) ?_
  intro b hC hin hR
  show G b 0 [(0, .ref a0), (1, .int a1)] [] S 0 0
  refine g_iload_n hC dX11_net_0 rfl ?_
  obtain ⟨r3, S2, hr1, h⟩ := bd2_some h
  refine g_callS (rest := []) hC mi_X11_isFirm (k_X11_isFirm hr1) tw_667 tw_668 dX11_net_1 rfl rfl ⟨by decide, by decide⟩ (Nat.le_of_ble_eq_true rfl) ⟨by decide, by decide⟩ ?_
  refine g_if_ne (tgt := 14) hC dX11_net_4 (by decide) (fun hc4 => ?_) (fun hc4 => ?_)
  · rw [if_neg hc4] at h
    refine g_aload_n hC dX11_net_14 rfl ?_
    obtain ⟨ho5, h⟩ := gd_some h
    obtain ⟨q6, hq7, h⟩ := Option.bind_eq_some_iff.mp h
    refine g_getr (k := 9) (q := q6) hC ck_X11 (by decide) tw_311 rfl (by decide) dX11_net_15 ho5 hq7 ?_
    refine g_iload_n hC dX11_net_18 rfl ?_
    obtain ⟨ho10, h⟩ := gd_some h
    obtain ⟨r11, S9, hr8, h⟩ := bd2_some h
    refine g_callV (rest := []) hC mi_X4_sumOf (k_X4_sumOf hr8) ck_X4.1 (by decide) ho10 tw_792 tw_793 tw_794 dX11_net_19 rfl rfl ⟨by decide, by decide⟩ (Nat.le_of_ble_eq_true rfl) ⟨by decide, by decide⟩ ?_
    cases h
    exact g_iret hC hR dX11_net_22 (by decide) (by decide)
  · rw [if_pos hc4] at h
    refine g_aload_n hC dX11_net_7 rfl ?_
    refine g_ldc hC tw_352 dX11_net_8 ?_
    obtain ⟨ho14, h⟩ := gd_some h
    obtain ⟨r15, S13, hr12, h⟩ := bd2_some h
    refine g_callV (rest := []) hC mi_X11_told (k_X11_told hr12) ck_X11.1 (by decide) ho14 tw_353 tw_355 ts_0 dX11_net_10 rfl rfl ⟨by decide, by decide⟩ (Nat.le_of_ble_eq_true rfl) ⟨by decide, by decide⟩ ?_
    cases h
    exact g_iret hC hR dX11_net_13 (by decide) (by decide)

theorem mi_X4_settleOne : MI yX4_settleOne cX4_settleOne 4 (some .boolean) 0 := ⟨tw_808, tw_11, by decide +kernel, by decide +kernel, by decide +kernel⟩
noncomputable def B_X4_settleOne_0 (S : Wd) (a0 : Nat) : Option ((Int32 × Wd) ⊕ Cs) := some (.inr (1, [a0], [(0 : Int32), (0 : Int32), (1 : Int32)], S))
noncomputable def B_X4_settleOne_1 (S : Wd) (x0 : Nat) (x1 : Int32) (x2 : Int32) (x3 : Int32) : Option ((Int32 × Wd) ⊕ Cs) := if (10 : Int32) ≤ x3 then (gd (ob S x0 4) (Option.bind (wO S x0 2) (fun q3 => gd (ix S q3 100 x1) (if (wI S q3 x1.toNatClampNeg) ≤ 0 then (some (.inl ((0 : Int32), S))) else (gd (ob S x0 4) (Option.bind (wO S x0 2) (fun q8 => gd (ix S q8 100 x2) (if 0 ≤ (wI S q8 x2.toNatClampNeg) then (some (.inl ((0 : Int32), S))) else (gd (ob S x0 4) (if (wI S x0 4) < (10 : Int32) then (gd (ob S x0 4) (Option.bind (wO S x0 2) (fun q15 => gd (ix S q15 100 x1) (gd (ob S x0 4) (Option.bind (wO S x0 2) (fun q19 => gd (ix S q19 100 x2) (gd (ob S x0 4) (Option.bind (wO S x0 2) (fun q23 => gd (ix S q23 100 x1) (gd (ix S q23 100 x1) (ltS (sI S q23 x1.toNatClampNeg ((wI S q23 x1.toNatClampNeg) - (mMin (wI S q15 x1.toNatClampNeg) (-(wI S q19 x2.toNatClampNeg))))) (fun S27 => gd (ob S27 x0 4) (Option.bind (wO S27 x0 2) (fun q30 => gd (ix S27 q30 100 x2) (gd (ix S27 q30 100 x2) (ltS (sI S27 q30 x2.toNatClampNeg ((wI S27 q30 x2.toNatClampNeg) + (mMin (wI S q15 x1.toNatClampNeg) (-(wI S q19 x2.toNatClampNeg))))) (fun S34 => gd (ob S34 x0 4) (Option.bind (wO S34 x0 3) (fun q37 => gd (ob S34 x0 4) (gd (ix S34 q37 100 (wI S34 x0 4)) (ltS (sI S34 q37 (wI S34 x0 4).toNatClampNeg ((((1000000 : Int32) * x2) + ((100000 : Int32) * x1)) + (mMin (wI S q15 x1.toNatClampNeg) (-(wI S q19 x2.toNatClampNeg))))) (fun S41 => some (.inl ((1 : Int32), S41)))))))))))))))))))))))) else (some (.inl ((0 : Int32), S))))))))))))) else (gd (ob S x0 4) (Option.bind (wO S x0 2) (fun q44 => gd (ix S q44 100 x3) (gd (ob S x0 4) (Option.bind (wO S x0 2) (fun q48 => gd (ix S q48 100 x1) (if (wI S q44 x3.toNatClampNeg) ≤ (wI S q48 x1.toNatClampNeg) then (gd (ob S x0 4) (Option.bind (wO S x0 2) (fun q53 => gd (ix S q53 100 x3) (gd (ob S x0 4) (Option.bind (wO S x0 2) (fun q57 => gd (ix S q57 100 x2) (if (wI S q57 x2.toNatClampNeg) ≤ (wI S q53 x3.toNatClampNeg) then (some (.inr (1, [x0], [x1, x2, (x3 + (1 : Int32))], S))) else (some (.inr (1, [x0], [x1, x3, (x3 + (1 : Int32))], S)))))))))) else (gd (ob S x0 4) (Option.bind (wO S x0 2) (fun q62 => gd (ix S q62 100 x3) (gd (ob S x0 4) (Option.bind (wO S x0 2) (fun q66 => gd (ix S q66 100 x2) (if (wI S q66 x2.toNatClampNeg) ≤ (wI S q62 x3.toNatClampNeg) then (some (.inr (1, [x0], [x3, x2, (x3 + (1 : Int32))], S))) else (some (.inr (1, [x0], [x3, x3, (x3 + (1 : Int32))], S)))))))))))))))))
noncomputable def B_X4_settleOne : Cs → Option ((Int32 × Wd) ⊕ Cs)
  | (0, [a0], [], S) => B_X4_settleOne_0 S a0
  | (1, [x0], [x1, x2, x3], S) => B_X4_settleOne_1 S x0 x1 x2 x3
  | _ => none
def P_X4_settleOne : Cs → Option (Nat × List (Nat × Value) × Wd × Nat × Nat)
  | (0, [a0], [], S) => some (0, [(0, .ref a0)], S, 0, 0)
  | (1, [x0], [x1, x2, x3], S) => some (6, [(0, .ref x0), (1, .int x1), (2, .int x2), (3, .int x3)], S, 0, 0)
  | _ => none
noncomputable def f_X4_settleOne (S : Wd) (a0 : Nat) : Option (Int32 × Wd) := ru B_X4_settleOne (0, [a0], [], S)
abbrev N_X4_settleOne (b : Bd) (r : Int32 × Wd) (c : (Int32 × Wd) ⊕ Cs) : Prop := match c with
  | .inl r' => r' = r
  | .inr s' => ∀ pc L S kc ks, P_X4_settleOne s' = some (pc, L, S, kc, ks) → G b pc L [] S kc ks
set_option maxRecDepth 100000 in
set_option maxHeartbeats 4000000 in
theorem w_X4_settleOne_0 {b : Bd} {r : Int32 × Wd} (hC : CX b yX4_settleOne.cls cX4_settleOne 4 { frames := 1, cells := 0, slots := 0, locals := 13 }) (hin : yX4_settleOne.name = "<init>" → b.2.2.2.2.2.2.2.2.1.name = "<init>") (hR : RT b (some .boolean) (some (.int r.1)) r.2 0 0) {S : Wd} {a0 : Nat} {c : (Int32 × Wd) ⊕ Cs} (h : B_X4_settleOne_0 S a0 = some c) (hk : N_X4_settleOne b r c) : G b 0 [(0, .ref a0)] [] S 0 0 := by
  unfold B_X4_settleOne_0 at h
  refine g_iconst (v := (0 : Int32)) hC dX4_settleOne_0 (by decide) ?_
  refine g_istore_n (L' := [(1, .int (0 : Int32)), (0, .ref a0)]) hC dX4_settleOne_1 (by decide) rfl ?_
  refine g_iconst (v := (0 : Int32)) hC dX4_settleOne_2 (by decide) ?_
  refine g_istore_n (L' := [(2, .int (0 : Int32)), (1, .int (0 : Int32)), (0, .ref a0)]) hC dX4_settleOne_3 (by decide) rfl ?_
  refine g_iconst (v := (1 : Int32)) hC dX4_settleOne_4 (by decide) ?_
  refine g_istore_n (L' := [(3, .int (1 : Int32)), (2, .int (0 : Int32)), (1, .int (0 : Int32)), (0, .ref a0)]) hC dX4_settleOne_5 (by decide) rfl ?_
  cases h
  refine g_pick (L' := [(0, .ref a0), (1, .int (0 : Int32)), (2, .int (0 : Int32)), (3, .int (1 : Int32))]) [3, 2, 1, 0] rfl ?_
  exact hk _ _ _ _ _ rfl
set_option maxRecDepth 100000 in
set_option maxHeartbeats 4000000 in
theorem w_X4_settleOne_1 {b : Bd} {r : Int32 × Wd} (hC : CX b yX4_settleOne.cls cX4_settleOne 4 { frames := 1, cells := 0, slots := 0, locals := 13 }) (hin : yX4_settleOne.name = "<init>" → b.2.2.2.2.2.2.2.2.1.name = "<init>") (hR : RT b (some .boolean) (some (.int r.1)) r.2 0 0) {S : Wd} {x0 : Nat} {x1 : Int32} {x2 : Int32} {x3 : Int32} {c : (Int32 × Wd) ⊕ Cs} (h : B_X4_settleOne_1 S x0 x1 x2 x3 = some c) (hk : N_X4_settleOne b r c) : G b 6 [(0, .ref x0), (1, .int x1), (2, .int x2), (3, .int x3)] [] S 0 0 := by
  unfold B_X4_settleOne_1 at h
  refine g_iload_n hC dX4_settleOne_6 rfl ?_
  refine g_bipush (v := (10 : Int32)) hC dX4_settleOne_7 (by decide) ?_
  refine g_icmp_ge (tgt := 60) hC dX4_settleOne_9 (by decide) (fun hc1 => ?_) (fun hc1 => ?_)
  · rw [if_pos hc1] at h
    refine g_aload_n hC dX4_settleOne_60 rfl ?_
    obtain ⟨ho2, h⟩ := gd_some h
    obtain ⟨q3, hq4, h⟩ := Option.bind_eq_some_iff.mp h
    refine g_getr (k := 2) (q := q3) hC ck_X4 (by decide) tw_252 rfl (by decide) dX4_settleOne_61 ho2 hq4 ?_
    refine g_iload_n hC dX4_settleOne_64 rfl ?_
    obtain ⟨hx5, h⟩ := gd_some h
    refine g_iald hC dX4_settleOne_65 hx5.1 hx5.2 ?_
    refine g_if_le (tgt := 87) hC dX4_settleOne_66 (by decide) (fun hc6 => ?_) (fun hc6 => ?_)
    · rw [if_pos hc6] at h
      refine g_iconst (v := (0 : Int32)) hC dX4_settleOne_87 (by decide) ?_
      cases h
      subst hk
      exact g_zret hC hR rfl dX4_settleOne_88 (by decide) (by decide)
    · rw [if_neg hc6] at h
      refine g_aload_n hC dX4_settleOne_69 rfl ?_
      obtain ⟨ho7, h⟩ := gd_some h
      obtain ⟨q8, hq9, h⟩ := Option.bind_eq_some_iff.mp h
      refine g_getr (k := 2) (q := q8) hC ck_X4 (by decide) tw_252 rfl (by decide) dX4_settleOne_70 ho7 hq9 ?_
      refine g_iload_n hC dX4_settleOne_73 rfl ?_
      obtain ⟨hx10, h⟩ := gd_some h
      refine g_iald hC dX4_settleOne_74 hx10.1 hx10.2 ?_
      refine g_if_ge (tgt := 87) hC dX4_settleOne_75 (by decide) (fun hc11 => ?_) (fun hc11 => ?_)
      · rw [if_pos hc11] at h
        refine g_iconst (v := (0 : Int32)) hC dX4_settleOne_87 (by decide) ?_
        cases h
        subst hk
        exact g_zret hC hR rfl dX4_settleOne_88 (by decide) (by decide)
      · rw [if_neg hc11] at h
        refine g_aload_n hC dX4_settleOne_78 rfl ?_
        obtain ⟨ho12, h⟩ := gd_some h
        refine g_geti (k := 4) hC ck_X4 (by decide) tw_254 rfl (by decide) dX4_settleOne_79 ho12 ?_
        refine g_bipush (v := (10 : Int32)) hC dX4_settleOne_82 (by decide) ?_
        refine g_icmp_lt (tgt := 89) hC dX4_settleOne_84 (by decide) (fun hc13 => ?_) (fun hc13 => ?_)
        · rw [if_pos hc13] at h
          refine g_aload_n hC dX4_settleOne_89 rfl ?_
          obtain ⟨ho14, h⟩ := gd_some h
          obtain ⟨q15, hq16, h⟩ := Option.bind_eq_some_iff.mp h
          refine g_getr (k := 2) (q := q15) hC ck_X4 (by decide) tw_252 rfl (by decide) dX4_settleOne_90 ho14 hq16 ?_
          refine g_iload_n hC dX4_settleOne_93 rfl ?_
          obtain ⟨hx17, h⟩ := gd_some h
          refine g_iald hC dX4_settleOne_94 hx17.1 hx17.2 ?_
          refine g_aload_n hC dX4_settleOne_95 rfl ?_
          obtain ⟨ho18, h⟩ := gd_some h
          obtain ⟨q19, hq20, h⟩ := Option.bind_eq_some_iff.mp h
          refine g_getr (k := 2) (q := q19) hC ck_X4 (by decide) tw_252 rfl (by decide) dX4_settleOne_96 ho18 hq20 ?_
          refine g_iload_n hC dX4_settleOne_99 rfl ?_
          obtain ⟨hx21, h⟩ := gd_some h
          refine g_iald hC dX4_settleOne_100 hx21.1 hx21.2 ?_
          refine g_ineg hC dX4_settleOne_101 ?_
          refine g_mmin (st := []) hC tw_809 tw_364 tw_5 tw_365 dX4_settleOne_102 (by decide) (Nat.le_of_ble_eq_true rfl) (by decide) (by decide) ?_
          refine g_istore_n (L' := [(3, .int (mMin (wI S q15 x1.toNatClampNeg) (-(wI S q19 x2.toNatClampNeg)))), (0, .ref x0), (1, .int x1), (2, .int x2)]) hC dX4_settleOne_105 (by decide) rfl ?_
          refine g_aload_n hC dX4_settleOne_106 rfl ?_
          obtain ⟨ho22, h⟩ := gd_some h
          obtain ⟨q23, hq24, h⟩ := Option.bind_eq_some_iff.mp h
          refine g_getr (k := 2) (q := q23) hC ck_X4 (by decide) tw_252 rfl (by decide) dX4_settleOne_107 ho22 hq24 ?_
          refine g_iload_n hC dX4_settleOne_110 rfl ?_
          refine g_dup2 hC dX4_settleOne_111 rfl rfl ?_
          obtain ⟨hx25, h⟩ := gd_some h
          refine g_iald hC dX4_settleOne_112 hx25.1 hx25.2 ?_
          refine g_iload_n hC dX4_settleOne_113 rfl ?_
          refine g_isub hC dX4_settleOne_114 ?_
          obtain ⟨hx26, h⟩ := gd_some h
          refine g_iast hC dX4_settleOne_115 hx26.1 hx26.2 ?_
          refine g_name (fun S27 eS28 => ?_)
          have h := ltS_use eS28 h
          refine g_aload_n hC dX4_settleOne_116 rfl ?_
          obtain ⟨ho29, h⟩ := gd_some h
          obtain ⟨q30, hq31, h⟩ := Option.bind_eq_some_iff.mp h
          refine g_getr (k := 2) (q := q30) hC ck_X4 (by decide) tw_252 rfl (by decide) dX4_settleOne_117 ho29 hq31 ?_
          refine g_iload_n hC dX4_settleOne_120 rfl ?_
          refine g_dup2 hC dX4_settleOne_121 rfl rfl ?_
          obtain ⟨hx32, h⟩ := gd_some h
          refine g_iald hC dX4_settleOne_122 hx32.1 hx32.2 ?_
          refine g_iload_n hC dX4_settleOne_123 rfl ?_
          refine g_iadd hC dX4_settleOne_124 ?_
          obtain ⟨hx33, h⟩ := gd_some h
          refine g_iast hC dX4_settleOne_125 hx33.1 hx33.2 ?_
          refine g_name (fun S34 eS35 => ?_)
          have h := ltS_use eS35 h
          refine g_aload_n hC dX4_settleOne_126 rfl ?_
          obtain ⟨ho36, h⟩ := gd_some h
          obtain ⟨q37, hq38, h⟩ := Option.bind_eq_some_iff.mp h
          refine g_getr (k := 3) (q := q37) hC ck_X4 (by decide) tw_253 rfl (by decide) dX4_settleOne_127 ho36 hq38 ?_
          refine g_aload_n hC dX4_settleOne_130 rfl ?_
          obtain ⟨ho39, h⟩ := gd_some h
          refine g_geti (k := 4) hC ck_X4 (by decide) tw_254 rfl (by decide) dX4_settleOne_131 ho39 ?_
          refine g_ldc hC tw_810 dX4_settleOne_134 ?_
          refine g_iload_n hC dX4_settleOne_136 rfl ?_
          refine g_imul hC dX4_settleOne_137 ?_
          refine g_ldc hC tw_811 dX4_settleOne_138 ?_
          refine g_iload_n hC dX4_settleOne_140 rfl ?_
          refine g_imul hC dX4_settleOne_141 ?_
          refine g_iadd hC dX4_settleOne_142 ?_
          refine g_iload_n hC dX4_settleOne_143 rfl ?_
          refine g_iadd hC dX4_settleOne_144 ?_
          obtain ⟨hx40, h⟩ := gd_some h
          refine g_iast hC dX4_settleOne_145 hx40.1 hx40.2 ?_
          refine g_name (fun S41 eS42 => ?_)
          have h := ltS_use eS42 h
          refine g_iconst (v := (1 : Int32)) hC dX4_settleOne_146 (by decide) ?_
          cases h
          subst hk
          exact g_zret hC hR rfl dX4_settleOne_147 (by decide) (by decide)
        · rw [if_neg hc13] at h
          refine g_iconst (v := (0 : Int32)) hC dX4_settleOne_87 (by decide) ?_
          cases h
          subst hk
          exact g_zret hC hR rfl dX4_settleOne_88 (by decide) (by decide)
  · rw [if_neg hc1] at h
    refine g_aload_n hC dX4_settleOne_12 rfl ?_
    obtain ⟨ho43, h⟩ := gd_some h
    obtain ⟨q44, hq45, h⟩ := Option.bind_eq_some_iff.mp h
    refine g_getr (k := 2) (q := q44) hC ck_X4 (by decide) tw_252 rfl (by decide) dX4_settleOne_13 ho43 hq45 ?_
    refine g_iload_n hC dX4_settleOne_16 rfl ?_
    obtain ⟨hx46, h⟩ := gd_some h
    refine g_iald hC dX4_settleOne_17 hx46.1 hx46.2 ?_
    refine g_aload_n hC dX4_settleOne_18 rfl ?_
    obtain ⟨ho47, h⟩ := gd_some h
    obtain ⟨q48, hq49, h⟩ := Option.bind_eq_some_iff.mp h
    refine g_getr (k := 2) (q := q48) hC ck_X4 (by decide) tw_252 rfl (by decide) dX4_settleOne_19 ho47 hq49 ?_
    refine g_iload_n hC dX4_settleOne_22 rfl ?_
    obtain ⟨hx50, h⟩ := gd_some h
    refine g_iald hC dX4_settleOne_23 hx50.1 hx50.2 ?_
    refine g_icmp_le (tgt := 31) hC dX4_settleOne_24 (by decide) (fun hc51 => ?_) (fun hc51 => ?_)
    · rw [if_pos hc51] at h
      refine g_iload_n hC dX4_settleOne_31 rfl ?_
      refine g_istore_n (L' := [(1, .int x1), (0, .ref x0), (2, .int x2), (3, .int x3)]) hC dX4_settleOne_32 (by decide) rfl ?_
      refine g_aload_n hC dX4_settleOne_33 rfl ?_
      obtain ⟨ho52, h⟩ := gd_some h
      obtain ⟨q53, hq54, h⟩ := Option.bind_eq_some_iff.mp h
      refine g_getr (k := 2) (q := q53) hC ck_X4 (by decide) tw_252 rfl (by decide) dX4_settleOne_34 ho52 hq54 ?_
      refine g_iload_n hC dX4_settleOne_37 rfl ?_
      obtain ⟨hx55, h⟩ := gd_some h
      refine g_iald hC dX4_settleOne_38 hx55.1 hx55.2 ?_
      refine g_aload_n hC dX4_settleOne_39 rfl ?_
      obtain ⟨ho56, h⟩ := gd_some h
      obtain ⟨q57, hq58, h⟩ := Option.bind_eq_some_iff.mp h
      refine g_getr (k := 2) (q := q57) hC ck_X4 (by decide) tw_252 rfl (by decide) dX4_settleOne_40 ho56 hq58 ?_
      refine g_iload_n hC dX4_settleOne_43 rfl ?_
      obtain ⟨hx59, h⟩ := gd_some h
      refine g_iald hC dX4_settleOne_44 hx59.1 hx59.2 ?_
      refine g_icmp_ge (tgt := 52) hC dX4_settleOne_45 (by decide) (fun hc60 => ?_) (fun hc60 => ?_)
      · rw [if_pos hc60] at h
        refine g_iload_n hC dX4_settleOne_52 rfl ?_
        refine g_istore_n (L' := [(2, .int x2), (1, .int x1), (0, .ref x0), (3, .int x3)]) hC dX4_settleOne_53 (by decide) rfl ?_
        refine g_iinc (v := (1 : Int32)) (L' := [(3, .int (x3 + (1 : Int32))), (2, .int x2), (1, .int x1), (0, .ref x0)]) hC dX4_settleOne_54 rfl (by decide) (by decide) rfl ?_
        refine g_goto (tgt := 6) hC dX4_settleOne_57 (by decide) ?_
        cases h
        refine g_pick (L' := [(0, .ref x0), (1, .int x1), (2, .int x2), (3, .int (x3 + (1 : Int32)))]) [3, 2, 1, 0] rfl ?_
        exact hk _ _ _ _ _ rfl
      · rw [if_neg hc60] at h
        refine g_iload_n hC dX4_settleOne_48 rfl ?_
        refine g_goto (tgt := 53) hC dX4_settleOne_49 (by decide) ?_
        refine g_istore_n (L' := [(2, .int x3), (1, .int x1), (0, .ref x0), (3, .int x3)]) hC dX4_settleOne_53 (by decide) rfl ?_
        refine g_iinc (v := (1 : Int32)) (L' := [(3, .int (x3 + (1 : Int32))), (2, .int x3), (1, .int x1), (0, .ref x0)]) hC dX4_settleOne_54 rfl (by decide) (by decide) rfl ?_
        refine g_goto (tgt := 6) hC dX4_settleOne_57 (by decide) ?_
        cases h
        refine g_pick (L' := [(0, .ref x0), (1, .int x1), (2, .int x3), (3, .int (x3 + (1 : Int32)))]) [3, 2, 1, 0] rfl ?_
        exact hk _ _ _ _ _ rfl
    · rw [if_neg hc51] at h
      refine g_iload_n hC dX4_settleOne_27 rfl ?_
      refine g_goto (tgt := 32) hC dX4_settleOne_28 (by decide) ?_
      refine g_istore_n (L' := [(1, .int x3), (0, .ref x0), (2, .int x2), (3, .int x3)]) hC dX4_settleOne_32 (by decide) rfl ?_
      refine g_aload_n hC dX4_settleOne_33 rfl ?_
      obtain ⟨ho61, h⟩ := gd_some h
      obtain ⟨q62, hq63, h⟩ := Option.bind_eq_some_iff.mp h
      refine g_getr (k := 2) (q := q62) hC ck_X4 (by decide) tw_252 rfl (by decide) dX4_settleOne_34 ho61 hq63 ?_
      refine g_iload_n hC dX4_settleOne_37 rfl ?_
      obtain ⟨hx64, h⟩ := gd_some h
      refine g_iald hC dX4_settleOne_38 hx64.1 hx64.2 ?_
      refine g_aload_n hC dX4_settleOne_39 rfl ?_
      obtain ⟨ho65, h⟩ := gd_some h
      obtain ⟨q66, hq67, h⟩ := Option.bind_eq_some_iff.mp h
      refine g_getr (k := 2) (q := q66) hC ck_X4 (by decide) tw_252 rfl (by decide) dX4_settleOne_40 ho65 hq67 ?_
      refine g_iload_n hC dX4_settleOne_43 rfl ?_
      obtain ⟨hx68, h⟩ := gd_some h
      refine g_iald hC dX4_settleOne_44 hx68.1 hx68.2 ?_
      refine g_icmp_ge (tgt := 52) hC dX4_settleOne_45 (by decide) (fun hc69 => ?_) (fun hc69 => ?_)
      · rw [if_pos hc69] at h
        refine g_iload_n hC dX4_settleOne_52 rfl ?_
        refine g_istore_n (L' := [(2, .int x2), (1, .int x3), (0, .ref x0), (3, .int x3)]) hC dX4_settleOne_53 (by decide) rfl ?_
        refine g_iinc (v := (1 : Int32)) (L' := [(3, .int (x3 + (1 : Int32))), (2, .int x2), (1, .int x3), (0, .ref x0)]) hC dX4_settleOne_54 rfl (by decide) (by decide) rfl ?_
        refine g_goto (tgt := 6) hC dX4_settleOne_57 (by decide) ?_
        cases h
        refine g_pick (L' := [(0, .ref x0), (1, .int x3), (2, .int x2), (3, .int (x3 + (1 : Int32)))]) [3, 2, 1, 0] rfl ?_
        exact hk _ _ _ _ _ rfl
      · rw [if_neg hc69] at h
        refine g_iload_n hC dX4_settleOne_48 rfl ?_
        refine g_goto (tgt := 53) hC dX4_settleOne_49 (by decide) ?_
        refine g_istore_n (L' := [(2, .int x3), (1, .int x3), (0, .ref x0), (3, .int x3)]) hC dX4_settleOne_53 (by decide) rfl ?_
        refine g_iinc (v := (1 : Int32)) (L' := [(3, .int (x3 + (1 : Int32))), (2, .int x3), (1, .int x3), (0, .ref x0)]) hC dX4_settleOne_54 rfl (by decide) (by decide) rfl ?_
        refine g_goto (tgt := 6) hC dX4_settleOne_57 (by decide) ?_
        cases h
        refine g_pick (L' := [(0, .ref x0), (1, .int x3), (2, .int x3), (3, .int (x3 + (1 : Int32)))]) [3, 2, 1, 0] rfl ?_
        exact hk _ _ _ _ _ rfl
theorem w_X4_settleOne {b : Bd} {r : Int32 × Wd} (hC : CX b yX4_settleOne.cls cX4_settleOne 4 { frames := 1, cells := 0, slots := 0, locals := 13 }) (hin : yX4_settleOne.name = "<init>" → b.2.2.2.2.2.2.2.2.1.name = "<init>") (hR : RT b (some .boolean) (some (.int r.1)) r.2 0 0) {s : Cs} {c : (Int32 × Wd) ⊕ Cs} (h : B_X4_settleOne s = some c) (hk : N_X4_settleOne b r c) : ∀ pc L S kc ks, P_X4_settleOne s = some (pc, L, S, kc, ks) → G b pc L [] S kc ks := by
  intro pc L S kc ks hp
  unfold B_X4_settleOne at h
  split at h
  · cases hp
    exact w_X4_settleOne_0 hC hin hR h hk
  · cases hp
    exact w_X4_settleOne_1 hC hin hR h hk
  · cases h
theorem k_X4_settleOne {S : Wd} {a0 : Nat} {r : Int32} {S' : Wd} (h : f_X4_settleOne S a0 = some (r, S')) : Sp yX4_settleOne cX4_settleOne 4 (some .boolean) 1 13 0 0 [.ref a0] S (some (.int r)) S' := by
  unfold f_X4_settleOne at h
  refine Sp.of (by decide +kernel) (Nat.le_of_ble_eq_true rfl) ?_
  intro b hC hin hR
  exact ru_ind (P := fun s q0 => q0 = (r, S') → ∀ pc L S kc ks, P_X4_settleOne s = some (pc, L, S, kc, ks) → G b pc L [] S kc ks) (fun s q0 hB e => w_X4_settleOne (r := (r, S')) hC hin hR hB e) (fun s s' q0 hB ih e => w_X4_settleOne (r := (r, S')) hC hin hR hB (ih e)) h rfl _ _ _ _ _ rfl
