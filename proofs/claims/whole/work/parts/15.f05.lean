theorem mi_X4_settle : MI yX4_settle cX4_settle 2 (some .int) 0 := ⟨tw_803, tw_11, by decide +kernel, by decide +kernel, by decide +kernel⟩
noncomputable def B_X4_settle_0 (S : Wd) (a0 : Nat) : Option ((Int32 × Wd) ⊕ Cs) := some (.inr (1, [a0], [(0 : Int32)], S))
noncomputable def B_X4_settle_1 (S : Wd) (x0 : Nat) (x1 : Int32) : Option ((Int32 × Wd) ⊕ Cs) := if (10 : Int32) ≤ x1 then (gd (ob S x0 4) (ltS (sI S x0 4 (0 : Int32)) (fun S3 => some (.inr (2, [x0], [(0 : Int32)], S3))))) else (gd (ob S x0 4) (Option.bind (wO S x0 2) (fun q6 => gd (ob S x0 4) (bd2 (f_X4_sumOf S x0 x1) (fun r11 S9 => gd (ix S9 q6 100 x1) (ltS (sI S9 q6 x1.toNatClampNeg r11) (fun S13 => some (.inr (1, [x0], [(x1 + (1 : Int32))], S13)))))))))
noncomputable def B_X4_settle_2 (S : Wd) (x0 : Nat) (x1 : Int32) : Option ((Int32 × Wd) ⊕ Cs) := if (10 : Int32) ≤ x1 then (gd (ob S x0 4) (some (.inl ((wI S x0 4), S)))) else (gd (ob S x0 4) (bd2 (f_X4_settleOne S x0) (fun r20 S18 => if r20 = 0 then (gd (ob S18 x0 4) (some (.inl ((wI S18 x0 4), S18)))) else (gd (ob S18 x0 4) (ltS (sI S18 x0 4 (x1 + (1 : Int32))) (fun S24 => some (.inr (2, [x0], [(x1 + (1 : Int32))], S24))))))))
noncomputable def B_X4_settle : Cs → Option ((Int32 × Wd) ⊕ Cs)
  | (0, [a0], [], S) => B_X4_settle_0 S a0
  | (1, [x0], [x1], S) => B_X4_settle_1 S x0 x1
  | (2, [x0], [x1], S) => B_X4_settle_2 S x0 x1
  | _ => none
def P_X4_settle : Cs → Option (Nat × List (Nat × Value) × Wd × Nat × Nat)
  | (0, [a0], [], S) => some (0, [(0, .ref a0)], S, 0, 0)
  | (1, [x0], [x1], S) => some (2, [(0, .ref x0), (1, .int x1)], S, 0, 0)
  | (2, [x0], [x1], S) => some (32, [(0, .ref x0), (1, .int x1)], S, 0, 0)
  | _ => none
noncomputable def f_X4_settle (S : Wd) (a0 : Nat) : Option (Int32 × Wd) := ru B_X4_settle (0, [a0], [], S)
abbrev N_X4_settle (b : Bd) (r : Int32 × Wd) (c : (Int32 × Wd) ⊕ Cs) : Prop := match c with
  | .inl r' => r' = r
  | .inr s' => ∀ pc L S kc ks, P_X4_settle s' = some (pc, L, S, kc, ks) → G b pc L [] S kc ks
set_option maxRecDepth 100000 in
set_option maxHeartbeats 4000000 in
theorem w_X4_settle_0 {b : Bd} {r : Int32 × Wd} (hC : CX b yX4_settle.cls cX4_settle 2 { frames := 3, cells := 0, slots := 0, locals := 65 }) (hin : yX4_settle.name = "<init>" → b.2.2.2.2.2.2.2.2.1.name = "<init>") (hR : RT b (some .int) (some (.int r.1)) r.2 0 0) {S : Wd} {a0 : Nat} {c : (Int32 × Wd) ⊕ Cs} (h : B_X4_settle_0 S a0 = some c) (hk : N_X4_settle b r c) : G b 0 [(0, .ref a0)] [] S 0 0 := by
  unfold B_X4_settle_0 at h
  refine g_iconst (v := (0 : Int32)) hC dX4_settle_0 (by decide) ?_
  refine g_istore_n (L' := [(1, .int (0 : Int32)), (0, .ref a0)]) hC dX4_settle_1 (by decide) rfl ?_
  cases h
  refine g_pick (L' := [(0, .ref a0), (1, .int (0 : Int32))]) [1, 0] rfl ?_
  exact hk _ _ _ _ _ rfl
set_option maxRecDepth 100000 in
set_option maxHeartbeats 4000000 in
theorem w_X4_settle_1 {b : Bd} {r : Int32 × Wd} (hC : CX b yX4_settle.cls cX4_settle 2 { frames := 3, cells := 0, slots := 0, locals := 65 }) (hin : yX4_settle.name = "<init>" → b.2.2.2.2.2.2.2.2.1.name = "<init>") (hR : RT b (some .int) (some (.int r.1)) r.2 0 0) {S : Wd} {x0 : Nat} {x1 : Int32} {c : (Int32 × Wd) ⊕ Cs} (h : B_X4_settle_1 S x0 x1 = some c) (hk : N_X4_settle b r c) : G b 2 [(0, .ref x0), (1, .int x1)] [] S 0 0 := by
  unfold B_X4_settle_1 at h
  refine g_iload_n hC dX4_settle_2 rfl ?_
  refine g_bipush (v := (10 : Int32)) hC dX4_settle_3 (by decide) ?_
  refine g_icmp_ge (tgt := 25) hC dX4_settle_5 (by decide) (fun hc1 => ?_) (fun hc1 => ?_)
  · rw [if_pos hc1] at h
    refine g_aload_n hC dX4_settle_25 rfl ?_
    refine g_iconst (v := (0 : Int32)) hC dX4_settle_26 (by decide) ?_
    obtain ⟨ho2, h⟩ := gd_some h
    refine g_puti (k := 4) hC ck_X4 (by decide) tw_254 rfl (by decide) rfl rfl dX4_settle_27 ho2 ?_
    refine g_name (fun S3 eS4 => ?_)
    have h := ltS_use eS4 h
    refine g_iconst (v := (0 : Int32)) hC dX4_settle_30 (by decide) ?_
    refine g_istore_n (L' := [(1, .int (0 : Int32)), (0, .ref x0)]) hC dX4_settle_31 (by decide) rfl ?_
    cases h
    refine g_pick (L' := [(0, .ref x0), (1, .int (0 : Int32))]) [1, 0] rfl ?_
    exact hk _ _ _ _ _ rfl
  · rw [if_neg hc1] at h
    refine g_aload_n hC dX4_settle_8 rfl ?_
    obtain ⟨ho5, h⟩ := gd_some h
    obtain ⟨q6, hq7, h⟩ := Option.bind_eq_some_iff.mp h
    refine g_getr (k := 2) (q := q6) hC ck_X4 (by decide) tw_252 rfl (by decide) dX4_settle_9 ho5 hq7 ?_
    refine g_iload_n hC dX4_settle_12 rfl ?_
    refine g_aload_n hC dX4_settle_13 rfl ?_
    refine g_iload_n hC dX4_settle_14 rfl ?_
    obtain ⟨ho10, h⟩ := gd_some h
    obtain ⟨r11, S9, hr8, h⟩ := bd2_some h
    refine g_callV (rest := [.int x1, .ref q6]) hC mi_X4_sumOf (k_X4_sumOf hr8) ck_X4.1 (by decide) ho10 tw_804 tw_793 tw_794 dX4_settle_15 rfl rfl ⟨by decide, by decide⟩ (Nat.le_of_ble_eq_true rfl) ⟨by decide, by decide⟩ ?_
    obtain ⟨hx12, h⟩ := gd_some h
    refine g_iast hC dX4_settle_18 hx12.1 hx12.2 ?_
    refine g_name (fun S13 eS14 => ?_)
    have h := ltS_use eS14 h
    refine g_iinc (v := (1 : Int32)) (L' := [(1, .int (x1 + (1 : Int32))), (0, .ref x0)]) hC dX4_settle_19 rfl (by decide) (by decide) rfl ?_
    refine g_goto (tgt := 2) hC dX4_settle_22 (by decide) ?_
    cases h
    refine g_pick (L' := [(0, .ref x0), (1, .int (x1 + (1 : Int32)))]) [1, 0] rfl ?_
    exact hk _ _ _ _ _ rfl
set_option maxRecDepth 100000 in
set_option maxHeartbeats 4000000 in
theorem w_X4_settle_2 {b : Bd} {r : Int32 × Wd} (hC : CX b yX4_settle.cls cX4_settle 2 { frames := 3, cells := 0, slots := 0, locals := 65 }) (hin : yX4_settle.name = "<init>" → b.2.2.2.2.2.2.2.2.1.name = "<init>") (hR : RT b (some .int) (some (.int r.1)) r.2 0 0) {S : Wd} {x0 : Nat} {x1 : Int32} {c : (Int32 × Wd) ⊕ Cs} (h : B_X4_settle_2 S x0 x1 = some c) (hk : N_X4_settle b r c) : G b 32 [(0, .ref x0), (1, .int x1)] [] S 0 0 := by
  unfold B_X4_settle_2 at h
  refine g_iload_n hC dX4_settle_32 rfl ?_
  refine g_bipush (v := (10 : Int32)) hC dX4_settle_33 (by decide) ?_
  refine g_icmp_ge (tgt := 58) hC dX4_settle_35 (by decide) (fun hc15 => ?_) (fun hc15 => ?_)
  · rw [if_pos hc15] at h
    refine g_aload_n hC dX4_settle_58 rfl ?_
    obtain ⟨ho16, h⟩ := gd_some h
    refine g_geti (k := 4) hC ck_X4 (by decide) tw_254 rfl (by decide) dX4_settle_59 ho16 ?_
    cases h
    subst hk
    exact g_iret hC hR dX4_settle_62 (by decide) (by decide)
  · rw [if_neg hc15] at h
    refine g_aload_n hC dX4_settle_38 rfl ?_
    obtain ⟨ho19, h⟩ := gd_some h
    obtain ⟨r20, S18, hr17, h⟩ := bd2_some h
    refine g_callV (rest := []) hC mi_X4_settleOne (k_X4_settleOne hr17) ck_X4.1 (by decide) ho19 tw_805 tw_807 ts_21 dX4_settle_39 rfl rfl ⟨by decide, by decide⟩ (Nat.le_of_ble_eq_true rfl) ⟨by decide, by decide⟩ ?_
    refine g_if_eq (tgt := 58) hC dX4_settle_42 (by decide) (fun hc21 => ?_) (fun hc21 => ?_)
    · rw [if_pos hc21] at h
      refine g_aload_n hC dX4_settle_58 rfl ?_
      obtain ⟨ho22, h⟩ := gd_some h
      refine g_geti (k := 4) hC ck_X4 (by decide) tw_254 rfl (by decide) dX4_settle_59 ho22 ?_
      cases h
      subst hk
      exact g_iret hC hR dX4_settle_62 (by decide) (by decide)
    · rw [if_neg hc21] at h
      refine g_aload_n hC dX4_settle_45 rfl ?_
      refine g_iload_n hC dX4_settle_46 rfl ?_
      refine g_iconst (v := (1 : Int32)) hC dX4_settle_47 (by decide) ?_
      refine g_iadd hC dX4_settle_48 ?_
      obtain ⟨ho23, h⟩ := gd_some h
      refine g_puti (k := 4) hC ck_X4 (by decide) tw_254 rfl (by decide) rfl rfl dX4_settle_49 ho23 ?_
      refine g_name (fun S24 eS25 => ?_)
      have h := ltS_use eS25 h
      refine g_iinc (v := (1 : Int32)) (L' := [(1, .int (x1 + (1 : Int32))), (0, .ref x0)]) hC dX4_settle_52 rfl (by decide) (by decide) rfl ?_
      refine g_goto (tgt := 32) hC dX4_settle_55 (by decide) ?_
      cases h
      refine g_pick (L' := [(0, .ref x0), (1, .int (x1 + (1 : Int32)))]) [1, 0] rfl ?_
      exact hk _ _ _ _ _ rfl
theorem w_X4_settle {b : Bd} {r : Int32 × Wd} (hC : CX b yX4_settle.cls cX4_settle 2 { frames := 3, cells := 0, slots := 0, locals := 65 }) (hin : yX4_settle.name = "<init>" → b.2.2.2.2.2.2.2.2.1.name = "<init>") (hR : RT b (some .int) (some (.int r.1)) r.2 0 0) {s : Cs} {c : (Int32 × Wd) ⊕ Cs} (h : B_X4_settle s = some c) (hk : N_X4_settle b r c) : ∀ pc L S kc ks, P_X4_settle s = some (pc, L, S, kc, ks) → G b pc L [] S kc ks := by
  intro pc L S kc ks hp
  unfold B_X4_settle at h
  split at h
  · cases hp
    exact w_X4_settle_0 hC hin hR h hk
  · cases hp
    exact w_X4_settle_1 hC hin hR h hk
  · cases hp
    exact w_X4_settle_2 hC hin hR h hk
  · cases h
theorem k_X4_settle {S : Wd} {a0 : Nat} {r : Int32} {S' : Wd} (h : f_X4_settle S a0 = some (r, S')) : Sp yX4_settle cX4_settle 2 (some .int) 3 65 0 0 [.ref a0] S (some (.int r)) S' := by
  unfold f_X4_settle at h
  refine Sp.of (by decide +kernel) (Nat.le_of_ble_eq_true rfl) ?_
  intro b hC hin hR
  exact ru_ind (P := fun s q0 => q0 = (r, S') → ∀ pc L S kc ks, P_X4_settle s = some (pc, L, S, kc, ks) → G b pc L [] S kc ks) (fun s q0 hB e => w_X4_settle (r := (r, S')) hC hin hR hB e) (fun s s' q0 hB ih e => w_X4_settle (r := (r, S')) hC hin hR hB (ih e)) h rfl _ _ _ _ _ rfl

theorem mi_X4_payment : MI yX4_payment cX4_payment 2 (some .int) 1 := ⟨tw_815, tw_11, by decide +kernel, by decide +kernel, by decide +kernel⟩
noncomputable def f_X4_payment (S : Wd) (a0 : Nat) (a1 : Int32) : Option (Int32 × Wd) := if a1 < 0 then (some ((-100006 : Int32), S)) else (gd (ob S a0 4) (if (wI S a0 4) ≤ a1 then (some ((-100006 : Int32), S)) else (if (10 : Int32) ≤ a1 then (some ((-100006 : Int32), S)) else (gd (ob S a0 4) (Option.bind (wO S a0 3) (fun q6 => gd (ix S q6 100 a1) (some ((wI S q6 a1.toNatClampNeg), S))))))))
set_option maxRecDepth 100000 in
set_option maxHeartbeats 4000000 in
theorem k_X4_payment {S : Wd} {a0 : Nat} {a1 : Int32} {r : Int32} {S' : Wd} (h : f_X4_payment S a0 a1 = some (r, S')) : Sp yX4_payment cX4_payment 2 (some .int) 0 0 0 0 [.ref a0, .int a1] S (some (.int r)) S' := by
  unfold f_X4_payment at h
  refine Sp.of (by decide +kernel) (Nat.le_of_ble_eq_true rfl) ?_
  intro b hC hin hR
  show G b 0 [(0, .ref a0), (1, .int a1)] [] S 0 0
  refine g_iload_n hC dX4_payment_0 rfl ?_
  refine g_if_lt (tgt := 27) hC dX4_payment_1 (by decide) (fun hc1 => ?_) (fun hc1 => ?_)
  · rw [if_pos hc1] at h
    refine g_ldc hC tw_816 dX4_payment_27 ?_
    cases h
    exact g_iret hC hR dX4_payment_29 (by decide) (by decide)
  · rw [if_neg hc1] at h
    refine g_iload_n hC dX4_payment_4 rfl ?_
    refine g_aload_n hC dX4_payment_5 rfl ?_
    obtain ⟨ho2, h⟩ := gd_some h
    refine g_geti (k := 4) hC ck_X4 (by decide) tw_254 rfl (by decide) dX4_payment_6 ho2 ?_
    refine g_icmp_ge (tgt := 27) hC dX4_payment_9 (by decide) (fun hc3 => ?_) (fun hc3 => ?_)
    · rw [if_pos hc3] at h
      refine g_ldc hC tw_816 dX4_payment_27 ?_
      cases h
      exact g_iret hC hR dX4_payment_29 (by decide) (by decide)
    · rw [if_neg hc3] at h
      refine g_iload_n hC dX4_payment_12 rfl ?_
      refine g_bipush (v := (10 : Int32)) hC dX4_payment_13 (by decide) ?_
      refine g_icmp_ge (tgt := 27) hC dX4_payment_15 (by decide) (fun hc4 => ?_) (fun hc4 => ?_)
      · rw [if_pos hc4] at h
        refine g_ldc hC tw_816 dX4_payment_27 ?_
        cases h
        exact g_iret hC hR dX4_payment_29 (by decide) (by decide)
      · rw [if_neg hc4] at h
        refine g_aload_n hC dX4_payment_18 rfl ?_
        obtain ⟨ho5, h⟩ := gd_some h
        obtain ⟨q6, hq7, h⟩ := Option.bind_eq_some_iff.mp h
        refine g_getr (k := 3) (q := q6) hC ck_X4 (by decide) tw_253 rfl (by decide) dX4_payment_19 ho5 hq7 ?_
        refine g_iload_n hC dX4_payment_22 rfl ?_
        obtain ⟨hx8, h⟩ := gd_some h
        refine g_iald hC dX4_payment_23 hx8.1 hx8.2 ?_
        refine g_goto (tgt := 29) hC dX4_payment_24 (by decide) ?_
        cases h
        exact g_iret hC hR dX4_payment_29 (by decide) (by decide)

theorem mi_X11_clearing : MI yX11_clearing cX11_clearing 3 (some .int) 1 := ⟨tw_799, tw_1, by decide +kernel, by decide +kernel, by decide +kernel⟩
noncomputable def f_X11_clearing (S : Wd) (a0 : Nat) (a1 : Int32) : Option (Int32 × Wd) := if (-1 : Int32) ≤ a1 then (gd (ob S a0 11) (Option.bind (wO S a0 9) (fun q3 => gd (ob S q3 4) (bd2 (f_X4_settle S q3) (fun r8 S6 => if a1 = (-1 : Int32) then (gd (ob S6 a0 11) (bd2 (f_X11_told S6 a0 r8) (fun r24 S22 => some (r24, S22)))) else (gd (ob S6 a0 11) (Option.bind (wO S6 a0 9) (fun q11 => gd (ob S6 q11 4) (bd2 (f_X4_payment S6 q11 a1) (fun r16 S14 => gd (ob S14 a0 11) (bd2 (f_X11_told S14 a0 r16) (fun r20 S18 => some (r20, S18))))))))))))) else (gd (ob S a0 11) (bd2 (f_X11_told S a0 (-100001 : Int32)) (fun r28 S26 => some (r28, S26))))
set_option maxRecDepth 100000 in
set_option maxHeartbeats 4000000 in
theorem k_X11_clearing {S : Wd} {a0 : Nat} {a1 : Int32} {r : Int32} {S' : Wd} (h : f_X11_clearing S a0 a1 = some (r, S')) : Sp yX11_clearing cX11_clearing 3 (some .int) 4 86 0 0 [.ref a0, .int a1] S (some (.int r)) S' := by
  unfold f_X11_clearing at h
  refine Sp.of (by decide +kernel) (Nat.le_of_ble_eq_true rfl) ?_
  intro b hC hin hR
  show G b 0 [(0, .ref a0), (1, .int a1)] [] S 0 0
  refine g_iload_n hC dX11_clearing_0 rfl ?_
  refine g_iconst (v := (-1 : Int32)) hC dX11_clearing_1 (by decide) ?_
  refine g_icmp_ge (tgt := 12) hC dX11_clearing_2 (by decide) (fun hc1 => ?_) (fun hc1 => ?_)
  · rw [if_pos hc1] at h
    refine g_aload_n hC dX11_clearing_12 rfl ?_
    obtain ⟨ho2, h⟩ := gd_some h
    obtain ⟨q3, hq4, h⟩ := Option.bind_eq_some_iff.mp h
    refine g_getr (k := 9) (q := q3) hC ck_X11 (by decide) tw_311 rfl (by decide) dX11_clearing_13 ho2 hq4 ?_
    obtain ⟨ho7, h⟩ := gd_some h
    obtain ⟨r8, S6, hr5, h⟩ := bd2_some h
    refine g_callV (rest := []) hC mi_X4_settle (k_X4_settle hr5) ck_X4.1 (by decide) ho7 tw_800 tw_801 tw_802 dX11_clearing_16 rfl rfl ⟨by decide, by decide⟩ (Nat.le_of_ble_eq_true rfl) ⟨by decide, by decide⟩ ?_
    refine g_istore_n (L' := [(2, .int r8), (0, .ref a0), (1, .int a1)]) hC dX11_clearing_19 (by decide) rfl ?_
    refine g_aload_n hC dX11_clearing_20 rfl ?_
    refine g_iload_n hC dX11_clearing_21 rfl ?_
    refine g_iconst (v := (-1 : Int32)) hC dX11_clearing_22 (by decide) ?_
    refine g_icmp_ne (tgt := 30) hC dX11_clearing_23 (by decide) (fun hc9 => ?_) (fun hc9 => ?_)
    · rw [if_neg hc9] at h
      refine g_aload_n hC dX11_clearing_30 rfl ?_
      obtain ⟨ho10, h⟩ := gd_some h
      obtain ⟨q11, hq12, h⟩ := Option.bind_eq_some_iff.mp h
      refine g_getr (k := 9) (q := q11) hC ck_X11 (by decide) tw_311 rfl (by decide) dX11_clearing_31 ho10 hq12 ?_
      refine g_iload_n hC dX11_clearing_34 rfl ?_
      obtain ⟨ho15, h⟩ := gd_some h
      obtain ⟨r16, S14, hr13, h⟩ := bd2_some h
      refine g_callV (rest := [.ref a0]) hC mi_X4_payment (k_X4_payment hr13) ck_X4.1 (by decide) ho15 tw_812 tw_813 tw_814 dX11_clearing_35 rfl rfl ⟨by decide, by decide⟩ (Nat.le_of_ble_eq_true rfl) ⟨by decide, by decide⟩ ?_
      obtain ⟨ho19, h⟩ := gd_some h
      obtain ⟨r20, S18, hr17, h⟩ := bd2_some h
      refine g_callV (rest := []) hC mi_X11_told (k_X11_told hr17) ck_X11.1 (by decide) ho19 tw_353 tw_355 ts_0 dX11_clearing_38 rfl rfl ⟨by decide, by decide⟩ (Nat.le_of_ble_eq_true rfl) ⟨by decide, by decide⟩ ?_
      cases h
      exact g_iret hC hR dX11_clearing_41 (by decide) (by decide)
    · rw [if_pos hc9] at h
      refine g_iload_n hC dX11_clearing_26 rfl ?_
      refine g_goto (tgt := 38) hC dX11_clearing_27 (by decide) ?_
      obtain ⟨ho23, h⟩ := gd_some h
      obtain ⟨r24, S22, hr21, h⟩ := bd2_some h
      refine g_callV (rest := []) hC mi_X11_told (k_X11_told hr21) ck_X11.1 (by decide) ho23 tw_353 tw_355 ts_0 dX11_clearing_38 rfl rfl ⟨by decide, by decide⟩ (Nat.le_of_ble_eq_true rfl) ⟨by decide, by decide⟩ ?_
      cases h
      exact g_iret hC hR dX11_clearing_41 (by decide) (by decide)
  · rw [if_neg hc1] at h
    refine g_aload_n hC dX11_clearing_5 rfl ?_
    refine g_ldc hC tw_352 dX11_clearing_6 ?_
    obtain ⟨ho27, h⟩ := gd_some h
    obtain ⟨r28, S26, hr25, h⟩ := bd2_some h
    refine g_callV (rest := []) hC mi_X11_told (k_X11_told hr25) ck_X11.1 (by decide) ho27 tw_353 tw_355 ts_0 dX11_clearing_8 rfl rfl ⟨by decide, by decide⟩ (Nat.le_of_ble_eq_true rfl) ⟨by decide, by decide⟩ ?_
    cases h
    exact g_iret hC hR dX11_clearing_11 (by decide) (by decide)

theorem mi_J7_fill_53178 : MI yJ7_fill_53178 cJ7_fill_53178 4 none 2 := ⟨tw_827, tw_15, by decide +kernel, by decide +kernel, by decide +kernel⟩
noncomputable def B_J7_fill_53178_0 (S : Wd) (a0 : Nat) (a1 : Int32) : Option ((Wd) ⊕ Cs) := gd (ob S a0 100) (some (.inr (1, [a0], [a1, (0 : Int32), (Int32.ofNat (wlen S a0))], S)))
noncomputable def B_J7_fill_53178_1 (S : Wd) (x0 : Nat) (x1 : Int32) (x2 : Int32) (x3 : Int32) : Option ((Wd) ⊕ Cs) := if x3 ≤ x2 then (some (.inl S)) else (gd (ix S x0 100 x2) (ltS (sI S x0 x2.toNatClampNeg x1) (fun S4 => some (.inr (1, [x0], [x1, (x2 + (1 : Int32)), x3], S4)))))
noncomputable def B_J7_fill_53178 : Cs → Option ((Wd) ⊕ Cs)
  | (0, [a0], [a1], S) => B_J7_fill_53178_0 S a0 a1
  | (1, [x0], [x1, x2, x3], S) => B_J7_fill_53178_1 S x0 x1 x2 x3
  | _ => none
def P_J7_fill_53178 : Cs → Option (Nat × List (Nat × Value) × Wd × Nat × Nat)
  | (0, [a0], [a1], S) => some (0, [(0, .ref a0), (1, .int a1)], S, 0, 0)
  | (1, [x0], [x1, x2, x3], S) => some (5, [(0, .ref x0), (1, .int x1), (2, .int x2), (3, .int x3)], S, 0, 0)
  | _ => none
noncomputable def f_J7_fill_53178 (S : Wd) (a0 : Nat) (a1 : Int32) : Option (Wd) := ru B_J7_fill_53178 (0, [a0], [a1], S)
abbrev N_J7_fill_53178 (b : Bd) (r : Wd) (c : (Wd) ⊕ Cs) : Prop := match c with
  | .inl r' => r' = r
  | .inr s' => ∀ pc L S kc ks, P_J7_fill_53178 s' = some (pc, L, S, kc, ks) → G b pc L [] S kc ks
set_option maxRecDepth 100000 in
set_option maxHeartbeats 4000000 in
theorem w_J7_fill_53178_0 {b : Bd} {r : Wd} (hC : CX b yJ7_fill_53178.cls cJ7_fill_53178 4 { frames := 0, cells := 0, slots := 0, locals := 0 }) (hin : yJ7_fill_53178.name = "<init>" → b.2.2.2.2.2.2.2.2.1.name = "<init>") (hR : RT b none none r 0 0) {S : Wd} {a0 : Nat} {a1 : Int32} {c : (Wd) ⊕ Cs} (h : B_J7_fill_53178_0 S a0 a1 = some c) (hk : N_J7_fill_53178 b r c) : G b 0 [(0, .ref a0), (1, .int a1)] [] S 0 0 := by
  unfold B_J7_fill_53178_0 at h
  refine g_iconst (v := (0 : Int32)) hC dJ7_fill_53178_0 (by decide) ?_
  refine g_istore_n (L' := [(2, .int (0 : Int32)), (0, .ref a0), (1, .int a1)]) hC dJ7_fill_53178_1 (by decide) rfl ?_
  refine g_aload_n hC dJ7_fill_53178_2 rfl ?_
  obtain ⟨ho1, h⟩ := gd_some h
  refine g_alen hC dJ7_fill_53178_3 ho1 ?_
  refine g_istore_n (L' := [(3, .int (Int32.ofNat (wlen S a0))), (2, .int (0 : Int32)), (0, .ref a0), (1, .int a1)]) hC dJ7_fill_53178_4 (by decide) rfl ?_
  cases h
  refine g_pick (L' := [(0, .ref a0), (1, .int a1), (2, .int (0 : Int32)), (3, .int (Int32.ofNat (wlen S a0)))]) [2, 3, 1, 0] rfl ?_
  exact hk _ _ _ _ _ rfl
set_option maxRecDepth 100000 in
set_option maxHeartbeats 4000000 in
theorem w_J7_fill_53178_1 {b : Bd} {r : Wd} (hC : CX b yJ7_fill_53178.cls cJ7_fill_53178 4 { frames := 0, cells := 0, slots := 0, locals := 0 }) (hin : yJ7_fill_53178.name = "<init>" → b.2.2.2.2.2.2.2.2.1.name = "<init>") (hR : RT b none none r 0 0) {S : Wd} {x0 : Nat} {x1 : Int32} {x2 : Int32} {x3 : Int32} {c : (Wd) ⊕ Cs} (h : B_J7_fill_53178_1 S x0 x1 x2 x3 = some c) (hk : N_J7_fill_53178 b r c) : G b 5 [(0, .ref x0), (1, .int x1), (2, .int x2), (3, .int x3)] [] S 0 0 := by
  unfold B_J7_fill_53178_1 at h
  refine g_iload_n hC dJ7_fill_53178_5 rfl ?_
  refine g_iload_n hC dJ7_fill_53178_6 rfl ?_
  refine g_icmp_ge (tgt := 20) hC dJ7_fill_53178_7 (by decide) (fun hc2 => ?_) (fun hc2 => ?_)
  · rw [if_pos hc2] at h
    cases h
    subst hk
    exact g_vret hC hR dJ7_fill_53178_20 (by decide) (by decide)
  · rw [if_neg hc2] at h
    refine g_aload_n hC dJ7_fill_53178_10 rfl ?_
    refine g_iload_n hC dJ7_fill_53178_11 rfl ?_
    refine g_iload_n hC dJ7_fill_53178_12 rfl ?_
    obtain ⟨hx3, h⟩ := gd_some h
    refine g_iast hC dJ7_fill_53178_13 hx3.1 hx3.2 ?_
    refine g_name (fun S4 eS5 => ?_)
    have h := ltS_use eS5 h
    refine g_iinc (v := (1 : Int32)) (L' := [(2, .int (x2 + (1 : Int32))), (0, .ref x0), (1, .int x1), (3, .int x3)]) hC dJ7_fill_53178_14 rfl (by decide) (by decide) rfl ?_
    refine g_goto (tgt := 5) hC dJ7_fill_53178_17 (by decide) ?_
    cases h
    refine g_pick (L' := [(0, .ref x0), (1, .int x1), (2, .int (x2 + (1 : Int32))), (3, .int x3)]) [1, 2, 0, 3] rfl ?_
    exact hk _ _ _ _ _ rfl
theorem w_J7_fill_53178 {b : Bd} {r : Wd} (hC : CX b yJ7_fill_53178.cls cJ7_fill_53178 4 { frames := 0, cells := 0, slots := 0, locals := 0 }) (hin : yJ7_fill_53178.name = "<init>" → b.2.2.2.2.2.2.2.2.1.name = "<init>") (hR : RT b none none r 0 0) {s : Cs} {c : (Wd) ⊕ Cs} (h : B_J7_fill_53178 s = some c) (hk : N_J7_fill_53178 b r c) : ∀ pc L S kc ks, P_J7_fill_53178 s = some (pc, L, S, kc, ks) → G b pc L [] S kc ks := by
  intro pc L S kc ks hp
  unfold B_J7_fill_53178 at h
  split at h
  · cases hp
    exact w_J7_fill_53178_0 hC hin hR h hk
  · cases hp
    exact w_J7_fill_53178_1 hC hin hR h hk
  · cases h
theorem k_J7_fill_53178 {S : Wd} {a0 : Nat} {a1 : Int32} {S' : Wd} (h : f_J7_fill_53178 S a0 a1 = some S') : Sp yJ7_fill_53178 cJ7_fill_53178 4 none 0 0 0 0 [.ref a0, .int a1] S none S' := by
  unfold f_J7_fill_53178 at h
  refine Sp.of (by decide +kernel) (Nat.le_of_ble_eq_true rfl) ?_
  intro b hC hin hR
  exact ru_ind (P := fun s q0 => q0 = S' → ∀ pc L S kc ks, P_J7_fill_53178 s = some (pc, L, S, kc, ks) → G b pc L [] S kc ks) (fun s q0 hB e => w_J7_fill_53178 (r := S') hC hin hR hB e) (fun s s' q0 hB ih e => w_J7_fill_53178 (r := S') hC hin hR hB (ih e)) h rfl _ _ _ _ _ rfl

theorem mi_X4_forget : MI yX4_forget cX4_forget 1 none 0 := ⟨tw_824, tw_11, by decide +kernel, by decide +kernel, by decide +kernel⟩
noncomputable def f_X4_forget (S : Wd) (a0 : Nat) : Option (Wd) := gd (ob S a0 4) (Option.bind (wO S a0 0) (fun q2 => gd (ob S a0 4) (Option.bind (wO S a0 1) (fun q5 => gd (ob S a0 4) (Option.bind (wO S a0 1) (fun q8 => gd (ob S q8 100) (gd (ob S q2 3) (Option.bind (f_X3_keep S q2 q5 (0 : Int32) (Int32.ofNat (wlen S q8))) (fun S12 => gd (ob S12 a0 4) (Option.bind (wO S12 a0 1) (fun q15 => Option.bind (f_J7_fill_53178 S12 q15 (0 : Int32)) (fun S18 => some S18))))))))))))
set_option maxRecDepth 100000 in
set_option maxHeartbeats 4000000 in
theorem k_X4_forget {S : Wd} {a0 : Nat} {S' : Wd} (h : f_X4_forget S a0 = some S') : Sp yX4_forget cX4_forget 1 none 4 99 1 200 [.ref a0] S none S' := by
  unfold f_X4_forget at h
  refine Sp.of (by decide +kernel) (Nat.le_of_ble_eq_true rfl) ?_
  intro b hC hin hR
  show G b 0 [(0, .ref a0)] [] S 0 0
  refine g_aload_n hC dX4_forget_0 rfl ?_
  obtain ⟨ho1, h⟩ := gd_some h
  obtain ⟨q2, hq3, h⟩ := Option.bind_eq_some_iff.mp h
  refine g_getr (k := 0) (q := q2) hC ck_X4 (by decide) tw_250 rfl (by decide) dX4_forget_1 ho1 hq3 ?_
  refine g_aload_n hC dX4_forget_4 rfl ?_
  obtain ⟨ho4, h⟩ := gd_some h
  obtain ⟨q5, hq6, h⟩ := Option.bind_eq_some_iff.mp h
  refine g_getr (k := 1) (q := q5) hC ck_X4 (by decide) tw_251 rfl (by decide) dX4_forget_5 ho4 hq6 ?_
  refine g_iconst (v := (0 : Int32)) hC dX4_forget_8 (by decide) ?_
  refine g_aload_n hC dX4_forget_9 rfl ?_
  obtain ⟨ho7, h⟩ := gd_some h
  obtain ⟨q8, hq9, h⟩ := Option.bind_eq_some_iff.mp h
  refine g_getr (k := 1) (q := q8) hC ck_X4 (by decide) tw_251 rfl (by decide) dX4_forget_10 ho7 hq9 ?_
  obtain ⟨ho10, h⟩ := gd_some h
  refine g_alen hC dX4_forget_13 ho10 ?_
  obtain ⟨ho13, h⟩ := gd_some h
  obtain ⟨S12, hr11, h⟩ := Option.bind_eq_some_iff.mp h
  refine g_callV (rest := []) hC mi_X3_keep (k_X3_keep hr11) ck_X3.1 (by decide) ho13 tw_787 tw_368 tw_369 dX4_forget_14 rfl rfl ⟨by decide, by decide⟩ (Nat.le_of_ble_eq_true rfl) ⟨by decide, by decide⟩ ?_
  refine g_aload_n hC dX4_forget_17 rfl ?_
  obtain ⟨ho14, h⟩ := gd_some h
  obtain ⟨q15, hq16, h⟩ := Option.bind_eq_some_iff.mp h
  refine g_getr (k := 1) (q := q15) hC ck_X4 (by decide) tw_251 rfl (by decide) dX4_forget_18 ho14 hq16 ?_
  refine g_iconst (v := (0 : Int32)) hC dX4_forget_21 (by decide) ?_
  obtain ⟨S18, hr17, h⟩ := Option.bind_eq_some_iff.mp h
  refine g_callS (rest := []) hC mi_J7_fill_53178 (k_J7_fill_53178 hr17) tw_825 tw_826 dX4_forget_22 rfl rfl ⟨by decide, by decide⟩ (Nat.le_of_ble_eq_true rfl) ⟨by decide, by decide⟩ ?_
  cases h
  exact g_vret hC hR dX4_forget_25 (by decide) (by decide)

theorem mi_X11_clear : MI yX11_clear cX11_clear 2 (some .int) 0 := ⟨tw_820, tw_1, by decide +kernel, by decide +kernel, by decide +kernel⟩
noncomputable def f_X11_clear (S : Wd) (a0 : Nat) : Option (Int32 × Wd) := gd (ob S a0 11) (Option.bind (wO S a0 9) (fun q2 => gd (ob S q2 4) (bd2 (f_X4_settle S q2) (fun r7 S5 => gd (ob S5 a0 11) (Option.bind (wO S5 a0 9) (fun q9 => gd (ob S5 q9 4) (Option.bind (f_X4_forget S5 q9) (fun S12 => some (r7, S12)))))))))
set_option maxRecDepth 100000 in
set_option maxHeartbeats 4000000 in
theorem k_X11_clear {S : Wd} {a0 : Nat} {r : Int32} {S' : Wd} (h : f_X11_clear S a0 = some (r, S')) : Sp yX11_clear cX11_clear 2 (some .int) 5 119 1 200 [.ref a0] S (some (.int r)) S' := by
  unfold f_X11_clear at h
  refine Sp.of (by decide +kernel) (Nat.le_of_ble_eq_true rfl) ?_
  intro b hC hin hR
  show G b 0 [(0, .ref a0)] [] S 0 0
  refine g_aload_n hC dX11_clear_0 rfl ?_
  obtain ⟨ho1, h⟩ := gd_some h
  obtain ⟨q2, hq3, h⟩ := Option.bind_eq_some_iff.mp h
  refine g_getr (k := 9) (q := q2) hC ck_X11 (by decide) tw_311 rfl (by decide) dX11_clear_1 ho1 hq3 ?_
  obtain ⟨ho6, h⟩ := gd_some h
  obtain ⟨r7, S5, hr4, h⟩ := bd2_some h
  refine g_callV (rest := []) hC mi_X4_settle (k_X4_settle hr4) ck_X4.1 (by decide) ho6 tw_800 tw_801 tw_802 dX11_clear_4 rfl rfl ⟨by decide, by decide⟩ (Nat.le_of_ble_eq_true rfl) ⟨by decide, by decide⟩ ?_
  refine g_istore_n (L' := [(1, .int r7), (0, .ref a0)]) hC dX11_clear_7 (by decide) rfl ?_
  refine g_aload_n hC dX11_clear_8 rfl ?_
  obtain ⟨ho8, h⟩ := gd_some h
  obtain ⟨q9, hq10, h⟩ := Option.bind_eq_some_iff.mp h
  refine g_getr (k := 9) (q := q9) hC ck_X11 (by decide) tw_311 rfl (by decide) dX11_clear_9 ho8 hq10 ?_
  obtain ⟨ho13, h⟩ := gd_some h
  obtain ⟨S12, hr11, h⟩ := Option.bind_eq_some_iff.mp h
  refine g_callV (rest := []) hC mi_X4_forget (k_X4_forget hr11) ck_X4.1 (by decide) ho13 tw_821 tw_822 tw_823 dX11_clear_12 rfl rfl ⟨by decide, by decide⟩ (Nat.le_of_ble_eq_true rfl) ⟨by decide, by decide⟩ ?_
  refine g_iload_n hC dX11_clear_15 rfl ?_
  cases h
  exact g_iret hC hR dX11_clear_16 (by decide) (by decide)

theorem mi_X11_isSheet : MI yX11_isSheet cX11_isSheet 1 (some .boolean) 1 := ⟨tw_834, tw_1, by decide +kernel, by decide +kernel, by decide +kernel⟩
noncomputable def f_X11_isSheet (S : Wd) (a0 : Int32) : Option (Int32 × Wd) := bd2 (f_X11_within S a0 (0 : Int32) (3 : Int32)) (fun r3 S2 => gd (narrow .boolean (.int r3) = .int r3) (some (r3, S2)))
set_option maxRecDepth 100000 in
set_option maxHeartbeats 4000000 in
theorem k_X11_isSheet {S : Wd} {a0 : Int32} {r : Int32} {S' : Wd} (h : f_X11_isSheet S a0 = some (r, S')) : Sp yX11_isSheet cX11_isSheet 1 (some .boolean) 1 22 0 0 [.int a0] S (some (.int r)) S' := by
  unfold f_X11_isSheet at h
  refine Sp.of (by decide +kernel) (Nat.le_of_ble_eq_true rfl) ?_
  intro b hC hin hR
  show G b 0 [(0, .int a0)] [] S 0 0
  refine g_iload_n hC dX11_isSheet_0 rfl ?_
  refine g_iconst (v := (0 : Int32)) hC dX11_isSheet_1 (by decide) ?_
  refine g_iconst (v := (3 : Int32)) hC dX11_isSheet_2 (by decide) ?_
  obtain ⟨r3, S2, hr1, h⟩ := bd2_some h
  refine g_callS (rest := []) hC mi_X11_within (k_X11_within hr1) tw_349 tw_350 dX11_isSheet_3 rfl rfl ⟨by decide, by decide⟩ (Nat.le_of_ble_eq_true rfl) ⟨by decide, by decide⟩ ?_
  obtain ⟨hv4, h⟩ := gd_some h
  cases h
  exact g_zret hC hR hv4 dX11_isSheet_6 (by decide) (by decide)

theorem mi_X7_isMissing : MI yX7_isMissing cX7_isMissing 1 (some .boolean) 0 := ⟨tw_838, tw_13, by decide +kernel, by decide +kernel, by decide +kernel⟩
noncomputable def f_X7_isMissing (S : Wd) (a0 : Nat) : Option (Int32 × Wd) := gd (ob S a0 7) (if (wI S a0 1) = 0 then (some ((1 : Int32), S)) else (some ((0 : Int32), S)))
set_option maxRecDepth 100000 in
set_option maxHeartbeats 4000000 in
theorem k_X7_isMissing {S : Wd} {a0 : Nat} {r : Int32} {S' : Wd} (h : f_X7_isMissing S a0 = some (r, S')) : Sp yX7_isMissing cX7_isMissing 1 (some .boolean) 0 0 0 0 [.ref a0] S (some (.int r)) S' := by
  unfold f_X7_isMissing at h
  refine Sp.of (by decide +kernel) (Nat.le_of_ble_eq_true rfl) ?_
  intro b hC hin hR
  show G b 0 [(0, .ref a0)] [] S 0 0
  refine g_aload_n hC dX7_isMissing_0 rfl ?_
  obtain ⟨ho1, h⟩ := gd_some h
  refine g_geti (k := 1) hC ck_X7 (by decide) tw_293 rfl (by decide) dX7_isMissing_1 ho1 ?_
  refine g_if_ne (tgt := 11) hC dX7_isMissing_4 (by decide) (fun hc2 => ?_) (fun hc2 => ?_)
  · rw [if_neg hc2] at h
    refine g_iconst (v := (0 : Int32)) hC dX7_isMissing_11 (by decide) ?_
    cases h
    exact g_zret hC hR rfl dX7_isMissing_12 (by decide) (by decide)
  · rw [if_pos hc2] at h
    refine g_iconst (v := (1 : Int32)) hC dX7_isMissing_7 (by decide) ?_
    refine g_goto (tgt := 12) hC dX7_isMissing_8 (by decide) ?_
    cases h
    exact g_zret hC hR rfl dX7_isMissing_12 (by decide) (by decide)

theorem mi_X7_count : MI yX7_count cX7_count 1 (some .int) 0 := ⟨tw_847, tw_13, by decide +kernel, by decide +kernel, by decide +kernel⟩
noncomputable def f_X7_count (S : Wd) (a0 : Nat) : Option (Int32 × Wd) := gd (ob S a0 7) (some ((wI S a0 2), S))
set_option maxRecDepth 100000 in
set_option maxHeartbeats 4000000 in
theorem k_X7_count {S : Wd} {a0 : Nat} {r : Int32} {S' : Wd} (h : f_X7_count S a0 = some (r, S')) : Sp yX7_count cX7_count 1 (some .int) 0 0 0 0 [.ref a0] S (some (.int r)) S' := by
  unfold f_X7_count at h
  refine Sp.of (by decide +kernel) (Nat.le_of_ble_eq_true rfl) ?_
  intro b hC hin hR
  show G b 0 [(0, .ref a0)] [] S 0 0
  refine g_aload_n hC dX7_count_0 rfl ?_
  obtain ⟨ho1, h⟩ := gd_some h
  refine g_geti (k := 2) hC ck_X7 (by decide) tw_294 rfl (by decide) dX7_count_1 ho1 ?_
  cases h
  exact g_iret hC hR dX7_count_4 (by decide) (by decide)

theorem mi_X7_at : MI yX7_at cX7_at 2 (some .int) 1 := ⟨tw_852, tw_13, by decide +kernel, by decide +kernel, by decide +kernel⟩
noncomputable def f_X7_at (S : Wd) (a0 : Nat) (a1 : Int32) : Option (Int32 × Wd) := if a1 < 0 then (some ((0 : Int32), S)) else (gd (ob S a0 7) (if (wI S a0 2) ≤ a1 then (some ((0 : Int32), S)) else (if (20 : Int32) ≤ a1 then (some ((0 : Int32), S)) else (gd (ob S a0 7) (Option.bind (wO S a0 0) (fun q6 => gd (ix S q6 100 a1) (some ((wI S q6 a1.toNatClampNeg), S))))))))
set_option maxRecDepth 100000 in
set_option maxHeartbeats 4000000 in
theorem k_X7_at {S : Wd} {a0 : Nat} {a1 : Int32} {r : Int32} {S' : Wd} (h : f_X7_at S a0 a1 = some (r, S')) : Sp yX7_at cX7_at 2 (some .int) 0 0 0 0 [.ref a0, .int a1] S (some (.int r)) S' := by
  unfold f_X7_at at h
  refine Sp.of (by decide +kernel) (Nat.le_of_ble_eq_true rfl) ?_
  intro b hC hin hR
  show G b 0 [(0, .ref a0), (1, .int a1)] [] S 0 0
  refine g_iload_n hC dX7_at_0 rfl ?_
  refine g_if_lt (tgt := 27) hC dX7_at_1 (by decide) (fun hc1 => ?_) (fun hc1 => ?_)
  · rw [if_pos hc1] at h
    refine g_iconst (v := (0 : Int32)) hC dX7_at_27 (by decide) ?_
    cases h
    exact g_iret hC hR dX7_at_28 (by decide) (by decide)
  · rw [if_neg hc1] at h
    refine g_iload_n hC dX7_at_4 rfl ?_
    refine g_aload_n hC dX7_at_5 rfl ?_
    obtain ⟨ho2, h⟩ := gd_some h
    refine g_geti (k := 2) hC ck_X7 (by decide) tw_294 rfl (by decide) dX7_at_6 ho2 ?_
    refine g_icmp_ge (tgt := 27) hC dX7_at_9 (by decide) (fun hc3 => ?_) (fun hc3 => ?_)
    · rw [if_pos hc3] at h
      refine g_iconst (v := (0 : Int32)) hC dX7_at_27 (by decide) ?_
      cases h
      exact g_iret hC hR dX7_at_28 (by decide) (by decide)
    · rw [if_neg hc3] at h
      refine g_iload_n hC dX7_at_12 rfl ?_
      refine g_bipush (v := (20 : Int32)) hC dX7_at_13 (by decide) ?_
      refine g_icmp_ge (tgt := 27) hC dX7_at_15 (by decide) (fun hc4 => ?_) (fun hc4 => ?_)
      · rw [if_pos hc4] at h
        refine g_iconst (v := (0 : Int32)) hC dX7_at_27 (by decide) ?_
        cases h
        exact g_iret hC hR dX7_at_28 (by decide) (by decide)
      · rw [if_neg hc4] at h
        refine g_aload_n hC dX7_at_18 rfl ?_
        obtain ⟨ho5, h⟩ := gd_some h
        obtain ⟨q6, hq7, h⟩ := Option.bind_eq_some_iff.mp h
        refine g_getr (k := 0) (q := q6) hC ck_X7 (by decide) tw_292 rfl (by decide) dX7_at_19 ho5 hq7 ?_
        refine g_iload_n hC dX7_at_22 rfl ?_
        obtain ⟨hx8, h⟩ := gd_some h
        refine g_iald hC dX7_at_23 hx8.1 hx8.2 ?_
        refine g_goto (tgt := 28) hC dX7_at_24 (by decide) ?_
        cases h
        exact g_iret hC hR dX7_at_28 (by decide) (by decide)

theorem mi_X9_isSign : MI yX9_isSign cX9_isSign 1 (some .boolean) 1 := ⟨tw_855, tw_12, by decide +kernel, by decide +kernel, by decide +kernel⟩
noncomputable def f_X9_isSign (S : Wd) (a0 : Int32) : Option (Int32 × Wd) := bd2 (f_X11_within S a0 (1 : Int32) (6 : Int32)) (fun r3 S2 => if r3 = 0 then (bd2 (f_X11_within S2 a0 (10 : Int32) (56 : Int32)) (fun r7 S6 => if r7 = 0 then (some ((0 : Int32), S6)) else (some ((1 : Int32), S6)))) else (some ((1 : Int32), S2)))
set_option maxRecDepth 100000 in
set_option maxHeartbeats 4000000 in
theorem k_X9_isSign {S : Wd} {a0 : Int32} {r : Int32} {S' : Wd} (h : f_X9_isSign S a0 = some (r, S')) : Sp yX9_isSign cX9_isSign 1 (some .boolean) 1 22 0 0 [.int a0] S (some (.int r)) S' := by
  unfold f_X9_isSign at h
  refine Sp.of (by decide +kernel) (Nat.le_of_ble_eq_true rfl) ?_
  intro b hC hin hR
  show G b 0 [(0, .int a0)] [] S 0 0
  refine g_iload_n hC dX9_isSign_0 rfl ?_
  refine g_iconst (v := (1 : Int32)) hC dX9_isSign_1 (by decide) ?_
  refine g_bipush (v := (6 : Int32)) hC dX9_isSign_2 (by decide) ?_
  obtain ⟨r3, S2, hr1, h⟩ := bd2_some h
  refine g_callSN (rest := []) hC mi_X11_within (k_X11_within hr1) nwm_856 tw_350 dX9_isSign_4 rfl rfl ⟨by decide, by decide⟩ (Nat.le_of_ble_eq_true rfl) ⟨by decide, by decide⟩ ?_
  refine g_if_ne (tgt := 21) hC dX9_isSign_7 (by decide) (fun hc4 => ?_) (fun hc4 => ?_)
  · rw [if_neg hc4] at h
    refine g_iconst (v := (1 : Int32)) hC dX9_isSign_21 (by decide) ?_
    refine g_goto (tgt := 26) hC dX9_isSign_22 (by decide) ?_
    cases h
    exact g_zret hC hR rfl dX9_isSign_26 (by decide) (by decide)
  · rw [if_pos hc4] at h
    refine g_iload_n hC dX9_isSign_10 rfl ?_
    refine g_bipush (v := (10 : Int32)) hC dX9_isSign_11 (by decide) ?_
    refine g_bipush (v := (56 : Int32)) hC dX9_isSign_13 (by decide) ?_
    obtain ⟨r7, S6, hr5, h⟩ := bd2_some h
    refine g_callSN (rest := []) hC mi_X11_within (k_X11_within hr5) nwm_856 tw_350 dX9_isSign_15 rfl rfl ⟨by decide, by decide⟩ (Nat.le_of_ble_eq_true rfl) ⟨by decide, by decide⟩ ?_
    refine g_if_eq (tgt := 25) hC dX9_isSign_18 (by decide) (fun hc8 => ?_) (fun hc8 => ?_)
    · rw [if_pos hc8] at h
      refine g_iconst (v := (0 : Int32)) hC dX9_isSign_25 (by decide) ?_
      cases h
      exact g_zret hC hR rfl dX9_isSign_26 (by decide) (by decide)
    · rw [if_neg hc8] at h
      refine g_iconst (v := (1 : Int32)) hC dX9_isSign_21 (by decide) ?_
      refine g_goto (tgt := 26) hC dX9_isSign_22 (by decide) ?_
      cases h
      exact g_zret hC hR rfl dX9_isSign_26 (by decide) (by decide)

theorem mi_X9_read : MI yX9_read cX9_read 4 (some .int) 1 := ⟨tw_843, tw_12, by decide +kernel, by decide +kernel, by decide +kernel⟩
noncomputable def B_X9_read_0 (S : Wd) (a0 : Nat) (a1 : Nat) : Option ((Int32 × Wd) ⊕ Cs) := gd (ob S a1 7) (bd2 (f_X7_count S a1) (fun r4 S2 => if r4 ≤ (14 : Int32) then (some (.inr (1, [a0, a1], [r4, (0 : Int32)], S2))) else (some (.inl ((-100003 : Int32), S2)))))
noncomputable def B_X9_read_1 (S : Wd) (x0 : Nat) (x1 : Nat) (x2 : Int32) (x3 : Int32) : Option ((Int32 × Wd) ⊕ Cs) := if x2 ≤ x3 then (gd (ob S x0 9) (Option.bind (wO S x0 0) (fun q8 => gd (ob S x0 9) (Option.bind (wO S x0 1) (fun q11 => gd (ob S x0 9) (Option.bind (wO S x0 1) (fun q14 => gd (ob S q14 100) (gd (ob S q8 3) (Option.bind (f_X3_keep S q8 q11 (0 : Int32) (Int32.ofNat (wlen S q14))) (fun S18 => gd (ob S18 x0 9) (Option.bind (wO S18 x0 1) (fun q21 => gd (ix S18 q21 100 (0 : Int32)) (ltS (sI S18 q21 (0 : Int32).toNatClampNeg x2) (fun S24 => some (.inr (2, [x0, x1], [x2, (0 : Int32)], S24)))))))))))))))) else (gd (ob S x1 7) (bd2 (f_X7_at S x1 x3) (fun r29 S27 => bd2 (f_X9_isSign S27 r29) (fun r32 S31 => if r32 = 0 then (some (.inl ((-100001 : Int32), S31))) else (some (.inr (1, [x0, x1], [x2, (x3 + (1 : Int32))], S31)))))))
noncomputable def B_X9_read_2 (S : Wd) (x0 : Nat) (x1 : Nat) (x2 : Int32) (x3 : Int32) : Option ((Int32 × Wd) ⊕ Cs) := if x2 ≤ x3 then (some (.inl (x2, S))) else (gd (ob S x0 9) (Option.bind (wO S x0 1) (fun q36 => gd (ob S x1 7) (bd2 (f_X7_at S x1 x3) (fun r41 S39 => gd (ix S39 q36 100 (x3 + (1 : Int32))) (ltS (sI S39 q36 (x3 + (1 : Int32)).toNatClampNeg r41) (fun S43 => some (.inr (2, [x0, x1], [x2, (x3 + (1 : Int32))], S43)))))))))
noncomputable def B_X9_read : Cs → Option ((Int32 × Wd) ⊕ Cs)
  | (0, [a0, a1], [], S) => B_X9_read_0 S a0 a1
  | (1, [x0, x1], [x2, x3], S) => B_X9_read_1 S x0 x1 x2 x3
  | (2, [x0, x1], [x2, x3], S) => B_X9_read_2 S x0 x1 x2 x3
  | _ => none
def P_X9_read : Cs → Option (Nat × List (Nat × Value) × Wd × Nat × Nat)
  | (0, [a0, a1], [], S) => some (0, [(0, .ref a0), (1, .ref a1)], S, 0, 0)
  | (1, [x0, x1], [x2, x3], S) => some (16, [(0, .ref x0), (1, .ref x1), (2, .int x2), (3, .int x3)], S, 0, 0)
  | (2, [x0, x1], [x2, x3], S) => some (67, [(0, .ref x0), (1, .ref x1), (2, .int x2), (3, .int x3)], S, 1, 200)
  | _ => none
noncomputable def f_X9_read (S : Wd) (a0 : Nat) (a1 : Nat) : Option (Int32 × Wd) := ru B_X9_read (0, [a0, a1], [], S)
abbrev N_X9_read (b : Bd) (r : Int32 × Wd) (c : (Int32 × Wd) ⊕ Cs) : Prop := match c with
  | .inl r' => r' = r
  | .inr s' => ∀ pc L S kc ks, P_X9_read s' = some (pc, L, S, kc, ks) → G b pc L [] S kc ks
set_option maxRecDepth 100000 in
set_option maxHeartbeats 4000000 in
theorem w_X9_read_0 {b : Bd} {r : Int32 × Wd} (hC : CX b yX9_read.cls cX9_read 4 { frames := 4, cells := 1, slots := 200, locals := 99 }) (hin : yX9_read.name = "<init>" → b.2.2.2.2.2.2.2.2.1.name = "<init>") (hR : RT b (some .int) (some (.int r.1)) r.2 1 200) {S : Wd} {a0 : Nat} {a1 : Nat} {c : (Int32 × Wd) ⊕ Cs} (h : B_X9_read_0 S a0 a1 = some c) (hk : N_X9_read b r c) : G b 0 [(0, .ref a0), (1, .ref a1)] [] S 0 0 := by
  unfold B_X9_read_0 at h
  refine g_aload_n hC dX9_read_0 rfl ?_
  obtain ⟨ho3, h⟩ := gd_some h
  obtain ⟨r4, S2, hr1, h⟩ := bd2_some h
  refine g_callV (rest := []) hC mi_X7_count (k_X7_count hr1) ck_X7.1 (by decide) ho3 tw_844 tw_845 tw_846 dX9_read_1 rfl rfl ⟨by decide, by decide⟩ (Nat.le_of_ble_eq_true rfl) ⟨by decide, by decide⟩ ?_
  refine g_istore_n (L' := [(2, .int r4), (0, .ref a0), (1, .ref a1)]) hC dX9_read_4 (by decide) rfl ?_
  refine g_iload_n hC dX9_read_5 rfl ?_
  refine g_bipush (v := (14 : Int32)) hC dX9_read_6 (by decide) ?_
  refine g_icmp_le (tgt := 14) hC dX9_read_8 (by decide) (fun hc5 => ?_) (fun hc5 => ?_)
  · rw [if_pos hc5] at h
    refine g_iconst (v := (0 : Int32)) hC dX9_read_14 (by decide) ?_
    refine g_istore_n (L' := [(3, .int (0 : Int32)), (2, .int r4), (0, .ref a0), (1, .ref a1)]) hC dX9_read_15 (by decide) rfl ?_
    cases h
    refine g_pick (L' := [(0, .ref a0), (1, .ref a1), (2, .int r4), (3, .int (0 : Int32))]) [2, 3, 1, 0] rfl ?_
    exact hk _ _ _ _ _ rfl
  · rw [if_neg hc5] at h
    refine g_ldc hC tw_848 dX9_read_11 ?_
    cases h
    subst hk
    exact g_iret hC hR dX9_read_13 (by decide) (by decide)
set_option maxRecDepth 100000 in
set_option maxHeartbeats 4000000 in
theorem w_X9_read_1 {b : Bd} {r : Int32 × Wd} (hC : CX b yX9_read.cls cX9_read 4 { frames := 4, cells := 1, slots := 200, locals := 99 }) (hin : yX9_read.name = "<init>" → b.2.2.2.2.2.2.2.2.1.name = "<init>") (hR : RT b (some .int) (some (.int r.1)) r.2 1 200) {S : Wd} {x0 : Nat} {x1 : Nat} {x2 : Int32} {x3 : Int32} {c : (Int32 × Wd) ⊕ Cs} (h : B_X9_read_1 S x0 x1 x2 x3 = some c) (hk : N_X9_read b r c) : G b 16 [(0, .ref x0), (1, .ref x1), (2, .int x2), (3, .int x3)] [] S 0 0 := by
  unfold B_X9_read_1 at h
  refine g_iload_n hC dX9_read_16 rfl ?_
  refine g_iload_n hC dX9_read_17 rfl ?_
  refine g_icmp_ge (tgt := 41) hC dX9_read_18 (by decide) (fun hc6 => ?_) (fun hc6 => ?_)
  · rw [if_pos hc6] at h
    refine g_aload_n hC dX9_read_41 rfl ?_
    obtain ⟨ho7, h⟩ := gd_some h
    obtain ⟨q8, hq9, h⟩ := Option.bind_eq_some_iff.mp h
    refine g_getr (k := 0) (q := q8) hC ck_X9 (by decide) tw_272 rfl (by decide) dX9_read_42 ho7 hq9 ?_
    refine g_aload_n hC dX9_read_45 rfl ?_
    obtain ⟨ho10, h⟩ := gd_some h
    obtain ⟨q11, hq12, h⟩ := Option.bind_eq_some_iff.mp h
    refine g_getr (k := 1) (q := q11) hC ck_X9 (by decide) tw_273 rfl (by decide) dX9_read_46 ho10 hq12 ?_
    refine g_iconst (v := (0 : Int32)) hC dX9_read_49 (by decide) ?_
    refine g_aload_n hC dX9_read_50 rfl ?_
    obtain ⟨ho13, h⟩ := gd_some h
    obtain ⟨q14, hq15, h⟩ := Option.bind_eq_some_iff.mp h
    refine g_getr (k := 1) (q := q14) hC ck_X9 (by decide) tw_273 rfl (by decide) dX9_read_51 ho13 hq15 ?_
    obtain ⟨ho16, h⟩ := gd_some h
    refine g_alen hC dX9_read_54 ho16 ?_
    obtain ⟨ho19, h⟩ := gd_some h
    obtain ⟨S18, hr17, h⟩ := Option.bind_eq_some_iff.mp h
    refine g_callV (rest := []) hC mi_X3_keep (k_X3_keep hr17) ck_X3.1 (by decide) ho19 tw_858 tw_368 tw_369 dX9_read_55 rfl rfl ⟨by decide, by decide⟩ (Nat.le_of_ble_eq_true rfl) ⟨by decide, by decide⟩ ?_
    refine g_aload_n hC dX9_read_58 rfl ?_
    obtain ⟨ho20, h⟩ := gd_some h
    obtain ⟨q21, hq22, h⟩ := Option.bind_eq_some_iff.mp h
    refine g_getr (k := 1) (q := q21) hC ck_X9 (by decide) tw_273 rfl (by decide) dX9_read_59 ho20 hq22 ?_
    refine g_iconst (v := (0 : Int32)) hC dX9_read_62 (by decide) ?_
    refine g_iload_n hC dX9_read_63 rfl ?_
    obtain ⟨hx23, h⟩ := gd_some h
    refine g_iast hC dX9_read_64 hx23.1 hx23.2 ?_
    refine g_name (fun S24 eS25 => ?_)
    have h := ltS_use eS25 h
    refine g_iconst (v := (0 : Int32)) hC dX9_read_65 (by decide) ?_
    refine g_istore_n (L' := [(3, .int (0 : Int32)), (0, .ref x0), (1, .ref x1), (2, .int x2)]) hC dX9_read_66 (by decide) rfl ?_
    cases h
    refine g_pick (L' := [(0, .ref x0), (1, .ref x1), (2, .int x2), (3, .int (0 : Int32))]) [1, 2, 3, 0] rfl ?_
    exact hk _ _ _ _ _ rfl
  · rw [if_neg hc6] at h
    refine g_aload_n hC dX9_read_21 rfl ?_
    refine g_iload_n hC dX9_read_22 rfl ?_
    obtain ⟨ho28, h⟩ := gd_some h
    obtain ⟨r29, S27, hr26, h⟩ := bd2_some h
    refine g_callV (rest := []) hC mi_X7_at (k_X7_at hr26) ck_X7.1 (by decide) ho28 tw_849 tw_850 tw_851 dX9_read_23 rfl rfl ⟨by decide, by decide⟩ (Nat.le_of_ble_eq_true rfl) ⟨by decide, by decide⟩ ?_
    obtain ⟨r32, S31, hr30, h⟩ := bd2_some h
    refine g_callS (rest := []) hC mi_X9_isSign (k_X9_isSign hr30) tw_853 tw_854 dX9_read_26 rfl rfl ⟨by decide, by decide⟩ (Nat.le_of_ble_eq_true rfl) ⟨by decide, by decide⟩ ?_
    refine g_if_ne (tgt := 35) hC dX9_read_29 (by decide) (fun hc33 => ?_) (fun hc33 => ?_)
    · rw [if_neg hc33] at h
      refine g_iinc (v := (1 : Int32)) (L' := [(3, .int (x3 + (1 : Int32))), (0, .ref x0), (1, .ref x1), (2, .int x2)]) hC dX9_read_35 rfl (by decide) (by decide) rfl ?_
      refine g_goto (tgt := 16) hC dX9_read_38 (by decide) ?_
      cases h
      refine g_pick (L' := [(0, .ref x0), (1, .ref x1), (2, .int x2), (3, .int (x3 + (1 : Int32)))]) [1, 2, 3, 0] rfl ?_
      exact hk _ _ _ _ _ rfl
    · rw [if_pos hc33] at h
      refine g_ldc hC tw_857 dX9_read_32 ?_
      cases h
      subst hk
      exact g_iret hC hR dX9_read_34 (by decide) (by decide)
set_option maxRecDepth 100000 in
set_option maxHeartbeats 4000000 in
theorem w_X9_read_2 {b : Bd} {r : Int32 × Wd} (hC : CX b yX9_read.cls cX9_read 4 { frames := 4, cells := 1, slots := 200, locals := 99 }) (hin : yX9_read.name = "<init>" → b.2.2.2.2.2.2.2.2.1.name = "<init>") (hR : RT b (some .int) (some (.int r.1)) r.2 1 200) {S : Wd} {x0 : Nat} {x1 : Nat} {x2 : Int32} {x3 : Int32} {c : (Int32 × Wd) ⊕ Cs} (h : B_X9_read_2 S x0 x1 x2 x3 = some c) (hk : N_X9_read b r c) : G b 67 [(0, .ref x0), (1, .ref x1), (2, .int x2), (3, .int x3)] [] S 1 200 := by
  unfold B_X9_read_2 at h
  refine g_iload_n hC dX9_read_67 rfl ?_
  refine g_iload_n hC dX9_read_68 rfl ?_
  refine g_icmp_ge (tgt := 91) hC dX9_read_69 (by decide) (fun hc34 => ?_) (fun hc34 => ?_)
  · rw [if_pos hc34] at h
    refine g_iload_n hC dX9_read_91 rfl ?_
    cases h
    subst hk
    exact g_iret hC hR dX9_read_92 (by decide) (by decide)
  · rw [if_neg hc34] at h
    refine g_aload_n hC dX9_read_72 rfl ?_
    obtain ⟨ho35, h⟩ := gd_some h
    obtain ⟨q36, hq37, h⟩ := Option.bind_eq_some_iff.mp h
    refine g_getr (k := 1) (q := q36) hC ck_X9 (by decide) tw_273 rfl (by decide) dX9_read_73 ho35 hq37 ?_
    refine g_iload_n hC dX9_read_76 rfl ?_
    refine g_iconst (v := (1 : Int32)) hC dX9_read_77 (by decide) ?_
    refine g_iadd hC dX9_read_78 ?_
    refine g_aload_n hC dX9_read_79 rfl ?_
    refine g_iload_n hC dX9_read_80 rfl ?_
    obtain ⟨ho40, h⟩ := gd_some h
    obtain ⟨r41, S39, hr38, h⟩ := bd2_some h
    refine g_callV (rest := [.int (x3 + (1 : Int32)), .ref q36]) hC mi_X7_at (k_X7_at hr38) ck_X7.1 (by decide) ho40 tw_849 tw_850 tw_851 dX9_read_81 rfl rfl ⟨by decide, by decide⟩ (Nat.le_of_ble_eq_true rfl) ⟨by decide, by decide⟩ ?_
    obtain ⟨hx42, h⟩ := gd_some h
    refine g_iast hC dX9_read_84 hx42.1 hx42.2 ?_
    refine g_name (fun S43 eS44 => ?_)
    have h := ltS_use eS44 h
    refine g_iinc (v := (1 : Int32)) (L' := [(3, .int (x3 + (1 : Int32))), (0, .ref x0), (1, .ref x1), (2, .int x2)]) hC dX9_read_85 rfl (by decide) (by decide) rfl ?_
    refine g_goto (tgt := 67) hC dX9_read_88 (by decide) ?_
    cases h
    refine g_pick (L' := [(0, .ref x0), (1, .ref x1), (2, .int x2), (3, .int (x3 + (1 : Int32)))]) [1, 2, 3, 0] rfl ?_
    exact hk _ _ _ _ _ rfl
theorem w_X9_read {b : Bd} {r : Int32 × Wd} (hC : CX b yX9_read.cls cX9_read 4 { frames := 4, cells := 1, slots := 200, locals := 99 }) (hin : yX9_read.name = "<init>" → b.2.2.2.2.2.2.2.2.1.name = "<init>") (hR : RT b (some .int) (some (.int r.1)) r.2 1 200) {s : Cs} {c : (Int32 × Wd) ⊕ Cs} (h : B_X9_read s = some c) (hk : N_X9_read b r c) : ∀ pc L S kc ks, P_X9_read s = some (pc, L, S, kc, ks) → G b pc L [] S kc ks := by
  intro pc L S kc ks hp
  unfold B_X9_read at h
  split at h
  · cases hp
    exact w_X9_read_0 hC hin hR h hk
  · cases hp
    exact w_X9_read_1 hC hin hR h hk
  · cases hp
    exact w_X9_read_2 hC hin hR h hk
  · cases h
theorem k_X9_read {S : Wd} {a0 : Nat} {a1 : Nat} {r : Int32} {S' : Wd} (h : f_X9_read S a0 a1 = some (r, S')) : Sp yX9_read cX9_read 4 (some .int) 4 99 1 200 [.ref a0, .ref a1] S (some (.int r)) S' := by
  unfold f_X9_read at h
  refine Sp.of (by decide +kernel) (Nat.le_of_ble_eq_true rfl) ?_
  intro b hC hin hR
  exact ru_ind (P := fun s q0 => q0 = (r, S') → ∀ pc L S kc ks, P_X9_read s = some (pc, L, S, kc, ks) → G b pc L [] S kc ks) (fun s q0 hB e => w_X9_read (r := (r, S')) hC hin hR hB e) (fun s s' q0 hB ih e => w_X9_read (r := (r, S')) hC hin hR hB (ih e)) h rfl _ _ _ _ _ rfl

theorem mi_X11_text : MI yX11_text cX11_text 2 (some .int) 1 := ⟨tw_831, tw_1, by decide +kernel, by decide +kernel, by decide +kernel⟩
noncomputable def f_X11_text (S : Wd) (a0 : Nat) (a1 : Int32) : Option (Int32 × Wd) := bd2 (f_X11_isSheet S a1) (fun r3 S2 => if r3 = 0 then (gd (ob S2 a0 11) (bd2 (f_X11_told S2 a0 (-100001 : Int32)) (fun r40 S38 => some (r40, S38)))) else (gd (ob S2 a0 11) (Option.bind (wO S2 a0 11) (fun q6 => gd (ix S2 q6 102 a1) (Option.bind (wO S2 q6 a1.toNatClampNeg) (fun q9 => gd (ob S2 q9 7) (bd2 (f_X7_isMissing S2 q9) (fun r14 S12 => if r14 = 0 then (gd (ob S12 a0 11) (Option.bind (wO S12 a0 10) (fun q17 => gd (ob S12 a0 11) (Option.bind (wO S12 a0 11) (fun q20 => gd (ix S12 q20 102 a1) (Option.bind (wO S12 q20 a1.toNatClampNeg) (fun q23 => gd (ob S12 q17 9) (bd2 (f_X9_read S12 q17 q23) (fun r28 S26 => gd (ob S26 a0 11) (bd2 (f_X11_told S26 a0 r28) (fun r32 S30 => some (r32, S30)))))))))))) else (gd (ob S12 a0 11) (bd2 (f_X11_told S12 a0 (-100002 : Int32)) (fun r36 S34 => some (r36, S34))))))))))))
set_option maxRecDepth 100000 in
set_option maxHeartbeats 4000000 in
theorem k_X11_text {S : Wd} {a0 : Nat} {a1 : Int32} {r : Int32} {S' : Wd} (h : f_X11_text S a0 a1 = some (r, S')) : Sp yX11_text cX11_text 2 (some .int) 5 122 1 200 [.ref a0, .int a1] S (some (.int r)) S' := by
  unfold f_X11_text at h
  refine Sp.of (by decide +kernel) (Nat.le_of_ble_eq_true rfl) ?_
  intro b hC hin hR
  show G b 0 [(0, .ref a0), (1, .int a1)] [] S 0 0
  refine g_iload_n hC dX11_text_0 rfl ?_
  obtain ⟨r3, S2, hr1, h⟩ := bd2_some h
  refine g_callS (rest := []) hC mi_X11_isSheet (k_X11_isSheet hr1) tw_832 tw_833 dX11_text_1 rfl rfl ⟨by decide, by decide⟩ (Nat.le_of_ble_eq_true rfl) ⟨by decide, by decide⟩ ?_
  refine g_if_ne (tgt := 14) hC dX11_text_4 (by decide) (fun hc4 => ?_) (fun hc4 => ?_)
  · rw [if_neg hc4] at h
    refine g_aload_n hC dX11_text_14 rfl ?_
    obtain ⟨ho5, h⟩ := gd_some h
    obtain ⟨q6, hq7, h⟩ := Option.bind_eq_some_iff.mp h
    refine g_getr (k := 11) (q := q6) hC ck_X11 (by decide) tw_313 rfl (by decide) dX11_text_15 ho5 hq7 ?_
    refine g_iload_n hC dX11_text_18 rfl ?_
    obtain ⟨hx8, h⟩ := gd_some h
    obtain ⟨q9, hq10, h⟩ := Option.bind_eq_some_iff.mp h
    refine g_aald2 hC dX11_text_19 hx8.1 hx8.2 hq10 ?_
    obtain ⟨ho13, h⟩ := gd_some h
    obtain ⟨r14, S12, hr11, h⟩ := bd2_some h
    refine g_callV (rest := []) hC mi_X7_isMissing (k_X7_isMissing hr11) ck_X7.1 (by decide) ho13 tw_835 tw_836 tw_837 dX11_text_20 rfl rfl ⟨by decide, by decide⟩ (Nat.le_of_ble_eq_true rfl) ⟨by decide, by decide⟩ ?_
    refine g_if_eq (tgt := 33) hC dX11_text_23 (by decide) (fun hc15 => ?_) (fun hc15 => ?_)
    · rw [if_pos hc15] at h
      refine g_aload_n hC dX11_text_33 rfl ?_
      refine g_aload_n hC dX11_text_34 rfl ?_
      obtain ⟨ho16, h⟩ := gd_some h
      obtain ⟨q17, hq18, h⟩ := Option.bind_eq_some_iff.mp h
      refine g_getr (k := 10) (q := q17) hC ck_X11 (by decide) tw_312 rfl (by decide) dX11_text_35 ho16 hq18 ?_
      refine g_aload_n hC dX11_text_38 rfl ?_
      obtain ⟨ho19, h⟩ := gd_some h
      obtain ⟨q20, hq21, h⟩ := Option.bind_eq_some_iff.mp h
      refine g_getr (k := 11) (q := q20) hC ck_X11 (by decide) tw_313 rfl (by decide) dX11_text_39 ho19 hq21 ?_
      refine g_iload_n hC dX11_text_42 rfl ?_
      obtain ⟨hx22, h⟩ := gd_some h
      obtain ⟨q23, hq24, h⟩ := Option.bind_eq_some_iff.mp h
      refine g_aald2 hC dX11_text_43 hx22.1 hx22.2 hq24 ?_
      obtain ⟨ho27, h⟩ := gd_some h
      obtain ⟨r28, S26, hr25, h⟩ := bd2_some h
      refine g_callV (rest := [.ref a0]) hC mi_X9_read (k_X9_read hr25) ck_X9.1 (by decide) ho27 tw_840 tw_841 tw_842 dX11_text_44 rfl rfl ⟨by decide, by decide⟩ (Nat.le_of_ble_eq_true rfl) ⟨by decide, by decide⟩ ?_
      obtain ⟨ho31, h⟩ := gd_some h
      obtain ⟨r32, S30, hr29, h⟩ := bd2_some h
      refine g_callV (rest := []) hC mi_X11_told (k_X11_told hr29) ck_X11.1 (by decide) ho31 tw_353 tw_355 ts_0 dX11_text_47 rfl rfl ⟨by decide, by decide⟩ (Nat.le_of_ble_eq_true rfl) ⟨by decide, by decide⟩ ?_
      cases h
      exact g_iret hC hR dX11_text_50 (by decide) (by decide)
    · rw [if_neg hc15] at h
      refine g_aload_n hC dX11_text_26 rfl ?_
      refine g_ldc hC tw_839 dX11_text_27 ?_
      obtain ⟨ho35, h⟩ := gd_some h
      obtain ⟨r36, S34, hr33, h⟩ := bd2_some h
      refine g_callV (rest := []) hC mi_X11_told (k_X11_told hr33) ck_X11.1 (by decide) ho35 tw_353 tw_355 ts_0 dX11_text_29 rfl rfl ⟨by decide, by decide⟩ (Nat.le_of_ble_eq_true rfl) ⟨by decide, by decide⟩ ?_
      cases h
      exact g_iret hC hR dX11_text_32 (by decide) (by decide)
  · rw [if_pos hc4] at h
    refine g_aload_n hC dX11_text_7 rfl ?_
    refine g_ldc hC tw_352 dX11_text_8 ?_
    obtain ⟨ho39, h⟩ := gd_some h
    obtain ⟨r40, S38, hr37, h⟩ := bd2_some h
    refine g_callV (rest := []) hC mi_X11_told (k_X11_told hr37) ck_X11.1 (by decide) ho39 tw_353 tw_355 ts_0 dX11_text_10 rfl rfl ⟨by decide, by decide⟩ (Nat.le_of_ble_eq_true rfl) ⟨by decide, by decide⟩ ?_
    cases h
    exact g_iret hC hR dX11_text_13 (by decide) (by decide)

theorem mi_X9_count : MI yX9_count cX9_count 1 (some .int) 0 := ⟨tw_870, tw_12, by decide +kernel, by decide +kernel, by decide +kernel⟩
noncomputable def f_X9_count (S : Wd) (a0 : Nat) : Option (Int32 × Wd) := gd (ob S a0 9) (Option.bind (wO S a0 1) (fun q2 => gd (ix S q2 100 (0 : Int32)) (some ((mMin (mMax (wI S q2 (0 : Int32).toNatClampNeg) (0 : Int32)) (14 : Int32)), S))))
set_option maxRecDepth 100000 in
set_option maxHeartbeats 4000000 in
theorem k_X9_count {S : Wd} {a0 : Nat} {r : Int32} {S' : Wd} (h : f_X9_count S a0 = some (r, S')) : Sp yX9_count cX9_count 1 (some .int) 1 13 0 0 [.ref a0] S (some (.int r)) S' := by
  unfold f_X9_count at h
  refine Sp.of (by decide +kernel) (Nat.le_of_ble_eq_true rfl) ?_
  intro b hC hin hR
  show G b 0 [(0, .ref a0)] [] S 0 0
  refine g_aload_n hC dX9_count_0 rfl ?_
  obtain ⟨ho1, h⟩ := gd_some h
  obtain ⟨q2, hq3, h⟩ := Option.bind_eq_some_iff.mp h
  refine g_getr (k := 1) (q := q2) hC ck_X9 (by decide) tw_273 rfl (by decide) dX9_count_1 ho1 hq3 ?_
  refine g_iconst (v := (0 : Int32)) hC dX9_count_4 (by decide) ?_
  obtain ⟨hx4, h⟩ := gd_some h
  refine g_iald hC dX9_count_5 hx4.1 hx4.2 ?_
  refine g_iconst (v := (0 : Int32)) hC dX9_count_6 (by decide) ?_
  refine g_mmax (st := []) hC tw_871 tw_80 tw_5 tw_81 dX9_count_7 (by decide) (Nat.le_of_ble_eq_true rfl) (by decide) (by decide) ?_
  refine g_bipush (v := (14 : Int32)) hC dX9_count_10 (by decide) ?_
  refine g_mmin (st := []) hC tw_872 tw_364 tw_5 tw_365 dX9_count_12 (by decide) (Nat.le_of_ble_eq_true rfl) (by decide) (by decide) ?_
  cases h
  exact g_iret hC hR dX9_count_15 (by decide) (by decide)

theorem mi_X9_firstFault : MI yX9_firstFault cX9_firstFault 5 (some .int) 0 := ⟨tw_866, tw_12, by decide +kernel, by decide +kernel, by decide +kernel⟩
noncomputable def B_X9_firstFault_0 (S : Wd) (a0 : Nat) : Option ((Int32 × Wd) ⊕ Cs) := gd (ob S a0 9) (bd2 (f_X9_count S a0) (fun r4 S2 => some (.inr (1, [a0], [r4, (0 : Int32), (0 : Int32)], S2))))
noncomputable def B_X9_firstFault_1 (S : Wd) (x0 : Nat) (x1 : Int32) (x2 : Int32) (x3 : Int32) : Option ((Int32 × Wd) ⊕ Cs) := if x1 ≤ x3 then (if x1 = 0 then (some (.inl ((-1 : Int32), S))) else (if x2 = (1 : Int32) then (some (.inl ((-1 : Int32), S))) else (some (.inl (x1, S))))) else (gd (ob S x0 9) (Option.bind (wO S x0 1) (fun q9 => gd (ix S q9 100 (x3 + (1 : Int32))) (if (wI S q9 (x3 + (1 : Int32)).toNatClampNeg) < (50 : Int32) then (if (0 : Int32) = 0 then (if x2 < (5 : Int32) then (if (0 : Int32) = 0 then (some (.inr (1, [x0], [x1, (x2 + (1 : Int32)), (x3 + (1 : Int32))], S))) else (none)) else (some (.inl (x3, S)))) else (none)) else (if (1 : Int32) = 0 then (none) else (if (2 : Int32) ≤ x2 then (if (1 : Int32) = 0 then (none) else (some (.inr (1, [x0], [x1, (x2 + (-1 : Int32)), (x3 + (1 : Int32))], S)))) else (some (.inl (x3, S)))))))))
noncomputable def B_X9_firstFault : Cs → Option ((Int32 × Wd) ⊕ Cs)
  | (0, [a0], [], S) => B_X9_firstFault_0 S a0
  | (1, [x0], [x1, x2, x3], S) => B_X9_firstFault_1 S x0 x1 x2 x3
  | _ => none
def P_X9_firstFault : Cs → Option (Nat × List (Nat × Value) × Wd × Nat × Nat)
  | (0, [a0], [], S) => some (0, [(0, .ref a0)], S, 0, 0)
  | (1, [x0], [x1, x2, x3], S) => some (9, [(0, .ref x0), (1, .int x1), (2, .int x2), (3, .int x3)], S, 0, 0)
  | _ => none
noncomputable def f_X9_firstFault (S : Wd) (a0 : Nat) : Option (Int32 × Wd) := ru B_X9_firstFault (0, [a0], [], S)
abbrev N_X9_firstFault (b : Bd) (r : Int32 × Wd) (c : (Int32 × Wd) ⊕ Cs) : Prop := match c with
  | .inl r' => r' = r
  | .inr s' => ∀ pc L S kc ks, P_X9_firstFault s' = some (pc, L, S, kc, ks) → G b pc L [] S kc ks
set_option maxRecDepth 100000 in
set_option maxHeartbeats 4000000 in
theorem w_X9_firstFault_0 {b : Bd} {r : Int32 × Wd} (hC : CX b yX9_firstFault.cls cX9_firstFault 5 { frames := 2, cells := 0, slots := 0, locals := 33 }) (hin : yX9_firstFault.name = "<init>" → b.2.2.2.2.2.2.2.2.1.name = "<init>") (hR : RT b (some .int) (some (.int r.1)) r.2 0 0) {S : Wd} {a0 : Nat} {c : (Int32 × Wd) ⊕ Cs} (h : B_X9_firstFault_0 S a0 = some c) (hk : N_X9_firstFault b r c) : G b 0 [(0, .ref a0)] [] S 0 0 := by
  unfold B_X9_firstFault_0 at h
  refine g_aload_n hC dX9_firstFault_0 rfl ?_
  obtain ⟨ho3, h⟩ := gd_some h
  obtain ⟨r4, S2, hr1, h⟩ := bd2_some h
  refine g_callV (rest := []) hC mi_X9_count (k_X9_count hr1) ck_X9.1 (by decide) ho3 tw_867 tw_869 ts_22 dX9_firstFault_1 rfl rfl ⟨by decide, by decide⟩ (Nat.le_of_ble_eq_true rfl) ⟨by decide, by decide⟩ ?_
  refine g_istore_n (L' := [(1, .int r4), (0, .ref a0)]) hC dX9_firstFault_4 (by decide) rfl ?_
  refine g_iconst (v := (0 : Int32)) hC dX9_firstFault_5 (by decide) ?_
  refine g_istore_n (L' := [(2, .int (0 : Int32)), (1, .int r4), (0, .ref a0)]) hC dX9_firstFault_6 (by decide) rfl ?_
  refine g_iconst (v := (0 : Int32)) hC dX9_firstFault_7 (by decide) ?_
  refine g_istore_n (L' := [(3, .int (0 : Int32)), (2, .int (0 : Int32)), (1, .int r4), (0, .ref a0)]) hC dX9_firstFault_8 (by decide) rfl ?_
  cases h
  refine g_pick (L' := [(0, .ref a0), (1, .int r4), (2, .int (0 : Int32)), (3, .int (0 : Int32))]) [3, 2, 1, 0] rfl ?_
  exact hk _ _ _ _ _ rfl
set_option maxRecDepth 100000 in
set_option maxHeartbeats 4000000 in
theorem w_X9_firstFault_1 {b : Bd} {r : Int32 × Wd} (hC : CX b yX9_firstFault.cls cX9_firstFault 5 { frames := 2, cells := 0, slots := 0, locals := 33 }) (hin : yX9_firstFault.name = "<init>" → b.2.2.2.2.2.2.2.2.1.name = "<init>") (hR : RT b (some .int) (some (.int r.1)) r.2 0 0) {S : Wd} {x0 : Nat} {x1 : Int32} {x2 : Int32} {x3 : Int32} {c : (Int32 × Wd) ⊕ Cs} (h : B_X9_firstFault_1 S x0 x1 x2 x3 = some c) (hk : N_X9_firstFault b r c) : G b 9 [(0, .ref x0), (1, .int x1), (2, .int x2), (3, .int x3)] [] S 0 0 := by
  unfold B_X9_firstFault_1 at h
  refine g_iload_n hC dX9_firstFault_9 rfl ?_
  refine g_iload_n hC dX9_firstFault_10 rfl ?_
  refine g_icmp_ge (tgt := 73) hC dX9_firstFault_11 (by decide) (fun hc5 => ?_) (fun hc5 => ?_)
  · rw [if_pos hc5] at h
    refine g_iload_n hC dX9_firstFault_73 rfl ?_
    refine g_if_eq (tgt := 82) hC dX9_firstFault_74 (by decide) (fun hc6 => ?_) (fun hc6 => ?_)
    · rw [if_pos hc6] at h
      refine g_iconst (v := (-1 : Int32)) hC dX9_firstFault_82 (by decide) ?_
      refine g_goto (tgt := 87) hC dX9_firstFault_83 (by decide) ?_
      cases h
      subst hk
      exact g_iret hC hR dX9_firstFault_87 (by decide) (by decide)
    · rw [if_neg hc6] at h
      refine g_iload_n hC dX9_firstFault_77 rfl ?_
      refine g_iconst (v := (1 : Int32)) hC dX9_firstFault_78 (by decide) ?_
      refine g_icmp_ne (tgt := 86) hC dX9_firstFault_79 (by decide) (fun hc7 => ?_) (fun hc7 => ?_)
      · rw [if_neg hc7] at h
        refine g_iload_n hC dX9_firstFault_86 rfl ?_
        cases h
        subst hk
        exact g_iret hC hR dX9_firstFault_87 (by decide) (by decide)
      · rw [if_pos hc7] at h
        refine g_iconst (v := (-1 : Int32)) hC dX9_firstFault_82 (by decide) ?_
        refine g_goto (tgt := 87) hC dX9_firstFault_83 (by decide) ?_
        cases h
        subst hk
        exact g_iret hC hR dX9_firstFault_87 (by decide) (by decide)
  · rw [if_neg hc5] at h
    refine g_aload_n hC dX9_firstFault_14 rfl ?_
    obtain ⟨ho8, h⟩ := gd_some h
    obtain ⟨q9, hq10, h⟩ := Option.bind_eq_some_iff.mp h
    refine g_getr (k := 1) (q := q9) hC ck_X9 (by decide) tw_273 rfl (by decide) dX9_firstFault_15 ho8 hq10 ?_
    refine g_iload_n hC dX9_firstFault_18 rfl ?_
    refine g_iconst (v := (1 : Int32)) hC dX9_firstFault_19 (by decide) ?_
    refine g_iadd hC dX9_firstFault_20 ?_
    obtain ⟨hx11, h⟩ := gd_some h
    refine g_iald hC dX9_firstFault_21 hx11.1 hx11.2 ?_
    refine g_bipush (v := (50 : Int32)) hC dX9_firstFault_22 (by decide) ?_
    refine g_icmp_lt (tgt := 31) hC dX9_firstFault_24 (by decide) (fun hc12 => ?_) (fun hc12 => ?_)
    · rw [if_pos hc12] at h
      refine g_iconst (v := (0 : Int32)) hC dX9_firstFault_31 (by decide) ?_
      refine g_istore (L' := [(4, .int (0 : Int32)), (0, .ref x0), (1, .int x1), (2, .int x2), (3, .int x3)]) hC dX9_firstFault_32 (by decide) rfl ?_
      refine g_iload hC dX9_firstFault_34 rfl ?_
      refine g_if_eq (tgt := 47) hC dX9_firstFault_36 (by decide) (fun hc13 => ?_) (fun hc13 => ?_)
      · rw [if_pos hc13] at h
        refine g_iload_n hC dX9_firstFault_47 rfl ?_
        refine g_iconst (v := (5 : Int32)) hC dX9_firstFault_48 (by decide) ?_
        refine g_icmp_lt (tgt := 54) hC dX9_firstFault_49 (by decide) (fun hc14 => ?_) (fun hc14 => ?_)
        · rw [if_pos hc14] at h
          refine g_iload_n hC dX9_firstFault_54 rfl ?_
          refine g_iload hC dX9_firstFault_55 rfl ?_
          refine g_if_eq (tgt := 64) hC dX9_firstFault_57 (by decide) (fun hc15 => ?_) (fun hc15 => ?_)
          · rw [if_pos hc15] at h
            refine g_iconst (v := (1 : Int32)) hC dX9_firstFault_64 (by decide) ?_
            refine g_iadd hC dX9_firstFault_65 ?_
            refine g_istore_n (L' := [(2, .int (x2 + (1 : Int32))), (4, .int (0 : Int32)), (0, .ref x0), (1, .int x1), (3, .int x3)]) hC dX9_firstFault_66 (by decide) rfl ?_
            refine g_iinc (v := (1 : Int32)) (L' := [(3, .int (x3 + (1 : Int32))), (2, .int (x2 + (1 : Int32))), (4, .int (0 : Int32)), (0, .ref x0), (1, .int x1)]) hC dX9_firstFault_67 rfl (by decide) (by decide) rfl ?_
            refine g_goto (tgt := 9) hC dX9_firstFault_70 (by decide) ?_
            cases h
            refine g_pick (L' := [(0, .ref x0), (1, .int x1), (2, .int (x2 + (1 : Int32))), (3, .int (x3 + (1 : Int32)))]) [3, 4, 1, 0] rfl ?_
            exact hk _ _ _ _ _ rfl
          · rw [if_neg hc15] at h
            cases h
        · rw [if_neg hc14] at h
          refine g_iload_n hC dX9_firstFault_52 rfl ?_
          cases h
          subst hk
          exact g_iret hC hR dX9_firstFault_53 (by decide) (by decide)
      · rw [if_neg hc13] at h
        cases h
    · rw [if_neg hc12] at h
      refine g_iconst (v := (1 : Int32)) hC dX9_firstFault_27 (by decide) ?_
      refine g_goto (tgt := 32) hC dX9_firstFault_28 (by decide) ?_
      refine g_istore (L' := [(4, .int (1 : Int32)), (0, .ref x0), (1, .int x1), (2, .int x2), (3, .int x3)]) hC dX9_firstFault_32 (by decide) rfl ?_
      refine g_iload hC dX9_firstFault_34 rfl ?_
      refine g_if_eq (tgt := 47) hC dX9_firstFault_36 (by decide) (fun hc16 => ?_) (fun hc16 => ?_)
      · rw [if_pos hc16] at h
        cases h
      · rw [if_neg hc16] at h
        refine g_iload_n hC dX9_firstFault_39 rfl ?_
        refine g_iconst (v := (2 : Int32)) hC dX9_firstFault_40 (by decide) ?_
        refine g_icmp_ge (tgt := 54) hC dX9_firstFault_41 (by decide) (fun hc17 => ?_) (fun hc17 => ?_)
        · rw [if_pos hc17] at h
          refine g_iload_n hC dX9_firstFault_54 rfl ?_
          refine g_iload hC dX9_firstFault_55 rfl ?_
          refine g_if_eq (tgt := 64) hC dX9_firstFault_57 (by decide) (fun hc18 => ?_) (fun hc18 => ?_)
          · rw [if_pos hc18] at h
            cases h
          · rw [if_neg hc18] at h
            refine g_iconst (v := (-1 : Int32)) hC dX9_firstFault_60 (by decide) ?_
            refine g_goto (tgt := 65) hC dX9_firstFault_61 (by decide) ?_
            refine g_iadd hC dX9_firstFault_65 ?_
            refine g_istore_n (L' := [(2, .int (x2 + (-1 : Int32))), (4, .int (1 : Int32)), (0, .ref x0), (1, .int x1), (3, .int x3)]) hC dX9_firstFault_66 (by decide) rfl ?_
            refine g_iinc (v := (1 : Int32)) (L' := [(3, .int (x3 + (1 : Int32))), (2, .int (x2 + (-1 : Int32))), (4, .int (1 : Int32)), (0, .ref x0), (1, .int x1)]) hC dX9_firstFault_67 rfl (by decide) (by decide) rfl ?_
            refine g_goto (tgt := 9) hC dX9_firstFault_70 (by decide) ?_
            cases h
            refine g_pick (L' := [(0, .ref x0), (1, .int x1), (2, .int (x2 + (-1 : Int32))), (3, .int (x3 + (1 : Int32)))]) [3, 4, 1, 0] rfl ?_
            exact hk _ _ _ _ _ rfl
        · rw [if_neg hc17] at h
          refine g_goto (tgt := 52) hC dX9_firstFault_44 (by decide) ?_
          refine g_iload_n hC dX9_firstFault_52 rfl ?_
          cases h
          subst hk
          exact g_iret hC hR dX9_firstFault_53 (by decide) (by decide)
theorem w_X9_firstFault {b : Bd} {r : Int32 × Wd} (hC : CX b yX9_firstFault.cls cX9_firstFault 5 { frames := 2, cells := 0, slots := 0, locals := 33 }) (hin : yX9_firstFault.name = "<init>" → b.2.2.2.2.2.2.2.2.1.name = "<init>") (hR : RT b (some .int) (some (.int r.1)) r.2 0 0) {s : Cs} {c : (Int32 × Wd) ⊕ Cs} (h : B_X9_firstFault s = some c) (hk : N_X9_firstFault b r c) : ∀ pc L S kc ks, P_X9_firstFault s = some (pc, L, S, kc, ks) → G b pc L [] S kc ks := by
  intro pc L S kc ks hp
  unfold B_X9_firstFault at h
  split at h
  · cases hp
    exact w_X9_firstFault_0 hC hin hR h hk
  · cases hp
    exact w_X9_firstFault_1 hC hin hR h hk
  · cases h
theorem k_X9_firstFault {S : Wd} {a0 : Nat} {r : Int32} {S' : Wd} (h : f_X9_firstFault S a0 = some (r, S')) : Sp yX9_firstFault cX9_firstFault 5 (some .int) 2 33 0 0 [.ref a0] S (some (.int r)) S' := by
  unfold f_X9_firstFault at h
  refine Sp.of (by decide +kernel) (Nat.le_of_ble_eq_true rfl) ?_
  intro b hC hin hR
  exact ru_ind (P := fun s q0 => q0 = (r, S') → ∀ pc L S kc ks, P_X9_firstFault s = some (pc, L, S, kc, ks) → G b pc L [] S kc ks) (fun s q0 hB e => w_X9_firstFault (r := (r, S')) hC hin hR hB e) (fun s s' q0 hB ih e => w_X9_firstFault (r := (r, S')) hC hin hR hB (ih e)) h rfl _ _ _ _ _ rfl

theorem mi_X11_wrong : MI yX11_wrong cX11_wrong 1 (some .int) 0 := ⟨tw_862, tw_1, by decide +kernel, by decide +kernel, by decide +kernel⟩
noncomputable def f_X11_wrong (S : Wd) (a0 : Nat) : Option (Int32 × Wd) := gd (ob S a0 11) (Option.bind (wO S a0 10) (fun q2 => gd (ob S q2 9) (bd2 (f_X9_firstFault S q2) (fun r7 S5 => some (r7, S5)))))
set_option maxRecDepth 100000 in
set_option maxHeartbeats 4000000 in
theorem k_X11_wrong {S : Wd} {a0 : Nat} {r : Int32} {S' : Wd} (h : f_X11_wrong S a0 = some (r, S')) : Sp yX11_wrong cX11_wrong 1 (some .int) 3 57 0 0 [.ref a0] S (some (.int r)) S' := by
  unfold f_X11_wrong at h
  refine Sp.of (by decide +kernel) (Nat.le_of_ble_eq_true rfl) ?_
  intro b hC hin hR
  show G b 0 [(0, .ref a0)] [] S 0 0
  refine g_aload_n hC dX11_wrong_0 rfl ?_
  obtain ⟨ho1, h⟩ := gd_some h
  obtain ⟨q2, hq3, h⟩ := Option.bind_eq_some_iff.mp h
  refine g_getr (k := 10) (q := q2) hC ck_X11 (by decide) tw_312 rfl (by decide) dX11_wrong_1 ho1 hq3 ?_
  obtain ⟨ho6, h⟩ := gd_some h
  obtain ⟨r7, S5, hr4, h⟩ := bd2_some h
  refine g_callV (rest := []) hC mi_X9_firstFault (k_X9_firstFault hr4) ck_X9.1 (by decide) ho6 tw_863 tw_864 tw_865 dX11_wrong_4 rfl rfl ⟨by decide, by decide⟩ (Nat.le_of_ble_eq_true rfl) ⟨by decide, by decide⟩ ?_
  cases h
  exact g_iret hC hR dX11_wrong_7 (by decide) (by decide)

theorem mi_X9_know : MI yX9_know cX9_know 3 none 2 := ⟨tw_881, tw_12, by decide +kernel, by decide +kernel, by decide +kernel⟩
noncomputable def f_X9_know (S : Wd) (a0 : Nat) (a1 : Int32) (a2 : Int32) : Option (Wd) := bd2 (f_X11_within S a1 (1 : Int32) (6 : Int32)) (fun r3 S2 => if r3 = 0 then (some S2) else (gd (ob S2 a0 9) (Option.bind (wO S2 a0 2) (fun q6 => gd (ix S2 q6 100 a1) (ltS (sI S2 q6 a1.toNatClampNeg a2) (fun S9 => some S9))))))
set_option maxRecDepth 100000 in
set_option maxHeartbeats 4000000 in
theorem k_X9_know {S : Wd} {a0 : Nat} {a1 : Int32} {a2 : Int32} {S' : Wd} (h : f_X9_know S a0 a1 a2 = some S') : Sp yX9_know cX9_know 3 none 1 22 0 0 [.ref a0, .int a1, .int a2] S none S' := by
  unfold f_X9_know at h
  refine Sp.of (by decide +kernel) (Nat.le_of_ble_eq_true rfl) ?_
  intro b hC hin hR
  show G b 0 [(0, .ref a0), (1, .int a1), (2, .int a2)] [] S 0 0
  refine g_iload_n hC dX9_know_0 rfl ?_
  refine g_iconst (v := (1 : Int32)) hC dX9_know_1 (by decide) ?_
  refine g_bipush (v := (6 : Int32)) hC dX9_know_2 (by decide) ?_
  obtain ⟨r3, S2, hr1, h⟩ := bd2_some h
  refine g_callSN (rest := []) hC mi_X11_within (k_X11_within hr1) nwm_856 tw_350 dX9_know_4 rfl rfl ⟨by decide, by decide⟩ (Nat.le_of_ble_eq_true rfl) ⟨by decide, by decide⟩ ?_
  refine g_if_eq (tgt := 17) hC dX9_know_7 (by decide) (fun hc4 => ?_) (fun hc4 => ?_)
  · rw [if_pos hc4] at h
    cases h
    exact g_vret hC hR dX9_know_17 (by decide) (by decide)
  · rw [if_neg hc4] at h
    refine g_aload_n hC dX9_know_10 rfl ?_
    obtain ⟨ho5, h⟩ := gd_some h
    obtain ⟨q6, hq7, h⟩ := Option.bind_eq_some_iff.mp h
    refine g_getr (k := 2) (q := q6) hC ck_X9 (by decide) tw_274 rfl (by decide) dX9_know_11 ho5 hq7 ?_
    refine g_iload_n hC dX9_know_14 rfl ?_
    refine g_iload_n hC dX9_know_15 rfl ?_
    obtain ⟨hx8, h⟩ := gd_some h
    refine g_iast hC dX9_know_16 hx8.1 hx8.2 ?_
    refine g_name (fun S9 eS10 => ?_)
    have h := ltS_use eS10 h
    cases h
    exact g_vret hC hR dX9_know_17 (by decide) (by decide)

theorem mi_X1_contractsOf : MI yX1_contractsOf cX1_contractsOf 4 (some .int) 1 := ⟨tw_885, tw_9, by decide +kernel, by decide +kernel, by decide +kernel⟩
noncomputable def B_X1_contractsOf_0 (S : Wd) (a0 : Nat) (a1 : Int32) : Option ((Int32 × Wd) ⊕ Cs) := some (.inr (1, [a0], [a1, (0 : Int32), (0 : Int32)], S))
noncomputable def B_X1_contractsOf_1 (S : Wd) (x0 : Nat) (x1 : Int32) (x2 : Int32) (x3 : Int32) : Option ((Int32 × Wd) ⊕ Cs) := gd (ob S x0 1) (Option.bind (wO S x0 1) (fun q2 => gd (ob S q2 8) (bd2 (f_X8_count S q2) (fun r7 S5 => if r7 ≤ x3 then (some (.inl (x2, S5))) else (gd (ob S5 x0 1) (Option.bind (wO S5 x0 1) (fun q10 => gd (ob S5 q10 8) (bd2 (f_X8_at S5 q10 x3 (0 : Int32)) (fun r15 S13 => if r15 = x1 then (some (.inr (1, [x0], [x1, (x2 + (1 : Int32)), (x3 + (1 : Int32))], S13))) else (some (.inr (1, [x0], [x1, x2, (x3 + (1 : Int32))], S13))))))))))))
noncomputable def B_X1_contractsOf : Cs → Option ((Int32 × Wd) ⊕ Cs)
  | (0, [a0], [a1], S) => B_X1_contractsOf_0 S a0 a1
  | (1, [x0], [x1, x2, x3], S) => B_X1_contractsOf_1 S x0 x1 x2 x3
  | _ => none
def P_X1_contractsOf : Cs → Option (Nat × List (Nat × Value) × Wd × Nat × Nat)
  | (0, [a0], [a1], S) => some (0, [(0, .ref a0), (1, .int a1)], S, 0, 0)
  | (1, [x0], [x1, x2, x3], S) => some (4, [(0, .ref x0), (1, .int x1), (2, .int x2), (3, .int x3)], S, 0, 0)
  | _ => none
noncomputable def f_X1_contractsOf (S : Wd) (a0 : Nat) (a1 : Int32) : Option (Int32 × Wd) := ru B_X1_contractsOf (0, [a0], [a1], S)
abbrev N_X1_contractsOf (b : Bd) (r : Int32 × Wd) (c : (Int32 × Wd) ⊕ Cs) : Prop := match c with
  | .inl r' => r' = r
  | .inr s' => ∀ pc L S kc ks, P_X1_contractsOf s' = some (pc, L, S, kc, ks) → G b pc L [] S kc ks
set_option maxRecDepth 100000 in
set_option maxHeartbeats 4000000 in
theorem w_X1_contractsOf_0 {b : Bd} {r : Int32 × Wd} (hC : CX b yX1_contractsOf.cls cX1_contractsOf 4 { frames := 2, cells := 0, slots := 0, locals := 44 }) (hin : yX1_contractsOf.name = "<init>" → b.2.2.2.2.2.2.2.2.1.name = "<init>") (hR : RT b (some .int) (some (.int r.1)) r.2 0 0) {S : Wd} {a0 : Nat} {a1 : Int32} {c : (Int32 × Wd) ⊕ Cs} (h : B_X1_contractsOf_0 S a0 a1 = some c) (hk : N_X1_contractsOf b r c) : G b 0 [(0, .ref a0), (1, .int a1)] [] S 0 0 := by
  unfold B_X1_contractsOf_0 at h
  refine g_iconst (v := (0 : Int32)) hC dX1_contractsOf_0 (by decide) ?_
  refine g_istore_n (L' := [(2, .int (0 : Int32)), (0, .ref a0), (1, .int a1)]) hC dX1_contractsOf_1 (by decide) rfl ?_
  refine g_iconst (v := (0 : Int32)) hC dX1_contractsOf_2 (by decide) ?_
  refine g_istore_n (L' := [(3, .int (0 : Int32)), (2, .int (0 : Int32)), (0, .ref a0), (1, .int a1)]) hC dX1_contractsOf_3 (by decide) rfl ?_
  cases h
  refine g_pick (L' := [(0, .ref a0), (1, .int a1), (2, .int (0 : Int32)), (3, .int (0 : Int32))]) [2, 3, 1, 0] rfl ?_
  exact hk _ _ _ _ _ rfl
set_option maxRecDepth 100000 in
set_option maxHeartbeats 4000000 in
theorem w_X1_contractsOf_1 {b : Bd} {r : Int32 × Wd} (hC : CX b yX1_contractsOf.cls cX1_contractsOf 4 { frames := 2, cells := 0, slots := 0, locals := 44 }) (hin : yX1_contractsOf.name = "<init>" → b.2.2.2.2.2.2.2.2.1.name = "<init>") (hR : RT b (some .int) (some (.int r.1)) r.2 0 0) {S : Wd} {x0 : Nat} {x1 : Int32} {x2 : Int32} {x3 : Int32} {c : (Int32 × Wd) ⊕ Cs} (h : B_X1_contractsOf_1 S x0 x1 x2 x3 = some c) (hk : N_X1_contractsOf b r c) : G b 4 [(0, .ref x0), (1, .int x1), (2, .int x2), (3, .int x3)] [] S 0 0 := by
  unfold B_X1_contractsOf_1 at h
  refine g_iload_n hC dX1_contractsOf_4 rfl ?_
  refine g_aload_n hC dX1_contractsOf_5 rfl ?_
  obtain ⟨ho1, h⟩ := gd_some h
  obtain ⟨q2, hq3, h⟩ := Option.bind_eq_some_iff.mp h
  refine g_getr (k := 1) (q := q2) hC ck_X1 (by decide) tw_208 rfl (by decide) dX1_contractsOf_6 ho1 hq3 ?_
  obtain ⟨ho6, h⟩ := gd_some h
  obtain ⟨r7, S5, hr4, h⟩ := bd2_some h
  refine g_callV (rest := [.int x3]) hC mi_X8_count (k_X8_count hr4) ck_X8.1 (by decide) ho6 tw_687 tw_452 tw_453 dX1_contractsOf_9 rfl rfl ⟨by decide, by decide⟩ (Nat.le_of_ble_eq_true rfl) ⟨by decide, by decide⟩ ?_
  refine g_icmp_ge (tgt := 37) hC dX1_contractsOf_12 (by decide) (fun hc8 => ?_) (fun hc8 => ?_)
  · rw [if_pos hc8] at h
    refine g_iload_n hC dX1_contractsOf_37 rfl ?_
    cases h
    subst hk
    exact g_iret hC hR dX1_contractsOf_38 (by decide) (by decide)
  · rw [if_neg hc8] at h
    refine g_aload_n hC dX1_contractsOf_15 rfl ?_
    obtain ⟨ho9, h⟩ := gd_some h
    obtain ⟨q10, hq11, h⟩ := Option.bind_eq_some_iff.mp h
    refine g_getr (k := 1) (q := q10) hC ck_X1 (by decide) tw_208 rfl (by decide) dX1_contractsOf_16 ho9 hq11 ?_
    refine g_iload_n hC dX1_contractsOf_19 rfl ?_
    refine g_iconst (v := (0 : Int32)) hC dX1_contractsOf_20 (by decide) ?_
    obtain ⟨ho14, h⟩ := gd_some h
    obtain ⟨r15, S13, hr12, h⟩ := bd2_some h
    refine g_callV (rest := []) hC mi_X8_at (k_X8_at hr12) ck_X8.1 (by decide) ho14 tw_688 tw_435 tw_436 dX1_contractsOf_21 rfl rfl ⟨by decide, by decide⟩ (Nat.le_of_ble_eq_true rfl) ⟨by decide, by decide⟩ ?_
    refine g_iload_n hC dX1_contractsOf_24 rfl ?_
    refine g_icmp_ne (tgt := 31) hC dX1_contractsOf_25 (by decide) (fun hc16 => ?_) (fun hc16 => ?_)
    · rw [if_neg hc16] at h
      refine g_iinc (v := (1 : Int32)) (L' := [(3, .int (x3 + (1 : Int32))), (0, .ref x0), (1, .int x1), (2, .int x2)]) hC dX1_contractsOf_31 rfl (by decide) (by decide) rfl ?_
      refine g_goto (tgt := 4) hC dX1_contractsOf_34 (by decide) ?_
      cases h
      refine g_pick (L' := [(0, .ref x0), (1, .int x1), (2, .int x2), (3, .int (x3 + (1 : Int32)))]) [1, 2, 3, 0] rfl ?_
      exact hk _ _ _ _ _ rfl
    · rw [if_pos hc16] at h
      refine g_iinc (v := (1 : Int32)) (L' := [(2, .int (x2 + (1 : Int32))), (0, .ref x0), (1, .int x1), (3, .int x3)]) hC dX1_contractsOf_28 rfl (by decide) (by decide) rfl ?_
      refine g_iinc (v := (1 : Int32)) (L' := [(3, .int (x3 + (1 : Int32))), (2, .int (x2 + (1 : Int32))), (0, .ref x0), (1, .int x1)]) hC dX1_contractsOf_31 rfl (by decide) (by decide) rfl ?_
      refine g_goto (tgt := 4) hC dX1_contractsOf_34 (by decide) ?_
      cases h
      refine g_pick (L' := [(0, .ref x0), (1, .int x1), (2, .int (x2 + (1 : Int32))), (3, .int (x3 + (1 : Int32)))]) [2, 3, 1, 0] rfl ?_
      exact hk _ _ _ _ _ rfl
theorem w_X1_contractsOf {b : Bd} {r : Int32 × Wd} (hC : CX b yX1_contractsOf.cls cX1_contractsOf 4 { frames := 2, cells := 0, slots := 0, locals := 44 }) (hin : yX1_contractsOf.name = "<init>" → b.2.2.2.2.2.2.2.2.1.name = "<init>") (hR : RT b (some .int) (some (.int r.1)) r.2 0 0) {s : Cs} {c : (Int32 × Wd) ⊕ Cs} (h : B_X1_contractsOf s = some c) (hk : N_X1_contractsOf b r c) : ∀ pc L S kc ks, P_X1_contractsOf s = some (pc, L, S, kc, ks) → G b pc L [] S kc ks := by
  intro pc L S kc ks hp
  unfold B_X1_contractsOf at h
  split at h
  · cases hp
    exact w_X1_contractsOf_0 hC hin hR h hk
  · cases hp
    exact w_X1_contractsOf_1 hC hin hR h hk
  · cases h
theorem k_X1_contractsOf {S : Wd} {a0 : Nat} {a1 : Int32} {r : Int32} {S' : Wd} (h : f_X1_contractsOf S a0 a1 = some (r, S')) : Sp yX1_contractsOf cX1_contractsOf 4 (some .int) 2 44 0 0 [.ref a0, .int a1] S (some (.int r)) S' := by
  unfold f_X1_contractsOf at h
  refine Sp.of (by decide +kernel) (Nat.le_of_ble_eq_true rfl) ?_
  intro b hC hin hR
  exact ru_ind (P := fun s q0 => q0 = (r, S') → ∀ pc L S kc ks, P_X1_contractsOf s = some (pc, L, S, kc, ks) → G b pc L [] S kc ks) (fun s q0 hB e => w_X1_contractsOf (r := (r, S')) hC hin hR hB e) (fun s s' q0 hB ih e => w_X1_contractsOf (r := (r, S')) hC hin hR hB (ih e)) h rfl _ _ _ _ _ rfl

theorem mi_X9_joined : MI yX9_joined cX9_joined 3 (some .int) 3 := ⟨tw_896, tw_12, by decide +kernel, by decide +kernel, by decide +kernel⟩
noncomputable def f_X9_joined (S : Wd) (a0 : Int32) (a1 : Int32) (a2 : Int32) : Option (Int32 × Wd) := if a0 = (50 : Int32) then (some ((a1 + a2), S)) else (if a0 = (51 : Int32) then (some ((a1 - a2), S)) else (if a0 = (52 : Int32) then (some ((a1 * a2), S)) else (if a0 = (53 : Int32) then (if a2 = 0 then (some ((0 : Int32), S)) else (gd (¬ a2 = 0) (some ((a1 / a2), S)))) else (if a0 = (54 : Int32) then (some ((mMin a1 a2), S)) else (if a0 = (55 : Int32) then (some ((mMax a1 a2), S)) else (if a2 ≤ a1 then (some ((0 : Int32), S)) else (some ((1 : Int32), S))))))))
set_option maxRecDepth 100000 in
set_option maxHeartbeats 4000000 in
theorem k_X9_joined {S : Wd} {a0 : Int32} {a1 : Int32} {a2 : Int32} {r : Int32} {S' : Wd} (h : f_X9_joined S a0 a1 a2 = some (r, S')) : Sp yX9_joined cX9_joined 3 (some .int) 1 13 0 0 [.int a0, .int a1, .int a2] S (some (.int r)) S' := by
  unfold f_X9_joined at h
  refine Sp.of (by decide +kernel) (Nat.le_of_ble_eq_true rfl) ?_
  intro b hC hin hR
  show G b 0 [(0, .int a0), (1, .int a1), (2, .int a2)] [] S 0 0
  refine g_iload_n hC dX9_joined_0 rfl ?_
  by_cases hc1 : a0 = (50 : Int32)
  · rw [if_pos hc1] at h
    refine g_tin (off := 39) (tgt := 40) hC dX9_joined_1 hc1 (by decide) (by decide) (by decide) (by decide) ?_
    refine g_iload_n hC dX9_joined_40 rfl ?_
    refine g_iload_n hC dX9_joined_41 rfl ?_
    refine g_iadd hC dX9_joined_42 ?_
    cases h
    exact g_iret hC hR dX9_joined_43 (by decide) (by decide)
  rw [if_neg hc1] at h
  by_cases hc2 : a0 = (51 : Int32)
  · rw [if_pos hc2] at h
    refine g_tin (off := 43) (tgt := 44) hC dX9_joined_1 hc2 (by decide) (by decide) (by decide) (by decide) ?_
    refine g_iload_n hC dX9_joined_44 rfl ?_
    refine g_iload_n hC dX9_joined_45 rfl ?_
    refine g_isub hC dX9_joined_46 ?_
    cases h
    exact g_iret hC hR dX9_joined_47 (by decide) (by decide)
  rw [if_neg hc2] at h
  by_cases hc3 : a0 = (52 : Int32)
  · rw [if_pos hc3] at h
    refine g_tin (off := 47) (tgt := 48) hC dX9_joined_1 hc3 (by decide) (by decide) (by decide) (by decide) ?_
    refine g_iload_n hC dX9_joined_48 rfl ?_
    refine g_iload_n hC dX9_joined_49 rfl ?_
    refine g_imul hC dX9_joined_50 ?_
    cases h
    exact g_iret hC hR dX9_joined_51 (by decide) (by decide)
  rw [if_neg hc3] at h
  by_cases hc4 : a0 = (53 : Int32)
  · rw [if_pos hc4] at h
    refine g_tin (off := 51) (tgt := 52) hC dX9_joined_1 hc4 (by decide) (by decide) (by decide) (by decide) ?_
    refine g_iload_n hC dX9_joined_52 rfl ?_
    refine g_if_ne (tgt := 60) hC dX9_joined_53 (by decide) (fun hc5 => ?_) (fun hc5 => ?_)
    · rw [if_neg hc5] at h
      refine g_iload_n hC dX9_joined_60 rfl ?_
      refine g_iload_n hC dX9_joined_61 rfl ?_
      obtain ⟨hz6, h⟩ := gd_some h
      refine g_idiv hC dX9_joined_62 hz6 ?_
      cases h
      exact g_iret hC hR dX9_joined_63 (by decide) (by decide)
    · rw [if_pos hc5] at h
      refine g_iconst (v := (0 : Int32)) hC dX9_joined_56 (by decide) ?_
      refine g_goto (tgt := 63) hC dX9_joined_57 (by decide) ?_
      cases h
      exact g_iret hC hR dX9_joined_63 (by decide) (by decide)
  rw [if_neg hc4] at h
  by_cases hc7 : a0 = (54 : Int32)
  · rw [if_pos hc7] at h
    refine g_tin (off := 63) (tgt := 64) hC dX9_joined_1 hc7 (by decide) (by decide) (by decide) (by decide) ?_
    refine g_iload_n hC dX9_joined_64 rfl ?_
    refine g_iload_n hC dX9_joined_65 rfl ?_
    refine g_mmin (st := []) hC tw_872 tw_364 tw_5 tw_365 dX9_joined_66 (by decide) (Nat.le_of_ble_eq_true rfl) (by decide) (by decide) ?_
    cases h
    exact g_iret hC hR dX9_joined_69 (by decide) (by decide)
  rw [if_neg hc7] at h
  by_cases hc8 : a0 = (55 : Int32)
  · rw [if_pos hc8] at h
    refine g_tin (off := 69) (tgt := 70) hC dX9_joined_1 hc8 (by decide) (by decide) (by decide) (by decide) ?_
    refine g_iload_n hC dX9_joined_70 rfl ?_
    refine g_iload_n hC dX9_joined_71 rfl ?_
    refine g_mmax (st := []) hC tw_871 tw_80 tw_5 tw_81 dX9_joined_72 (by decide) (Nat.le_of_ble_eq_true rfl) (by decide) (by decide) ?_
    cases h
    exact g_iret hC hR dX9_joined_75 (by decide) (by decide)
  rw [if_neg hc8] at h
  refine g_tout (tgt := 76) hC dX9_joined_1 (tout_of [(50 : Int32), (51 : Int32), (52 : Int32), (53 : Int32), (54 : Int32), (55 : Int32)] (by intro v hv; simp only [List.mem_cons, List.not_mem_nil, or_false] at hv; rcases hv with rfl | rfl | rfl | rfl | rfl | rfl <;> assumption) (by decide +kernel)) (by decide) ?_
  refine g_iload_n hC dX9_joined_76 rfl ?_
  refine g_iload_n hC dX9_joined_77 rfl ?_
  refine g_icmp_ge (tgt := 85) hC dX9_joined_78 (by decide) (fun hc9 => ?_) (fun hc9 => ?_)
  · rw [if_pos hc9] at h
    refine g_iconst (v := (0 : Int32)) hC dX9_joined_85 (by decide) ?_
    cases h
    exact g_iret hC hR dX9_joined_86 (by decide) (by decide)
  · rw [if_neg hc9] at h
    refine g_iconst (v := (1 : Int32)) hC dX9_joined_81 (by decide) ?_
    refine g_goto (tgt := 86) hC dX9_joined_82 (by decide) ?_
    cases h
    exact g_iret hC hR dX9_joined_86 (by decide) (by decide)

theorem mi_X9_single : MI yX9_single cX9_single 2 (some .int) 1 := ⟨tw_893, tw_12, by decide +kernel, by decide +kernel, by decide +kernel⟩
noncomputable def f_X9_single (S : Wd) (a0 : Nat) (a1 : Int32) : Option (Int32 × Wd) := bd2 (f_X11_within S a1 (1 : Int32) (6 : Int32)) (fun r3 S2 => if r3 = 0 then (some ((a1 - (10 : Int32)), S2)) else (gd (ob S2 a0 9) (Option.bind (wO S2 a0 2) (fun q6 => gd (ix S2 q6 100 a1) (some ((wI S2 q6 a1.toNatClampNeg), S2))))))
set_option maxRecDepth 100000 in
set_option maxHeartbeats 4000000 in
theorem k_X9_single {S : Wd} {a0 : Nat} {a1 : Int32} {r : Int32} {S' : Wd} (h : f_X9_single S a0 a1 = some (r, S')) : Sp yX9_single cX9_single 2 (some .int) 1 22 0 0 [.ref a0, .int a1] S (some (.int r)) S' := by
  unfold f_X9_single at h
  refine Sp.of (by decide +kernel) (Nat.le_of_ble_eq_true rfl) ?_
  intro b hC hin hR
  show G b 0 [(0, .ref a0), (1, .int a1)] [] S 0 0
  refine g_iload_n hC dX9_single_0 rfl ?_
  refine g_iconst (v := (1 : Int32)) hC dX9_single_1 (by decide) ?_
  refine g_bipush (v := (6 : Int32)) hC dX9_single_2 (by decide) ?_
  obtain ⟨r3, S2, hr1, h⟩ := bd2_some h
  refine g_callSN (rest := []) hC mi_X11_within (k_X11_within hr1) nwm_856 tw_350 dX9_single_4 rfl rfl ⟨by decide, by decide⟩ (Nat.le_of_ble_eq_true rfl) ⟨by decide, by decide⟩ ?_
  refine g_if_eq (tgt := 19) hC dX9_single_7 (by decide) (fun hc4 => ?_) (fun hc4 => ?_)
  · rw [if_pos hc4] at h
    refine g_iload_n hC dX9_single_19 rfl ?_
    refine g_bipush (v := (10 : Int32)) hC dX9_single_20 (by decide) ?_
    refine g_isub hC dX9_single_22 ?_
    cases h
    exact g_iret hC hR dX9_single_23 (by decide) (by decide)
  · rw [if_neg hc4] at h
    refine g_aload_n hC dX9_single_10 rfl ?_
    obtain ⟨ho5, h⟩ := gd_some h
    obtain ⟨q6, hq7, h⟩ := Option.bind_eq_some_iff.mp h
    refine g_getr (k := 2) (q := q6) hC ck_X9 (by decide) tw_274 rfl (by decide) dX9_single_11 ho5 hq7 ?_
    refine g_iload_n hC dX9_single_14 rfl ?_
    obtain ⟨hx8, h⟩ := gd_some h
    refine g_iald hC dX9_single_15 hx8.1 hx8.2 ?_
    refine g_goto (tgt := 23) hC dX9_single_16 (by decide) ?_
    cases h
    exact g_iret hC hR dX9_single_23 (by decide) (by decide)

theorem mi_X9_workOut : MI yX9_workOut cX9_workOut 5 (some .int) 0 := ⟨tw_889, tw_12, by decide +kernel, by decide +kernel, by decide +kernel⟩
noncomputable def B_X9_workOut_0 (S : Wd) (a0 : Nat) : Option ((Int32 × Wd) ⊕ Cs) := gd (ob S a0 9) (bd2 (f_X9_count S a0) (fun r4 S2 => some (.inr (1, [a0], [r4, (0 : Int32), (0 : Int32)], S2))))
noncomputable def B_X9_workOut_1 (S : Wd) (x0 : Nat) (x1 : Int32) (x2 : Int32) (x3 : Int32) : Option ((Int32 × Wd) ⊕ Cs) := if x1 ≤ x3 then (if x1 = 0 then (some (.inl ((0 : Int32), S))) else (gd (ob S x0 9) (Option.bind (wO S x0 3) (fun q8 => gd (ix S q8 100 (0 : Int32)) (some (.inl ((wI S q8 (0 : Int32).toNatClampNeg), S))))))) else (gd (ob S x0 9) (Option.bind (wO S x0 1) (fun q12 => gd (ix S q12 100 (x3 + (1 : Int32))) (if (50 : Int32) ≤ (wI S q12 (x3 + (1 : Int32)).toNatClampNeg) then (if (wI S q12 (x3 + (1 : Int32)).toNatClampNeg) < (50 : Int32) then (some (.inr (1, [x0], [x1, x2, (x3 + (1 : Int32))], S))) else (if x2 < (2 : Int32) then (some (.inr (1, [x0], [x1, x2, (x3 + (1 : Int32))], S))) else (gd (ob S x0 9) (Option.bind (wO S x0 3) (fun q19 => gd (ob S x0 9) (Option.bind (wO S x0 3) (fun q22 => gd (ix S q22 100 ((x2 + (-1 : Int32)) - (1 : Int32))) (gd (ob S x0 9) (Option.bind (wO S x0 3) (fun q26 => gd (ix S q26 100 (x2 + (-1 : Int32))) (bd2 (f_X9_joined S (wI S q12 (x3 + (1 : Int32)).toNatClampNeg) (wI S q22 ((x2 + (-1 : Int32)) - (1 : Int32)).toNatClampNeg) (wI S q26 (x2 + (-1 : Int32)).toNatClampNeg)) (fun r31 S30 => gd (ix S30 q19 100 ((x2 + (-1 : Int32)) - (1 : Int32))) (ltS (sI S30 q19 ((x2 + (-1 : Int32)) - (1 : Int32)).toNatClampNeg r31) (fun S33 => some (.inr (1, [x0], [x1, (x2 + (-1 : Int32)), (x3 + (1 : Int32))], S33)))))))))))))))) else (if (5 : Int32) ≤ x2 then (if (wI S q12 (x3 + (1 : Int32)).toNatClampNeg) < (50 : Int32) then (some (.inr (1, [x0], [x1, x2, (x3 + (1 : Int32))], S))) else (if x2 < (2 : Int32) then (some (.inr (1, [x0], [x1, x2, (x3 + (1 : Int32))], S))) else (gd (ob S x0 9) (Option.bind (wO S x0 3) (fun q39 => gd (ob S x0 9) (Option.bind (wO S x0 3) (fun q42 => gd (ix S q42 100 ((x2 + (-1 : Int32)) - (1 : Int32))) (gd (ob S x0 9) (Option.bind (wO S x0 3) (fun q46 => gd (ix S q46 100 (x2 + (-1 : Int32))) (bd2 (f_X9_joined S (wI S q12 (x3 + (1 : Int32)).toNatClampNeg) (wI S q42 ((x2 + (-1 : Int32)) - (1 : Int32)).toNatClampNeg) (wI S q46 (x2 + (-1 : Int32)).toNatClampNeg)) (fun r51 S50 => gd (ix S50 q39 100 ((x2 + (-1 : Int32)) - (1 : Int32))) (ltS (sI S50 q39 ((x2 + (-1 : Int32)) - (1 : Int32)).toNatClampNeg r51) (fun S53 => some (.inr (1, [x0], [x1, (x2 + (-1 : Int32)), (x3 + (1 : Int32))], S53)))))))))))))))) else (gd (ob S x0 9) (Option.bind (wO S x0 3) (fun q56 => gd (ob S x0 9) (bd2 (f_X9_single S x0 (wI S q12 (x3 + (1 : Int32)).toNatClampNeg)) (fun r61 S59 => gd (ix S59 q56 100 x2) (ltS (sI S59 q56 x2.toNatClampNeg r61) (fun S63 => some (.inr (1, [x0], [x1, (x2 + (1 : Int32)), (x3 + (1 : Int32))], S63))))))))))))))
noncomputable def B_X9_workOut : Cs → Option ((Int32 × Wd) ⊕ Cs)
  | (0, [a0], [], S) => B_X9_workOut_0 S a0
  | (1, [x0], [x1, x2, x3], S) => B_X9_workOut_1 S x0 x1 x2 x3
  | _ => none
def P_X9_workOut : Cs → Option (Nat × List (Nat × Value) × Wd × Nat × Nat)
  | (0, [a0], [], S) => some (0, [(0, .ref a0)], S, 0, 0)
  | (1, [x0], [x1, x2, x3], S) => some (9, [(0, .ref x0), (1, .int x1), (2, .int x2), (3, .int x3)], S, 0, 0)
  | _ => none
noncomputable def f_X9_workOut (S : Wd) (a0 : Nat) : Option (Int32 × Wd) := ru B_X9_workOut (0, [a0], [], S)
abbrev N_X9_workOut (b : Bd) (r : Int32 × Wd) (c : (Int32 × Wd) ⊕ Cs) : Prop := match c with
  | .inl r' => r' = r
  | .inr s' => ∀ pc L S kc ks, P_X9_workOut s' = some (pc, L, S, kc, ks) → G b pc L [] S kc ks
set_option maxRecDepth 100000 in
set_option maxHeartbeats 4000000 in
theorem w_X9_workOut_0 {b : Bd} {r : Int32 × Wd} (hC : CX b yX9_workOut.cls cX9_workOut 5 { frames := 2, cells := 0, slots := 0, locals := 43 }) (hin : yX9_workOut.name = "<init>" → b.2.2.2.2.2.2.2.2.1.name = "<init>") (hR : RT b (some .int) (some (.int r.1)) r.2 0 0) {S : Wd} {a0 : Nat} {c : (Int32 × Wd) ⊕ Cs} (h : B_X9_workOut_0 S a0 = some c) (hk : N_X9_workOut b r c) : G b 0 [(0, .ref a0)] [] S 0 0 := by
  unfold B_X9_workOut_0 at h
  refine g_aload_n hC dX9_workOut_0 rfl ?_
  obtain ⟨ho3, h⟩ := gd_some h
  obtain ⟨r4, S2, hr1, h⟩ := bd2_some h
  refine g_callV (rest := []) hC mi_X9_count (k_X9_count hr1) ck_X9.1 (by decide) ho3 tw_867 tw_869 ts_22 dX9_workOut_1 rfl rfl ⟨by decide, by decide⟩ (Nat.le_of_ble_eq_true rfl) ⟨by decide, by decide⟩ ?_
  refine g_istore_n (L' := [(1, .int r4), (0, .ref a0)]) hC dX9_workOut_4 (by decide) rfl ?_
  refine g_iconst (v := (0 : Int32)) hC dX9_workOut_5 (by decide) ?_
  refine g_istore_n (L' := [(2, .int (0 : Int32)), (1, .int r4), (0, .ref a0)]) hC dX9_workOut_6 (by decide) rfl ?_
  refine g_iconst (v := (0 : Int32)) hC dX9_workOut_7 (by decide) ?_
  refine g_istore_n (L' := [(3, .int (0 : Int32)), (2, .int (0 : Int32)), (1, .int r4), (0, .ref a0)]) hC dX9_workOut_8 (by decide) rfl ?_
  cases h
  refine g_pick (L' := [(0, .ref a0), (1, .int r4), (2, .int (0 : Int32)), (3, .int (0 : Int32))]) [3, 2, 1, 0] rfl ?_
  exact hk _ _ _ _ _ rfl
set_option maxRecDepth 100000 in
set_option maxHeartbeats 4000000 in
theorem w_X9_workOut_1 {b : Bd} {r : Int32 × Wd} (hC : CX b yX9_workOut.cls cX9_workOut 5 { frames := 2, cells := 0, slots := 0, locals := 43 }) (hin : yX9_workOut.name = "<init>" → b.2.2.2.2.2.2.2.2.1.name = "<init>") (hR : RT b (some .int) (some (.int r.1)) r.2 0 0) {S : Wd} {x0 : Nat} {x1 : Int32} {x2 : Int32} {x3 : Int32} {c : (Int32 × Wd) ⊕ Cs} (h : B_X9_workOut_1 S x0 x1 x2 x3 = some c) (hk : N_X9_workOut b r c) : G b 9 [(0, .ref x0), (1, .int x1), (2, .int x2), (3, .int x3)] [] S 0 0 := by
  unfold B_X9_workOut_1 at h
  refine g_iload_n hC dX9_workOut_9 rfl ?_
  refine g_iload_n hC dX9_workOut_10 rfl ?_
  refine g_icmp_ge (tgt := 102) hC dX9_workOut_11 (by decide) (fun hc5 => ?_) (fun hc5 => ?_)
  · rw [if_pos hc5] at h
    refine g_iload_n hC dX9_workOut_102 rfl ?_
    refine g_if_ne (tgt := 110) hC dX9_workOut_103 (by decide) (fun hc6 => ?_) (fun hc6 => ?_)
    · rw [if_neg hc6] at h
      refine g_aload_n hC dX9_workOut_110 rfl ?_
      obtain ⟨ho7, h⟩ := gd_some h
      obtain ⟨q8, hq9, h⟩ := Option.bind_eq_some_iff.mp h
      refine g_getr (k := 3) (q := q8) hC ck_X9 (by decide) tw_275 rfl (by decide) dX9_workOut_111 ho7 hq9 ?_
      refine g_iconst (v := (0 : Int32)) hC dX9_workOut_114 (by decide) ?_
      obtain ⟨hx10, h⟩ := gd_some h
      refine g_iald hC dX9_workOut_115 hx10.1 hx10.2 ?_
      cases h
      subst hk
      exact g_iret hC hR dX9_workOut_116 (by decide) (by decide)
    · rw [if_pos hc6] at h
      refine g_iconst (v := (0 : Int32)) hC dX9_workOut_106 (by decide) ?_
      refine g_goto (tgt := 116) hC dX9_workOut_107 (by decide) ?_
      cases h
      subst hk
      exact g_iret hC hR dX9_workOut_116 (by decide) (by decide)
  · rw [if_neg hc5] at h
    refine g_aload_n hC dX9_workOut_14 rfl ?_
    obtain ⟨ho11, h⟩ := gd_some h
    obtain ⟨q12, hq13, h⟩ := Option.bind_eq_some_iff.mp h
    refine g_getr (k := 1) (q := q12) hC ck_X9 (by decide) tw_273 rfl (by decide) dX9_workOut_15 ho11 hq13 ?_
    refine g_iload_n hC dX9_workOut_18 rfl ?_
    refine g_iconst (v := (1 : Int32)) hC dX9_workOut_19 (by decide) ?_
    refine g_iadd hC dX9_workOut_20 ?_
    obtain ⟨hx14, h⟩ := gd_some h
    refine g_iald hC dX9_workOut_21 hx14.1 hx14.2 ?_
    refine g_istore (L' := [(4, .int (wI S q12 (x3 + (1 : Int32)).toNatClampNeg)), (0, .ref x0), (1, .int x1), (2, .int x2), (3, .int x3)]) hC dX9_workOut_22 (by decide) rfl ?_
    refine g_iload hC dX9_workOut_24 rfl ?_
    refine g_bipush (v := (50 : Int32)) hC dX9_workOut_26 (by decide) ?_
    refine g_icmp_ge (tgt := 54) hC dX9_workOut_28 (by decide) (fun hc15 => ?_) (fun hc15 => ?_)
    · rw [if_pos hc15] at h
      refine g_iload hC dX9_workOut_54 rfl ?_
      refine g_bipush (v := (50 : Int32)) hC dX9_workOut_56 (by decide) ?_
      refine g_icmp_lt (tgt := 96) hC dX9_workOut_58 (by decide) (fun hc16 => ?_) (fun hc16 => ?_)
      · rw [if_pos hc16] at h
        refine g_iinc (v := (1 : Int32)) (L' := [(3, .int (x3 + (1 : Int32))), (4, .int (wI S q12 (x3 + (1 : Int32)).toNatClampNeg)), (0, .ref x0), (1, .int x1), (2, .int x2)]) hC dX9_workOut_96 rfl (by decide) (by decide) rfl ?_
        refine g_goto (tgt := 9) hC dX9_workOut_99 (by decide) ?_
        cases h
        refine g_pick (L' := [(0, .ref x0), (1, .int x1), (2, .int x2), (3, .int (x3 + (1 : Int32)))]) [2, 3, 4, 0] rfl ?_
        exact hk _ _ _ _ _ rfl
      · rw [if_neg hc16] at h
        refine g_iload_n hC dX9_workOut_61 rfl ?_
        refine g_iconst (v := (2 : Int32)) hC dX9_workOut_62 (by decide) ?_
        refine g_icmp_lt (tgt := 96) hC dX9_workOut_63 (by decide) (fun hc17 => ?_) (fun hc17 => ?_)
        · rw [if_pos hc17] at h
          refine g_iinc (v := (1 : Int32)) (L' := [(3, .int (x3 + (1 : Int32))), (4, .int (wI S q12 (x3 + (1 : Int32)).toNatClampNeg)), (0, .ref x0), (1, .int x1), (2, .int x2)]) hC dX9_workOut_96 rfl (by decide) (by decide) rfl ?_
          refine g_goto (tgt := 9) hC dX9_workOut_99 (by decide) ?_
          cases h
          refine g_pick (L' := [(0, .ref x0), (1, .int x1), (2, .int x2), (3, .int (x3 + (1 : Int32)))]) [2, 3, 4, 0] rfl ?_
          exact hk _ _ _ _ _ rfl
        · rw [if_neg hc17] at h
          refine g_iinc (v := (-1 : Int32)) (L' := [(2, .int (x2 + (-1 : Int32))), (4, .int (wI S q12 (x3 + (1 : Int32)).toNatClampNeg)), (0, .ref x0), (1, .int x1), (3, .int x3)]) hC dX9_workOut_66 rfl (by decide) (by decide) rfl ?_
          refine g_aload_n hC dX9_workOut_69 rfl ?_
          obtain ⟨ho18, h⟩ := gd_some h
          obtain ⟨q19, hq20, h⟩ := Option.bind_eq_some_iff.mp h
          refine g_getr (k := 3) (q := q19) hC ck_X9 (by decide) tw_275 rfl (by decide) dX9_workOut_70 ho18 hq20 ?_
          refine g_iload_n hC dX9_workOut_73 rfl ?_
          refine g_iconst (v := (1 : Int32)) hC dX9_workOut_74 (by decide) ?_
          refine g_isub hC dX9_workOut_75 ?_
          refine g_iload hC dX9_workOut_76 rfl ?_
          refine g_aload_n hC dX9_workOut_78 rfl ?_
          obtain ⟨ho21, h⟩ := gd_some h
          obtain ⟨q22, hq23, h⟩ := Option.bind_eq_some_iff.mp h
          refine g_getr (k := 3) (q := q22) hC ck_X9 (by decide) tw_275 rfl (by decide) dX9_workOut_79 ho21 hq23 ?_
          refine g_iload_n hC dX9_workOut_82 rfl ?_
          refine g_iconst (v := (1 : Int32)) hC dX9_workOut_83 (by decide) ?_
          refine g_isub hC dX9_workOut_84 ?_
          obtain ⟨hx24, h⟩ := gd_some h
          refine g_iald hC dX9_workOut_85 hx24.1 hx24.2 ?_
          refine g_aload_n hC dX9_workOut_86 rfl ?_
          obtain ⟨ho25, h⟩ := gd_some h
          obtain ⟨q26, hq27, h⟩ := Option.bind_eq_some_iff.mp h
          refine g_getr (k := 3) (q := q26) hC ck_X9 (by decide) tw_275 rfl (by decide) dX9_workOut_87 ho25 hq27 ?_
          refine g_iload_n hC dX9_workOut_90 rfl ?_
          obtain ⟨hx28, h⟩ := gd_some h
          refine g_iald hC dX9_workOut_91 hx28.1 hx28.2 ?_
          obtain ⟨r31, S30, hr29, h⟩ := bd2_some h
          refine g_callS (rest := [.int ((x2 + (-1 : Int32)) - (1 : Int32)), .ref q19]) hC mi_X9_joined (k_X9_joined hr29) tw_894 tw_895 dX9_workOut_92 rfl rfl ⟨by decide, by decide⟩ (Nat.le_of_ble_eq_true rfl) ⟨by decide, by decide⟩ ?_
          obtain ⟨hx32, h⟩ := gd_some h
          refine g_iast hC dX9_workOut_95 hx32.1 hx32.2 ?_
          refine g_name (fun S33 eS34 => ?_)
          have h := ltS_use eS34 h
          refine g_iinc (v := (1 : Int32)) (L' := [(3, .int (x3 + (1 : Int32))), (2, .int (x2 + (-1 : Int32))), (4, .int (wI S q12 (x3 + (1 : Int32)).toNatClampNeg)), (0, .ref x0), (1, .int x1)]) hC dX9_workOut_96 rfl (by decide) (by decide) rfl ?_
          refine g_goto (tgt := 9) hC dX9_workOut_99 (by decide) ?_
          cases h
          refine g_pick (L' := [(0, .ref x0), (1, .int x1), (2, .int (x2 + (-1 : Int32))), (3, .int (x3 + (1 : Int32)))]) [3, 4, 1, 0] rfl ?_
          exact hk _ _ _ _ _ rfl
    · rw [if_neg hc15] at h
      refine g_iload_n hC dX9_workOut_31 rfl ?_
      refine g_iconst (v := (5 : Int32)) hC dX9_workOut_32 (by decide) ?_
      refine g_icmp_ge (tgt := 54) hC dX9_workOut_33 (by decide) (fun hc35 => ?_) (fun hc35 => ?_)
      · rw [if_pos hc35] at h
        refine g_iload hC dX9_workOut_54 rfl ?_
        refine g_bipush (v := (50 : Int32)) hC dX9_workOut_56 (by decide) ?_
        refine g_icmp_lt (tgt := 96) hC dX9_workOut_58 (by decide) (fun hc36 => ?_) (fun hc36 => ?_)
        · rw [if_pos hc36] at h
          refine g_iinc (v := (1 : Int32)) (L' := [(3, .int (x3 + (1 : Int32))), (4, .int (wI S q12 (x3 + (1 : Int32)).toNatClampNeg)), (0, .ref x0), (1, .int x1), (2, .int x2)]) hC dX9_workOut_96 rfl (by decide) (by decide) rfl ?_
          refine g_goto (tgt := 9) hC dX9_workOut_99 (by decide) ?_
          cases h
          refine g_pick (L' := [(0, .ref x0), (1, .int x1), (2, .int x2), (3, .int (x3 + (1 : Int32)))]) [2, 3, 4, 0] rfl ?_
          exact hk _ _ _ _ _ rfl
        · rw [if_neg hc36] at h
          refine g_iload_n hC dX9_workOut_61 rfl ?_
          refine g_iconst (v := (2 : Int32)) hC dX9_workOut_62 (by decide) ?_
          refine g_icmp_lt (tgt := 96) hC dX9_workOut_63 (by decide) (fun hc37 => ?_) (fun hc37 => ?_)
          · rw [if_pos hc37] at h
            refine g_iinc (v := (1 : Int32)) (L' := [(3, .int (x3 + (1 : Int32))), (4, .int (wI S q12 (x3 + (1 : Int32)).toNatClampNeg)), (0, .ref x0), (1, .int x1), (2, .int x2)]) hC dX9_workOut_96 rfl (by decide) (by decide) rfl ?_
            refine g_goto (tgt := 9) hC dX9_workOut_99 (by decide) ?_
            cases h
            refine g_pick (L' := [(0, .ref x0), (1, .int x1), (2, .int x2), (3, .int (x3 + (1 : Int32)))]) [2, 3, 4, 0] rfl ?_
            exact hk _ _ _ _ _ rfl
          · rw [if_neg hc37] at h
            refine g_iinc (v := (-1 : Int32)) (L' := [(2, .int (x2 + (-1 : Int32))), (4, .int (wI S q12 (x3 + (1 : Int32)).toNatClampNeg)), (0, .ref x0), (1, .int x1), (3, .int x3)]) hC dX9_workOut_66 rfl (by decide) (by decide) rfl ?_
            refine g_aload_n hC dX9_workOut_69 rfl ?_
            obtain ⟨ho38, h⟩ := gd_some h
            obtain ⟨q39, hq40, h⟩ := Option.bind_eq_some_iff.mp h
            refine g_getr (k := 3) (q := q39) hC ck_X9 (by decide) tw_275 rfl (by decide) dX9_workOut_70 ho38 hq40 ?_
            refine g_iload_n hC dX9_workOut_73 rfl ?_
            refine g_iconst (v := (1 : Int32)) hC dX9_workOut_74 (by decide) ?_
            refine g_isub hC dX9_workOut_75 ?_
            refine g_iload hC dX9_workOut_76 rfl ?_
            refine g_aload_n hC dX9_workOut_78 rfl ?_
            obtain ⟨ho41, h⟩ := gd_some h
            obtain ⟨q42, hq43, h⟩ := Option.bind_eq_some_iff.mp h
            refine g_getr (k := 3) (q := q42) hC ck_X9 (by decide) tw_275 rfl (by decide) dX9_workOut_79 ho41 hq43 ?_
            refine g_iload_n hC dX9_workOut_82 rfl ?_
            refine g_iconst (v := (1 : Int32)) hC dX9_workOut_83 (by decide) ?_
            refine g_isub hC dX9_workOut_84 ?_
            obtain ⟨hx44, h⟩ := gd_some h
            refine g_iald hC dX9_workOut_85 hx44.1 hx44.2 ?_
            refine g_aload_n hC dX9_workOut_86 rfl ?_
            obtain ⟨ho45, h⟩ := gd_some h
            obtain ⟨q46, hq47, h⟩ := Option.bind_eq_some_iff.mp h
            refine g_getr (k := 3) (q := q46) hC ck_X9 (by decide) tw_275 rfl (by decide) dX9_workOut_87 ho45 hq47 ?_
            refine g_iload_n hC dX9_workOut_90 rfl ?_
            obtain ⟨hx48, h⟩ := gd_some h
            refine g_iald hC dX9_workOut_91 hx48.1 hx48.2 ?_
            obtain ⟨r51, S50, hr49, h⟩ := bd2_some h
            refine g_callS (rest := [.int ((x2 + (-1 : Int32)) - (1 : Int32)), .ref q39]) hC mi_X9_joined (k_X9_joined hr49) tw_894 tw_895 dX9_workOut_92 rfl rfl ⟨by decide, by decide⟩ (Nat.le_of_ble_eq_true rfl) ⟨by decide, by decide⟩ ?_
            obtain ⟨hx52, h⟩ := gd_some h
            refine g_iast hC dX9_workOut_95 hx52.1 hx52.2 ?_
            refine g_name (fun S53 eS54 => ?_)
            have h := ltS_use eS54 h
            refine g_iinc (v := (1 : Int32)) (L' := [(3, .int (x3 + (1 : Int32))), (2, .int (x2 + (-1 : Int32))), (4, .int (wI S q12 (x3 + (1 : Int32)).toNatClampNeg)), (0, .ref x0), (1, .int x1)]) hC dX9_workOut_96 rfl (by decide) (by decide) rfl ?_
            refine g_goto (tgt := 9) hC dX9_workOut_99 (by decide) ?_
            cases h
            refine g_pick (L' := [(0, .ref x0), (1, .int x1), (2, .int (x2 + (-1 : Int32))), (3, .int (x3 + (1 : Int32)))]) [3, 4, 1, 0] rfl ?_
            exact hk _ _ _ _ _ rfl
      · rw [if_neg hc35] at h
        refine g_aload_n hC dX9_workOut_36 rfl ?_
        obtain ⟨ho55, h⟩ := gd_some h
        obtain ⟨q56, hq57, h⟩ := Option.bind_eq_some_iff.mp h
        refine g_getr (k := 3) (q := q56) hC ck_X9 (by decide) tw_275 rfl (by decide) dX9_workOut_37 ho55 hq57 ?_
        refine g_iload_n hC dX9_workOut_40 rfl ?_
        refine g_aload_n hC dX9_workOut_41 rfl ?_
        refine g_iload hC dX9_workOut_42 rfl ?_
        obtain ⟨ho60, h⟩ := gd_some h
        obtain ⟨r61, S59, hr58, h⟩ := bd2_some h
        refine g_callV (rest := [.int x2, .ref q56]) hC mi_X9_single (k_X9_single hr58) ck_X9.1 (by decide) ho60 tw_890 tw_892 ts_23 dX9_workOut_44 rfl rfl ⟨by decide, by decide⟩ (Nat.le_of_ble_eq_true rfl) ⟨by decide, by decide⟩ ?_
        obtain ⟨hx62, h⟩ := gd_some h
        refine g_iast hC dX9_workOut_47 hx62.1 hx62.2 ?_
        refine g_name (fun S63 eS64 => ?_)
        have h := ltS_use eS64 h
        refine g_iinc (v := (1 : Int32)) (L' := [(2, .int (x2 + (1 : Int32))), (4, .int (wI S q12 (x3 + (1 : Int32)).toNatClampNeg)), (0, .ref x0), (1, .int x1), (3, .int x3)]) hC dX9_workOut_48 rfl (by decide) (by decide) rfl ?_
        refine g_goto (tgt := 96) hC dX9_workOut_51 (by decide) ?_
        refine g_iinc (v := (1 : Int32)) (L' := [(3, .int (x3 + (1 : Int32))), (2, .int (x2 + (1 : Int32))), (4, .int (wI S q12 (x3 + (1 : Int32)).toNatClampNeg)), (0, .ref x0), (1, .int x1)]) hC dX9_workOut_96 rfl (by decide) (by decide) rfl ?_
        refine g_goto (tgt := 9) hC dX9_workOut_99 (by decide) ?_
        cases h
        refine g_pick (L' := [(0, .ref x0), (1, .int x1), (2, .int (x2 + (1 : Int32))), (3, .int (x3 + (1 : Int32)))]) [3, 4, 1, 0] rfl ?_
        exact hk _ _ _ _ _ rfl
theorem w_X9_workOut {b : Bd} {r : Int32 × Wd} (hC : CX b yX9_workOut.cls cX9_workOut 5 { frames := 2, cells := 0, slots := 0, locals := 43 }) (hin : yX9_workOut.name = "<init>" → b.2.2.2.2.2.2.2.2.1.name = "<init>") (hR : RT b (some .int) (some (.int r.1)) r.2 0 0) {s : Cs} {c : (Int32 × Wd) ⊕ Cs} (h : B_X9_workOut s = some c) (hk : N_X9_workOut b r c) : ∀ pc L S kc ks, P_X9_workOut s = some (pc, L, S, kc, ks) → G b pc L [] S kc ks := by
  intro pc L S kc ks hp
  unfold B_X9_workOut at h
  split at h
  · cases hp
    exact w_X9_workOut_0 hC hin hR h hk
  · cases hp
    exact w_X9_workOut_1 hC hin hR h hk
  · cases h
theorem k_X9_workOut {S : Wd} {a0 : Nat} {r : Int32} {S' : Wd} (h : f_X9_workOut S a0 = some (r, S')) : Sp yX9_workOut cX9_workOut 5 (some .int) 2 43 0 0 [.ref a0] S (some (.int r)) S' := by
  unfold f_X9_workOut at h
  refine Sp.of (by decide +kernel) (Nat.le_of_ble_eq_true rfl) ?_
  intro b hC hin hR
  exact ru_ind (P := fun s q0 => q0 = (r, S') → ∀ pc L S kc ks, P_X9_workOut s = some (pc, L, S, kc, ks) → G b pc L [] S kc ks) (fun s q0 hB e => w_X9_workOut (r := (r, S')) hC hin hR hB e) (fun s s' q0 hB ih e => w_X9_workOut (r := (r, S')) hC hin hR hB (ih e)) h rfl _ _ _ _ _ rfl

theorem mi_X11_claim : MI yX11_claim cX11_claim 4 (some .int) 3 := ⟨tw_876, tw_1, by decide +kernel, by decide +kernel, by decide +kernel⟩
noncomputable def f_X11_claim (S : Wd) (a0 : Nat) (a1 : Int32) (a2 : Int32) (a3 : Int32) : Option (Int32 × Wd) := gd (ob S a0 11) (Option.bind (wO S a0 3) (fun q2 => gd (ob S q2 8) (bd2 (f_X8_has S q2 a1) (fun r7 S5 => if r7 = 0 then (gd (ob S5 a0 11) (bd2 (f_X11_told S5 a0 (-100001 : Int32)) (fun r12 S10 => some (r12, S10)))) else (bd2 (f_X11_within S5 a2 (0 : Int32) (4000 : Int32)) (fun r15 S14 => if r15 = 0 then (gd (ob S14 a0 11) (bd2 (f_X11_told S14 a0 (-100001 : Int32)) (fun r20 S18 => some (r20, S18)))) else (bd2 (f_X11_isFirm S14 a3) (fun r23 S22 => if r23 = 0 then (gd (ob S22 a0 11) (bd2 (f_X11_told S22 a0 (-100001 : Int32)) (fun r131 S129 => some (r131, S129)))) else (gd (ob S22 a0 11) (Option.bind (wO S22 a0 10) (fun q26 => gd (ob S22 q26 9) (bd2 (f_X9_firstFault S22 q26) (fun r31 S29 => if r31 = (-1 : Int32) then (gd (ob S29 a0 11) (Option.bind (wO S29 a0 7) (fun q34 => gd (ob S29 q34 1) (Option.bind (f_X1_follow S29 q34 a1 a3) (fun S37 => gd (ob S37 a0 11) (Option.bind (wO S37 a0 10) (fun q40 => gd (ob S37 a0 11) (Option.bind (wO S37 a0 3) (fun q43 => gd (ob S37 q43 8) (bd2 (f_X8_at S37 q43 a1 (5 : Int32)) (fun r48 S46 => gd (ob S46 q40 9) (Option.bind (f_X9_know S46 q40 (1 : Int32) r48) (fun S50 => gd (ob S50 a0 11) (Option.bind (wO S50 a0 10) (fun q53 => gd (ob S50 q53 9) (Option.bind (f_X9_know S50 q53 (2 : Int32) a2) (fun S56 => gd (ob S56 a0 11) (Option.bind (wO S56 a0 10) (fun q59 => gd (ob S56 a0 11) (Option.bind (wO S56 a0 3) (fun q62 => gd (ob S56 q62 8) (bd2 (f_X8_at S56 q62 a1 (4 : Int32)) (fun r67 S65 => gd (ob S65 q59 9) (Option.bind (f_X9_know S65 q59 (3 : Int32) r67) (fun S69 => gd (ob S69 a0 11) (Option.bind (wO S69 a0 10) (fun q72 => gd (ob S69 a0 11) (Option.bind (wO S69 a0 3) (fun q75 => gd (ob S69 q75 8) (bd2 (f_X8_at S69 q75 a1 (2 : Int32)) (fun r80 S78 => gd (ob S78 q72 9) (Option.bind (f_X9_know S78 q72 (4 : Int32) r80) (fun S82 => gd (ob S82 a0 11) (Option.bind (wO S82 a0 10) (fun q85 => gd (ob S82 a0 11) (Option.bind (wO S82 a0 7) (fun q88 => gd (ob S82 q88 1) (bd2 (f_X1_contractsOf S82 q88 a1) (fun r93 S91 => gd (ob S91 q85 9) (Option.bind (f_X9_know S91 q85 (5 : Int32) r93) (fun S95 => gd (ob S95 a0 11) (Option.bind (wO S95 a0 10) (fun q98 => gd (ob S95 a0 11) (Option.bind (wO S95 a0 7) (fun q101 => gd (ob S95 a0 11) (Option.bind (wO S95 a0 7) (fun q104 => gd (ob S95 q104 1) (bd2 (f_X1_carrier S95 q104) (fun r109 S107 => gd (ob S107 q101 1) (bd2 (f_X1_leastTrust S107 q101 r109) (fun r113 S111 => gd (ob S111 q98 9) (Option.bind (f_X9_know S111 q98 (6 : Int32) r113) (fun S115 => gd (ob S115 a0 11) (Option.bind (wO S115 a0 10) (fun q118 => gd (ob S115 q118 9) (bd2 (f_X9_workOut S115 q118) (fun r123 S121 => some ((mMax r123 (-99999 : Int32)), S121)))))))))))))))))))))))))))))))))))))))))))))))))))))))))) else (gd (ob S29 a0 11) (bd2 (f_X11_told S29 a0 (-100008 : Int32)) (fun r127 S125 => some (r127, S125)))))))))))))))))
set_option maxRecDepth 100000 in
set_option maxHeartbeats 4000000 in
theorem k_X11_claim {S : Wd} {a0 : Nat} {a1 : Int32} {a2 : Int32} {a3 : Int32} {r : Int32} {S' : Wd} (h : f_X11_claim S a0 a1 a2 a3 = some (r, S')) : Sp yX11_claim cX11_claim 4 (some .int) 4 93 0 0 [.ref a0, .int a1, .int a2, .int a3] S (some (.int r)) S' := by
  unfold f_X11_claim at h
  refine Sp.of (by decide +kernel) (Nat.le_of_ble_eq_true rfl) ?_
  intro b hC hin hR
  show G b 0 [(0, .ref a0), (1, .int a1), (2, .int a2), (3, .int a3)] [] S 0 0
  refine g_aload_n hC dX11_claim_0 rfl ?_
  obtain ⟨ho1, h⟩ := gd_some h
  obtain ⟨q2, hq3, h⟩ := Option.bind_eq_some_iff.mp h
  refine g_getr (k := 3) (q := q2) hC ck_X11 (by decide) tw_305 rfl (by decide) dX11_claim_1 ho1 hq3 ?_
  refine g_iload_n hC dX11_claim_4 rfl ?_
  obtain ⟨ho6, h⟩ := gd_some h
  obtain ⟨r7, S5, hr4, h⟩ := bd2_some h
  refine g_callV (rest := []) hC mi_X8_has (k_X8_has hr4) ck_X8.1 (by decide) ho6 tw_430 tw_431 tw_432 dX11_claim_5 rfl rfl ⟨by decide, by decide⟩ (Nat.le_of_ble_eq_true rfl) ⟨by decide, by decide⟩ ?_
  refine g_if_eq (tgt := 29) hC dX11_claim_8 (by decide) (fun hc8 => ?_) (fun hc8 => ?_)
  · rw [if_pos hc8] at h
    refine g_aload_n hC dX11_claim_29 rfl ?_
    refine g_ldc hC tw_352 dX11_claim_30 ?_
    obtain ⟨ho11, h⟩ := gd_some h
    obtain ⟨r12, S10, hr9, h⟩ := bd2_some h
    refine g_callV (rest := []) hC mi_X11_told (k_X11_told hr9) ck_X11.1 (by decide) ho11 tw_353 tw_355 ts_0 dX11_claim_32 rfl rfl ⟨by decide, by decide⟩ (Nat.le_of_ble_eq_true rfl) ⟨by decide, by decide⟩ ?_
    cases h
    exact g_iret hC hR dX11_claim_35 (by decide) (by decide)
  · rw [if_neg hc8] at h
    refine g_iload_n hC dX11_claim_11 rfl ?_
    refine g_iconst (v := (0 : Int32)) hC dX11_claim_12 (by decide) ?_
    refine g_sipush (v := (4000 : Int32)) hC dX11_claim_13 (by decide) ?_
    obtain ⟨r15, S14, hr13, h⟩ := bd2_some h
    refine g_callS (rest := []) hC mi_X11_within (k_X11_within hr13) tw_349 tw_350 dX11_claim_16 rfl rfl ⟨by decide, by decide⟩ (Nat.le_of_ble_eq_true rfl) ⟨by decide, by decide⟩ ?_
    refine g_if_eq (tgt := 29) hC dX11_claim_19 (by decide) (fun hc16 => ?_) (fun hc16 => ?_)
    · rw [if_pos hc16] at h
      refine g_aload_n hC dX11_claim_29 rfl ?_
      refine g_ldc hC tw_352 dX11_claim_30 ?_
      obtain ⟨ho19, h⟩ := gd_some h
      obtain ⟨r20, S18, hr17, h⟩ := bd2_some h
      refine g_callV (rest := []) hC mi_X11_told (k_X11_told hr17) ck_X11.1 (by decide) ho19 tw_353 tw_355 ts_0 dX11_claim_32 rfl rfl ⟨by decide, by decide⟩ (Nat.le_of_ble_eq_true rfl) ⟨by decide, by decide⟩ ?_
      cases h
      exact g_iret hC hR dX11_claim_35 (by decide) (by decide)
    · rw [if_neg hc16] at h
      refine g_iload_n hC dX11_claim_22 rfl ?_
      obtain ⟨r23, S22, hr21, h⟩ := bd2_some h
      refine g_callS (rest := []) hC mi_X11_isFirm (k_X11_isFirm hr21) tw_667 tw_668 dX11_claim_23 rfl rfl ⟨by decide, by decide⟩ (Nat.le_of_ble_eq_true rfl) ⟨by decide, by decide⟩ ?_
      refine g_if_ne (tgt := 36) hC dX11_claim_26 (by decide) (fun hc24 => ?_) (fun hc24 => ?_)
      · rw [if_neg hc24] at h
        refine g_aload_n hC dX11_claim_36 rfl ?_
        obtain ⟨ho25, h⟩ := gd_some h
        obtain ⟨q26, hq27, h⟩ := Option.bind_eq_some_iff.mp h
        refine g_getr (k := 10) (q := q26) hC ck_X11 (by decide) tw_312 rfl (by decide) dX11_claim_37 ho25 hq27 ?_
        obtain ⟨ho30, h⟩ := gd_some h
        obtain ⟨r31, S29, hr28, h⟩ := bd2_some h
        refine g_callV (rest := []) hC mi_X9_firstFault (k_X9_firstFault hr28) ck_X9.1 (by decide) ho30 tw_863 tw_864 tw_865 dX11_claim_40 rfl rfl ⟨by decide, by decide⟩ (Nat.le_of_ble_eq_true rfl) ⟨by decide, by decide⟩ ?_
        refine g_iconst (v := (-1 : Int32)) hC dX11_claim_43 (by decide) ?_
        refine g_icmp_eq (tgt := 55) hC dX11_claim_44 (by decide) (fun hc32 => ?_) (fun hc32 => ?_)
        · rw [if_pos hc32] at h
          refine g_aload_n hC dX11_claim_55 rfl ?_
          obtain ⟨ho33, h⟩ := gd_some h
          obtain ⟨q34, hq35, h⟩ := Option.bind_eq_some_iff.mp h
          refine g_getr (k := 7) (q := q34) hC ck_X11 (by decide) tw_309 rfl (by decide) dX11_claim_56 ho33 hq35 ?_
          refine g_iload_n hC dX11_claim_59 rfl ?_
          refine g_iload_n hC dX11_claim_60 rfl ?_
          obtain ⟨ho38, h⟩ := gd_some h
          obtain ⟨S37, hr36, h⟩ := Option.bind_eq_some_iff.mp h
          refine g_callV (rest := []) hC mi_X1_follow (k_X1_follow hr36) ck_X1.1 (by decide) ho38 tw_679 tw_680 tw_681 dX11_claim_61 rfl rfl ⟨by decide, by decide⟩ (Nat.le_of_ble_eq_true rfl) ⟨by decide, by decide⟩ ?_
          refine g_aload_n hC dX11_claim_64 rfl ?_
          obtain ⟨ho39, h⟩ := gd_some h
          obtain ⟨q40, hq41, h⟩ := Option.bind_eq_some_iff.mp h
          refine g_getr (k := 10) (q := q40) hC ck_X11 (by decide) tw_312 rfl (by decide) dX11_claim_65 ho39 hq41 ?_
          refine g_iconst (v := (1 : Int32)) hC dX11_claim_68 (by decide) ?_
          refine g_aload_n hC dX11_claim_69 rfl ?_
          obtain ⟨ho42, h⟩ := gd_some h
          obtain ⟨q43, hq44, h⟩ := Option.bind_eq_some_iff.mp h
          refine g_getr (k := 3) (q := q43) hC ck_X11 (by decide) tw_305 rfl (by decide) dX11_claim_70 ho42 hq44 ?_
          refine g_iload_n hC dX11_claim_73 rfl ?_
          refine g_iconst (v := (5 : Int32)) hC dX11_claim_74 (by decide) ?_
          obtain ⟨ho47, h⟩ := gd_some h
          obtain ⟨r48, S46, hr45, h⟩ := bd2_some h
          refine g_callV (rest := [.int (1 : Int32), .ref q40]) hC mi_X8_at (k_X8_at hr45) ck_X8.1 (by decide) ho47 tw_434 tw_435 tw_436 dX11_claim_75 rfl rfl ⟨by decide, by decide⟩ (Nat.le_of_ble_eq_true rfl) ⟨by decide, by decide⟩ ?_
          obtain ⟨ho51, h⟩ := gd_some h
          obtain ⟨S50, hr49, h⟩ := Option.bind_eq_some_iff.mp h
          refine g_callV (rest := []) hC mi_X9_know (k_X9_know hr49) ck_X9.1 (by decide) ho51 tw_878 tw_879 tw_880 dX11_claim_78 rfl rfl ⟨by decide, by decide⟩ (Nat.le_of_ble_eq_true rfl) ⟨by decide, by decide⟩ ?_
          refine g_aload_n hC dX11_claim_81 rfl ?_
          obtain ⟨ho52, h⟩ := gd_some h
          obtain ⟨q53, hq54, h⟩ := Option.bind_eq_some_iff.mp h
          refine g_getr (k := 10) (q := q53) hC ck_X11 (by decide) tw_312 rfl (by decide) dX11_claim_82 ho52 hq54 ?_
          refine g_iconst (v := (2 : Int32)) hC dX11_claim_85 (by decide) ?_
          refine g_iload_n hC dX11_claim_86 rfl ?_
          obtain ⟨ho57, h⟩ := gd_some h
          obtain ⟨S56, hr55, h⟩ := Option.bind_eq_some_iff.mp h
          refine g_callV (rest := []) hC mi_X9_know (k_X9_know hr55) ck_X9.1 (by decide) ho57 tw_878 tw_879 tw_880 dX11_claim_87 rfl rfl ⟨by decide, by decide⟩ (Nat.le_of_ble_eq_true rfl) ⟨by decide, by decide⟩ ?_
          refine g_aload_n hC dX11_claim_90 rfl ?_
          obtain ⟨ho58, h⟩ := gd_some h
          obtain ⟨q59, hq60, h⟩ := Option.bind_eq_some_iff.mp h
          refine g_getr (k := 10) (q := q59) hC ck_X11 (by decide) tw_312 rfl (by decide) dX11_claim_91 ho58 hq60 ?_
          refine g_iconst (v := (3 : Int32)) hC dX11_claim_94 (by decide) ?_
          refine g_aload_n hC dX11_claim_95 rfl ?_
          obtain ⟨ho61, h⟩ := gd_some h
          obtain ⟨q62, hq63, h⟩ := Option.bind_eq_some_iff.mp h
          refine g_getr (k := 3) (q := q62) hC ck_X11 (by decide) tw_305 rfl (by decide) dX11_claim_96 ho61 hq63 ?_
          refine g_iload_n hC dX11_claim_99 rfl ?_
          refine g_iconst (v := (4 : Int32)) hC dX11_claim_100 (by decide) ?_
          obtain ⟨ho66, h⟩ := gd_some h
          obtain ⟨r67, S65, hr64, h⟩ := bd2_some h
          refine g_callV (rest := [.int (3 : Int32), .ref q59]) hC mi_X8_at (k_X8_at hr64) ck_X8.1 (by decide) ho66 tw_434 tw_435 tw_436 dX11_claim_101 rfl rfl ⟨by decide, by decide⟩ (Nat.le_of_ble_eq_true rfl) ⟨by decide, by decide⟩ ?_
          obtain ⟨ho70, h⟩ := gd_some h
          obtain ⟨S69, hr68, h⟩ := Option.bind_eq_some_iff.mp h
          refine g_callV (rest := []) hC mi_X9_know (k_X9_know hr68) ck_X9.1 (by decide) ho70 tw_878 tw_879 tw_880 dX11_claim_104 rfl rfl ⟨by decide, by decide⟩ (Nat.le_of_ble_eq_true rfl) ⟨by decide, by decide⟩ ?_
          refine g_aload_n hC dX11_claim_107 rfl ?_
          obtain ⟨ho71, h⟩ := gd_some h
          obtain ⟨q72, hq73, h⟩ := Option.bind_eq_some_iff.mp h
          refine g_getr (k := 10) (q := q72) hC ck_X11 (by decide) tw_312 rfl (by decide) dX11_claim_108 ho71 hq73 ?_
          refine g_iconst (v := (4 : Int32)) hC dX11_claim_111 (by decide) ?_
          refine g_aload_n hC dX11_claim_112 rfl ?_
          obtain ⟨ho74, h⟩ := gd_some h
          obtain ⟨q75, hq76, h⟩ := Option.bind_eq_some_iff.mp h
          refine g_getr (k := 3) (q := q75) hC ck_X11 (by decide) tw_305 rfl (by decide) dX11_claim_113 ho74 hq76 ?_
          refine g_iload_n hC dX11_claim_116 rfl ?_
          refine g_iconst (v := (2 : Int32)) hC dX11_claim_117 (by decide) ?_
          obtain ⟨ho79, h⟩ := gd_some h
          obtain ⟨r80, S78, hr77, h⟩ := bd2_some h
          refine g_callV (rest := [.int (4 : Int32), .ref q72]) hC mi_X8_at (k_X8_at hr77) ck_X8.1 (by decide) ho79 tw_434 tw_435 tw_436 dX11_claim_118 rfl rfl ⟨by decide, by decide⟩ (Nat.le_of_ble_eq_true rfl) ⟨by decide, by decide⟩ ?_
          obtain ⟨ho83, h⟩ := gd_some h
          obtain ⟨S82, hr81, h⟩ := Option.bind_eq_some_iff.mp h
          refine g_callV (rest := []) hC mi_X9_know (k_X9_know hr81) ck_X9.1 (by decide) ho83 tw_878 tw_879 tw_880 dX11_claim_121 rfl rfl ⟨by decide, by decide⟩ (Nat.le_of_ble_eq_true rfl) ⟨by decide, by decide⟩ ?_
          refine g_aload_n hC dX11_claim_124 rfl ?_
          obtain ⟨ho84, h⟩ := gd_some h
          obtain ⟨q85, hq86, h⟩ := Option.bind_eq_some_iff.mp h
          refine g_getr (k := 10) (q := q85) hC ck_X11 (by decide) tw_312 rfl (by decide) dX11_claim_125 ho84 hq86 ?_
          refine g_iconst (v := (5 : Int32)) hC dX11_claim_128 (by decide) ?_
          refine g_aload_n hC dX11_claim_129 rfl ?_
          obtain ⟨ho87, h⟩ := gd_some h
          obtain ⟨q88, hq89, h⟩ := Option.bind_eq_some_iff.mp h
          refine g_getr (k := 7) (q := q88) hC ck_X11 (by decide) tw_309 rfl (by decide) dX11_claim_130 ho87 hq89 ?_
          refine g_iload_n hC dX11_claim_133 rfl ?_
          obtain ⟨ho92, h⟩ := gd_some h
          obtain ⟨r93, S91, hr90, h⟩ := bd2_some h
          refine g_callV (rest := [.int (5 : Int32), .ref q85]) hC mi_X1_contractsOf (k_X1_contractsOf hr90) ck_X1.1 (by decide) ho92 tw_882 tw_883 tw_884 dX11_claim_134 rfl rfl ⟨by decide, by decide⟩ (Nat.le_of_ble_eq_true rfl) ⟨by decide, by decide⟩ ?_
          obtain ⟨ho96, h⟩ := gd_some h
          obtain ⟨S95, hr94, h⟩ := Option.bind_eq_some_iff.mp h
          refine g_callV (rest := []) hC mi_X9_know (k_X9_know hr94) ck_X9.1 (by decide) ho96 tw_878 tw_879 tw_880 dX11_claim_137 rfl rfl ⟨by decide, by decide⟩ (Nat.le_of_ble_eq_true rfl) ⟨by decide, by decide⟩ ?_
          refine g_aload_n hC dX11_claim_140 rfl ?_
          obtain ⟨ho97, h⟩ := gd_some h
          obtain ⟨q98, hq99, h⟩ := Option.bind_eq_some_iff.mp h
          refine g_getr (k := 10) (q := q98) hC ck_X11 (by decide) tw_312 rfl (by decide) dX11_claim_141 ho97 hq99 ?_
          refine g_bipush (v := (6 : Int32)) hC dX11_claim_144 (by decide) ?_
          refine g_aload_n hC dX11_claim_146 rfl ?_
          obtain ⟨ho100, h⟩ := gd_some h
          obtain ⟨q101, hq102, h⟩ := Option.bind_eq_some_iff.mp h
          refine g_getr (k := 7) (q := q101) hC ck_X11 (by decide) tw_309 rfl (by decide) dX11_claim_147 ho100 hq102 ?_
          refine g_aload_n hC dX11_claim_150 rfl ?_
          obtain ⟨ho103, h⟩ := gd_some h
          obtain ⟨q104, hq105, h⟩ := Option.bind_eq_some_iff.mp h
          refine g_getr (k := 7) (q := q104) hC ck_X11 (by decide) tw_309 rfl (by decide) dX11_claim_151 ho103 hq105 ?_
          obtain ⟨ho108, h⟩ := gd_some h
          obtain ⟨r109, S107, hr106, h⟩ := bd2_some h
          refine g_callV (rest := [.ref q101, .int (6 : Int32), .ref q98]) hC mi_X1_carrier (k_X1_carrier hr106) ck_X1.1 (by decide) ho108 tw_689 tw_690 tw_691 dX11_claim_154 rfl rfl ⟨by decide, by decide⟩ (Nat.le_of_ble_eq_true rfl) ⟨by decide, by decide⟩ ?_
          obtain ⟨ho112, h⟩ := gd_some h
          obtain ⟨r113, S111, hr110, h⟩ := bd2_some h
          refine g_callV (rest := [.int (6 : Int32), .ref q98]) hC mi_X1_leastTrust (k_X1_leastTrust hr110) ck_X1.1 (by decide) ho112 tw_771 tw_772 tw_773 dX11_claim_157 rfl rfl ⟨by decide, by decide⟩ (Nat.le_of_ble_eq_true rfl) ⟨by decide, by decide⟩ ?_
          obtain ⟨ho116, h⟩ := gd_some h
          obtain ⟨S115, hr114, h⟩ := Option.bind_eq_some_iff.mp h
          refine g_callV (rest := []) hC mi_X9_know (k_X9_know hr114) ck_X9.1 (by decide) ho116 tw_878 tw_879 tw_880 dX11_claim_160 rfl rfl ⟨by decide, by decide⟩ (Nat.le_of_ble_eq_true rfl) ⟨by decide, by decide⟩ ?_
          refine g_aload_n hC dX11_claim_163 rfl ?_
          obtain ⟨ho117, h⟩ := gd_some h
          obtain ⟨q118, hq119, h⟩ := Option.bind_eq_some_iff.mp h
          refine g_getr (k := 10) (q := q118) hC ck_X11 (by decide) tw_312 rfl (by decide) dX11_claim_164 ho117 hq119 ?_
          obtain ⟨ho122, h⟩ := gd_some h
          obtain ⟨r123, S121, hr120, h⟩ := bd2_some h
          refine g_callV (rest := []) hC mi_X9_workOut (k_X9_workOut hr120) ck_X9.1 (by decide) ho122 tw_886 tw_887 tw_888 dX11_claim_167 rfl rfl ⟨by decide, by decide⟩ (Nat.le_of_ble_eq_true rfl) ⟨by decide, by decide⟩ ?_
          refine g_ldcw hC tw_357 dX11_claim_170 ?_
          refine g_mmax (st := []) hC tw_897 tw_80 tw_5 tw_81 dX11_claim_173 (by decide) (Nat.le_of_ble_eq_true rfl) (by decide) (by decide) ?_
          cases h
          exact g_iret hC hR dX11_claim_176 (by decide) (by decide)
        · rw [if_neg hc32] at h
          refine g_aload_n hC dX11_claim_47 rfl ?_
          refine g_ldcw hC tw_877 dX11_claim_48 ?_
          obtain ⟨ho126, h⟩ := gd_some h
          obtain ⟨r127, S125, hr124, h⟩ := bd2_some h
          refine g_callV (rest := []) hC mi_X11_told (k_X11_told hr124) ck_X11.1 (by decide) ho126 tw_353 tw_355 ts_0 dX11_claim_51 rfl rfl ⟨by decide, by decide⟩ (Nat.le_of_ble_eq_true rfl) ⟨by decide, by decide⟩ ?_
          cases h
          exact g_iret hC hR dX11_claim_54 (by decide) (by decide)
      · rw [if_pos hc24] at h
        refine g_aload_n hC dX11_claim_29 rfl ?_
        refine g_ldc hC tw_352 dX11_claim_30 ?_
        obtain ⟨ho130, h⟩ := gd_some h
        obtain ⟨r131, S129, hr128, h⟩ := bd2_some h
        refine g_callV (rest := []) hC mi_X11_told (k_X11_told hr128) ck_X11.1 (by decide) ho130 tw_353 tw_355 ts_0 dX11_claim_32 rfl rfl ⟨by decide, by decide⟩ (Nat.le_of_ble_eq_true rfl) ⟨by decide, by decide⟩ ?_
        cases h
        exact g_iret hC hR dX11_claim_35 (by decide) (by decide)

theorem mi_X2_isOfThese : MI yX2_isOfThese cX2_isOfThese 4 (some .boolean) 2 := ⟨tw_910, tw_7, by decide +kernel, by decide +kernel, by decide +kernel⟩
noncomputable def f_X2_isOfThese (S : Wd) (a0 : Int32) (a1 : Int32) : Option (Int32 × Wd) := if a0 = 0 then (some ((1 : Int32), S)) else (bd2 (f_X2_firstOf S a0) (fun r4 S3 => bd2 (f_X2_secondOf S3 a0) (fun r7 S6 => if a0 ≤ 0 then (some ((0 : Int32), S6)) else (if r4 = r7 then (some ((0 : Int32), S6)) else (bd2 (f_X2_bitOf S6 r4) (fun r12 S11 => if (r12 &&& a1) = 0 then (some ((0 : Int32), S11)) else (if r7 = (-1 : Int32) then (some ((1 : Int32), S11)) else (bd2 (f_X2_bitOf S11 r7) (fun r17 S16 => if (r17 &&& a1) = 0 then (some ((0 : Int32), S16)) else (some ((1 : Int32), S16)))))))))))
set_option maxRecDepth 100000 in
set_option maxHeartbeats 4000000 in
theorem k_X2_isOfThese {S : Wd} {a0 : Int32} {a1 : Int32} {r : Int32} {S' : Wd} (h : f_X2_isOfThese S a0 a1 = some (r, S')) : Sp yX2_isOfThese cX2_isOfThese 4 (some .boolean) 1 20 0 0 [.int a0, .int a1] S (some (.int r)) S' := by
  unfold f_X2_isOfThese at h
  refine Sp.of (by decide +kernel) (Nat.le_of_ble_eq_true rfl) ?_
  intro b hC hin hR
  show G b 0 [(0, .int a0), (1, .int a1)] [] S 0 0
  refine g_iload_n hC dX2_isOfThese_0 rfl ?_
  refine g_if_ne (tgt := 6) hC dX2_isOfThese_1 (by decide) (fun hc1 => ?_) (fun hc1 => ?_)
  · rw [if_neg hc1] at h
    refine g_iload_n hC dX2_isOfThese_6 rfl ?_
    obtain ⟨r4, S3, hr2, h⟩ := bd2_some h
    refine g_callS (rest := []) hC mi_X2_firstOf (k_X2_firstOf hr2) tw_577 tw_578 dX2_isOfThese_7 rfl rfl ⟨by decide, by decide⟩ (Nat.le_of_ble_eq_true rfl) ⟨by decide, by decide⟩ ?_
    refine g_istore_n (L' := [(2, .int r4), (0, .int a0), (1, .int a1)]) hC dX2_isOfThese_10 (by decide) rfl ?_
    refine g_iload_n hC dX2_isOfThese_11 rfl ?_
    obtain ⟨r7, S6, hr5, h⟩ := bd2_some h
    refine g_callS (rest := []) hC mi_X2_secondOf (k_X2_secondOf hr5) tw_580 tw_581 dX2_isOfThese_12 rfl rfl ⟨by decide, by decide⟩ (Nat.le_of_ble_eq_true rfl) ⟨by decide, by decide⟩ ?_
    refine g_istore_n (L' := [(3, .int r7), (2, .int r4), (0, .int a0), (1, .int a1)]) hC dX2_isOfThese_15 (by decide) rfl ?_
    refine g_iload_n hC dX2_isOfThese_16 rfl ?_
    refine g_if_le (tgt := 52) hC dX2_isOfThese_17 (by decide) (fun hc8 => ?_) (fun hc8 => ?_)
    · rw [if_pos hc8] at h
      refine g_iconst (v := (0 : Int32)) hC dX2_isOfThese_52 (by decide) ?_
      cases h
      exact g_zret hC hR rfl dX2_isOfThese_53 (by decide) (by decide)
    · rw [if_neg hc8] at h
      refine g_iload_n hC dX2_isOfThese_20 rfl ?_
      refine g_iload_n hC dX2_isOfThese_21 rfl ?_
      refine g_icmp_eq (tgt := 52) hC dX2_isOfThese_22 (by decide) (fun hc9 => ?_) (fun hc9 => ?_)
      · rw [if_pos hc9] at h
        refine g_iconst (v := (0 : Int32)) hC dX2_isOfThese_52 (by decide) ?_
        cases h
        exact g_zret hC hR rfl dX2_isOfThese_53 (by decide) (by decide)
      · rw [if_neg hc9] at h
        refine g_iload_n hC dX2_isOfThese_25 rfl ?_
        obtain ⟨r12, S11, hr10, h⟩ := bd2_some h
        refine g_callS (rest := []) hC mi_X2_bitOf (k_X2_bitOf hr10) tw_555 tw_556 dX2_isOfThese_26 rfl rfl ⟨by decide, by decide⟩ (Nat.le_of_ble_eq_true rfl) ⟨by decide, by decide⟩ ?_
        refine g_iload_n hC dX2_isOfThese_29 rfl ?_
        refine g_iand hC dX2_isOfThese_30 ?_
        refine g_if_eq (tgt := 52) hC dX2_isOfThese_31 (by decide) (fun hc13 => ?_) (fun hc13 => ?_)
        · rw [if_pos hc13] at h
          refine g_iconst (v := (0 : Int32)) hC dX2_isOfThese_52 (by decide) ?_
          cases h
          exact g_zret hC hR rfl dX2_isOfThese_53 (by decide) (by decide)
        · rw [if_neg hc13] at h
          refine g_iload_n hC dX2_isOfThese_34 rfl ?_
          refine g_iconst (v := (-1 : Int32)) hC dX2_isOfThese_35 (by decide) ?_
          refine g_icmp_eq (tgt := 48) hC dX2_isOfThese_36 (by decide) (fun hc14 => ?_) (fun hc14 => ?_)
          · rw [if_pos hc14] at h
            refine g_iconst (v := (1 : Int32)) hC dX2_isOfThese_48 (by decide) ?_
            refine g_goto (tgt := 53) hC dX2_isOfThese_49 (by decide) ?_
            cases h
            exact g_zret hC hR rfl dX2_isOfThese_53 (by decide) (by decide)
          · rw [if_neg hc14] at h
            refine g_iload_n hC dX2_isOfThese_39 rfl ?_
            obtain ⟨r17, S16, hr15, h⟩ := bd2_some h
            refine g_callS (rest := []) hC mi_X2_bitOf (k_X2_bitOf hr15) tw_555 tw_556 dX2_isOfThese_40 rfl rfl ⟨by decide, by decide⟩ (Nat.le_of_ble_eq_true rfl) ⟨by decide, by decide⟩ ?_
            refine g_iload_n hC dX2_isOfThese_43 rfl ?_
            refine g_iand hC dX2_isOfThese_44 ?_
            refine g_if_eq (tgt := 52) hC dX2_isOfThese_45 (by decide) (fun hc18 => ?_) (fun hc18 => ?_)
            · rw [if_pos hc18] at h
              refine g_iconst (v := (0 : Int32)) hC dX2_isOfThese_52 (by decide) ?_
              cases h
              exact g_zret hC hR rfl dX2_isOfThese_53 (by decide) (by decide)
            · rw [if_neg hc18] at h
              refine g_iconst (v := (1 : Int32)) hC dX2_isOfThese_48 (by decide) ?_
              refine g_goto (tgt := 53) hC dX2_isOfThese_49 (by decide) ?_
              cases h
              exact g_zret hC hR rfl dX2_isOfThese_53 (by decide) (by decide)
  · rw [if_pos hc1] at h
    refine g_iconst (v := (1 : Int32)) hC dX2_isOfThese_4 (by decide) ?_
    cases h
    exact g_zret hC hR rfl dX2_isOfThese_5 (by decide) (by decide)

theorem mi_X2_firstDoubt : MI yX2_firstDoubt cX2_firstDoubt 7 (some .int) 1 := ⟨tw_906, tw_7, by decide +kernel, by decide +kernel, by decide +kernel⟩
noncomputable def B_X2_firstDoubt_0 (S : Wd) (a0 : Nat) (a1 : Nat) : Option ((Int32 × Wd) ⊕ Cs) := gd (ob S a0 2) (some (.inr (1, [a0, a1], [(wI S a0 11), (0 : Int32), (0 : Int32)], S)))
noncomputable def B_X2_firstDoubt_1 (S : Wd) (x0 : Nat) (x1 : Nat) (x2 : Int32) (x3 : Int32) (x4 : Int32) : Option ((Int32 × Wd) ⊕ Cs) := gd (ob S x0 2) (Option.bind (wO S x0 1) (fun q3 => gd (ob S q3 8) (bd2 (f_X8_count S q3) (fun r8 S6 => if r8 ≤ x4 then (gd (ob S6 x0 2) (bd2 (f_X2_value S6 x0) (fun r13 S11 => if x3 = r13 then (some (.inl ((-1 : Int32), S11))) else (gd (ob S11 x0 2) (Option.bind (wO S11 x0 1) (fun q16 => gd (ob S11 q16 8) (bd2 (f_X8_count S11 q16) (fun r21 S19 => some (.inl (r21, S19)))))))))) else (gd (ob S6 x1 7) (bd2 (f_X7_at S6 x1 x4) (fun r25 S23 => bd2 (f_X2_isOfThese S23 r25 x2) (fun r28 S27 => if r28 = 0 then (some (.inl (x4, S27))) else (bd2 (f_X2_loadsOf S27 r25) (fun r32 S31 => gd (ob S31 x0 2) (bd2 (f_X2_fitting S31 x0 x4) (fun r36 S34 => if (r32 &&& (r36 ^^^ (-1 : Int32))) = 0 then (gd (ob S34 x0 2) (Option.bind (wO S34 x0 3) (fun q39 => bd2 (f_X2_firstOf S34 r25) (fun r43 S42 => bd2 (f_X2_secondOf S42 r25) (fun r46 S45 => gd (ob S45 q39 0) (bd2 (f_X0_run S45 q39 x4 r43 r46) (fun r50 S48 => if r50 = 0 then (if (1 : Int32) = 0 then (none) else (if (1 : Int32) = 0 then (none) else (gd (ob S48 x0 2) (Option.bind (wO S48 x0 3) (fun q61 => gd (ob S48 q61 0) (bd2 (f_X0_value S48 q61) (fun r66 S64 => bd2 (f_X2_loadsOf S64 r25) (fun r69 S68 => some (.inr (1, [x0, x1], [(x2 &&& (r69 ^^^ (-1 : Int32))), (x3 + r66), (x4 + (1 : Int32))], S68)))))))))) else (if (0 : Int32) = 0 then (if r25 = 0 then (if (0 : Int32) = 0 then (bd2 (f_X2_loadsOf S48 r25) (fun r57 S56 => some (.inr (1, [x0, x1], [(x2 &&& (r57 ^^^ (-1 : Int32))), (x3 + (0 : Int32)), (x4 + (1 : Int32))], S56)))) else (none)) else (some (.inl (x4, S48)))) else (none))))))))) else (some (.inl (x4, S34)))))))))))))))
noncomputable def B_X2_firstDoubt : Cs → Option ((Int32 × Wd) ⊕ Cs)
  | (0, [a0, a1], [], S) => B_X2_firstDoubt_0 S a0 a1
  | (1, [x0, x1], [x2, x3, x4], S) => B_X2_firstDoubt_1 S x0 x1 x2 x3 x4
  | _ => none
def P_X2_firstDoubt : Cs → Option (Nat × List (Nat × Value) × Wd × Nat × Nat)
  | (0, [a0, a1], [], S) => some (0, [(0, .ref a0), (1, .ref a1)], S, 0, 0)
  | (1, [x0, x1], [x2, x3, x4], S) => some (10, [(0, .ref x0), (1, .ref x1), (2, .int x2), (3, .int x3), (4, .int x4)], S, 0, 0)
  | _ => none
noncomputable def f_X2_firstDoubt (S : Wd) (a0 : Nat) (a1 : Nat) : Option (Int32 × Wd) := ru B_X2_firstDoubt (0, [a0, a1], [], S)
abbrev N_X2_firstDoubt (b : Bd) (r : Int32 × Wd) (c : (Int32 × Wd) ⊕ Cs) : Prop := match c with
  | .inl r' => r' = r
  | .inr s' => ∀ pc L S kc ks, P_X2_firstDoubt s' = some (pc, L, S, kc, ks) → G b pc L [] S kc ks
set_option maxRecDepth 100000 in
set_option maxHeartbeats 4000000 in
theorem w_X2_firstDoubt_0 {b : Bd} {r : Int32 × Wd} (hC : CX b yX2_firstDoubt.cls cX2_firstDoubt 7 { frames := 4, cells := 0, slots := 0, locals := 91 }) (hin : yX2_firstDoubt.name = "<init>" → b.2.2.2.2.2.2.2.2.1.name = "<init>") (hR : RT b (some .int) (some (.int r.1)) r.2 0 0) {S : Wd} {a0 : Nat} {a1 : Nat} {c : (Int32 × Wd) ⊕ Cs} (h : B_X2_firstDoubt_0 S a0 a1 = some c) (hk : N_X2_firstDoubt b r c) : G b 0 [(0, .ref a0), (1, .ref a1)] [] S 0 0 := by
  unfold B_X2_firstDoubt_0 at h
  refine g_aload_n hC dX2_firstDoubt_0 rfl ?_
  obtain ⟨ho1, h⟩ := gd_some h
  refine g_geti (k := 11) hC ck_X2 (by decide) tw_155 rfl (by decide) dX2_firstDoubt_1 ho1 ?_
  refine g_istore_n (L' := [(2, .int (wI S a0 11)), (0, .ref a0), (1, .ref a1)]) hC dX2_firstDoubt_4 (by decide) rfl ?_
  refine g_iconst (v := (0 : Int32)) hC dX2_firstDoubt_5 (by decide) ?_
  refine g_istore_n (L' := [(3, .int (0 : Int32)), (2, .int (wI S a0 11)), (0, .ref a0), (1, .ref a1)]) hC dX2_firstDoubt_6 (by decide) rfl ?_
  refine g_iconst (v := (0 : Int32)) hC dX2_firstDoubt_7 (by decide) ?_
  refine g_istore (L' := [(4, .int (0 : Int32)), (3, .int (0 : Int32)), (2, .int (wI S a0 11)), (0, .ref a0), (1, .ref a1)]) hC dX2_firstDoubt_8 (by decide) rfl ?_
  cases h
  refine g_pick (L' := [(0, .ref a0), (1, .ref a1), (2, .int (wI S a0 11)), (3, .int (0 : Int32)), (4, .int (0 : Int32))]) [3, 4, 2, 1, 0] rfl ?_
  exact hk _ _ _ _ _ rfl
set_option maxRecDepth 100000 in
set_option maxHeartbeats 4000000 in
theorem w_X2_firstDoubt_1 {b : Bd} {r : Int32 × Wd} (hC : CX b yX2_firstDoubt.cls cX2_firstDoubt 7 { frames := 4, cells := 0, slots := 0, locals := 91 }) (hin : yX2_firstDoubt.name = "<init>" → b.2.2.2.2.2.2.2.2.1.name = "<init>") (hR : RT b (some .int) (some (.int r.1)) r.2 0 0) {S : Wd} {x0 : Nat} {x1 : Nat} {x2 : Int32} {x3 : Int32} {x4 : Int32} {c : (Int32 × Wd) ⊕ Cs} (h : B_X2_firstDoubt_1 S x0 x1 x2 x3 x4 = some c) (hk : N_X2_firstDoubt b r c) : G b 10 [(0, .ref x0), (1, .ref x1), (2, .int x2), (3, .int x3), (4, .int x4)] [] S 0 0 := by
  unfold B_X2_firstDoubt_1 at h
  refine g_iload hC dX2_firstDoubt_10 rfl ?_
  refine g_aload_n hC dX2_firstDoubt_12 rfl ?_
  obtain ⟨ho2, h⟩ := gd_some h
  obtain ⟨q3, hq4, h⟩ := Option.bind_eq_some_iff.mp h
  refine g_getr (k := 1) (q := q3) hC ck_X2 (by decide) tw_145 rfl (by decide) dX2_firstDoubt_13 ho2 hq4 ?_
  obtain ⟨ho7, h⟩ := gd_some h
  obtain ⟨r8, S6, hr5, h⟩ := bd2_some h
  refine g_callV (rest := [.int x4]) hC mi_X8_count (k_X8_count hr5) ck_X8.1 (by decide) ho7 tw_553 tw_452 tw_453 dX2_firstDoubt_16 rfl rfl ⟨by decide, by decide⟩ (Nat.le_of_ble_eq_true rfl) ⟨by decide, by decide⟩ ?_
  refine g_icmp_ge (tgt := 136) hC dX2_firstDoubt_19 (by decide) (fun hc9 => ?_) (fun hc9 => ?_)
  · rw [if_pos hc9] at h
    refine g_iload_n hC dX2_firstDoubt_136 rfl ?_
    refine g_aload_n hC dX2_firstDoubt_137 rfl ?_
    obtain ⟨ho12, h⟩ := gd_some h
    obtain ⟨r13, S11, hr10, h⟩ := bd2_some h
    refine g_callV (rest := [.int x3]) hC mi_X2_value (k_X2_value hr10) ck_X2.1 (by decide) ho12 tw_911 tw_601 tw_602 dX2_firstDoubt_138 rfl rfl ⟨by decide, by decide⟩ (Nat.le_of_ble_eq_true rfl) ⟨by decide, by decide⟩ ?_
    refine g_icmp_ne (tgt := 148) hC dX2_firstDoubt_141 (by decide) (fun hc14 => ?_) (fun hc14 => ?_)
    · rw [if_neg hc14] at h
      refine g_aload_n hC dX2_firstDoubt_148 rfl ?_
      obtain ⟨ho15, h⟩ := gd_some h
      obtain ⟨q16, hq17, h⟩ := Option.bind_eq_some_iff.mp h
      refine g_getr (k := 1) (q := q16) hC ck_X2 (by decide) tw_145 rfl (by decide) dX2_firstDoubt_149 ho15 hq17 ?_
      obtain ⟨ho20, h⟩ := gd_some h
      obtain ⟨r21, S19, hr18, h⟩ := bd2_some h
      refine g_callV (rest := []) hC mi_X8_count (k_X8_count hr18) ck_X8.1 (by decide) ho20 tw_553 tw_452 tw_453 dX2_firstDoubt_152 rfl rfl ⟨by decide, by decide⟩ (Nat.le_of_ble_eq_true rfl) ⟨by decide, by decide⟩ ?_
      cases h
      subst hk
      exact g_iret hC hR dX2_firstDoubt_155 (by decide) (by decide)
    · rw [if_pos hc14] at h
      refine g_iconst (v := (-1 : Int32)) hC dX2_firstDoubt_144 (by decide) ?_
      refine g_goto (tgt := 155) hC dX2_firstDoubt_145 (by decide) ?_
      cases h
      subst hk
      exact g_iret hC hR dX2_firstDoubt_155 (by decide) (by decide)
  · rw [if_neg hc9] at h
    refine g_aload_n hC dX2_firstDoubt_22 rfl ?_
    refine g_iload hC dX2_firstDoubt_23 rfl ?_
    obtain ⟨ho24, h⟩ := gd_some h
    obtain ⟨r25, S23, hr22, h⟩ := bd2_some h
    refine g_callV (rest := []) hC mi_X7_at (k_X7_at hr22) ck_X7.1 (by decide) ho24 tw_907 tw_850 tw_851 dX2_firstDoubt_25 rfl rfl ⟨by decide, by decide⟩ (Nat.le_of_ble_eq_true rfl) ⟨by decide, by decide⟩ ?_
    refine g_istore (L' := [(5, .int r25), (0, .ref x0), (1, .ref x1), (2, .int x2), (3, .int x3), (4, .int x4)]) hC dX2_firstDoubt_28 (by decide) rfl ?_
    refine g_iload hC dX2_firstDoubt_30 rfl ?_
    refine g_iload_n hC dX2_firstDoubt_32 rfl ?_
    obtain ⟨r28, S27, hr26, h⟩ := bd2_some h
    refine g_callS (rest := []) hC mi_X2_isOfThese (k_X2_isOfThese hr26) tw_908 tw_909 dX2_firstDoubt_33 rfl rfl ⟨by decide, by decide⟩ (Nat.le_of_ble_eq_true rfl) ⟨by decide, by decide⟩ ?_
    refine g_if_eq (tgt := 56) hC dX2_firstDoubt_36 (by decide) (fun hc29 => ?_) (fun hc29 => ?_)
    · rw [if_pos hc29] at h
      refine g_iload hC dX2_firstDoubt_56 rfl ?_
      cases h
      subst hk
      exact g_iret hC hR dX2_firstDoubt_58 (by decide) (by decide)
    · rw [if_neg hc29] at h
      refine g_iload hC dX2_firstDoubt_39 rfl ?_
      obtain ⟨r32, S31, hr30, h⟩ := bd2_some h
      refine g_callS (rest := []) hC mi_X2_loadsOf (k_X2_loadsOf hr30) tw_574 tw_575 dX2_firstDoubt_41 rfl rfl ⟨by decide, by decide⟩ (Nat.le_of_ble_eq_true rfl) ⟨by decide, by decide⟩ ?_
      refine g_aload_n hC dX2_firstDoubt_44 rfl ?_
      refine g_iload hC dX2_firstDoubt_45 rfl ?_
      obtain ⟨ho35, h⟩ := gd_some h
      obtain ⟨r36, S34, hr33, h⟩ := bd2_some h
      refine g_callV (rest := [.int r32]) hC mi_X2_fitting (k_X2_fitting hr33) ck_X2.1 (by decide) ho35 tw_563 tw_565 ts_11 dX2_firstDoubt_47 rfl rfl ⟨by decide, by decide⟩ (Nat.le_of_ble_eq_true rfl) ⟨by decide, by decide⟩ ?_
      refine g_iconst (v := (-1 : Int32)) hC dX2_firstDoubt_50 (by decide) ?_
      refine g_ixor hC dX2_firstDoubt_51 ?_
      refine g_iand hC dX2_firstDoubt_52 ?_
      refine g_if_eq (tgt := 59) hC dX2_firstDoubt_53 (by decide) (fun hc37 => ?_) (fun hc37 => ?_)
      · rw [if_pos hc37] at h
        refine g_aload_n hC dX2_firstDoubt_59 rfl ?_
        obtain ⟨ho38, h⟩ := gd_some h
        obtain ⟨q39, hq40, h⟩ := Option.bind_eq_some_iff.mp h
        refine g_getr (k := 3) (q := q39) hC ck_X2 (by decide) tw_147 rfl (by decide) dX2_firstDoubt_60 ho38 hq40 ?_
        refine g_iload hC dX2_firstDoubt_63 rfl ?_
        refine g_iload hC dX2_firstDoubt_65 rfl ?_
        obtain ⟨r43, S42, hr41, h⟩ := bd2_some h
        refine g_callS (rest := [.int x4, .ref q39]) hC mi_X2_firstOf (k_X2_firstOf hr41) tw_577 tw_578 dX2_firstDoubt_67 rfl rfl ⟨by decide, by decide⟩ (Nat.le_of_ble_eq_true rfl) ⟨by decide, by decide⟩ ?_
        refine g_iload hC dX2_firstDoubt_70 rfl ?_
        obtain ⟨r46, S45, hr44, h⟩ := bd2_some h
        refine g_callS (rest := [.int r43, .int x4, .ref q39]) hC mi_X2_secondOf (k_X2_secondOf hr44) tw_580 tw_581 dX2_firstDoubt_72 rfl rfl ⟨by decide, by decide⟩ (Nat.le_of_ble_eq_true rfl) ⟨by decide, by decide⟩ ?_
        obtain ⟨ho49, h⟩ := gd_some h
        obtain ⟨r50, S48, hr47, h⟩ := bd2_some h
        refine g_callV (rest := []) hC mi_X0_run (k_X0_run hr47) ck_X0.1 (by decide) ho49 tw_568 tw_509 tw_510 dX2_firstDoubt_75 rfl rfl ⟨by decide, by decide⟩ (Nat.le_of_ble_eq_true rfl) ⟨by decide, by decide⟩ ?_
        refine g_if_ne (tgt := 85) hC dX2_firstDoubt_78 (by decide) (fun hc51 => ?_) (fun hc51 => ?_)
        · rw [if_neg hc51] at h
          refine g_iconst (v := (0 : Int32)) hC dX2_firstDoubt_85 (by decide) ?_
          refine g_istore (L' := [(6, .int (0 : Int32)), (5, .int r25), (0, .ref x0), (1, .ref x1), (2, .int x2), (3, .int x3), (4, .int x4)]) hC dX2_firstDoubt_86 (by decide) rfl ?_
          refine g_iload hC dX2_firstDoubt_88 rfl ?_
          refine g_if_ne (tgt := 101) hC dX2_firstDoubt_90 (by decide) (fun hc52 => ?_) (fun hc52 => ?_)
          · rw [if_neg hc52] at h
            cases h
          · rw [if_pos hc52] at h
            refine g_iload hC dX2_firstDoubt_93 rfl ?_
            refine g_if_eq (tgt := 101) hC dX2_firstDoubt_95 (by decide) (fun hc53 => ?_) (fun hc53 => ?_)
            · rw [if_pos hc53] at h
              refine g_iload_n hC dX2_firstDoubt_101 rfl ?_
              refine g_iload hC dX2_firstDoubt_102 rfl ?_
              refine g_if_eq (tgt := 117) hC dX2_firstDoubt_104 (by decide) (fun hc54 => ?_) (fun hc54 => ?_)
              · rw [if_pos hc54] at h
                refine g_iconst (v := (0 : Int32)) hC dX2_firstDoubt_117 (by decide) ?_
                refine g_iadd hC dX2_firstDoubt_118 ?_
                refine g_istore_n (L' := [(3, .int (x3 + (0 : Int32))), (6, .int (0 : Int32)), (5, .int r25), (0, .ref x0), (1, .ref x1), (2, .int x2), (4, .int x4)]) hC dX2_firstDoubt_119 (by decide) rfl ?_
                refine g_iload_n hC dX2_firstDoubt_120 rfl ?_
                refine g_iload hC dX2_firstDoubt_121 rfl ?_
                obtain ⟨r57, S56, hr55, h⟩ := bd2_some h
                refine g_callS (rest := [.int x2]) hC mi_X2_loadsOf (k_X2_loadsOf hr55) tw_574 tw_575 dX2_firstDoubt_123 rfl rfl ⟨by decide, by decide⟩ (Nat.le_of_ble_eq_true rfl) ⟨by decide, by decide⟩ ?_
                refine g_iconst (v := (-1 : Int32)) hC dX2_firstDoubt_126 (by decide) ?_
                refine g_ixor hC dX2_firstDoubt_127 ?_
                refine g_iand hC dX2_firstDoubt_128 ?_
                refine g_istore_n (L' := [(2, .int (x2 &&& (r57 ^^^ (-1 : Int32)))), (3, .int (x3 + (0 : Int32))), (6, .int (0 : Int32)), (5, .int r25), (0, .ref x0), (1, .ref x1), (4, .int x4)]) hC dX2_firstDoubt_129 (by decide) rfl ?_
                refine g_iinc (v := (1 : Int32)) (L' := [(4, .int (x4 + (1 : Int32))), (2, .int (x2 &&& (r57 ^^^ (-1 : Int32)))), (3, .int (x3 + (0 : Int32))), (6, .int (0 : Int32)), (5, .int r25), (0, .ref x0), (1, .ref x1)]) hC dX2_firstDoubt_130 rfl (by decide) (by decide) rfl ?_
                refine g_goto (tgt := 10) hC dX2_firstDoubt_133 (by decide) ?_
                cases h
                refine g_pick (L' := [(0, .ref x0), (1, .ref x1), (2, .int (x2 &&& (r57 ^^^ (-1 : Int32)))), (3, .int (x3 + (0 : Int32))), (4, .int (x4 + (1 : Int32)))]) [5, 6, 1, 2, 0] rfl ?_
                exact hk _ _ _ _ _ rfl
              · rw [if_neg hc54] at h
                cases h
            · rw [if_neg hc53] at h
              refine g_iload hC dX2_firstDoubt_98 rfl ?_
              cases h
              subst hk
              exact g_iret hC hR dX2_firstDoubt_100 (by decide) (by decide)
        · rw [if_pos hc51] at h
          refine g_iconst (v := (1 : Int32)) hC dX2_firstDoubt_81 (by decide) ?_
          refine g_goto (tgt := 86) hC dX2_firstDoubt_82 (by decide) ?_
          refine g_istore (L' := [(6, .int (1 : Int32)), (5, .int r25), (0, .ref x0), (1, .ref x1), (2, .int x2), (3, .int x3), (4, .int x4)]) hC dX2_firstDoubt_86 (by decide) rfl ?_
          refine g_iload hC dX2_firstDoubt_88 rfl ?_
          refine g_if_ne (tgt := 101) hC dX2_firstDoubt_90 (by decide) (fun hc58 => ?_) (fun hc58 => ?_)
          · rw [if_neg hc58] at h
            refine g_iload_n hC dX2_firstDoubt_101 rfl ?_
            refine g_iload hC dX2_firstDoubt_102 rfl ?_
            refine g_if_eq (tgt := 117) hC dX2_firstDoubt_104 (by decide) (fun hc59 => ?_) (fun hc59 => ?_)
            · rw [if_pos hc59] at h
              cases h
            · rw [if_neg hc59] at h
              refine g_aload_n hC dX2_firstDoubt_107 rfl ?_
              obtain ⟨ho60, h⟩ := gd_some h
              obtain ⟨q61, hq62, h⟩ := Option.bind_eq_some_iff.mp h
              refine g_getr (k := 3) (q := q61) hC ck_X2 (by decide) tw_147 rfl (by decide) dX2_firstDoubt_108 ho60 hq62 ?_
              obtain ⟨ho65, h⟩ := gd_some h
              obtain ⟨r66, S64, hr63, h⟩ := bd2_some h
              refine g_callV (rest := [.int x3]) hC mi_X0_value (k_X0_value hr63) ck_X0.1 (by decide) ho65 tw_569 tw_541 tw_542 dX2_firstDoubt_111 rfl rfl ⟨by decide, by decide⟩ (Nat.le_of_ble_eq_true rfl) ⟨by decide, by decide⟩ ?_
              refine g_goto (tgt := 118) hC dX2_firstDoubt_114 (by decide) ?_
              refine g_iadd hC dX2_firstDoubt_118 ?_
              refine g_istore_n (L' := [(3, .int (x3 + r66)), (6, .int (1 : Int32)), (5, .int r25), (0, .ref x0), (1, .ref x1), (2, .int x2), (4, .int x4)]) hC dX2_firstDoubt_119 (by decide) rfl ?_
              refine g_iload_n hC dX2_firstDoubt_120 rfl ?_
              refine g_iload hC dX2_firstDoubt_121 rfl ?_
              obtain ⟨r69, S68, hr67, h⟩ := bd2_some h
              refine g_callS (rest := [.int x2]) hC mi_X2_loadsOf (k_X2_loadsOf hr67) tw_574 tw_575 dX2_firstDoubt_123 rfl rfl ⟨by decide, by decide⟩ (Nat.le_of_ble_eq_true rfl) ⟨by decide, by decide⟩ ?_
              refine g_iconst (v := (-1 : Int32)) hC dX2_firstDoubt_126 (by decide) ?_
              refine g_ixor hC dX2_firstDoubt_127 ?_
              refine g_iand hC dX2_firstDoubt_128 ?_
              refine g_istore_n (L' := [(2, .int (x2 &&& (r69 ^^^ (-1 : Int32)))), (3, .int (x3 + r66)), (6, .int (1 : Int32)), (5, .int r25), (0, .ref x0), (1, .ref x1), (4, .int x4)]) hC dX2_firstDoubt_129 (by decide) rfl ?_
              refine g_iinc (v := (1 : Int32)) (L' := [(4, .int (x4 + (1 : Int32))), (2, .int (x2 &&& (r69 ^^^ (-1 : Int32)))), (3, .int (x3 + r66)), (6, .int (1 : Int32)), (5, .int r25), (0, .ref x0), (1, .ref x1)]) hC dX2_firstDoubt_130 rfl (by decide) (by decide) rfl ?_
              refine g_goto (tgt := 10) hC dX2_firstDoubt_133 (by decide) ?_
              cases h
              refine g_pick (L' := [(0, .ref x0), (1, .ref x1), (2, .int (x2 &&& (r69 ^^^ (-1 : Int32)))), (3, .int (x3 + r66)), (4, .int (x4 + (1 : Int32)))]) [5, 6, 1, 2, 0] rfl ?_
              exact hk _ _ _ _ _ rfl
          · rw [if_pos hc58] at h
            cases h
      · rw [if_neg hc37] at h
        refine g_iload hC dX2_firstDoubt_56 rfl ?_
        cases h
        subst hk
        exact g_iret hC hR dX2_firstDoubt_58 (by decide) (by decide)
theorem w_X2_firstDoubt {b : Bd} {r : Int32 × Wd} (hC : CX b yX2_firstDoubt.cls cX2_firstDoubt 7 { frames := 4, cells := 0, slots := 0, locals := 91 }) (hin : yX2_firstDoubt.name = "<init>" → b.2.2.2.2.2.2.2.2.1.name = "<init>") (hR : RT b (some .int) (some (.int r.1)) r.2 0 0) {s : Cs} {c : (Int32 × Wd) ⊕ Cs} (h : B_X2_firstDoubt s = some c) (hk : N_X2_firstDoubt b r c) : ∀ pc L S kc ks, P_X2_firstDoubt s = some (pc, L, S, kc, ks) → G b pc L [] S kc ks := by
  intro pc L S kc ks hp
  unfold B_X2_firstDoubt at h
  split at h
  · cases hp
    exact w_X2_firstDoubt_0 hC hin hR h hk
  · cases hp
    exact w_X2_firstDoubt_1 hC hin hR h hk
  · cases h
theorem k_X2_firstDoubt {S : Wd} {a0 : Nat} {a1 : Nat} {r : Int32} {S' : Wd} (h : f_X2_firstDoubt S a0 a1 = some (r, S')) : Sp yX2_firstDoubt cX2_firstDoubt 7 (some .int) 4 91 0 0 [.ref a0, .ref a1] S (some (.int r)) S' := by
  unfold f_X2_firstDoubt at h
  refine Sp.of (by decide +kernel) (Nat.le_of_ble_eq_true rfl) ?_
  intro b hC hin hR
  exact ru_ind (P := fun s q0 => q0 = (r, S') → ∀ pc L S kc ks, P_X2_firstDoubt s = some (pc, L, S, kc, ks) → G b pc L [] S kc ks) (fun s q0 hB e => w_X2_firstDoubt (r := (r, S')) hC hin hR hB e) (fun s s' q0 hB ih e => w_X2_firstDoubt (r := (r, S')) hC hin hR hB (ih e)) h rfl _ _ _ _ _ rfl
