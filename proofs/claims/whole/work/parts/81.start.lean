def S00 : Wd := (0, fun _ => 0, fun _ _ => 0, fun _ _ => none)
theorem law_loop {b : Bd} {bb Lx : Nat} {xs : Nat → Int32} (hC : CX b RL cL_law 4 room_1) (hX : SX b bb Lx xs) (hL : Lx ≤ 3584) (hQ : LQ b) : ∀ (k j : Nat), j + k = 512 → ∀ (x3 : Int32) {S : Wd}, Rel j S → x3 = nI (7 * j) → GL b bb 18 [(0, .null), (1, .ref 0), (2, .ref 48), (3, .int x3)] [] S (65 + 2 * j) (16000 + 220 * j)
  | 0, j, hk, x3, S, hR, hx => law_step hC hX hL hQ j (fun _ _ _ h _ => absurd h (by omega)) x3 hR (by omega) hx
  | k + 1, j, hk, x3, S, hR, hx => law_step hC hX hL hQ j (fun x3 S hR' hle hx' => law_loop hC hX hL hQ k (j + 1) (by omega) x3 hR' hx') x3 hR (by omega) hx
theorem gw_lw {w : Cond} (h : w ∈ gwL) : w ∈ lw_tbl := (List.mem_filter.mp h).1
set_option maxHeartbeats 4000000 in
set_option maxRecDepth 100000 in
/-- what the start says of classes and arrays -/
theorem kk_start {s : State} {args : Array Value} (hts : ∀ w ∈ lw_tbl, w.before args s = true) : ∃ D cA, KK D cA s := by
  obtain ⟨c0, i0, hk0⟩ := u_known (C := RX0) (T := TX0) (N := 12) (n := 12) hts inX0 (hts (.instantiable RX0 12) (gw_lw tw_96))
  obtain ⟨c1, i1, hk1⟩ := u_known (C := RX1) (T := TX1) (N := 5) (n := 5) hts inX1 (hts (.instantiable RX1 5) (gw_lw tw_200))
  obtain ⟨c2, i2, hk2⟩ := u_known (C := RX2) (T := TX2) (N := 13) (n := 13) hts inX2 (hts (.instantiable RX2 13) (gw_lw tw_139))
  obtain ⟨c3, i3, hk3⟩ := u_known (C := RX3) (T := TX3) (N := 6) (n := 6) hts inX3 (hts (.instantiable RX3 6) (gw_lw tw_27))
  obtain ⟨c4, i4, hk4⟩ := u_known (C := RX4) (T := TX4) (N := 5) (n := 5) hts inX4 (hts (.instantiable RX4 5) (gw_lw tw_245))
  obtain ⟨c5, i5, hk5⟩ := u_known (C := RX5) (T := TX5) (N := 2) (n := 2) hts inX5 (hts (.instantiable RX5 2) (gw_lw tw_185))
  obtain ⟨c6, i6, hk6⟩ := u_known (C := RX6) (T := TX6) (N := 4) (n := 4) hts inX6 (hts (.instantiable RX6 4) (gw_lw tw_224))
  obtain ⟨c7, i7, hk7⟩ := u_known (C := RX7) (T := TX7) (N := 3) (n := 3) hts inX7 (hts (.instantiable RX7 3) (gw_lw tw_287))
  obtain ⟨c8, i8, hk8⟩ := u_known (C := RX8) (T := TX8) (N := 4) (n := 4) hts inX8 (hts (.instantiable RX8 4) (gw_lw tw_74))
  obtain ⟨c9, i9, hk9⟩ := u_known (C := RX9) (T := TX9) (N := 4) (n := 4) hts inX9 (hts (.instantiable RX9 4) (gw_lw tw_267))
  obtain ⟨c10, i10, hk10⟩ := u_known (C := RX10) (T := TX10) (N := 4) (n := 4) hts inX10 (hts (.instantiable RX10 4) (gw_lw tw_55))
  obtain ⟨c11, i11, hk11⟩ := u_known (C := RX11) (T := TX11) (N := 13) (n := 13) hts inX11 (hts (.instantiable RX11 13) (gw_lw tw_19))
  obtain ⟨c12, i12, hk12⟩ := u_known (C := RX12) (T := TX12) (N := 26) (n := 26) hts inX12 (hts (.instantiable RX12 26) (gw_lw tw_979))
  obtain ⟨dC, dI, hKc⟩ : ∃ (dC : Nat → ClassId) (dI : Nat → Nat → Nat), ∀ (k : Nat) (q : vw_C), clL[k]? = some q → u_Kn s q.1 q.2.1 q.2.2 (dC k) (dI k) := by
    refine ⟨fun k => if k = 0 then c0 else (if k = 1 then c1 else (if k = 2 then c2 else (if k = 3 then c3 else (if k = 4 then c4 else (if k = 5 then c5 else (if k = 6 then c6 else (if k = 7 then c7 else (if k = 8 then c8 else (if k = 9 then c9 else (if k = 10 then c10 else (if k = 11 then c11 else (c12)))))))))))), fun k => if k = 0 then i0 else (if k = 1 then i1 else (if k = 2 then i2 else (if k = 3 then i3 else (if k = 4 then i4 else (if k = 5 then i5 else (if k = 6 then i6 else (if k = 7 then i7 else (if k = 8 then i8 else (if k = 9 then i9 else (if k = 10 then i10 else (if k = 11 then i11 else (i12)))))))))))), ?_⟩
    intro k q hq
    match k, hq with
    | 0, hq => cases hq; exact hk0
    | 1, hq => cases hq; exact hk1
    | 2, hq => cases hq; exact hk2
    | 3, hq => cases hq; exact hk3
    | 4, hq => cases hq; exact hk4
    | 5, hq => cases hq; exact hk5
    | 6, hq => cases hq; exact hk6
    | 7, hq => cases hq; exact hk7
    | 8, hq => cases hq; exact hk8
    | 9, hq => cases hq; exact hk9
    | 10, hq => cases hq; exact hk10
    | 11, hq => cases hq; exact hk11
    | 12, hq => cases hq; exact hk12
    | k + 13, hq => simp [clL] at hq
  obtain ⟨cI, kI, mI, aI1, aI2, aI3⟩ := Cond.arrayClass_spec (hts _ (gw_lw tw_53))
  obtain ⟨cZ, kZ, mZ, aZ1, aZ2, aZ3⟩ := Cond.arrayClass_spec (hts _ (gw_lw tw_1063))
  obtain ⟨mS, cS, kS, s1, s2, s3, s4, s5⟩ := Cond.arrayOver_spec (hts _ tw_286)
  obtain ⟨mA, cM, kM, m1, m2, m3, m4, m5⟩ := arrayOverA_spec (hts _ tw_33)
  refine ⟨(dC, dI), fun k => if k = 0 then cI else if k = 1 then cZ else if k = 2 then cS else cM, ⟨hKc, ?_⟩, ?_⟩
  · intro k q hq
    match k, hq with
    | 0, hq => cases hq; exact ⟨fun n z => ⟨fun k h => (by cases h), kI, aI2, mI, aI3⟩, aI1⟩
    | 1, hq => cases hq; exact ⟨fun n z => ⟨fun k h => (by cases h), kZ, aZ2, mZ, aZ3⟩, aZ1⟩
    | 2, hq => cases hq; exact ⟨fun n z => ⟨fun k h => (by cases h), kS, s3, mS, s4⟩, kS, mS, s3, s4, s1, s5⟩
    | 3, hq => cases hq; exact ⟨fun n z => ⟨fun k h => (by cases h), kM, m3, mA, m4⟩, m5⟩
    | k + 4, hq => simp [tyL] at hq
  · refine ⟨fun w hw => ?_, va_Nw.of rfl (hts _ tw_389), va_AO.of (hts _ tw_286), over_moved (Vm.Alike.refl _) (hts _ tw_33)⟩
    have h1 := hts w (nw_in w hw)
    simp only [nwL, List.mem_cons, List.not_mem_nil, or_false] at hw
    rcases hw with rfl | rfl | rfl | rfl | rfl | rfl | rfl <;> exact va_Nw.of rfl h1

set_option maxHeartbeats 4000000 in
set_option maxRecDepth 100000 in
/-- THE LAW, from its entry -/
theorem whole_start {p : Program} {e : Env} {s : State} {m : MethodId} {below : List Frame} {meth : Method} {c : Code} (l : Launch) {b L : Nat} {xs : Nat → Int32} (hL : L ≤ 3584) (C0 : lw_At p s m meth c b L xs) : W p l e room_1 s m #[Value.ref b] below meth c s.heap [] 0 0 (lw_Z below #[Value.ref b] s) (entryFrame m ([Value.ref b] : List Value).toArray 4) := by
  obtain ⟨hx, hb, hr, hml, hown, hts, hX, hbl, hlocks, hgv⟩ := C0
  obtain ⟨D, cA, hK⟩ := kk_start hts
  obtain ⟨S1, S2, f1, n1, f2, hR⟩ := init_ok
  have hC : CX (p, l, e, room_1, s, m, #[Value.ref b], below, meth, c, D, cA, s.heap.size, 4, lw_Z below #[Value.ref b] s) RL cL_law 4 room_1 := ⟨hx, hb, hml, hown, fun w hw => hts w (gw_lw hw), hK, Nat.le_refl _, rfl, rfl⟩
  have hSX : SX (p, l, e, room_1, s, m, #[Value.ref b], below, meth, c, D, cA, s.heap.size, 4, lw_Z below #[Value.ref b] s) b L xs := ⟨hX, hbl, hbl⟩
  have hQ : LQ (p, l, e, room_1, s, m, #[Value.ref b], below, meth, c, D, cA, s.heap.size, 4, lw_Z below #[Value.ref b] s) := ⟨⟨b, rfl, rfl⟩, hr, hlocks, rfl, rfl⟩
  have hG : GL (p, l, e, room_1, s, m, #[Value.ref b], below, meth, c, D, cA, s.heap.size, 4, lw_Z below #[Value.ref b] s) b 0 [(0, .null)] [] S00 0 0 := by
    refine gl_new hC ck_X11 tw_18 tw_19 tw_1 dL_law_0 (by decide) (by decide) (by decide) ?_
    refine gl_dup hC dL_law_3 rfl ?_
    refine gl_callI (rest := [.ref 0]) (a := 0) hC mi_X11_init (k_X11_init f1) rfl tw_20 tw_21 dL_law_4 rfl rfl ⟨by decide, by decide⟩ (Nat.le_of_ble_eq_true rfl) ⟨by decide, by decide⟩ ?_
    refine gl_astore_n (L' := [(1, .ref 0), (0, .null)]) hC dL_law_7 (by decide) rfl ?_
    refine gl_new hC ck_X12 tw_978 tw_979 tw_14 dL_law_8 (by rw [n1]; decide) (by decide) (by decide) ?_
    rw [n1]
    refine gl_dup hC dL_law_11 rfl ?_
    refine gl_callI (rest := [.ref 48]) (a := 48) hC mi_X12_init (k_X12_init f2) rfl tw_980 tw_981 dL_law_12 rfl rfl ⟨by decide, by decide⟩ (Nat.le_of_ble_eq_true rfl) ⟨by decide, by decide⟩ ?_
    refine gl_astore_n (L' := [(2, .ref 48), (1, .ref 0), (0, .null)]) hC dL_law_15 (by decide) rfl ?_
    refine gl_iconst (v := (0 : Int32)) hC dL_law_16 (by decide) ?_
    refine gl_istore_n (L' := [(3, .int 0), (2, .ref 48), (1, .ref 0), (0, .null)]) hC dL_law_17 (by decide) rfl ?_
    refine gl_widen (kc' := 65 + 2 * 0) (ks' := 16000 + 220 * 0) (by decide) (by decide) ?_
    refine gl_pick (L' := [(0, .null), (1, .ref 0), (2, .ref 48), (3, .int 0)]) [3, 2, 1, 0] rfl ?_
    exact law_loop hC hSX hL hQ 512 0 rfl 0 hR rfl
  rw [lg_entry_eq]
  have hl := lv_entry ([.ref b]) (n := 4) (Nat.le_of_ble_eq_true rfl)
  exact hG s.heap [] _ ⟨rfl, fun i hi => absurd hi (Nat.not_lt_zero i)⟩ va_S.rf hl
