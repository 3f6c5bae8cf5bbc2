/-! ROWS that make cells, call and return -/
section GM
variable {b : Bd} {own : String} {cc : ByteArray} {n : Nat} {rm : Room} {pc : Nat} {L L' : List (Nat × Value)} {st : List Value} {S : Wd} {kc ks : Nat}
theorem va_S.pushed {A : Nat → Prop} {H0 H H' : Heap} {locs : List Loc} (hS : va_S A H0 H locs) (hz : H.size ≤ H'.size) (ho : ∀ q, q < H.size → H'[q]? = H[q]?) : va_S A H0 H' locs :=
  ⟨Nat.le_trans hS.1 hz, fun q h1 h2 => (ho q (Nat.lt_of_lt_of_le h1 hS.1)).trans (hS.2.1 q h1 h2), hS.2.2⟩
theorem g_new {ci : Nat} {C : String} {T : u_T} {N : Nat} {ty : Nat → FieldType} {i : Nat} (hC : CX b own cc n rm) (ck : ClOk ci C T N ty) (hw : Cond.classLink own i C ∈ gwL) (hins : Cond.instantiable C N ∈ gwL) (hini : Cond.initialized C ∈ gwL) (hd : decode cc pc = .ok (.new i, 3)) (hk : (kT (wn S)).1 = ci) (hc : kc + 1 ≤ rm.cells) (hs : ks + N ≤ rm.slots)
    (kk : G b (pc + 3) L (.ref (wn S) :: st) (sN S 0) (kc + 1) (ks + N)) : G b pc L st S kc ks := by
  obtain ⟨p, l, e, R, s, m, args, below, meth, c, D, cA, z, nL, Q⟩ := b
  obtain ⟨hx, hb, hml, how, hts, hK, hz, hn, hR⟩ := hC
  intro H locs ls hH hS hl
  subst hR
  obtain ⟨c1, c2, c3, c4, c5, c6, c7⟩ := ck
  have hKn := hK.1.1 ci _ c1
  refine W.newcK hx hb how (hts _ hw) (hts _ hins) (hts _ hini) rfl hd hc hs hKn.2.1 hH.1 fun H' kC hkC e1 z1 o1 => ?_
  have o2 : ∀ q, q < H.size → H'[q]? = H[q]? := fun q hq => o1 q (by rw [← hH.1]; exact hq)
  have z2 : H'.size = H.size + 1 := by rw [z1, hH.1]
  refine kk H' locs ls (HO.new hH z2 o2 (cAt.obj hk c6 ?_)) (hS.pushed (by omega) o2) hl
  rw [c5]
  refine (u_born ty hts c2 hKn hkC e1 c3).to (fun k hkN => ?_)
  rw [c7 k hkN]
  have x1 : wO (sN S 0) (wn S) k = none := by
    show (if S.1 = S.1 then (fun _ => none) else _) k = none
    rw [if_pos rfl]
  have x2 : wI (sN S 0) (wn S) k = 0 := by
    show (if S.1 = S.1 then (fun _ => (0 : Int32)) else _) k = 0
    rw [if_pos rfl]
  simp only [fv, hk, x1, x2]
  rfl
theorem g_newi {k : Int32} (hC : CX b own cc n rm) (hw : Cond.arrayClass .int ∈ gwL) (hd : decode cc pc = .ok (.newarray .int, 2)) (h0 : ¬ k < 0) (hle : k.toNatClampNeg ≤ 100000) (hk : (kT (wn S)).1 = 100) (hlen : wlen (sN S k.toNatClampNeg) (wn S) = k.toNatClampNeg) (hc : kc + 1 ≤ rm.cells) (hs : ks + k.toNatClampNeg ≤ rm.slots)
    (kk : G b (pc + 2) L (.ref (wn S) :: st) (sN S k.toNatClampNeg) (kc + 1) (ks + k.toNatClampNeg)) : G b pc L (.int k :: st) S kc ks := by
  obtain ⟨p, l, e, R, s, m, args, below, meth, c, D, cA, z, nL, Q⟩ := b
  obtain ⟨hx, hb, hml, how, hts, hK, hz, hn, hR⟩ := hC
  intro H locs ls hH hS hl
  subst hR
  refine va_newaK (atype := .int) hx hb (hts _ hw) rfl hd rfl h0 rfl (by show _ * 4 ≤ _; omega) hc hs hH.1 fun H' cX e1 z1 o1 hA hN => ?_
  have hI : s.vm.findClass ("[" ++ FieldType.int.toString) = some (cA 0) := (hK.1.2 0 _ rfl).2
  have hc0 : cX = cA 0 := Option.some.inj (hN.symm.trans hI)
  subst hc0
  have o2 : ∀ q, q < H.size → H'[q]? = H[q]? := fun q hq => o1 q (by rw [← hH.1]; exact hq)
  have z2 : H'.size = H.size + 1 := by rw [z1, hH.1]
  refine kk H' locs ls (HO.new hH z2 o2 ⟨fun q => ?_, fun q => ?_, fun q => ?_, fun q => ?_, fun q => ?_⟩) (hS.pushed (by omega) o2) hl
  · exfalso; omega
  · rw [e1, hlen]
    congr 2
    funext j
    simp [wI, sN, wn]
    rfl
  · exfalso; omega
  · exfalso; omega
  · exfalso; omega
theorem g_newz {k : Int32} (hC : CX b own cc n rm) (hw : Cond.arrayClass .boolean ∈ gwL) (hd : decode cc pc = .ok (.newarray .boolean, 2)) (h0 : ¬ k < 0) (hle : k.toNatClampNeg ≤ 100000) (hk : (kT (wn S)).1 = 101) (hlen : wlen (sN S k.toNatClampNeg) (wn S) = k.toNatClampNeg) (hc : kc + 1 ≤ rm.cells) (hs : ks + k.toNatClampNeg ≤ rm.slots)
    (kk : G b (pc + 2) L (.ref (wn S) :: st) (sN S k.toNatClampNeg) (kc + 1) (ks + k.toNatClampNeg)) : G b pc L (.int k :: st) S kc ks := by
  obtain ⟨p, l, e, R, s, m, args, below, meth, c, D, cA, z, nL, Q⟩ := b
  obtain ⟨hx, hb, hml, how, hts, hK, hz, hn, hR⟩ := hC
  intro H locs ls hH hS hl
  subst hR
  refine va_newaK (atype := .boolean) hx hb (hts _ hw) rfl hd rfl h0 rfl (by show _ * 1 ≤ _; omega) hc hs hH.1 fun H' cX e1 z1 o1 hA hN => ?_
  have hI : s.vm.findClass ("[" ++ FieldType.boolean.toString) = some (cA 1) := (hK.1.2 1 _ rfl).2
  have hc0 : cX = cA 1 := Option.some.inj (hN.symm.trans hI)
  subst hc0
  have o2 : ∀ q, q < H.size → H'[q]? = H[q]? := fun q hq => o1 q (by rw [← hH.1]; exact hq)
  have z2 : H'.size = H.size + 1 := by rw [z1, hH.1]
  refine kk H' locs ls (HO.new hH z2 o2 ⟨fun q => ?_, fun q => ?_, fun q => ?_, fun q => ?_, fun q => ?_⟩) (hS.pushed (by omega) o2) hl
  · exfalso; omega
  · exfalso; omega
  · rw [e1, hlen]
    congr 2
    funext j
    simp [wI, sN, wn]
    rfl
  · exfalso; omega
  · exfalso; omega
theorem g_new2 {k : Int32} {i : Nat} (hC : CX b own cc n rm) (hw : Cond.classLink own i "LoadBourse$Sheet" ∈ gwL) (hd : decode cc pc = .ok (.anewarray i, 3)) (h0 : ¬ k < 0) (hle : k.toNatClampNeg ≤ 100000) (hk : (kT (wn S)).1 = 102) (hlen : wlen (sN S k.toNatClampNeg) (wn S) = k.toNatClampNeg) (hc : kc + 1 ≤ rm.cells) (hs : ks + k.toNatClampNeg ≤ rm.slots)
    (kk : G b (pc + 3) L (.ref (wn S) :: st) (sN S k.toNatClampNeg) (kc + 1) (ks + k.toNatClampNeg)) : G b pc L (.int k :: st) S kc ks := by
  obtain ⟨p, l, e, R, s, m, args, below, meth, c, D, cA, z, nL, Q⟩ := b
  obtain ⟨hx, hb, hml, how, hts, hK, hz, hn, hR⟩ := hC
  intro H locs ls hH hS hl
  subst hR
  refine W.anew hx hb how (hts _ hw) (va_AO.use hK.2.2.2.1) rfl hd rfl h0 (by omega) hc hs fun cX kA comp f1 f2 f3 f4 => ?_
  have hI : s.vm.findClass ("[" ++ (FieldType.object "LoadBourse$Sheet").toString) = some (cA 2) := by
    obtain ⟨kA', comp', k1, k2, k3, k4⟩ := (hK.1.2 2 _ rfl).2
    exact k4
  have hc0 : cX = cA 2 := by
    first
      | exact Option.some.inj (f1.symm.trans hI)
      | exact Option.some.inj (f4.symm.trans hI)
      | exact Option.some.inj (f2.symm.trans hI)
  subst hc0
  generalize hH1 : H.push _ = H'
  have z2 : H'.size = H.size + 1 := by rw [← hH1, Array.size_push]
  have e1 : H'[H.size]? = some (arrV (cA 2) k.toNatClampNeg (fun _ => .null)) := by rw [← hH1, Array.getElem?_push_size, ← arrV_new]
  have o2 : ∀ q, q < H.size → H'[q]? = H[q]? := fun q hq => by rw [← hH1, Array.getElem?_push, if_neg (Nat.ne_of_lt hq)]
  rw [hH.1] at e1 ⊢
  refine kk H' locs ls (HO.new hH z2 o2 ⟨fun q => ?_, fun q => ?_, fun q => ?_, fun q => ?_, fun q => ?_⟩) (hS.pushed (by omega) o2) hl
  · exfalso; omega
  · exfalso; omega
  · exfalso; omega
  · rw [e1, hlen]
    congr 2
    funext j
    simp [wO, sN, wn, va_rf]
  · exfalso; omega
theorem g_new3 {k : Int32} {i : Nat} (hC : CX b own cc n rm) (hw : Cond.classLink own i "[I" ∈ gwL) (hd : decode cc pc = .ok (.anewarray i, 3)) (h0 : ¬ k < 0) (hle : k.toNatClampNeg ≤ 100000) (hk : (kT (wn S)).1 = 103) (hlen : wlen (sN S k.toNatClampNeg) (wn S) = k.toNatClampNeg) (hc : kc + 1 ≤ rm.cells) (hs : ks + k.toNatClampNeg ≤ rm.slots)
    (kk : G b (pc + 3) L (.ref (wn S) :: st) (sN S k.toNatClampNeg) (kc + 1) (ks + k.toNatClampNeg)) : G b pc L (.int k :: st) S kc ks := by
  obtain ⟨p, l, e, R, s, m, args, below, meth, c, D, cA, z, nL, Q⟩ := b
  obtain ⟨hx, hb, hml, how, hts, hK, hz, hn, hR⟩ := hC
  intro H locs ls hH hS hl
  subst hR
  refine W.anewA (t := .int) hx hb how (hts _ hw) (over_moved (Vm.Alike.refl _) hK.2.2.2.2) rfl hd rfl h0 (by omega) hc hs fun cX kA comp f1 f2 f3 f4 => ?_
  have hI : s.vm.findClass ("[" ++ (FieldType.array .int).toString) = some (cA 3) := (hK.1.2 3 _ rfl).2
  have hc0 : cX = cA 3 := Option.some.inj (f1.symm.trans hI)
  subst hc0
  generalize hH1 : H.push _ = H'
  have z2 : H'.size = H.size + 1 := by rw [← hH1, Array.size_push]
  have e1 : H'[H.size]? = some (arrV (cA 3) k.toNatClampNeg (fun _ => .null)) := by rw [← hH1, Array.getElem?_push_size, ← arrV_new]
  have o2 : ∀ q, q < H.size → H'[q]? = H[q]? := fun q hq => by rw [← hH1, Array.getElem?_push, if_neg (Nat.ne_of_lt hq)]
  rw [hH.1] at e1 ⊢
  refine kk H' locs ls (HO.new hH z2 o2 ⟨fun q => ?_, fun q => ?_, fun q => ?_, fun q => ?_, fun q => ?_⟩) (hS.pushed (by omega) o2) hl
  · exfalso; omega
  · exfalso; omega
  · exfalso; omega
  · exfalso; omega
  · rw [e1, hlen]
    congr 2
    funext j
    simp [wO, sN, wn, va_rf]
theorem cat_map (z : Nat) (rest : List Value) : ((rest.map (cv z)).map fun v => v.category) = rest.map fun v => v.category := by
  rw [List.map_map]
  exact List.map_congr_left fun v _ => cv_cat z v
theorem g_obj {i a : Nat} (hC : CX b own cc n rm) (hw : Cond.methodLink own i Lib.objectInit ∈ gwL) (hi : Cond.instanceMethod Lib.objectInit ∈ gwL) (hco : Cond.code Lib.objectInit ⟨#[0xb1]⟩ 1 none ∈ gwL) (hd : decode cc pc = .ok (.invokespecial i, 3)) (h1 : 1 ≤ rm.frames) (h2 : (st.map fun v => v.category).sum + 12 ≤ rm.locals) (kk : G b (pc + 3) L st S kc ks) : G b pc L (.ref a :: st) S kc ks := by
  obtain ⟨p, l, e, R, s, m, args, below, meth, c, D, cA, z, nL, Q⟩ := b
  obtain ⟨hx, hb, hml, how, hts, hK, hz, hn, hR⟩ := hC
  intro H locs ls hH hS hl
  subst hR
  exact W.objInit hx hb how (hts _ hw) (hts _ hi) (hts _ hco) rfl (by rw [hml]; exact hl.1) rfl hd h1 (by show 2 * 0 + ((st.map (cv z)).map fun v => v.category).sum + 12 ≤ _; rw [cat_map]; omega) (kk H locs ls hH hS hl)
theorem g_iret {v : Int32} {mc ms : Nat} (hC : CX b own cc n rm) (hR : RT b (some .int) (some (.int v)) S mc ms) (hd : decode cc pc = .ok (.ireturn, 1)) (h1 : kc ≤ mc) (h2 : ks ≤ ms) : G b pc L [.int v] S kc ks := by
  obtain ⟨p, l, e, R, s, m, args, below, meth, c, D, cA, z, nL, Q⟩ := b
  obtain ⟨hx, hb, hml, how, hts, hK, hz, hn, -⟩ := hC
  obtain ⟨hr, hlocks, hQ⟩ := hR
  subst hQ
  intro H locs ls hH hS hl
  exact W.widen h1 h2 (W.iret (v := v) hx hb hr (fun t ht hW => ⟨rfl, by rw [ht]; exact hH, hS.F ht⟩) hS.2.2 hd hlocks)
theorem g_zret {v : Int32} {mc ms : Nat} (hC : CX b own cc n rm) (hR : RT b (some .boolean) (some (.int v)) S mc ms) (hv : narrow .boolean (.int v) = .int v) (hd : decode cc pc = .ok (.ireturn, 1)) (h1 : kc ≤ mc) (h2 : ks ≤ ms) : G b pc L [.int v] S kc ks := by
  obtain ⟨p, l, e, R, s, m, args, below, meth, c, D, cA, z, nL, Q⟩ := b
  obtain ⟨hx, hb, hml, how, hts, hK, hz, hn, -⟩ := hC
  obtain ⟨hr, hlocks, hQ⟩ := hR
  subst hQ
  intro H locs ls hH hS hl
  exact W.widen h1 h2 (W.zret (v := v) hx hb hr hv (fun t ht hW => ⟨rfl, by rw [ht]; exact hH, hS.F ht⟩) hS.2.2 hd hlocks)
theorem g_vret {mc ms : Nat} (hC : CX b own cc n rm) (hR : RT b none none S mc ms) (hd : decode cc pc = .ok (.return_, 1)) (h1 : kc ≤ mc) (h2 : ks ≤ ms) : G b pc L [] S kc ks := by
  obtain ⟨p, l, e, R, s, m, args, below, meth, c, D, cA, z, nL, Q⟩ := b
  obtain ⟨hx, hb, hml, how, hts, hK, hz, hn, -⟩ := hC
  obtain ⟨hr, hlocks, hQ⟩ := hR
  subst hQ
  intro H locs ls hH hS hl
  exact W.widen h1 h2 (W.vret hx hb hr (fun t ht hW => ⟨rfl, by rw [ht]; exact hH, hS.F ht⟩) hS.2.2 hd hlocks)
theorem g_aret {a : Nat} {t : FieldType} {mc ms : Nat} (hC : CX b own cc n rm) (hR : RT b (some (.array t)) (some (.ref a)) S mc ms) (hd : decode cc pc = .ok (.areturn, 1)) (h1 : kc ≤ mc) (h2 : ks ≤ ms) : G b pc L [.ref a] S kc ks := by
  obtain ⟨p, l, e, R, s, m, args, below, meth, c, D, cA, z, nL, Q⟩ := b
  obtain ⟨hx, hb, hml, how, hts, hK, hz, hn, -⟩ := hC
  obtain ⟨hr, hlocks, hQ⟩ := hR
  subst hQ
  intro H locs ls hH hS hl
  exact W.widen h1 h2 (W.aret (v := .ref (z + a)) hx hb hr (Or.inr ⟨t, rfl⟩) (Or.inr ⟨_, rfl⟩) (fun t ht hW => ⟨rfl, by rw [ht]; exact hH, hS.F ht⟩) hS.2.2 hd hlocks)
end GM
/-! calls -/
theorem run_goes {p : Program} {l : Launch} {e : Env} {R : Room} {s : State} {m : MethodId} {args : Array Value} {below : List Frame} {meth : Method} {c : Code} {H : Heap} {locs : List Loc} {kc ks mc ms : Nat} {Q : State → Prop} {D : va_G} {cA : Nat → ClassId} {z pc : Nat} {ls : Array Slot} {st0 rest : List Value} {rv : Option Value} {S' : Wd} {a : Array Value}
    (hr : va_Run p l e R s m args below meth c H locs kc ks mc ms (F0 m pc ls st0) (rest.map (cv z)) (QP D cA z rv S' a) (fun q => z ≤ q)) (hS : va_S (fun q => z ≤ q) s.heap H locs)
    (kk : ∀ (H1 : Heap) (locs1 : List Loc), HO D cA z S' H1 → va_S (fun q => z ≤ q) s.heap H1 locs1 → W p l e R s m args below meth c H1 locs1 (kc + mc) (ks + ms) Q (F0 m (pc + 3) ls ((rv.toList ++ rest).map (cv z)))) : W p l e R s m args below meth c H locs kc ks Q (F0 m pc ls st0) := by
  intro T hT X
  obtain ⟨v, st₀, t, T', Lx, h0, X', hL, e1, e2, ⟨hv, hHO, hz, hk⟩, stp⟩ := hr T hT X
  cases hv
  rw [h0] at hz hk
  obtain ⟨t2, a1, b1⟩ := kk T'.heap (locs ++ Lx) (by rw [e1]; exact hHO)
    ⟨Nat.le_trans hS.1 (by rw [e1]; exact hz), fun q h1 h2 => by rw [e1, hk q (Nat.lt_of_lt_of_le h1 hS.1) h2]; exact hS.2.1 q h1 h2, fun q hq => by
      rcases List.mem_append.mp hq with h | h
      · exact hS.2.2 q h
      · exact hL q h⟩ T' rfl X'
  refine ⟨t2, stp t2 ?_, b1⟩
  have hse : (rv.map (cv z)).toList ++ rest.map (cv z) = (rv.toList ++ rest).map (cv z) := by cases rv <;> simp
  show Steps _ _ _ (T'.setTop (F0 m (pc + 3) ls ((rv.map (cv z)).toList ++ rest.map (cv z)))) t2
  rw [hse]
  exact a1
/-- what is known of a method -/
abbrev MI (y : MethodName) (cc : ByteArray) (n : Nat) (ret : Option FieldType) (np : Nat) : Prop := Cond.code y cc n ret ∈ gwL ∧ Cond.initialized y.cls ∈ gwL ∧ y.cls ≠ "java/lang/invoke/MethodHandle" ∧ y.cls ≠ "java/lang/invoke/VarHandle" ∧ (parseMethodDescriptor y.desc).map (fun d => d.parameters.length) = some np
theorem MI.good {y : MethodName} {cc : ByteArray} {n : Nat} {ret : Option FieldType} {np : Nat} (h : MI y cc n ret np) : GoodIn gwL (.code y cc n ret :: gwL) := by
  intro w hw
  rcases List.mem_cons.mp hw with rfl | hw
  · exact gw_goodIn2 _ h.1
  · exact gw_goodIn2 _ hw
section GC
variable {b : Bd} {own : String} {cc : ByteArray} {n : Nat} {rm : Room} {pc : Nat} {L L' : List (Nat × Value)} {st : List Value} {S : Wd} {kc ks : Nat}
variable {y : MethodName} {c2 : ByteArray} {n2 np fr lo mc ms i a : Nat} {ret : Option FieldType} {av As rest : List Value} {rv : Option Value} {S' : Wd}
theorem g_callS (hC : CX b own cc n rm) (hm : MI y c2 n2 ret np) (hs : Sp y c2 n2 ret fr lo mc ms av S rv S') (hlink : Cond.methodLink own i y ∈ gwL) (hstat : Cond.static y ∈ gwL) (hd : decode cc pc = .ok (.invokestatic i, 3)) (hst : st = av.reverse ++ rest) (hnp : av.length = np) (hR : fr + 1 ≤ rm.frames ∧ 8 + (n2 + 11) + lo ≤ rm.locals) (hW : (rest.map fun v => v.category).sum ≤ 8) (hf : kc + mc ≤ rm.cells ∧ ks + ms ≤ rm.slots)
    (kk : G b (pc + 3) L (rv.toList ++ rest) S' (kc + mc) (ks + ms)) : G b pc L st S kc ks := by
  obtain ⟨p, l, e, R, s, m, args, below, meth, c, D, cA, z, nL, Q⟩ := b
  obtain ⟨hx, hb, hml, how, hts, hK, hz, hn, hRm⟩ := hC
  intro H locs ls hH hS hl
  subst hRm; subst hst
  refine run_goes (rest := rest) (va_runS (As := av.map (cv z)) (rest := rest.map (cv z)) ⟨hx, hb, hml, how, hts⟩ (hs l D cA z) ⟨callB_of np hts hm.good rfl rfl rfl (hts _ hm.2.1) (hts _ hlink) hm.2.2 hR, hts _ hstat⟩ ⟨PC.blind, fun U hU hWm => ⟨rfl, by rw [hU]; exact hH, hK.warm hWm⟩⟩ rfl (by rw [List.length_map]; exact hnp) hl.1 (by simp [F0]) (lv_room (by rw [cat_map]; exact hW)) hd hf) hS ?_
  intro H1 locs1 hH1 hS1
  exact kk H1 locs1 ls hH1 hS1 hl
theorem g_callSN {host : String} (hC : CX b own cc n rm) (hm : MI y c2 n2 ret np) (hs : Sp y c2 n2 ret fr lo mc ms av S rv S') (hlink : Cond.methodLinkNest own i y host ∈ nwL) (hstat : Cond.static y ∈ gwL) (hd : decode cc pc = .ok (.invokestatic i, 3)) (hst : st = av.reverse ++ rest) (hnp : av.length = np) (hR : fr + 1 ≤ rm.frames ∧ 8 + (n2 + 11) + lo ≤ rm.locals) (hW : (rest.map fun v => v.category).sum ≤ 8) (hf : kc + mc ≤ rm.cells ∧ ks + ms ≤ rm.slots)
    (kk : G b (pc + 3) L (rv.toList ++ rest) S' (kc + mc) (ks + ms)) : G b pc L st S kc ks := by
  obtain ⟨p, l, e, R, s, m, args, below, meth, c, D, cA, z, nL, Q⟩ := b
  obtain ⟨hx, hb, hml, how, hts, hK, hz, hn, hRm⟩ := hC
  intro H locs ls hH hS hl
  subst hRm; subst hst
  refine run_goes (rest := rest) (va_runSN (As := av.map (cv z)) (rest := rest.map (cv z)) ⟨hx, hb, hml, how, hts⟩ (hs l D cA z) ⟨va_cnB np hts hm.good rfl rfl rfl (hK.2.1 _ hlink) (hts _ hm.2.1) hm.2.2 hR, hts _ hstat, trivial⟩ ⟨PC.blind, fun U hU hWm => ⟨rfl, by rw [hU]; exact hH, hK.warm hWm⟩⟩ rfl (by rw [List.length_map]; exact hnp) hl.1 (by simp [F0]) (lv_room (by rw [cat_map]; exact hW)) hd hf) hS ?_
  intro H1 locs1 hH1 hS1
  exact kk H1 locs1 ls hH1 hS1 hl
theorem g_callV {ci : Nat} {T : u_T} {N : Nat} (hC : CX b own cc n rm) (hm : MI y c2 n2 ret np) (hs : Sp y c2 n2 ret fr lo mc ms (.ref a :: As) S rv S') (hcl : clL[ci]? = some (y.cls, T, N)) (hci : ci < 100) (ho : ob S a ci) (hlink : Cond.methodLink own i y ∈ gwL) (hinst : Cond.instanceMethod y ∈ gwL) (hsel : Cond.selects y.cls y y ∈ gwL) (hd : decode cc pc = .ok (.invokevirtual i, 3)) (hst : st = As.reverse ++ .ref a :: rest) (hnp : As.length = np) (hR : fr + 1 ≤ rm.frames ∧ 8 + (n2 + 11) + lo ≤ rm.locals) (hW : (rest.map fun v => v.category).sum ≤ 8) (hf : kc + mc ≤ rm.cells ∧ ks + ms ≤ rm.slots)
    (kk : G b (pc + 3) L (rv.toList ++ rest) S' (kc + mc) (ks + ms)) : G b pc L st S kc ks := by
  obtain ⟨p, l, e, R, s, m, args, below, meth, c, D, cA, z, nL, Q⟩ := b
  obtain ⟨hx, hb, hml, how, hts, hK, hz, hn, hRm⟩ := hC
  intro H locs ls hH hS hl
  subst hRm; subst hst
  obtain ⟨cell, q1, q2, q3, -⟩ := (hH.2 a ho.1).1 (by rw [ho.2]; exact hci)
  rw [ho.2] at q2
  refine run_goes (rest := rest) (va_runV (C := y.cls) (b := z + a) (As := As.map (cv z)) (rest := rest.map (cv z)) ⟨hx, hb, hml, how, hts⟩ (hs l D cA z) ⟨callB_of np hts hm.good rfl rfl rfl (hts _ hm.2.1) (hts _ hlink) hm.2.2 hR, hts _ hinst, hts _ hsel⟩ ⟨PC.blind, ⟨cell, q1, by rw [q3]; rfl, by rw [q2]; exact (hK.1.1 ci _ hcl).2.1⟩, fun U hU hWm => ⟨rfl, by rw [hU]; exact hH, hK.warm hWm⟩⟩ rfl (by rw [List.length_map]; exact hnp) hl.1 (by simp [F0, cv]) (lv_room (by rw [cat_map]; exact hW)) hd hf) hS ?_
  intro H1 locs1 hH1 hS1
  exact kk H1 locs1 ls hH1 hS1 hl
theorem g_callI (hC : CX b own cc n rm) (hm : MI y c2 n2 none np) (hs : Sp y c2 n2 none fr lo mc ms (.ref a :: As) S none S') (hyn : y.name = "<init>") (hlink : Cond.methodLink own i y ∈ gwL) (hinst : Cond.instanceMethod y ∈ gwL) (hd : decode cc pc = .ok (.invokespecial i, 3)) (hst : st = As.reverse ++ .ref a :: rest) (hnp : As.length = np) (hR : fr + 1 ≤ rm.frames ∧ 8 + (n2 + 11) + lo ≤ rm.locals) (hW : (rest.map fun v => v.category).sum ≤ 8) (hf : kc + mc ≤ rm.cells ∧ ks + ms ≤ rm.slots)
    (kk : G b (pc + 3) L rest S' (kc + mc) (ks + ms)) : G b pc L st S kc ks := by
  obtain ⟨p, l, e, R, s, m, args, below, meth, c, D, cA, z, nL, Q⟩ := b
  obtain ⟨hx, hb, hml, how, hts, hK, hz, hn, hRm⟩ := hC
  intro H locs ls hH hS hl
  subst hRm; subst hst
  refine run_goes (rest := rest) (va_runI (b := z + a) (As := As.map (cv z)) (rest := rest.map (cv z)) ⟨hx, hb, hml, how, hts⟩ (hs l D cA z) ⟨callB_of np hts hm.good rfl rfl rfl (hts _ hm.2.1) (hts _ hlink) hm.2.2 hR, hyn, hts _ hinst⟩ ⟨PC.blind, fun U hU hWm => ⟨rfl, by rw [hU]; exact hH, hK.warm hWm⟩⟩ rfl (by rw [List.length_map]; exact hnp) hl.1 (by simp [F0, cv]) (lv_room (by rw [cat_map]; exact hW)) hd hf) hS ?_
  intro H1 locs1 hH1 hS1
  exact kk H1 locs1 ls hH1 hS1 hl
theorem g_callIN {host : String} (hC : CX b own cc n rm) (hm : MI y c2 n2 none np) (hs : Sp y c2 n2 none fr lo mc ms (.ref a :: As) S none S') (hyn : y.name = "<init>") (hlink : Cond.methodLinkNest own i y host ∈ nwL) (hinst : Cond.instanceMethod y ∈ gwL) (hd : decode cc pc = .ok (.invokespecial i, 3)) (hst : st = As.reverse ++ .ref a :: rest) (hnp : As.length = np) (hR : fr + 1 ≤ rm.frames ∧ 8 + (n2 + 11) + lo ≤ rm.locals) (hW : (rest.map fun v => v.category).sum ≤ 8) (hf : kc + mc ≤ rm.cells ∧ ks + ms ≤ rm.slots)
    (kk : G b (pc + 3) L rest S' (kc + mc) (ks + ms)) : G b pc L st S kc ks := by
  obtain ⟨p, l, e, R, s, m, args, below, meth, c, D, cA, z, nL, Q⟩ := b
  obtain ⟨hx, hb, hml, how, hts, hK, hz, hn, hRm⟩ := hC
  intro H locs ls hH hS hl
  subst hRm; subst hst
  refine run_goes (rest := rest) (va_runIN (b := z + a) (As := As.map (cv z)) (rest := rest.map (cv z)) ⟨hx, hb, hml, how, hts⟩ (hs l D cA z) ⟨va_cnB np hts hm.good rfl rfl rfl (hK.2.1 _ hlink) (hts _ hm.2.1) hm.2.2 hR, hyn, hts _ hinst⟩ ⟨PC.blind, fun U hU hWm => ⟨rfl, by rw [hU]; exact hH, hK.warm hWm⟩⟩ rfl (by rw [List.length_map]; exact hnp) hl.1 (by simp [F0, cv]) (lv_room (by rw [cat_map]; exact hW)) hd hf) hS ?_
  intro H1 locs1 hH1 hS1
  exact kk H1 locs1 ls hH1 hS1 hl
end GC
