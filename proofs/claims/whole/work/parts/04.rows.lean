/-! ROWS over worlds: an instruction, a row -/
/-- cell a is of kind k -/
def ob (S : Wd) (a k : Nat) : Prop := a < wn S ∧ (kT a).1 = k
abbrev ClOk (ci : Nat) (C : String) (T : u_T) (N : Nat) (ty : Nat → FieldType) : Prop := clL[ci]? = some (C, T, N) ∧ (∀ w ∈ u_ws C T N, w ∈ gwL) ∧ (∀ k, k < N → parseFieldDescriptor (T k).2.2.1 = some (ty k)) ∧ (∀ a, a < N → ∀ b, b < N → a ≠ b → (T a).2.1 ≠ (T b).2.1) ∧ nfT ci = N ∧ ci < 100 ∧ ∀ k, k < N → defaultValue (ty k) = (if isR ci k = true then Value.null else .int 0)
def Lset (L : List (Nat × Value)) (k : Nat) (v : Value) : List (Nat × Value) := (k, v) :: L.filter (fun q => !(q.1 == k) && !(q.1 + 1 == k && q.2.category == 2))
theorem Lset_map (z : Nat) (L : List (Nat × Value)) (k : Nat) (v : Value) : (k, cv z v) :: (L.map fun q => (q.1, cv z q.2)).filter (fun q => !(q.1 == k) && !(q.1 + 1 == k && q.2.category == 2)) = (Lset L k v).map fun q => (q.1, cv z q.2) := by
  simp only [Lset, List.map_cons, List.filter_map]
  congr 2
  apply List.filter_congr
  intro q _
  simp only [Function.comp, cv_cat]
theorem lk_mem {L : List (Nat × Value)} {k : Nat} {v : Value} (h : L.lookup k = some v) : (k, v) ∈ L := by
  induction L with
  | nil => cases h
  | cons q L ih =>
    obtain ⟨a, b⟩ := q
    simp only [List.lookup_cons] at h
    split at h
    · rename_i e
      have := eq_of_beq e
      cases h
      subst this
      exact List.mem_cons_self
    · exact List.mem_cons_of_mem _ (ih h)
theorem lk_at {z nL : Nat} {ls : Array Slot} {L : List (Nat × Value)} {k : Nat} {v : Value} (hl : lv_has ls nL (L.map fun q => (q.1, cv z q.2))) (h : L.lookup k = some v) : ls[k]? = some (.val (cv z v)) :=
  hl.2.2 (k, cv z v) (List.mem_map.mpr ⟨(k, v), lk_mem h, rfl⟩)
section GR
variable {b : Bd} {own : String} {cc : ByteArray} {n : Nat} {rm : Room} {pc : Nat} {L L' : List (Nat × Value)} {st : List Value} {S : Wd} {kc ks : Nat}
theorem g_weak (h : ∀ q ∈ L', q ∈ L) (kk : G b pc L' st S kc ks) : G b pc L st S kc ks := by
  obtain ⟨p, l, e, R, s, m, args, below, meth, c, D, cA, z, nL, Q⟩ := b
  intro H locs ls hH hS hl
  refine kk H locs ls hH hS ⟨hl.1, hl.2.1, fun q hq => ?_⟩
  obtain ⟨q0, h1, rfl⟩ := List.mem_map.mp hq
  exact hl.2.2 _ (List.mem_map.mpr ⟨q0, h q0 h1, rfl⟩)
theorem g_widen {kc' ks' : Nat} (h1 : kc ≤ kc') (h2 : ks ≤ ks') (kk : G b pc L st S kc' ks') : G b pc L st S kc ks := by
  obtain ⟨p, l, e, R, s, m, args, below, meth, c, D, cA, z, nL, Q⟩ := b
  intro H locs ls hH hS hl
  exact W.widen h1 h2 (kk H locs ls hH hS hl)
theorem g_iconst {k : Int} {v : Int32} (hC : CX b own cc n rm) (hd : decode cc pc = .ok (.iconst k, 1)) (hv : Int32.ofInt k = v) (kk : G b (pc + 1) L (.int v :: st) S kc ks) : G b pc L st S kc ks := by
  obtain ⟨p, l, e, R, s, m, args, below, meth, c, D, cA, z, nL, Q⟩ := b
  obtain ⟨hx, hb, hml, ho, hts, hK, hz, hn, hR⟩ := hC
  intro H locs ls hH hS hl
  exact lv_iconst hx hb hd hv (kk H locs ls hH hS hl)
theorem g_bipush {k : Int} {v : Int32} (hC : CX b own cc n rm) (hd : decode cc pc = .ok (.bipush k, 2)) (hv : (Int8.ofInt k).toInt32 = v) (kk : G b (pc + 2) L (.int v :: st) S kc ks) : G b pc L st S kc ks := by
  obtain ⟨p, l, e, R, s, m, args, below, meth, c, D, cA, z, nL, Q⟩ := b
  obtain ⟨hx, hb, hml, ho, hts, hK, hz, hn, hR⟩ := hC
  intro H locs ls hH hS hl
  exact lv_bipush hx hb hd hv (kk H locs ls hH hS hl)
theorem g_sipush {k : Int} {v : Int32} (hC : CX b own cc n rm) (hd : decode cc pc = .ok (.sipush k, 3)) (hv : (Int16.ofInt k).toInt32 = v) (kk : G b (pc + 3) L (.int v :: st) S kc ks) : G b pc L st S kc ks := by
  obtain ⟨p, l, e, R, s, m, args, below, meth, c, D, cA, z, nL, Q⟩ := b
  obtain ⟨hx, hb, hml, ho, hts, hK, hz, hn, hR⟩ := hC
  intro H locs ls hH hS hl
  exact lv_sipush hx hb hd hv (kk H locs ls hH hS hl)
theorem g_ldc {i : Nat} {v : Int32} (hC : CX b own cc n rm) (hw : Cond.constant own i v ∈ gwL) (hd : decode cc pc = .ok (.ldc i, 2)) (kk : G b (pc + 2) L (.int v :: st) S kc ks) : G b pc L st S kc ks := by
  obtain ⟨p, l, e, R, s, m, args, below, meth, c, D, cA, z, nL, Q⟩ := b
  obtain ⟨hx, hb, hml, ho, hts, hK, hz, hn, hR⟩ := hC
  intro H locs ls hH hS hl
  exact lv_ldc hx hb ho (hts _ hw) hd (kk H locs ls hH hS hl)
theorem g_ldcw {i : Nat} {v : Int32} (hC : CX b own cc n rm) (hw : Cond.constant own i v ∈ gwL) (hd : decode cc pc = .ok (.ldc_w i, 3)) (kk : G b (pc + 3) L (.int v :: st) S kc ks) : G b pc L st S kc ks := by
  obtain ⟨p, l, e, R, s, m, args, below, meth, c, D, cA, z, nL, Q⟩ := b
  obtain ⟨hx, hb, hml, ho, hts, hK, hz, hn, hR⟩ := hC
  intro H locs ls hH hS hl
  exact lv_ldcw hx hb ho (hts _ hw) hd (kk H locs ls hH hS hl)
theorem g_iload_n {k : Fin 4} {v : Int32} (hC : CX b own cc n rm) (hd : decode cc pc = .ok (.iload_n k, 1)) (hv : L.lookup (k : Nat) = some (.int v)) (kk : G b (pc + 1) L (.int v :: st) S kc ks) : G b pc L st S kc ks := by
  obtain ⟨p, l, e, R, s, m, args, below, meth, c, D, cA, z, nL, Q⟩ := b
  obtain ⟨hx, hb, hml, ho, hts, hK, hz, hn, hR⟩ := hC
  intro H locs ls hH hS hl
  exact lv_iload_n hx hb hd rfl (lk_at hl hv) (kk H locs ls hH hS hl)
theorem g_iload {k : Nat} {v : Int32} (hC : CX b own cc n rm) (hd : decode cc pc = .ok (.iload k, 2)) (hv : L.lookup k = some (.int v)) (kk : G b (pc + 2) L (.int v :: st) S kc ks) : G b pc L st S kc ks := by
  obtain ⟨p, l, e, R, s, m, args, below, meth, c, D, cA, z, nL, Q⟩ := b
  obtain ⟨hx, hb, hml, ho, hts, hK, hz, hn, hR⟩ := hC
  intro H locs ls hH hS hl
  exact lv_iload hx hb hd (lk_at hl hv) (kk H locs ls hH hS hl)
theorem g_aload_n {k : Fin 4} {v : Nat} (hC : CX b own cc n rm) (hd : decode cc pc = .ok (.aload_n k, 1)) (hv : L.lookup (k : Nat) = some (.ref v)) (kk : G b (pc + 1) L (.ref v :: st) S kc ks) : G b pc L st S kc ks := by
  obtain ⟨p, l, e, R, s, m, args, below, meth, c, D, cA, z, nL, Q⟩ := b
  obtain ⟨hx, hb, hml, ho, hts, hK, hz, hn, hR⟩ := hC
  intro H locs ls hH hS hl
  exact lv_aload_n hx hb hd rfl (lk_at hl hv) (kk H locs ls hH hS hl)
theorem g_aload {k : Nat} {v : Nat} (hC : CX b own cc n rm) (hd : decode cc pc = .ok (.aload k, 2)) (hv : L.lookup k = some (.ref v)) (kk : G b (pc + 2) L (.ref v :: st) S kc ks) : G b pc L st S kc ks := by
  obtain ⟨p, l, e, R, s, m, args, below, meth, c, D, cA, z, nL, Q⟩ := b
  obtain ⟨hx, hb, hml, ho, hts, hK, hz, hn, hR⟩ := hC
  intro H locs ls hH hS hl
  exact lv_aload hx hb hd (lk_at hl hv) (kk H locs ls hH hS hl)
theorem g_istore_n {k : Fin 4} {v : Int32} (hC : CX b own cc n rm) (hd : decode cc pc = .ok (.istore_n k, 1)) (hk : (k : Nat) < n) (hL : Lset L (k : Nat) (.int v) = L') (kk : G b (pc + 1) L' st S kc ks) : G b pc L (.int v :: st) S kc ks := by
  obtain ⟨p, l, e, R, s, m, args, below, meth, c, D, cA, z, nL, Q⟩ := b
  obtain ⟨hx, hb, hml, ho, hts, hK, hz, hn, hR⟩ := hC
  intro H locs ls hH hS hl
  subst hL; subst hn
  exact lv_istore_n hx hb hd rfl hl hk (Lset_map z L _ (.int v)) (fun ls' hl' => kk H locs ls' hH hS hl')
theorem g_istore {k : Nat} {v : Int32} (hC : CX b own cc n rm) (hd : decode cc pc = .ok (.istore k, 2)) (hk : k < n) (hL : Lset L k (.int v) = L') (kk : G b (pc + 2) L' st S kc ks) : G b pc L (.int v :: st) S kc ks := by
  obtain ⟨p, l, e, R, s, m, args, below, meth, c, D, cA, z, nL, Q⟩ := b
  obtain ⟨hx, hb, hml, ho, hts, hK, hz, hn, hR⟩ := hC
  intro H locs ls hH hS hl
  subst hL; subst hn
  exact lv_istore hx hb hd hl hk (Lset_map z L _ (.int v)) (fun ls' hl' => kk H locs ls' hH hS hl')
theorem g_astore_n {k : Fin 4} {v : Nat} (hC : CX b own cc n rm) (hd : decode cc pc = .ok (.astore_n k, 1)) (hk : (k : Nat) < n) (hL : Lset L (k : Nat) (.ref v) = L') (kk : G b (pc + 1) L' st S kc ks) : G b pc L (.ref v :: st) S kc ks := by
  obtain ⟨p, l, e, R, s, m, args, below, meth, c, D, cA, z, nL, Q⟩ := b
  obtain ⟨hx, hb, hml, ho, hts, hK, hz, hn, hR⟩ := hC
  intro H locs ls hH hS hl
  subst hL; subst hn
  exact lv_astore_n hx hb hd rfl hl hk (Lset_map z L _ (.ref v)) (fun ls' hl' => kk H locs ls' hH hS hl')
theorem g_astore {k : Nat} {v : Nat} (hC : CX b own cc n rm) (hd : decode cc pc = .ok (.astore k, 2)) (hk : k < n) (hL : Lset L k (.ref v) = L') (kk : G b (pc + 2) L' st S kc ks) : G b pc L (.ref v :: st) S kc ks := by
  obtain ⟨p, l, e, R, s, m, args, below, meth, c, D, cA, z, nL, Q⟩ := b
  obtain ⟨hx, hb, hml, ho, hts, hK, hz, hn, hR⟩ := hC
  intro H locs ls hH hS hl
  subst hL; subst hn
  exact lv_astore hx hb hd hl hk (Lset_map z L _ (.ref v)) (fun ls' hl' => kk H locs ls' hH hS hl')
theorem g_iinc {k : Nat} {i : Int} {x v : Int32} (hC : CX b own cc n rm) (hd : decode cc pc = .ok (.iinc k i, 3)) (hx0 : L.lookup k = some (.int x)) (hv : Int32.ofInt i = v) (hk : k < n) (hL : Lset L k (.int (x + v)) = L') (kk : G b (pc + 3) L' st S kc ks) : G b pc L st S kc ks := by
  obtain ⟨p, l, e, R, s, m, args, below, meth, c, D, cA, z, nL, Q⟩ := b
  obtain ⟨hx, hb, hml, ho, hts, hK, hz, hn, hR⟩ := hC
  intro H locs ls hH hS hl
  subst hL; subst hn; subst hv
  have hm : (k, cv z (.int x)) ∈ L.map (fun q => (q.1, cv z q.2)) := List.mem_map.mpr ⟨(k, .int x), lk_mem hx0, rfl⟩
  obtain ⟨j, hj⟩ := List.getElem?_of_mem hm
  exact lv_iinc hx hb hd hl hj rfl hk (Lset_map z L _ (.int (x + Int32.ofInt i))) (fun ls' hl' => kk H locs ls' hH hS hl')
theorem g_iadd {x y : Int32} (hC : CX b own cc n rm) (hd : decode cc pc = .ok (.iadd, 1)) (kk : G b (pc + 1) L (.int (x + y) :: st) S kc ks) : G b pc L (.int y :: .int x :: st) S kc ks := by
  obtain ⟨p, l, e, R, s, m, args, below, meth, c, D, cA, z, nL, Q⟩ := b
  intro H locs ls hH hS hl
  exact lv_iadd hC.1 hC.2.1 hd (kk H locs ls hH hS hl)
theorem g_isub {x y : Int32} (hC : CX b own cc n rm) (hd : decode cc pc = .ok (.isub, 1)) (kk : G b (pc + 1) L (.int (x - y) :: st) S kc ks) : G b pc L (.int y :: .int x :: st) S kc ks := by
  obtain ⟨p, l, e, R, s, m, args, below, meth, c, D, cA, z, nL, Q⟩ := b
  intro H locs ls hH hS hl
  exact lv_isub hC.1 hC.2.1 hd (kk H locs ls hH hS hl)
theorem g_imul {x y : Int32} (hC : CX b own cc n rm) (hd : decode cc pc = .ok (.imul, 1)) (kk : G b (pc + 1) L (.int (x * y) :: st) S kc ks) : G b pc L (.int y :: .int x :: st) S kc ks := by
  obtain ⟨p, l, e, R, s, m, args, below, meth, c, D, cA, z, nL, Q⟩ := b
  intro H locs ls hH hS hl
  exact lv_imul hC.1 hC.2.1 hd (kk H locs ls hH hS hl)
theorem g_iand {x y : Int32} (hC : CX b own cc n rm) (hd : decode cc pc = .ok (.iand, 1)) (kk : G b (pc + 1) L (.int (x &&& y) :: st) S kc ks) : G b pc L (.int y :: .int x :: st) S kc ks := by
  obtain ⟨p, l, e, R, s, m, args, below, meth, c, D, cA, z, nL, Q⟩ := b
  intro H locs ls hH hS hl
  exact lv_iand hC.1 hC.2.1 hd (kk H locs ls hH hS hl)
theorem g_ior {x y : Int32} (hC : CX b own cc n rm) (hd : decode cc pc = .ok (.ior, 1)) (kk : G b (pc + 1) L (.int (x ||| y) :: st) S kc ks) : G b pc L (.int y :: .int x :: st) S kc ks := by
  obtain ⟨p, l, e, R, s, m, args, below, meth, c, D, cA, z, nL, Q⟩ := b
  intro H locs ls hH hS hl
  exact lv_ior hC.1 hC.2.1 hd (kk H locs ls hH hS hl)
theorem g_ixor {x y : Int32} (hC : CX b own cc n rm) (hd : decode cc pc = .ok (.ixor, 1)) (kk : G b (pc + 1) L (.int (x ^^^ y) :: st) S kc ks) : G b pc L (.int y :: .int x :: st) S kc ks := by
  obtain ⟨p, l, e, R, s, m, args, below, meth, c, D, cA, z, nL, Q⟩ := b
  intro H locs ls hH hS hl
  exact lv_ixor hC.1 hC.2.1 hd (kk H locs ls hH hS hl)
theorem g_ishl {x y : Int32} (hC : CX b own cc n rm) (hd : decode cc pc = .ok (.ishl, 1)) (kk : G b (pc + 1) L (.int (x <<< (y &&& 31)) :: st) S kc ks) : G b pc L (.int y :: .int x :: st) S kc ks := by
  obtain ⟨p, l, e, R, s, m, args, below, meth, c, D, cA, z, nL, Q⟩ := b
  intro H locs ls hH hS hl
  exact lv_ishl hC.1 hC.2.1 hd (kk H locs ls hH hS hl)
theorem g_ishr {x y : Int32} (hC : CX b own cc n rm) (hd : decode cc pc = .ok (.ishr, 1)) (kk : G b (pc + 1) L (.int (x >>> (y &&& 31)) :: st) S kc ks) : G b pc L (.int y :: .int x :: st) S kc ks := by
  obtain ⟨p, l, e, R, s, m, args, below, meth, c, D, cA, z, nL, Q⟩ := b
  intro H locs ls hH hS hl
  exact lv_ishr hC.1 hC.2.1 hd (kk H locs ls hH hS hl)
theorem g_iushr {x y : Int32} (hC : CX b own cc n rm) (hd : decode cc pc = .ok (.iushr, 1)) (kk : G b (pc + 1) L (.int ((x.toUInt32 >>> (y.toUInt32 &&& Int32.toUInt32 31)).toInt32) :: st) S kc ks) : G b pc L (.int y :: .int x :: st) S kc ks := by
  obtain ⟨p, l, e, R, s, m, args, below, meth, c, D, cA, z, nL, Q⟩ := b
  intro H locs ls hH hS hl
  exact lv_iushr hC.1 hC.2.1 hd rfl (kk H locs ls hH hS hl)
theorem g_ineg {x : Int32} (hC : CX b own cc n rm) (hd : decode cc pc = .ok (.ineg, 1)) (kk : G b (pc + 1) L (.int (-x) :: st) S kc ks) : G b pc L (.int x :: st) S kc ks := by
  obtain ⟨p, l, e, R, s, m, args, below, meth, c, D, cA, z, nL, Q⟩ := b
  intro H locs ls hH hS hl
  exact lv_ineg hC.1 hC.2.1 hd (kk H locs ls hH hS hl)
theorem g_i2b {x : Int32} (hC : CX b own cc n rm) (hd : decode cc pc = .ok (.i2b, 1)) (kk : G b (pc + 1) L (.int (x.toInt8.toInt32) :: st) S kc ks) : G b pc L (.int x :: st) S kc ks := by
  obtain ⟨p, l, e, R, s, m, args, below, meth, c, D, cA, z, nL, Q⟩ := b
  intro H locs ls hH hS hl
  exact lv_i2b hC.1 hC.2.1 hd rfl (kk H locs ls hH hS hl)
theorem g_i2s {x : Int32} (hC : CX b own cc n rm) (hd : decode cc pc = .ok (.i2s, 1)) (kk : G b (pc + 1) L (.int (x.toInt16.toInt32) :: st) S kc ks) : G b pc L (.int x :: st) S kc ks := by
  obtain ⟨p, l, e, R, s, m, args, below, meth, c, D, cA, z, nL, Q⟩ := b
  intro H locs ls hH hS hl
  exact lv_i2s hC.1 hC.2.1 hd rfl (kk H locs ls hH hS hl)
theorem g_i2l {x : Int32} (hC : CX b own cc n rm) (hd : decode cc pc = .ok (.i2l, 1)) (kk : G b (pc + 1) L (.long x.toInt64 :: st) S kc ks) : G b pc L (.int x :: st) S kc ks := by
  obtain ⟨p, l, e, R, s, m, args, below, meth, c, D, cA, z, nL, Q⟩ := b
  intro H locs ls hH hS hl
  exact lv_i2l hC.1 hC.2.1 hd rfl (kk H locs ls hH hS hl)
theorem g_ladd {x y : Int64} (hC : CX b own cc n rm) (hd : decode cc pc = .ok (.ladd, 1)) (kk : G b (pc + 1) L (.long (x + y) :: st) S kc ks) : G b pc L (.long y :: .long x :: st) S kc ks := by
  obtain ⟨p, l, e, R, s, m, args, below, meth, c, D, cA, z, nL, Q⟩ := b
  intro H locs ls hH hS hl
  exact lv_ladd hC.1 hC.2.1 hd (kk H locs ls hH hS hl)
theorem g_lcmp {x y : Int64} (hC : CX b own cc n rm) (hd : decode cc pc = .ok (.lcmp, 1)) (kk : G b (pc + 1) L (.int (lg_cmp x y) :: st) S kc ks) : G b pc L (.long y :: .long x :: st) S kc ks := by
  obtain ⟨p, l, e, R, s, m, args, below, meth, c, D, cA, z, nL, Q⟩ := b
  intro H locs ls hH hS hl
  exact W.lcmp hC.1 hC.2.1 hd (kk H locs ls hH hS hl)
theorem g_idiv {x y : Int32} (hC : CX b own cc n rm) (hd : decode cc pc = .ok (.idiv, 1)) (hne : ¬ y = 0) (kk : G b (pc + 1) L (.int (x / y) :: st) S kc ks) : G b pc L (.int y :: .int x :: st) S kc ks := by
  obtain ⟨p, l, e, R, s, m, args, below, meth, c, D, cA, z, nL, Q⟩ := b
  intro H locs ls hH hS hl
  exact lv_idiv hC.1 hC.2.1 hd hne (kk H locs ls hH hS hl)
theorem g_irem {x y : Int32} (hC : CX b own cc n rm) (hd : decode cc pc = .ok (.irem, 1)) (hne : ¬ y = 0) (kk : G b (pc + 1) L (.int (x - x / y * y) :: st) S kc ks) : G b pc L (.int y :: .int x :: st) S kc ks := by
  obtain ⟨p, l, e, R, s, m, args, below, meth, c, D, cA, z, nL, Q⟩ := b
  intro H locs ls hH hS hl
  exact lv_irem hC.1 hC.2.1 hd hne (kk H locs ls hH hS hl)
theorem g_dup {v : Value} (hC : CX b own cc n rm) (hd : decode cc pc = .ok (.dup, 1)) (hv : v.category = 1) (kk : G b (pc + 1) L (v :: v :: st) S kc ks) : G b pc L (v :: st) S kc ks := by
  obtain ⟨p, l, e, R, s, m, args, below, meth, c, D, cA, z, nL, Q⟩ := b
  intro H locs ls hH hS hl
  exact lv_dup hC.1 hC.2.1 hd ((cv_cat z v).trans hv) (kk H locs ls hH hS hl)
theorem g_dup2 {v w : Value} (hC : CX b own cc n rm) (hd : decode cc pc = .ok (.dup2, 1)) (hv : v.category = 1) (hw : w.category = 1) (kk : G b (pc + 1) L (v :: w :: v :: w :: st) S kc ks) : G b pc L (v :: w :: st) S kc ks := by
  obtain ⟨p, l, e, R, s, m, args, below, meth, c, D, cA, z, nL, Q⟩ := b
  intro H locs ls hH hS hl
  exact lv_dup2_11 hC.1 hC.2.1 hd ((cv_cat z v).trans hv) ((cv_cat z w).trans hw) (kk H locs ls hH hS hl)
theorem g_goto {off : Int} {tgt : Nat} (hC : CX b own cc n rm) (hd : decode cc pc = .ok (.goto off, 3)) (ht : (pc : Int) + off = (tgt : Int)) (kk : G b tgt L st S kc ks) : G b pc L st S kc ks := by
  obtain ⟨p, l, e, R, s, m, args, below, meth, c, D, cA, z, nL, Q⟩ := b
  intro H locs ls hH hS hl
  exact lv_goto hC.1 hC.2.1 hd ht (kk H locs ls hH hS hl)
theorem g_ifnull {x : Nat} {off : Int} (hC : CX b own cc n rm) (hd : decode cc pc = .ok (.ifnull off, 3)) (kk : G b (pc + 3) L st S kc ks) : G b pc L (.ref x :: st) S kc ks := by
  obtain ⟨p, l, e, R, s, m, args, below, meth, c, D, cA, z, nL, Q⟩ := b
  intro H locs ls hH hS hl
  exact lv_ifnull hC.1 hC.2.1 hd (kk H locs ls hH hS hl)
theorem g_tin {dflt lo hi : Int} {offs : Array Int} {len : Nat} {x v : Int32} {off : Int} {tgt : Nat} (hC : CX b own cc n rm) (hd : decode cc pc = .ok (.tableswitch dflt lo hi offs, len)) (hxv : x = v) (h1 : ¬ v.toInt < lo) (h2 : ¬ hi < v.toInt) (ho : offs[(v.toInt - lo).toNat]? = some off) (ht : (pc : Int) + off = (tgt : Int)) (kk : G b tgt L st S kc ks) : G b pc L (.int x :: st) S kc ks := by
  obtain ⟨p, l, e, R, s, m, args, below, meth, c, D, cA, z, nL, Q⟩ := b
  intro H locs ls hH hS hl
  subst hxv
  exact lv_tableIn hC.1 hC.2.1 hd h1 h2 ho ht (kk H locs ls hH hS hl)
theorem g_tout {dflt lo hi : Int} {offs : Array Int} {len : Nat} {x : Int32} {tgt : Nat} (hC : CX b own cc n rm) (hd : decode cc pc = .ok (.tableswitch dflt lo hi offs, len)) (h : x.toInt < lo ∨ hi < x.toInt) (ht : (pc : Int) + dflt = (tgt : Int)) (kk : G b tgt L st S kc ks) : G b pc L (.int x :: st) S kc ks := by
  obtain ⟨p, l, e, R, s, m, args, below, meth, c, D, cA, z, nL, Q⟩ := b
  intro H locs ls hH hS hl
  exact lv_tableOut hC.1 hC.2.1 hd h ht (kk H locs ls hH hS hl)
theorem g_lookup {dflt : Int} {ps : Array (Int × Int)} {len : Nat} {x : Int32} {off : Int} {tgt : Nat} (hC : CX b own cc n rm) (hd : decode cc pc = .ok (.lookupswitch dflt ps, len)) (hp : (ps.toList.zip (ps.toList.drop 1)).all (fun (a, next) => a.1 < next.1) = true) (ho : Op.lookupswitch.offset ps.toList dflt x.toInt = off) (ht : (pc : Int) + off = (tgt : Int)) (kk : G b tgt L st S kc ks) : G b pc L (.int x :: st) S kc ks := by
  obtain ⟨p, l, e, R, s, m, args, below, meth, c, D, cA, z, nL, Q⟩ := b
  intro H locs ls hH hS hl
  exact lv_lookup hC.1 hC.2.1 hd hp ho ht (kk H locs ls hH hS hl)
theorem g_if_eq {x : Int32} {off : Int} {tgt : Nat} (hC : CX b own cc n rm) (hd : decode cc pc = .ok (.ifCond .eq off, 3)) (ht : (pc : Int) + off = (tgt : Int)) (kt : x = 0 → G b tgt L st S kc ks) (kf : ¬ x = 0 → G b (pc + 3) L st S kc ks) : G b pc L (.int x :: st) S kc ks := by
  obtain ⟨p, l, e, R, s, m, args, below, meth, c, D, cA, z, nL, Q⟩ := b
  intro H locs ls hH hS hl
  exact lv_if_eq hC.1 hC.2.1 hd ht (fun h => kt h H locs ls hH hS hl) (fun h => kf h H locs ls hH hS hl)
theorem g_icmp_eq {x y : Int32} {off : Int} {tgt : Nat} (hC : CX b own cc n rm) (hd : decode cc pc = .ok (.if_icmp .eq off, 3)) (ht : (pc : Int) + off = (tgt : Int)) (kt : x = y → G b tgt L st S kc ks) (kf : ¬ x = y → G b (pc + 3) L st S kc ks) : G b pc L (.int y :: .int x :: st) S kc ks := by
  obtain ⟨p, l, e, R, s, m, args, below, meth, c, D, cA, z, nL, Q⟩ := b
  intro H locs ls hH hS hl
  exact lv_icmp_eq hC.1 hC.2.1 hd ht (fun h => kt h H locs ls hH hS hl) (fun h => kf h H locs ls hH hS hl)
theorem g_if_ne {x : Int32} {off : Int} {tgt : Nat} (hC : CX b own cc n rm) (hd : decode cc pc = .ok (.ifCond .ne off, 3)) (ht : (pc : Int) + off = (tgt : Int)) (kt : ¬ x = 0 → G b tgt L st S kc ks) (kf : x = 0 → G b (pc + 3) L st S kc ks) : G b pc L (.int x :: st) S kc ks := by
  obtain ⟨p, l, e, R, s, m, args, below, meth, c, D, cA, z, nL, Q⟩ := b
  intro H locs ls hH hS hl
  exact lv_if_ne hC.1 hC.2.1 hd ht (fun h => kt h H locs ls hH hS hl) (fun h => kf h H locs ls hH hS hl)
theorem g_icmp_ne {x y : Int32} {off : Int} {tgt : Nat} (hC : CX b own cc n rm) (hd : decode cc pc = .ok (.if_icmp .ne off, 3)) (ht : (pc : Int) + off = (tgt : Int)) (kt : ¬ x = y → G b tgt L st S kc ks) (kf : x = y → G b (pc + 3) L st S kc ks) : G b pc L (.int y :: .int x :: st) S kc ks := by
  obtain ⟨p, l, e, R, s, m, args, below, meth, c, D, cA, z, nL, Q⟩ := b
  intro H locs ls hH hS hl
  exact lv_icmp_ne hC.1 hC.2.1 hd ht (fun h => kt h H locs ls hH hS hl) (fun h => kf h H locs ls hH hS hl)
theorem g_if_lt {x : Int32} {off : Int} {tgt : Nat} (hC : CX b own cc n rm) (hd : decode cc pc = .ok (.ifCond .lt off, 3)) (ht : (pc : Int) + off = (tgt : Int)) (kt : x < 0 → G b tgt L st S kc ks) (kf : ¬ x < 0 → G b (pc + 3) L st S kc ks) : G b pc L (.int x :: st) S kc ks := by
  obtain ⟨p, l, e, R, s, m, args, below, meth, c, D, cA, z, nL, Q⟩ := b
  intro H locs ls hH hS hl
  exact lv_if_lt hC.1 hC.2.1 hd ht (fun h => kt h H locs ls hH hS hl) (fun h => kf h H locs ls hH hS hl)
theorem g_icmp_lt {x y : Int32} {off : Int} {tgt : Nat} (hC : CX b own cc n rm) (hd : decode cc pc = .ok (.if_icmp .lt off, 3)) (ht : (pc : Int) + off = (tgt : Int)) (kt : x < y → G b tgt L st S kc ks) (kf : ¬ x < y → G b (pc + 3) L st S kc ks) : G b pc L (.int y :: .int x :: st) S kc ks := by
  obtain ⟨p, l, e, R, s, m, args, below, meth, c, D, cA, z, nL, Q⟩ := b
  intro H locs ls hH hS hl
  exact lv_icmp_lt hC.1 hC.2.1 hd ht (fun h => kt h H locs ls hH hS hl) (fun h => kf h H locs ls hH hS hl)
theorem g_if_ge {x : Int32} {off : Int} {tgt : Nat} (hC : CX b own cc n rm) (hd : decode cc pc = .ok (.ifCond .ge off, 3)) (ht : (pc : Int) + off = (tgt : Int)) (kt : 0 ≤ x → G b tgt L st S kc ks) (kf : ¬ 0 ≤ x → G b (pc + 3) L st S kc ks) : G b pc L (.int x :: st) S kc ks := by
  obtain ⟨p, l, e, R, s, m, args, below, meth, c, D, cA, z, nL, Q⟩ := b
  intro H locs ls hH hS hl
  exact lv_if_ge hC.1 hC.2.1 hd ht (fun h => kt h H locs ls hH hS hl) (fun h => kf h H locs ls hH hS hl)
theorem g_icmp_ge {x y : Int32} {off : Int} {tgt : Nat} (hC : CX b own cc n rm) (hd : decode cc pc = .ok (.if_icmp .ge off, 3)) (ht : (pc : Int) + off = (tgt : Int)) (kt : y ≤ x → G b tgt L st S kc ks) (kf : ¬ y ≤ x → G b (pc + 3) L st S kc ks) : G b pc L (.int y :: .int x :: st) S kc ks := by
  obtain ⟨p, l, e, R, s, m, args, below, meth, c, D, cA, z, nL, Q⟩ := b
  intro H locs ls hH hS hl
  exact lv_icmp_ge hC.1 hC.2.1 hd ht (fun h => kt h H locs ls hH hS hl) (fun h => kf h H locs ls hH hS hl)
theorem g_if_gt {x : Int32} {off : Int} {tgt : Nat} (hC : CX b own cc n rm) (hd : decode cc pc = .ok (.ifCond .gt off, 3)) (ht : (pc : Int) + off = (tgt : Int)) (kt : 0 < x → G b tgt L st S kc ks) (kf : ¬ 0 < x → G b (pc + 3) L st S kc ks) : G b pc L (.int x :: st) S kc ks := by
  obtain ⟨p, l, e, R, s, m, args, below, meth, c, D, cA, z, nL, Q⟩ := b
  intro H locs ls hH hS hl
  exact lv_if_gt hC.1 hC.2.1 hd ht (fun h => kt h H locs ls hH hS hl) (fun h => kf h H locs ls hH hS hl)
theorem g_icmp_gt {x y : Int32} {off : Int} {tgt : Nat} (hC : CX b own cc n rm) (hd : decode cc pc = .ok (.if_icmp .gt off, 3)) (ht : (pc : Int) + off = (tgt : Int)) (kt : y < x → G b tgt L st S kc ks) (kf : ¬ y < x → G b (pc + 3) L st S kc ks) : G b pc L (.int y :: .int x :: st) S kc ks := by
  obtain ⟨p, l, e, R, s, m, args, below, meth, c, D, cA, z, nL, Q⟩ := b
  intro H locs ls hH hS hl
  exact lv_icmp_gt hC.1 hC.2.1 hd ht (fun h => kt h H locs ls hH hS hl) (fun h => kf h H locs ls hH hS hl)
theorem g_if_le {x : Int32} {off : Int} {tgt : Nat} (hC : CX b own cc n rm) (hd : decode cc pc = .ok (.ifCond .le off, 3)) (ht : (pc : Int) + off = (tgt : Int)) (kt : x ≤ 0 → G b tgt L st S kc ks) (kf : ¬ x ≤ 0 → G b (pc + 3) L st S kc ks) : G b pc L (.int x :: st) S kc ks := by
  obtain ⟨p, l, e, R, s, m, args, below, meth, c, D, cA, z, nL, Q⟩ := b
  intro H locs ls hH hS hl
  exact lv_if_le hC.1 hC.2.1 hd ht (fun h => kt h H locs ls hH hS hl) (fun h => kf h H locs ls hH hS hl)
theorem g_icmp_le {x y : Int32} {off : Int} {tgt : Nat} (hC : CX b own cc n rm) (hd : decode cc pc = .ok (.if_icmp .le off, 3)) (ht : (pc : Int) + off = (tgt : Int)) (kt : x ≤ y → G b tgt L st S kc ks) (kf : ¬ x ≤ y → G b (pc + 3) L st S kc ks) : G b pc L (.int y :: .int x :: st) S kc ks := by
  obtain ⟨p, l, e, R, s, m, args, below, meth, c, D, cA, z, nL, Q⟩ := b
  intro H locs ls hH hS hl
  exact lv_icmp_le hC.1 hC.2.1 hd ht (fun h => kt h H locs ls hH hS hl) (fun h => kf h H locs ls hH hS hl)
end GR
