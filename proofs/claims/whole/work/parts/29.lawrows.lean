/-! the law's own frame: the script stands for the value null -/
def cvL (z bb : Nat) : Value → Value
  | .ref i => .ref (z + i)
  | .null => .ref bb
  | v => v
theorem cvL_cat (z bb : Nat) (v : Value) : (cvL z bb v).category = v.category := by cases v <;> rfl
theorem cat_mapL (z bb : Nat) (rest : List Value) : ((rest.map (cvL z bb)).map fun v => v.category) = rest.map fun v => v.category := by
  rw [List.map_map]
  exact List.map_congr_left fun v _ => cvL_cat z bb v
theorem Lset_mapL (z bb : Nat) (L : List (Nat × Value)) (k : Nat) (v : Value) : (k, cvL z bb v) :: (L.map fun q => (q.1, cvL z bb q.2)).filter (fun q => !(q.1 == k) && !(q.1 + 1 == k && q.2.category == 2)) = (Lset L k v).map fun q => (q.1, cvL z bb q.2) := by
  simp only [Lset, List.map_cons, List.filter_map]
  congr 2
  apply List.filter_congr
  intro q _
  simp only [Function.comp, cvL_cat]
theorem lk_atL {z bb nL : Nat} {ls : Array Slot} {L : List (Nat × Value)} {k : Nat} {v : Value} (hl : lv_has ls nL (L.map fun q => (q.1, cvL z bb q.2))) (h : L.lookup k = some v) : ls[k]? = some (.val (cvL z bb v)) :=
  hl.2.2 (k, cvL z bb v) (List.mem_map.mpr ⟨(k, v), lk_mem h, rfl⟩)
def GL : Bd → Nat → Nat → List (Nat × Value) → List Value → Wd → Nat → Nat → Prop
  | (p, l, e, R, s, m, args, below, meth, c, D, cA, z, nL, Q), bb, pc, L, st, S, kc, ks =>
    ∀ (H : Heap) (locs : List Loc) (ls : Array Slot), HO D cA z S H → va_S (fun q => z ≤ q) s.heap H locs → lv_has ls nL (L.map fun q => (q.1, cvL z bb q.2)) → W p l e R s m args below meth c H locs kc ks Q (F0 m pc ls (st.map (cvL z bb)))
section GLR
variable {b : Bd} {bb : Nat} {own : String} {cc : ByteArray} {n : Nat} {rm : Room} {pc : Nat} {L L' : List (Nat × Value)} {st : List Value} {S : Wd} {kc ks : Nat}

theorem gl_widen {kc' ks' : Nat} (h1 : kc ≤ kc') (h2 : ks ≤ ks') (kk : GL b bb pc L st S kc' ks') : GL b bb pc L st S kc ks := by
  obtain ⟨p, l, e, R, s, m, args, below, meth, c, D, cA, z, nL, Q⟩ := b
  intro H locs ls hH hS hl
  exact W.widen h1 h2 (kk H locs ls hH hS hl)

theorem gl_iconst {k : Int} {v : Int32} (hC : CX b own cc n rm) (hd : decode cc pc = .ok (.iconst k, 1)) (hv : Int32.ofInt k = v) (kk : GL b bb (pc + 1) L (.int v :: st) S kc ks) : GL b bb pc L st S kc ks := by
  obtain ⟨p, l, e, R, s, m, args, below, meth, c, D, cA, z, nL, Q⟩ := b
  obtain ⟨hx, hb, hml, ho, hts, hK, hz, hn, hR⟩ := hC
  intro H locs ls hH hS hl
  exact lv_iconst hx hb hd hv (kk H locs ls hH hS hl)

theorem gl_bipush {k : Int} {v : Int32} (hC : CX b own cc n rm) (hd : decode cc pc = .ok (.bipush k, 2)) (hv : (Int8.ofInt k).toInt32 = v) (kk : GL b bb (pc + 2) L (.int v :: st) S kc ks) : GL b bb pc L st S kc ks := by
  obtain ⟨p, l, e, R, s, m, args, below, meth, c, D, cA, z, nL, Q⟩ := b
  obtain ⟨hx, hb, hml, ho, hts, hK, hz, hn, hR⟩ := hC
  intro H locs ls hH hS hl
  exact lv_bipush hx hb hd hv (kk H locs ls hH hS hl)

theorem gl_iload_n {k : Fin 4} {v : Int32} (hC : CX b own cc n rm) (hd : decode cc pc = .ok (.iload_n k, 1)) (hv : L.lookup (k : Nat) = some (.int v)) (kk : GL b bb (pc + 1) L (.int v :: st) S kc ks) : GL b bb pc L st S kc ks := by
  obtain ⟨p, l, e, R, s, m, args, below, meth, c, D, cA, z, nL, Q⟩ := b
  obtain ⟨hx, hb, hml, ho, hts, hK, hz, hn, hR⟩ := hC
  intro H locs ls hH hS hl
  exact lv_iload_n hx hb hd rfl (lk_atL hl hv) (kk H locs ls hH hS hl)

theorem gl_aload_n {k : Fin 4} {v : Nat} (hC : CX b own cc n rm) (hd : decode cc pc = .ok (.aload_n k, 1)) (hv : L.lookup (k : Nat) = some (.ref v)) (kk : GL b bb (pc + 1) L (.ref v :: st) S kc ks) : GL b bb pc L st S kc ks := by
  obtain ⟨p, l, e, R, s, m, args, below, meth, c, D, cA, z, nL, Q⟩ := b
  obtain ⟨hx, hb, hml, ho, hts, hK, hz, hn, hR⟩ := hC
  intro H locs ls hH hS hl
  exact lv_aload_n hx hb hd rfl (lk_atL hl hv) (kk H locs ls hH hS hl)

theorem gl_istore_n {k : Fin 4} {v : Int32} (hC : CX b own cc n rm) (hd : decode cc pc = .ok (.istore_n k, 1)) (hk : (k : Nat) < n) (hL : Lset L (k : Nat) (.int v) = L') (kk : GL b bb (pc + 1) L' st S kc ks) : GL b bb pc L (.int v :: st) S kc ks := by
  obtain ⟨p, l, e, R, s, m, args, below, meth, c, D, cA, z, nL, Q⟩ := b
  obtain ⟨hx, hb, hml, ho, hts, hK, hz, hn, hR⟩ := hC
  intro H locs ls hH hS hl
  subst hL; subst hn
  exact lv_istore_n hx hb hd rfl hl hk (Lset_mapL z bb L _ (.int v)) (fun ls' hl' => kk H locs ls' hH hS hl')

theorem gl_astore_n {k : Fin 4} {v : Nat} (hC : CX b own cc n rm) (hd : decode cc pc = .ok (.astore_n k, 1)) (hk : (k : Nat) < n) (hL : Lset L (k : Nat) (.ref v) = L') (kk : GL b bb (pc + 1) L' st S kc ks) : GL b bb pc L (.ref v :: st) S kc ks := by
  obtain ⟨p, l, e, R, s, m, args, below, meth, c, D, cA, z, nL, Q⟩ := b
  obtain ⟨hx, hb, hml, ho, hts, hK, hz, hn, hR⟩ := hC
  intro H locs ls hH hS hl
  subst hL; subst hn
  exact lv_astore_n hx hb hd rfl hl hk (Lset_mapL z bb L _ (.ref v)) (fun ls' hl' => kk H locs ls' hH hS hl')

theorem gl_iinc {k : Nat} {i : Int} {x v : Int32} (hC : CX b own cc n rm) (hd : decode cc pc = .ok (.iinc k i, 3)) (hx0 : L.lookup k = some (.int x)) (hv : Int32.ofInt i = v) (hk : k < n) (hL : Lset L k (.int (x + v)) = L') (kk : GL b bb (pc + 3) L' st S kc ks) : GL b bb pc L st S kc ks := by
  obtain ⟨p, l, e, R, s, m, args, below, meth, c, D, cA, z, nL, Q⟩ := b
  obtain ⟨hx, hb, hml, ho, hts, hK, hz, hn, hR⟩ := hC
  intro H locs ls hH hS hl
  subst hL; subst hn; subst hv
  have hm : (k, cvL z bb (.int x)) ∈ L.map (fun q => (q.1, cvL z bb q.2)) := List.mem_map.mpr ⟨(k, .int x), lk_mem hx0, rfl⟩
  obtain ⟨j, hj⟩ := List.getElem?_of_mem hm
  exact lv_iinc hx hb hd hl hj rfl hk (Lset_mapL z bb L _ (.int (x + Int32.ofInt i))) (fun ls' hl' => kk H locs ls' hH hS hl')

theorem gl_iadd {x y : Int32} (hC : CX b own cc n rm) (hd : decode cc pc = .ok (.iadd, 1)) (kk : GL b bb (pc + 1) L (.int (x + y) :: st) S kc ks) : GL b bb pc L (.int y :: .int x :: st) S kc ks := by
  obtain ⟨p, l, e, R, s, m, args, below, meth, c, D, cA, z, nL, Q⟩ := b
  intro H locs ls hH hS hl
  exact lv_iadd hC.1 hC.2.1 hd (kk H locs ls hH hS hl)

theorem gl_isub {x y : Int32} (hC : CX b own cc n rm) (hd : decode cc pc = .ok (.isub, 1)) (kk : GL b bb (pc + 1) L (.int (x - y) :: st) S kc ks) : GL b bb pc L (.int y :: .int x :: st) S kc ks := by
  obtain ⟨p, l, e, R, s, m, args, below, meth, c, D, cA, z, nL, Q⟩ := b
  intro H locs ls hH hS hl
  exact lv_isub hC.1 hC.2.1 hd (kk H locs ls hH hS hl)

theorem gl_iand {x y : Int32} (hC : CX b own cc n rm) (hd : decode cc pc = .ok (.iand, 1)) (kk : GL b bb (pc + 1) L (.int (x &&& y) :: st) S kc ks) : GL b bb pc L (.int y :: .int x :: st) S kc ks := by
  obtain ⟨p, l, e, R, s, m, args, below, meth, c, D, cA, z, nL, Q⟩ := b
  intro H locs ls hH hS hl
  exact lv_iand hC.1 hC.2.1 hd (kk H locs ls hH hS hl)

theorem gl_dup {v : Value} (hC : CX b own cc n rm) (hd : decode cc pc = .ok (.dup, 1)) (hv : v.category = 1) (kk : GL b bb (pc + 1) L (v :: v :: st) S kc ks) : GL b bb pc L (v :: st) S kc ks := by
  obtain ⟨p, l, e, R, s, m, args, below, meth, c, D, cA, z, nL, Q⟩ := b
  intro H locs ls hH hS hl
  exact lv_dup hC.1 hC.2.1 hd ((cvL_cat z bb v).trans hv) (kk H locs ls hH hS hl)

theorem gl_goto {off : Int} {tgt : Nat} (hC : CX b own cc n rm) (hd : decode cc pc = .ok (.goto off, 3)) (ht : (pc : Int) + off = (tgt : Int)) (kk : GL b bb tgt L st S kc ks) : GL b bb pc L st S kc ks := by
  obtain ⟨p, l, e, R, s, m, args, below, meth, c, D, cA, z, nL, Q⟩ := b
  intro H locs ls hH hS hl
  exact lv_goto hC.1 hC.2.1 hd ht (kk H locs ls hH hS hl)

theorem gl_tin {dflt lo hi : Int} {offs : Array Int} {len : Nat} {x v : Int32} {off : Int} {tgt : Nat} (hC : CX b own cc n rm) (hd : decode cc pc = .ok (.tableswitch dflt lo hi offs, len)) (hxv : x = v) (h1 : ¬ v.toInt < lo) (h2 : ¬ hi < v.toInt) (ho : offs[(v.toInt - lo).toNat]? = some off) (ht : (pc : Int) + off = (tgt : Int)) (kk : GL b bb tgt L st S kc ks) : GL b bb pc L (.int x :: st) S kc ks := by
  obtain ⟨p, l, e, R, s, m, args, below, meth, c, D, cA, z, nL, Q⟩ := b
  intro H locs ls hH hS hl
  subst hxv
  exact lv_tableIn hC.1 hC.2.1 hd h1 h2 ho ht (kk H locs ls hH hS hl)

theorem gl_tout {dflt lo hi : Int} {offs : Array Int} {len : Nat} {x : Int32} {tgt : Nat} (hC : CX b own cc n rm) (hd : decode cc pc = .ok (.tableswitch dflt lo hi offs, len)) (h : x.toInt < lo ∨ hi < x.toInt) (ht : (pc : Int) + dflt = (tgt : Int)) (kk : GL b bb tgt L st S kc ks) : GL b bb pc L (.int x :: st) S kc ks := by
  obtain ⟨p, l, e, R, s, m, args, below, meth, c, D, cA, z, nL, Q⟩ := b
  intro H locs ls hH hS hl
  exact lv_tableOut hC.1 hC.2.1 hd h ht (kk H locs ls hH hS hl)

theorem gl_if_eq {x : Int32} {off : Int} {tgt : Nat} (hC : CX b own cc n rm) (hd : decode cc pc = .ok (.ifCond .eq off, 3)) (ht : (pc : Int) + off = (tgt : Int)) (kt : x = 0 → GL b bb tgt L st S kc ks) (kf : ¬ x = 0 → GL b bb (pc + 3) L st S kc ks) : GL b bb pc L (.int x :: st) S kc ks := by
  obtain ⟨p, l, e, R, s, m, args, below, meth, c, D, cA, z, nL, Q⟩ := b
  intro H locs ls hH hS hl
  exact lv_if_eq hC.1 hC.2.1 hd ht (fun h => kt h H locs ls hH hS hl) (fun h => kf h H locs ls hH hS hl)

theorem gl_if_ne {x : Int32} {off : Int} {tgt : Nat} (hC : CX b own cc n rm) (hd : decode cc pc = .ok (.ifCond .ne off, 3)) (ht : (pc : Int) + off = (tgt : Int)) (kt : ¬ x = 0 → GL b bb tgt L st S kc ks) (kf : x = 0 → GL b bb (pc + 3) L st S kc ks) : GL b bb pc L (.int x :: st) S kc ks := by
  obtain ⟨p, l, e, R, s, m, args, below, meth, c, D, cA, z, nL, Q⟩ := b
  intro H locs ls hH hS hl
  exact lv_if_ne hC.1 hC.2.1 hd ht (fun h => kt h H locs ls hH hS hl) (fun h => kf h H locs ls hH hS hl)

theorem gl_icmp_eq {x y : Int32} {off : Int} {tgt : Nat} (hC : CX b own cc n rm) (hd : decode cc pc = .ok (.if_icmp .eq off, 3)) (ht : (pc : Int) + off = (tgt : Int)) (kt : x = y → GL b bb tgt L st S kc ks) (kf : ¬ x = y → GL b bb (pc + 3) L st S kc ks) : GL b bb pc L (.int y :: .int x :: st) S kc ks := by
  obtain ⟨p, l, e, R, s, m, args, below, meth, c, D, cA, z, nL, Q⟩ := b
  intro H locs ls hH hS hl
  exact lv_icmp_eq hC.1 hC.2.1 hd ht (fun h => kt h H locs ls hH hS hl) (fun h => kf h H locs ls hH hS hl)

theorem gl_icmp_ne {x y : Int32} {off : Int} {tgt : Nat} (hC : CX b own cc n rm) (hd : decode cc pc = .ok (.if_icmp .ne off, 3)) (ht : (pc : Int) + off = (tgt : Int)) (kt : ¬ x = y → GL b bb tgt L st S kc ks) (kf : x = y → GL b bb (pc + 3) L st S kc ks) : GL b bb pc L (.int y :: .int x :: st) S kc ks := by
  obtain ⟨p, l, e, R, s, m, args, below, meth, c, D, cA, z, nL, Q⟩ := b
  intro H locs ls hH hS hl
  exact lv_icmp_ne hC.1 hC.2.1 hd ht (fun h => kt h H locs ls hH hS hl) (fun h => kf h H locs ls hH hS hl)

theorem gl_icmp_gt {x y : Int32} {off : Int} {tgt : Nat} (hC : CX b own cc n rm) (hd : decode cc pc = .ok (.if_icmp .gt off, 3)) (ht : (pc : Int) + off = (tgt : Int)) (kt : y < x → GL b bb tgt L st S kc ks) (kf : ¬ y < x → GL b bb (pc + 3) L st S kc ks) : GL b bb pc L (.int y :: .int x :: st) S kc ks := by
  obtain ⟨p, l, e, R, s, m, args, below, meth, c, D, cA, z, nL, Q⟩ := b
  intro H locs ls hH hS hl
  exact lv_icmp_gt hC.1 hC.2.1 hd ht (fun h => kt h H locs ls hH hS hl) (fun h => kf h H locs ls hH hS hl)

theorem gl_new {ci : Nat} {C : String} {T : u_T} {N : Nat} {ty : Nat → FieldType} {i : Nat} (hC : CX b own cc n rm) (ck : ClOk ci C T N ty) (hw : Cond.classLink own i C ∈ gwL) (hins : Cond.instantiable C N ∈ gwL) (hini : Cond.initialized C ∈ gwL) (hd : decode cc pc = .ok (.new i, 3)) (hk : (kT (wn S)).1 = ci) (hc : kc + 1 ≤ rm.cells) (hs : ks + N ≤ rm.slots)
    (kk : GL b bb (pc + 3) L (.ref (wn S) :: st) (sN S 0) (kc + 1) (ks + N)) : GL b bb pc L st S kc ks := by
  obtain ⟨p, l, e, R, s, m, args, below, meth, c, D, cA, z, nL, Q⟩ := b
  obtain ⟨hx, hb, hml, how, hts, hK, hz, hn, hR⟩ := hC
  intro H locs ls hH hS hl
  subst hR
  obtain ⟨c1, c2, c3, c4, c5, c6, c7⟩ := ck
  have hKn := hK.1.1 ci _ c1
  refine W.newcK hx hb how (hts _ hw) (hts _ hins) (hts _ hini) rfl hd hc hs hKn.2.1 hH.1 fun H' kC hkC e1 z1 o1 => ?_
  have o2 : ∀ q, q < H.size → H'[q]? = H[q]? := fun q hq => o1 q (by rw [← hH.1]; exact hq)
  have z2 : H'.size = H.size + 1 := by rw [z1, hH.1]
  refine kk H' locs ls (HO.new hH z2 o2 (cAt.obj hk c6 ?_)) (hS.pushed (by omega) o2) hl
  rw [c5]
  refine (u_born ty hts c2 hKn hkC e1 c3).to (fun k hkN => ?_)
  rw [c7 k hkN]
  have x1 : wO (sN S 0) (wn S) k = none := by
    show (if S.1 = S.1 then (fun _ => none) else _) k = none
    rw [if_pos rfl]
  have x2 : wI (sN S 0) (wn S) k = 0 := by
    show (if S.1 = S.1 then (fun _ => (0 : Int32)) else _) k = 0
    rw [if_pos rfl]
  simp only [fv, hk, x1, x2]
  rfl

theorem gl_script {k : Fin 4} (hC : CX b own cc n rm) (hd : decode cc pc = .ok (.aload_n k, 1)) (hv : L.lookup (k : Nat) = some .null) (kk : GL b bb (pc + 1) L (.null :: st) S kc ks) : GL b bb pc L st S kc ks := by
  obtain ⟨p, l, e, R, s, m, args, below, meth, c, D, cA, z, nL, Q⟩ := b
  obtain ⟨hx, hb, hml, ho, hts, hK, hz, hn, hR⟩ := hC
  intro H locs ls hH hS hl
  exact lv_aload_n hx hb hd rfl (lk_atL hl hv) (kk H locs ls hH hS hl)
/-- the script -/
def SX : Bd → Nat → Nat → (Nat → Int32) → Prop
  | (_p, _l, _e, _R, s, _m, _args, _below, _meth, _c, _D, _cA, z, _nL, _Q), bb, Lx, xs => va_X bb Lx xs s s.heap ∧ bb < s.heap.size ∧ bb < z
theorem gl_sld {Lx : Nat} {xs : Nat → Int32} {i : Int32} (hC : CX b own cc n rm) (hX : SX b bb Lx xs) (hi : vp_in i Lx) (hd : decode cc pc = .ok (.iaload, 1)) (kk : GL b bb (pc + 1) L (.int (xs i.toNatClampNeg) :: st) S kc ks) : GL b bb pc L (.int i :: .null :: st) S kc ks := by
  obtain ⟨p, l, e, R, s, m, args, below, meth, c, D, cA, z, nL, Q⟩ := b
  obtain ⟨hx, hb, hml, ho, hts, hK, hz, hn, hR⟩ := hC
  obtain ⟨x1, x2, x3⟩ := hX
  intro H locs ls hH hS hl
  exact va_sld hx hb x1 x2 (Nat.not_le.mpr x3) hS hi hd (kk H locs ls hH hS hl)
theorem gl_slen {Lx : Nat} {xs : Nat → Int32} (hC : CX b own cc n rm) (hX : SX b bb Lx xs) (hd : decode cc pc = .ok (.arraylength, 1)) (kk : GL b bb (pc + 1) L (.int (Int32.ofNat Lx) :: st) S kc ks) : GL b bb pc L (.null :: st) S kc ks := by
  obtain ⟨p, l, e, R, s, m, args, below, meth, c, D, cA, z, nL, Q⟩ := b
  obtain ⟨hx, hb, hml, ho, hts, hK, hz, hn, hR⟩ := hC
  obtain ⟨x1, x2, x3⟩ := hX
  intro H locs ls hH hS hl
  exact va_slen hx hb x1 x2 (Nat.not_le.mpr x3) hS hd (kk H locs ls hH hS hl)
theorem gl_goes {p : Program} {l : Launch} {e : Env} {R : Room} {s : State} {m : MethodId} {args : Array Value} {below : List Frame} {meth : Method} {c : Code} {H : Heap} {locs : List Loc} {kc ks mc ms : Nat} {Q : State → Prop} {D : va_G} {cA : Nat → ClassId} {z bb pc : Nat} {ls : Array Slot} {st0 rest : List Value} {rv : Option Value} {S' : Wd} {a : Array Value}
    (hr : va_Run p l e R s m args below meth c H locs kc ks mc ms (F0 m pc ls st0) (rest.map (cvL z bb)) (QP D cA z rv S' a) (fun q => z ≤ q)) (hS : va_S (fun q => z ≤ q) s.heap H locs) (hrv : (rv.toList).map (cvL z bb) = (rv.map (cv z)).toList)
    (kk : ∀ (H1 : Heap) (locs1 : List Loc), HO D cA z S' H1 → va_S (fun q => z ≤ q) s.heap H1 locs1 → W p l e R s m args below meth c H1 locs1 (kc + mc) (ks + ms) Q (F0 m (pc + 3) ls ((rv.toList ++ rest).map (cvL z bb)))) : W p l e R s m args below meth c H locs kc ks Q (F0 m pc ls st0) := by
  intro T hT X
  obtain ⟨v, st₀, t, T', Lx, h0, X', hL, e1, e2, ⟨hv, hHO, hz, hk⟩, stp⟩ := hr T hT X
  cases hv
  rw [h0] at hz hk
  obtain ⟨t2, a1, b1⟩ := kk T'.heap (locs ++ Lx) (by rw [e1]; exact hHO)
    ⟨Nat.le_trans hS.1 (by rw [e1]; exact hz), fun q h1 h2 => by rw [e1, hk q (Nat.lt_of_lt_of_le h1 hS.1) h2]; exact hS.2.1 q h1 h2, fun q hq => by
      rcases List.mem_append.mp hq with h | h
      · exact hS.2.2 q h
      · exact hL q h⟩ T' rfl X'
  refine ⟨t2, stp t2 ?_, b1⟩
  have hse : (rv.map (cv z)).toList ++ rest.map (cvL z bb) = (rv.toList ++ rest).map (cvL z bb) := by rw [List.map_append, hrv]
  show Steps _ _ _ (T'.setTop (F0 m (pc + 3) ls ((rv.map (cv z)).toList ++ rest.map (cvL z bb)))) t2
  rw [hse]
  exact a1
variable {y : MethodName} {c2 : ByteArray} {n2 np fr lo mc ms i a : Nat} {ret : Option FieldType} {av As rest : List Value} {rv : Option Value} {S' : Wd}
theorem gl_callV {ci : Nat} {T : u_T} {N : Nat} {r : Int32} (hC : CX b own cc n rm) (hm : MI y c2 n2 ret np) (hs : Sp y c2 n2 ret fr lo mc ms (.ref a :: As) S (some (.int r)) S') (hcl : clL[ci]? = some (y.cls, T, N)) (hci : ci < 100) (ho : ob S a ci) (hlink : Cond.methodLink own i y ∈ gwL) (hinst : Cond.instanceMethod y ∈ gwL) (hsel : Cond.selects y.cls y y ∈ gwL) (hd : decode cc pc = .ok (.invokevirtual i, 3)) (hst : st = As.reverse ++ .ref a :: rest) (hAs : ∀ v ∈ As, ∃ x : Int32, v = .int x) (hnp : As.length = np) (hR : fr + 1 ≤ rm.frames ∧ 8 + (n2 + 11) + lo ≤ rm.locals) (hW : (rest.map fun v => v.category).sum ≤ 8) (hf : kc + mc ≤ rm.cells ∧ ks + ms ≤ rm.slots)
    (kk : GL b bb (pc + 3) L (.int r :: rest) S' (kc + mc) (ks + ms)) : GL b bb pc L st S kc ks := by
  obtain ⟨p, l, e, R, s, m, args, below, meth, c, D, cA, z, nL, Q⟩ := b
  obtain ⟨hx, hb, hml, how, hts, hK, hz, hn, hRm⟩ := hC
  intro H locs ls hH hS hl
  subst hRm; subst hst
  obtain ⟨cell, q1, q2, q3, -⟩ := (hH.2 a ho.1).1 (by rw [ho.2]; exact hci)
  rw [ho.2] at q2
  have hAm : As.map (cvL z bb) = As.map (cv z) := List.map_congr_left fun v hv => by
    obtain ⟨x, rfl⟩ := hAs v hv
    rfl
  refine gl_goes (rest := rest) (rv := some (.int r)) (va_runV (C := y.cls) (b := z + a) (As := As.map (cv z)) (rest := rest.map (cvL z bb)) ⟨hx, hb, hml, how, hts⟩ (hs l D cA z) ⟨callB_of np hts hm.good rfl rfl rfl (hts _ hm.2.1) (hts _ hlink) hm.2.2 hR, hts _ hinst, hts _ hsel⟩ ⟨PC.blind, ⟨cell, q1, by rw [q3]; rfl, by rw [q2]; exact (hK.1.1 ci _ hcl).2.1⟩, fun U hU hWm => ⟨rfl, by rw [hU]; exact hH, hK.warm hWm⟩⟩ rfl (by rw [List.length_map]; exact hnp) hl.1 (by simp [F0, cvL, hAm]) (lv_room (by rw [cat_mapL]; exact hW)) hd hf) hS rfl ?_
  intro H1 locs1 hH1 hS1
  exact kk H1 locs1 ls hH1 hS1 hl
theorem gl_callI (hC : CX b own cc n rm) (hm : MI y c2 n2 none np) (hs : Sp y c2 n2 none fr lo mc ms [.ref a] S none S') (hyn : y.name = "<init>") (hlink : Cond.methodLink own i y ∈ gwL) (hinst : Cond.instanceMethod y ∈ gwL) (hd : decode cc pc = .ok (.invokespecial i, 3)) (hst : st = .ref a :: rest) (hnp : 0 = np) (hR : fr + 1 ≤ rm.frames ∧ 8 + (n2 + 11) + lo ≤ rm.locals) (hW : (rest.map fun v => v.category).sum ≤ 8) (hf : kc + mc ≤ rm.cells ∧ ks + ms ≤ rm.slots)
    (kk : GL b bb (pc + 3) L rest S' (kc + mc) (ks + ms)) : GL b bb pc L st S kc ks := by
  obtain ⟨p, l, e, R, s, m, args, below, meth, c, D, cA, z, nL, Q⟩ := b
  obtain ⟨hx, hb, hml, how, hts, hK, hz, hn, hRm⟩ := hC
  intro H locs ls hH hS hl
  subst hRm; subst hst
  refine gl_goes (rest := rest) (rv := none) (va_runI (b := z + a) (As := []) (rest := rest.map (cvL z bb)) ⟨hx, hb, hml, how, hts⟩ (hs l D cA z) ⟨callB_of np hts hm.good rfl rfl rfl (hts _ hm.2.1) (hts _ hlink) hm.2.2 hR, hyn, hts _ hinst⟩ ⟨PC.blind, fun U hU hWm => ⟨rfl, by rw [hU]; exact hH, hK.warm hWm⟩⟩ rfl hnp hl.1 (by simp [F0, cvL]) (lv_room (by rw [cat_mapL]; exact hW)) hd hf) hS rfl ?_
  intro H1 locs1 hH1 hS1
  exact kk H1 locs1 ls hH1 hS1 hl
end GLR
