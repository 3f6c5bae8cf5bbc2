/-! System.arraycopy between int arrays, clone of an int array, the cast behind it -/
theorem i32_nn {z : Int32} (hz : ¬ z < 0) : z.toInt = (z.toNatClampNeg : Int) := by
  have hz0 : (0 : Int) ≤ z.toInt := by
    have := Int32.not_lt.mp hz
    simpa using Int32.le_iff_toInt_le.mp this
  show z.toInt = ((z.toInt.toNat : Nat) : Int)
  omega
section GK
variable {b : Bd} {own : String} {cc : ByteArray} {n : Nat} {rm : Room} {pc : Nat} {L L' : List (Nat × Value)} {st : List Value} {S : Wd} {kc ks : Nat}
theorem g_copy {a0 a i : Nat} {sp dp k : Int32} (hC : CX b own cc n rm) (hlink : Cond.methodLink own i arraycopyName ∈ gwL) (hnat : Cond.native arraycopyName ∈ gwL) (hstat : Cond.static arraycopyName ∈ gwL) (hini : Cond.initialized "java/lang/System" ∈ gwL) (hd : decode cc pc = .ok (.invokestatic i, 3)) (o0 : ob S a0 100) (o1 : ob S a 100)
    (h1 : ¬ sp < 0) (h2 : ¬ dp < 0) (h3 : ¬ k < 0) (h4 : sp.toNatClampNeg + k.toNatClampNeg ≤ wlen S a0) (h5 : dp.toNatClampNeg + k.toNatClampNeg ≤ wlen S a) (hfr : 1 ≤ rm.frames) (hlo : (st.map fun v => v.category).sum + (nativeFrameWords "java/lang/System" "arraycopy" 5 + 11) ≤ rm.locals)
    (kk : G b (pc + 3) L st (sA S a (va_cpy (wI S a0) (wI S a) sp.toNatClampNeg dp.toNatClampNeg k.toNatClampNeg)) kc ks) : G b pc L (.int k :: .int dp :: .ref a :: .int sp :: .ref a0 :: st) S kc ks := by
  obtain ⟨p, l, e, R, s, m, args, below, meth, c, D, cA, z, nL, Q⟩ := b
  obtain ⟨hx, hb, hml, how, hts, hK, hz, hn, hR⟩ := hC
  intro H locs ls hH hS hl
  subst hR
  have hc0 : H[z + a0]? = some (vp_cell (cA 0) (wlen S a0, .inl (wI S a0))) := (hH.2 a0 o0.1).2.1 o0.2
  have hc1 : H[z + a]? = some (vp_cell (cA 0) (wlen S a, .inl (wI S a))) := (hH.2 a o1.1).2.1 o1.2
  intro T hT X
  obtain ⟨-, k0, hk0, cm0, hkk0⟩ := (hK.1.2 0 _ rfl).1 (wlen S a0) (fun j => .int (wI S a0 j))
  obtain ⟨vm', X', step⟩ := X.arraycopy hx how (hts _ hlink) (hts _ hnat) (hts _ hstat) (hts _ hini) (src := z + a0) (dst := z + a) (cs := vp_cell (cA 0) (wlen S a0, .inl (wI S a0))) (cd := vp_cell (cA 0) (wlen S a, .inl (wI S a))) (srcPos := sp) (destPos := dp) (n := k) (by rw [hT]; exact hc0) (by rw [hT]; exact hc1)
    (fun _ h => by cases h) (fun _ h => by cases h) (fun h => by cases h) (fun h => by cases h) hk0 hk0 hkk0 hkk0 (by simp [refKind]) h1 h2 h3
    (by rw [i32_nn h1, i32_nn h3]; show ¬ _ > ((arrV (cA 0) (wlen S a0) (fun j => .int (wI S a0 j))).slots.size : Int); rw [arrV_size]; omega)
    (by rw [i32_nn h2, i32_nn h3]; show ¬ _ > ((arrV (cA 0) (wlen S a) (fun j => .int (wI S a j))).slots.size : Int); rw [arrV_size]; omega)
    (fun vm₁ _ j hj => by
      have e : (vp_cell (cA 0) (wlen S a0, .inl (wI S a0))).slots.getD (sp.toNatClampNeg + j) .null = .int (wI S a0 (sp.toNatClampNeg + j)) := by
        show (arrV (cA 0) (wlen S a0) (fun j => .int (wI S a0 j))).slots.getD _ _ = _
        rw [Array.getD_eq_getD_getElem?, arrV_read _ _ (by omega)]
        rfl
      refine ⟨?_, ?_⟩
      · rw [e]; rfl
      · rw [e]; exact trivial)
    (g := F0 m pc ls (.int k :: .int dp :: .ref (z + a) :: .int sp :: .ref (z + a0) :: st.map (cv z))) rfl (by rw [hml]; exact hl.1) (rest := st.map (cv z)) rfl (by rw [hb]; exact hd) hfr (by show 2 * 0 + ((st.map (cv z)).map fun v => v.category).sum + _ ≤ _; rw [cat_map]; omega)
  have e1 : copied (vp_cell (cA 0) (wlen S a0, .inl (wI S a0))) (vp_cell (cA 0) (wlen S a, .inl (wI S a))) sp dp k = vp_cell (cA 0) (wlen S a, .inl (va_cpy (wI S a0) (wI S a) sp.toNatClampNeg dp.toNatClampNeg k.toNatClampNeg)) := va_copied (fun z => .int z) (cA 0) (cA 0) (wI S a0) (wI S a) h4
  rw [e1] at X' step
  have hlt : z + a < H.size := (Array.getElem?_eq_some_iff.mp hc1).1
  generalize hv : vp_cell (cA 0) (wlen S a, .inl (va_cpy (wI S a0) (wI S a) sp.toNatClampNeg dp.toNatClampNeg k.toNatClampNeg)) = cN at X' step
  have hheap : ((T.setVm vm').setCell (z + a) cN).heap = H.setIfInBounds (z + a) cN := by rw [← hT]; rfl
  have oq : ∀ q : Nat, q ≠ z + a → (H.setIfInBounds (z + a) cN)[q]? = H[q]? := fun q hq => by simp [Array.getElem?_setIfInBounds, Ne.symm hq]
  have eq1 : (H.setIfInBounds (z + a) cN)[z + a]? = some cN := by simp [Array.getElem?_setIfInBounds, hlt]
  obtain ⟨t, a1, b1⟩ := kk (H.setIfInBounds (z + a) cN) _ ls (HO.upd (a := a) hH (by simp) oq rfl rfl (fun j hj => by
      show (if j = a then _ else _) = _
      rw [if_neg hj]; rfl) (fun _ _ => rfl) ⟨fun q => by exfalso; have := o1.2; omega, fun q => by
        rw [eq1, ← hv, vp_cell_i]
        congr 2
        funext j
        simp [wI, sA], fun q => by exfalso; have := o1.2; omega, fun q => by exfalso; have := o1.2; omega, fun q => by exfalso; have := o1.2; omega⟩)
    ⟨by simp; exact hS.1, fun q g1 g2 => by
      rw [oq q (fun e => g2 (by rw [e]; exact Nat.le_add_right z a))]
      exact hS.2.1 q g1 g2, fun q hq => by
      rcases List.mem_append.mp hq with h | h
      · exact hS.2.2 q h
      · obtain ⟨w, -, hw⟩ := List.mem_map.mp h
        rw [← hw]
        exact Nat.le_add_right z a⟩ hl _ hheap X'
  exact ⟨t, step t a1, b1⟩
theorem g_clone {a i : Nat} (hC : CX b own cc n rm) (hlink : Cond.methodLink own i ⟨"[I", "clone", "()Ljava/lang/Object;"⟩ ∈ gwL) (hsame : Cond.sameMethod "[I" "java/lang/Object" "clone" "()Ljava/lang/Object;" ∈ gwL) (hnat : Cond.native ⟨"java/lang/Object", "clone", "()Ljava/lang/Object;"⟩ ∈ gwL) (hinst : Cond.instanceMethod ⟨"java/lang/Object", "clone", "()Ljava/lang/Object;"⟩ ∈ gwL) (hsel : Cond.selects "[I" ⟨"[I", "clone", "()Ljava/lang/Object;"⟩ ⟨"java/lang/Object", "clone", "()Ljava/lang/Object;"⟩ ∈ gwL) (hd : decode cc pc = .ok (.invokevirtual i, 3)) (o0 : ob S a 100)
    (hk : (kT (wn S)).1 = 100) (hlen : wlen (sN S (wlen S a)) (wn S) = wlen S a) (hfr : 1 ≤ rm.frames) (hlo : (st.map fun v => v.category).sum + 14 ≤ rm.locals) (hc : kc + 1 ≤ rm.cells) (hs : ks + wlen S a ≤ rm.slots)
    (kk : G b (pc + 3) L (.ref (wn S) :: st) (sA (sN S (wlen S a)) (wn S) (wI S a)) (kc + 1) (ks + wlen S a)) : G b pc L (.ref a :: st) S kc ks := by
  obtain ⟨p, l, e, R, s, m, args, below, meth, c, D, cA, z, nL, Q⟩ := b
  obtain ⟨hx, hb, hml, how, hts, hK, hz, hn, hR⟩ := hC
  intro H locs ls hH hS hl
  subst hR
  have hI : s.vm.findClass "[I" = some (cA 0) := (hK.1.2 0 _ rfl).2
  obtain ⟨c0, t0', f1, f2, f3⟩ := Cond.castable_spec (va_Nw.use (A := args) rfl hK.2.2.1)
  cases hI.symm.trans f1
  have hcell : H[z + a]? = some (arrV (cA 0) (wlen S a) (fun j => .int (wI S a j))) := (hH.2 a o0.1).2.1 o0.2
  intro T hT X
  obtain ⟨-, kA, hkA, comp, hkind⟩ := State.isArrayOf_alike X.warmed.alike ((hK.1.2 0 _ rfl).1 0 (fun _ => .null))
  obtain ⟨-, kS, hkS, compS, hkindS⟩ := (hK.1.2 0 _ rfl).1 0 (fun _ => .null)
  obtain ⟨vm', X', stp⟩ := X.cloneArray hx how (hts _ hlink) (hts _ hsame) (hts _ hnat) (hts _ hinst) (hts _ hsel) (a := z + a) (cell := arrV (cA 0) (wlen S a) (fun j => .int (wI S a j))) (by rw [hT]; exact hcell) (fun k h => by cases h) (fun h => by cases h) hI f2 f3
    (fun j v hv => by
      have hk' : T.vm.classes[cA 0]? = some kA := hkA
      have hfit : fits .int v = true := by
        by_cases hj : j < wlen S a
        · rw [arrV_read _ _ hj] at hv
          cases hv
          rfl
        · rw [Array.getElem?_eq_none (by rw [arrV_size]; omega)] at hv
          cases hv
      simpa [State.fitsSlot, State.slotType?, hk', hkind, arrV] using hfit)
    (g := F0 m pc ls (.ref (z + a) :: st.map (cv z))) rfl (by rw [hml]; exact hl.1) rfl (by rw [hb]; exact hd) hfr (by show 2 * 0 + ((st.map (cv z)).map fun v => v.category).sum + 14 ≤ _; rw [cat_map]; omega) hc (by rw [arrV_size]; exact hs) (hloader := Vm.clonesLoader_of_array hkS hkindS)
  have hcellE : ({ cls := (arrV (cA 0) (wlen S a) (fun j => .int (wI S a j))).cls, slots := (arrV (cA 0) (wlen S a) (fun j => .int (wI S a j))).slots } : Cell) = arrV (cA 0) (wlen S a) (fun j => .int (wI S a j)) := rfl
  rw [hcellE, arrV_size] at X'
  generalize hH1 : H.push (arrV (cA 0) (wlen S a) (fun j => .int (wI S a j))) = H1
  have z1 : H1.size = H.size + 1 := by rw [← hH1, Array.size_push]
  have e1 : H1[H.size]? = some (arrV (cA 0) (wlen S a) (fun j => .int (wI S a j))) := by rw [← hH1, Array.getElem?_push_size]
  have o2 : ∀ q : Nat, q < H.size → H1[q]? = H[q]? := fun q hq => by rw [← hH1, Array.getElem?_push, if_neg (Nat.ne_of_lt hq)]
  have hsz := hH.1
  have hHO : HO D cA z (sA (sN S (wlen S a)) (wn S) (wI S a)) H1 := by
    refine ⟨by rw [z1, hsz]; rfl, fun j hj => ?_⟩
    by_cases hjn : j = wn S
    · subst hjn
      refine ⟨fun q => by exfalso; omega, fun q => ?_, fun q => by exfalso; omega, fun q => by exfalso; omega, fun q => by exfalso; omega⟩
      have hl2 : wlen (sA (sN S (wlen S a)) (wn S) (wI S a)) (wn S) = wlen S a := hlen
      rw [← hsz, e1, hl2]
      congr 2
      funext k
      simp [wI, sA]
    · have hj' : j < wn S := by
        have : j < wn S + 1 := hj
        omega
      have hne : j ≠ S.1 := hjn
      refine (hH.2 j hj').to (o2 _ (by omega)) ?_ ?_ ?_
      · show (if j = wn S then _ else (if j = S.1 then _ else _)) = _
        rw [if_neg hjn, if_neg hne]; rfl
      · show (if j = S.1 then _ else _) = _
        rw [if_neg hne]; rfl
      · unfold wlen
        by_cases h65 : j < 65
        · rw [if_pos h65, if_pos h65]
        · rw [if_neg h65, if_neg h65]
          show (if j = S.1 then _ else _) = _
          rw [if_neg hne]; rfl
  obtain ⟨t, b1, b2⟩ := kk H1 locs ls hHO (hS.pushed (by omega) o2) hl ((T.setVm vm').pushCell (arrV (cA 0) (wlen S a) (fun j => .int (wI S a j)))) (by rw [← hH1, ← hT]; rfl) X'
  refine ⟨t, stp t ?_, b2⟩
  rw [hcellE, hT, hsz]
  exact b1
theorem g_cast {a i : Nat} (hC : CX b own cc n rm) (hlink : Cond.classLink own i "[I" ∈ gwL) (hd : decode cc pc = .ok (.checkcast i, 3)) (o0 : ob S a 100) (kk : G b (pc + 3) L (.ref a :: st) S kc ks) : G b pc L (.ref a :: st) S kc ks := by
  obtain ⟨p, l, e, R, s, m, args, below, meth, c, D, cA, z, nL, Q⟩ := b
  obtain ⟨hx, hb, hml, how, hts, hK, hz, hn, hR⟩ := hC
  intro H locs ls hH hS hl
  have hI : s.vm.findClass "[I" = some (cA 0) := (hK.1.2 0 _ rfl).2
  have hcell : H[z + a]? = some (arrV (cA 0) (wlen S a) (fun j => .int (wI S a j))) := (hH.2 a o0.1).2.1 o0.2
  intro T hT X
  obtain ⟨vm', X', stp⟩ := X.checkcastYes hx how (hts _ hlink) (by rw [hT]; exact hcell) rfl hI (va_asg _ _) (g := F0 m pc ls (.ref (z + a) :: st.map (cv z))) rfl rfl (by rw [hb]; exact hd)
  obtain ⟨t, a1, b1⟩ := kk H locs ls hH hS hl (T.setVm vm') hT X'
  exact ⟨t, stp t a1, b1⟩
end GK
