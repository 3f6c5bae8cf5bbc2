theorem lks_out (l : List (Int × Int)) (d : Int) (x : Int32) (h : ∀ q ∈ l, x.toInt ≠ q.1) : Op.lookupswitch.offset l d x.toInt = d := by
  induction l with
  | nil => rfl
  | cons q r ih =>
    obtain ⟨a, o⟩ := q
    rw [lookupswitch.offset_cons, if_neg (fun e => h (a, o) List.mem_cons_self e.symm)]
    exact ih fun q hq => h q (List.mem_cons_of_mem _ hq)
def mMax (x y : Int32) : Int32 := if x < y then y else x
def mMin (x y : Int32) : Int32 := if y < x then y else x
def mAbs (x : Int32) : Int32 := if 0 ≤ x then x else 0 - x
section GX
variable {b : Bd} {own : String} {cc : ByteArray} {n : Nat} {rm : Room} {pc : Nat} {L L' : List (Nat × Value)} {st : List Value} {S : Wd} {kc ks : Nat}
theorem g_pick (ps : List Nat) (h : ps.map (fun k => L[k]?) = L'.map some) (kk : G b pc L' st S kc ks) : G b pc L st S kc ks := by
  refine g_weak (fun q hq => ?_) kk
  have h1 : some q ∈ L'.map some := List.mem_map.mpr ⟨q, hq, rfl⟩
  rw [← h] at h1
  obtain ⟨k, -, hk⟩ := List.mem_map.mp h1
  exact List.mem_of_getElem? hk
theorem g_mmax {i : Nat} {x y : Int32} (hC : CX b own cc n rm) (hlink : Cond.methodLink own i Lib.Math.max.name ∈ gwL) (hstat : Cond.static Lib.Math.max.name ∈ gwL) (hini : Cond.initialized "java/lang/Math" ∈ gwL) (hcode : Cond.code Lib.Math.max.name Lib.Math.max.code 2 (some .int) ∈ gwL) (hd : decode cc pc = .ok (.invokestatic i, 3)) (h1 : 1 ≤ rm.frames) (h2 : (st.map fun v => v.category).sum + 13 ≤ rm.locals) (hc : kc ≤ rm.cells) (hs : ks ≤ rm.slots)
    (kk : G b (pc + 3) L (.int (mMax x y) :: st) S kc ks) : G b pc L (.int y :: .int x :: st) S kc ks := by
  obtain ⟨p, l, e, R, s, m, args, below, meth, c, D, cA, z, nL, Q⟩ := b
  obtain ⟨hx, hb, hml, how, hts, hK, hz, hn, hR⟩ := hC
  intro H locs ls hH hS hl
  subst hR
  exact va_mmax hx hb (by rw [hml, hl.1]) how (hts _ hlink) (hts _ hstat) (hts _ hini) (hts _ hcode) h1 (by rw [cat_map]; exact h2) hc hs hd (kk H locs ls hH hS hl)
theorem g_mmin {i : Nat} {x y : Int32} (hC : CX b own cc n rm) (hlink : Cond.methodLink own i Lib.Math.min.name ∈ gwL) (hstat : Cond.static Lib.Math.min.name ∈ gwL) (hini : Cond.initialized "java/lang/Math" ∈ gwL) (hcode : Cond.code Lib.Math.min.name Lib.Math.min.code 2 (some .int) ∈ gwL) (hd : decode cc pc = .ok (.invokestatic i, 3)) (h1 : 1 ≤ rm.frames) (h2 : (st.map fun v => v.category).sum + 13 ≤ rm.locals) (hc : kc ≤ rm.cells) (hs : ks ≤ rm.slots)
    (kk : G b (pc + 3) L (.int (mMin x y) :: st) S kc ks) : G b pc L (.int y :: .int x :: st) S kc ks := by
  obtain ⟨p, l, e, R, s, m, args, below, meth, c, D, cA, z, nL, Q⟩ := b
  obtain ⟨hx, hb, hml, how, hts, hK, hz, hn, hR⟩ := hC
  intro H locs ls hH hS hl
  subst hR
  exact va_mmin hx hb (by rw [hml, hl.1]) how (hts _ hlink) (hts _ hstat) (hts _ hini) (hts _ hcode) h1 (by rw [cat_map]; exact h2) hc hs hd (kk H locs ls hH hS hl)
theorem g_mabs {i : Nat} {x : Int32} (hC : CX b own cc n rm) (hlink : Cond.methodLink own i Lib.Math.abs.name ∈ gwL) (hstat : Cond.static Lib.Math.abs.name ∈ gwL) (hini : Cond.initialized "java/lang/Math" ∈ gwL) (hcode : Cond.code Lib.Math.abs.name Lib.Math.abs.code 1 (some .int) ∈ gwL) (hd : decode cc pc = .ok (.invokestatic i, 3)) (h1 : 1 ≤ rm.frames) (h2 : (st.map fun v => v.category).sum + 13 ≤ rm.locals) (hc : kc ≤ rm.cells) (hs : ks ≤ rm.slots)
    (kk : G b (pc + 3) L (.int (mAbs x) :: st) S kc ks) : G b pc L (.int x :: st) S kc ks := by
  obtain ⟨p, l, e, R, s, m, args, below, meth, c, D, cA, z, nL, Q⟩ := b
  obtain ⟨hx, hb, hml, how, hts, hK, hz, hn, hR⟩ := hC
  intro H locs ls hH hS hl
  subst hR
  exact va_mabs hx hb (by rw [hml, hl.1]) how (hts _ hlink) (hts _ hstat) (hts _ hini) (hts _ hcode) h1 (by rw [cat_map]; exact h2) hc hs hd (kk H locs ls hH hS hl)
end GX
