/-! WORLDS. Everything that this program makes lies in one world: the cell of number i stands at address z + i, where z is the heap's size at the law's start. -/
abbrev Wd : Type := Nat × (Nat → Nat) × (Nat → Nat → Int32) × (Nat → Nat → Option Nat)
def wn (S : Wd) : Nat := S.1
def wl (S : Wd) : Nat → Nat := S.2.1
def wI (S : Wd) : Nat → Nat → Int32 := S.2.2.1
def wO (S : Wd) : Nat → Nat → Option Nat := S.2.2.2
/-- an int of cell i, place k -/
def sI (S : Wd) (i k : Nat) (v : Int32) : Wd := (S.1, S.2.1, (fun a => if a = i then (fun b => if b = k then v else S.2.2.1 a b) else S.2.2.1 a), S.2.2.2)
/-- a reference of cell i, place k -/
def sO (S : Wd) (i k : Nat) (v : Option Nat) : Wd := (S.1, S.2.1, S.2.2.1, (fun a => if a = i then (fun b => if b = k then v else S.2.2.2 a b) else S.2.2.2 a))
/-- all ints of cell i -/
def sA (S : Wd) (i : Nat) (f : Nat → Int32) : Wd := (S.1, S.2.1, (fun a => if a = i then f else S.2.2.1 a), S.2.2.2)
/-- a new cell -/
def sN (S : Wd) (len : Nat) : Wd := (S.1 + 1, (fun a => if a = S.1 then len else S.2.1 a), (fun a => if a = S.1 then (fun _ => 0) else S.2.2.1 a), (fun a => if a = S.1 then (fun _ => none) else S.2.2.2 a))
def kL : List (Nat × Nat) := [(11, 0), (3, 0), (103, 16), (103, 16), (100, 16), (10, 0), (100, 64), (100, 64), (8, 0), (100, 43), (8, 0), (100, 89), (0, 0), (2, 0), (100, 1792), (100, 1536), (100, 6), (100, 65), (100, 65), (100, 65), (5, 0), (100, 40), (8, 0), (100, 121), (1, 0), (100, 20), (8, 0), (100, 61), (6, 0), (8, 0), (100, 91), (4, 0), (100, 100), (100, 10), (100, 10), (9, 0), (100, 15), (100, 7), (100, 5), (102, 4), (7, 0), (100, 20), (7, 0), (100, 20), (7, 0), (100, 20), (7, 0), (100, 20), (12, 0), (100, 424), (100, 6784), (100, 4), (100, 4), (100, 80), (100, 64), (101, 486), (100, 486), (100, 486), (100, 1792), (100, 6), (100, 40), (100, 10), (100, 10), (100, 5), (100, 20)]
/-- the kind of cell i: the number of its class, or 100 int[], 101 boolean[], 102 Sheet[], 103 int[][]; the length of those that are made at the start -/
def kT (i : Nat) : Nat × Nat := kL.getD i (100, 0)
def wlen (S : Wd) (i : Nat) : Nat := if i < 65 then (kT i).2 else wl S i
def nfL : List Nat := [12, 5, 13, 6, 5, 2, 4, 3, 4, 4, 4, 13, 26]
def nfT (c : Nat) : Nat := nfL.getD c 0
/-- which fields hold references -/
def rfL : List (List Nat) := [[0, 1, 2], [0, 1, 2], [0, 1, 2, 3, 4, 5, 6, 7, 8, 9], [0, 1, 2], [0, 1, 2, 3], [0, 1], [0, 1], [0], [0, 3], [0, 1, 2, 3], [0, 1, 2], [0, 1, 2, 3, 4, 5, 6, 7, 8, 9, 10, 11], [0, 1, 4, 5, 6, 7, 15, 16, 17, 18, 19, 20, 22, 23, 24, 25]]
def isR (c k : Nat) : Bool := (rfL.getD c []).contains k
def fv (z : Nat) (S : Wd) (i k : Nat) : Value := if isR (kT i).1 k = true then va_rf ((wO S i k).map (z + ·)) else .int (wI S i k)
def cv (z : Nat) : Value → Value
  | .ref i => .ref (z + i)
  | v => v
theorem cv_cat (z : Nat) (v : Value) : (cv z v).category = v.category := by cases v <;> rfl
/-- what stands at cell i -/
def cAt (D : va_G) (cA : Nat → ClassId) (z : Nat) (S : Wd) (i : Nat) (H : Heap) : Prop :=
  ((kT i).1 < 100 → t_OB (z + i) (D.1 (kT i).1) (nfT (kT i).1) (D.2 (kT i).1) H (fv z S i)) ∧
  ((kT i).1 = 100 → H[z + i]? = some (arrV (cA 0) (wlen S i) (fun j => .int (wI S i j)))) ∧
  ((kT i).1 = 101 → H[z + i]? = some (arrV (cA 1) (wlen S i) (fun j => .int (wI S i j)))) ∧
  ((kT i).1 = 102 → H[z + i]? = some (arrV (cA 2) (wlen S i) (fun j => va_rf ((wO S i j).map (z + ·))))) ∧
  ((kT i).1 = 103 → H[z + i]? = some (arrV (cA 3) (wlen S i) (fun j => va_rf ((wO S i j).map (z + ·)))))
def HO (D : va_G) (cA : Nat → ClassId) (z : Nat) (S : Wd) (H : Heap) : Prop := H.size = z + wn S ∧ ∀ i, i < wn S → cAt D cA z S i H
theorem cAt.to {D : va_G} {cA : Nat → ClassId} {z : Nat} {S S' : Wd} {i : Nat} {H H' : Heap} (h : cAt D cA z S i H) (hq : H'[z + i]? = H[z + i]?) (hI : wI S' i = wI S i) (hO : wO S' i = wO S i) (hl : wlen S' i = wlen S i) : cAt D cA z S' i H' := by
  obtain ⟨h1, h2, h3, h4, h5⟩ := h
  have hfv : fv z S' i = fv z S i := by funext k; simp only [fv, hI, hO]
  refine ⟨fun q => ?_, fun q => ?_, fun q => ?_, fun q => ?_, fun q => ?_⟩
  · rw [hfv]; exact (h1 q).kept hq
  · rw [hq, h2 q, hI, hl]
  · rw [hq, h3 q, hI, hl]
  · rw [hq, h4 q, hO, hl]
  · rw [hq, h5 q, hO, hl]
theorem HO.upd {D : va_G} {cA : Nat → ClassId} {z : Nat} {S S' : Wd} {a : Nat} {H H' : Heap} (h : HO D cA z S H) (hsz : H'.size = H.size) (ho : ∀ q, q ≠ z + a → H'[q]? = H[q]?) (hn : wn S' = wn S) (hl : wl S' = wl S) (hI : ∀ i, i ≠ a → wI S' i = wI S i) (hO : ∀ i, i ≠ a → wO S' i = wO S i) (ha : cAt D cA z S' a H') : HO D cA z S' H' := by
  refine ⟨by rw [hsz, hn]; exact h.1, fun i hi => ?_⟩
  rw [hn] at hi
  by_cases hia : i = a
  · subst hia; exact ha
  · exact (h.2 i hi).to (ho _ (by omega)) (hI i hia) (hO i hia) (by unfold wlen; rw [hl])
theorem HO.new {D : va_G} {cA : Nat → ClassId} {z : Nat} {S : Wd} {len : Nat} {H H' : Heap} (h : HO D cA z S H) (hsz : H'.size = H.size + 1) (ho : ∀ q, q < H.size → H'[q]? = H[q]?) (ha : cAt D cA z (sN S len) (wn S) H') : HO D cA z (sN S len) H' := by
  have hs1 := h.1
  refine ⟨by rw [hsz, hs1]; rfl, fun i hi => ?_⟩
  by_cases hia : i = wn S
  · subst hia; exact ha
  · have hi' : i < wn S := by
      have : i < wn S + 1 := hi
      omega
    have hne : i ≠ S.1 := hia
    refine (h.2 i hi').to (ho _ (by omega)) ?_ ?_ ?_
    · show (if i = S.1 then _ else _) = _
      rw [if_neg hne]; rfl
    · show (if i = S.1 then _ else _) = _
      rw [if_neg hne]; rfl
    · unfold wlen
      by_cases h65 : i < 65
      · rw [if_pos h65, if_pos h65]
      · rw [if_neg h65, if_neg h65]
        show (if i = S.1 then _ else _) = _
        rw [if_neg hne]; rfl
def tyL (cA : Nat → ClassId) : List (ClassId × FieldType) := [(cA 0, .int), (cA 1, .boolean), (cA 2, .object "LoadBourse$Sheet"), (cA 3, .array .int)]
/-- words that a call doesn't carry by itself -/
def Ex (U : State) : Prop := (∀ w ∈ nwL, va_Nw w U) ∧ va_Nw (.castable "[I" "java/lang/Cloneable") U ∧ va_AO "LoadBourse$Sheet" U ∧ (Cond.arrayOver (.array .int)).before #[] U = true
theorem Ex.warm {s U : State} (hW : s.WarmedH U.vm) (h : Ex s) : Ex U := by
  obtain ⟨h1, h2, h3, h4⟩ := h
  refine ⟨fun w hw => ?_, va_Nw.warmC hW h2, va_AO.moved hW.alike h3, over_moved hW.alike h4⟩
  have hw1 := h1 w hw
  simp only [nwL, List.mem_cons, List.not_mem_nil, or_false] at hw
  rcases hw with rfl | rfl | rfl | rfl | rfl | rfl | rfl <;> exact va_Nw.warmM hW hw1
theorem Ex.same {s U : State} (h : s.vm = U.vm) (hE : Ex s) : Ex U := by
  obtain ⟨h1, h2, h3, h4⟩ := hE
  refine ⟨fun w hw => ?_, va_Nw.same rfl h h2, va_AO.moved (by rw [h]; exact Vm.Alike.refl _) h3, over_moved (by rw [h]; exact Vm.Alike.refl _) h4⟩
  have hw1 := h1 w hw
  simp only [nwL, List.mem_cons, List.not_mem_nil, or_false] at hw
  rcases hw with rfl | rfl | rfl | rfl | rfl | rfl | rfl <;> exact va_Nw.same rfl h hw1
def KK (D : va_G) (cA : Nat → ClassId) (U : State) : Prop := va_K D clL (tyL cA) U ∧ Ex U
theorem KK.warm {D : va_G} {cA : Nat → ClassId} {s U : State} (hW : s.WarmedH U.vm) (h : KK D cA s) : KK D cA U := ⟨va_K.moved hW.alike h.1, h.2.warm hW⟩
/-- a frame's surroundings -/
abbrev Bd : Type := Program × Launch × Env × Room × State × MethodId × Array Value × List Frame × Method × Code × va_G × (Nat → ClassId) × Nat × Nat × (State → Prop)
/-- from place pc, with the locals L, the stack st and the world S, kc cells of ks slots made so far, the frame comes to its end -/
def G : Bd → Nat → List (Nat × Value) → List Value → Wd → Nat → Nat → Prop
  | (p, l, e, R, s, m, args, below, meth, c, D, cA, z, nL, Q), pc, L, st, S, kc, ks =>
    ∀ (H : Heap) (locs : List Loc) (ls : Array Slot), HO D cA z S H → va_S (fun q => z ≤ q) s.heap H locs → lv_has ls nL (L.map fun q => (q.1, cv z q.2)) → W p l e R s m args below meth c H locs kc ks Q (F0 m pc ls (st.map (cv z)))
/-- what is known of them -/
def CX : Bd → String → ByteArray → Nat → Room → Prop
  | (p, _l, _e, R, s, m, args, _below, _meth, c, D, cA, z, nL, _Q), own, cc, n, rm =>
    p.tables.exec = Jvm.exec ∧ c.code = cc ∧ c.maxLocals = nL ∧ s.vm.findClass own = some m.cls ∧ (∀ w ∈ gwL, w.before args s = true) ∧ KK D cA s ∧ z ≤ s.heap.size ∧ nL = n ∧ R = rm
def QP (D : va_G) (cA : Nat → ClassId) (z : Nat) (rv : Option Value) (S' : Wd) : Array Value → State → Outcome → State → Prop := fun _ st oc t =>
  oc = .returned (rv.map (cv z)) ∧ HO D cA z S' t.heap ∧ va_F (fun q => z ≤ q) st t
def RT : Bd → Option FieldType → Option Value → Wd → Nat → Nat → Prop
  | (_p, _l, _e, _R, s, _m, args, below, meth, _c, D, cA, z, _nL, Q), ret, rv, S', mc, ms =>
    meth.sig.returnType = ret ∧ meth.locks = false ∧ Q = MQ below (QP D cA z rv S') args s mc ms (fun q => z ≤ q)
def PC (D : va_G) (cA : Nat → ClassId) (z : Nat) (av : List Value) (S : Wd) : Array Value → State → Prop := va_Pc (av.map (cv z)) (fun U => HO D cA z S U.heap ∧ KK D cA U)
/-- the contract of a method: called with av in the world S it returns rv, and the world is S' -/
def Sp (y : MethodName) (cc : ByteArray) (n : Nat) (ret : Option FieldType) (fr lo mc ms : Nat) (av : List Value) (S : Wd) (rv : Option Value) (S' : Wd) : Prop :=
  ∀ (l : Launch) (D : va_G) (cA : Nat → ClassId) (z : Nat), Met l y (.code y cc n ret :: gwL) { frames := fr, cells := mc, slots := ms, locals := lo } (PC D cA z av S) (QP D cA z rv S') mc ms (fun q => z ≤ q)
theorem PC.blind {D : va_G} {cA : Nat → ClassId} {z : Nat} {av : List Value} {S : Wd} : FrameBlind (PC D cA z av S) := by
  intro a U g mk h
  obtain ⟨h1, h2, h3, h4⟩ := h
  exact ⟨h1, h2, va_K.moved (u := U) (U := U.calling g mk a) (Vm.Alike.refl U.vm) h3, Ex.same (s := U) (U := U.calling g mk a) rfl h4⟩
theorem lv_args_cv (z : Nat) : ∀ (av : List Value) (i : Nat), lv_args i (av.map (cv z)) = (lv_args i av).map (fun q => (q.1, cv z q.2))
  | [], _ => rfl
  | v :: vs, i => by
    simp only [List.map_cons, lv_args, cv_cat]
    rw [lv_args_cv z vs]
theorem lg_sl_cv (z : Nat) : ∀ (av : List Value), (lg_sl (av.map (cv z))).length = (lg_sl av).length
  | [] => rfl
  | v :: vs => by
    have ih := lg_sl_cv z vs
    simp only [lg_sl] at ih ⊢
    simp only [List.map_cons, List.flatMap_cons, List.length_append, ih, cv_cat]
    split <;> rfl
/-- the start of a contract's proof -/
theorem Sp.of {y : MethodName} {cc : ByteArray} {n : Nat} {ret : Option FieldType} {fr lo mc ms : Nat} {av : List Value} {S : Wd} {rv : Option Value} {S' : Wd} (hy : plainName y.cls = true) (hl : (lg_sl av).length ≤ n)
    (h : ∀ b : Bd, CX b y.cls cc n { frames := fr, cells := mc, slots := ms, locals := lo } → (y.name = "<init>" → b.2.2.2.2.2.2.2.2.1.name = "<init>") → RT b ret rv S' mc ms → G b 0 (lv_args 0 av) [] S 0 0) : Sp y cc n ret fr lo mc ms av S rv S' := by
  intro l D cA z
  refine Met.ofW (cc := cc) (maxL := n) (ret := ret) hy rfl ?_
  intro p e s m args below meth c s₁ B hml hv
  obtain ⟨rfl, hH, hK⟩ := hv
  have hts := atoms_spec (ws := .code y cc n ret :: gwL) B.pre
  have hown : s.vm.findClass y.cls = some m.cls := findClass_of_methodNamed B.named
  have hz : z ≤ s.heap.size := by rw [hH.1]; exact Nat.le_add_right _ _
  have hC : CX (p, l, e, { frames := fr, cells := mc, slots := ms, locals := lo }, s, m, (av.map (cv z)).toArray, below, meth, c, D, cA, z, n, MQ below (QP D cA z rv S') (av.map (cv z)).toArray s mc ms (fun q => z ≤ q)) y.cls cc n { frames := fr, cells := mc, slots := ms, locals := lo } :=
    ⟨B.exec, B.bytes, hml, hown, fun w hw => hts w (List.mem_cons_of_mem _ hw), hK, hz, rfl, rfl⟩
  have hin : y.name = "<init>" → meth.name = "<init>" := fun e => (name_of_methodNamed B.named B.method).1.trans e
  have hG := h _ hC hin ⟨B.returns, B.notSynchronized, rfl⟩
  rw [lg_entry_eq]
  have hle := lv_entry (av.map (cv z)) (n := n) (by rw [lg_sl_cv]; exact hl)
  rw [lv_args_cv] at hle
  exact hG s.heap [] _ hH va_S.rf hle
