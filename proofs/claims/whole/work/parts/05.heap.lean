/-! ROWS that read and write cells, make them, call and return -/
section GH
variable {b : Bd} {own : String} {cc : ByteArray} {n : Nat} {rm : Room} {pc : Nat} {L L' : List (Nat × Value)} {st : List Value} {S : Wd} {kc ks : Nat}
theorem g_geti {ci : Nat} {C ref : String} {T : u_T} {N : Nat} {ty : Nat → FieldType} {i k a : Nat} (hC : CX b own cc n rm) (ck : ClOk ci C T N ty) (hk : k < N) (hw : Cond.fieldLink own i ref (T k).2.1 (T k).2.2.1 ∈ gwL) (hf : ref = (T k).1) (hr : isR ci k = false) (hd : decode cc pc = .ok (.getfield i, 3)) (ho : ob S a ci)
    (kk : G b (pc + 3) L (.int (wI S a k) :: st) S kc ks) : G b pc L (.ref a :: st) S kc ks := by
  obtain ⟨p, l, e, R, s, m, args, below, meth, c, D, cA, z, nL, Q⟩ := b
  obtain ⟨hx, hb, hml, how, hts, hK, hz, hn, hR⟩ := hC
  intro H locs ls hH hS hl
  obtain ⟨c1, c2, c3, c4, c5, c6, c7⟩ := ck
  obtain ⟨o1, o2⟩ := ho
  obtain ⟨cell, q1, q2, q3, q4⟩ := (hH.2 a o1).1 (by rw [o2]; exact c6)
  rw [o2] at q2 q4
  rw [c5] at q4
  obtain ⟨hSl, hfc, kC, hkC, hkind⟩ := hK.1.1 ci _ c1
  obtain ⟨cf, kf, fi, f, hi, hsl⟩ := hSl k hk
  subst hf
  refine W.getf hx hb how (hts _ hw) hi (u_facts hfc hkC (u_lays hts c2 hk) hi).1 q1 (by rw [q3]; exact fun h => by cases h) (v := .int (wI S a k)) ?_ rfl rfl hd (kk H locs ls hH hS hl)
  rw [hsl, q4 k hk]
  simp only [fv, o2, hr]
  rfl
theorem g_getr {ci : Nat} {C ref : String} {T : u_T} {N : Nat} {ty : Nat → FieldType} {i k a q : Nat} (hC : CX b own cc n rm) (ck : ClOk ci C T N ty) (hk : k < N) (hw : Cond.fieldLink own i ref (T k).2.1 (T k).2.2.1 ∈ gwL) (hf : ref = (T k).1) (hr : isR ci k = true) (hd : decode cc pc = .ok (.getfield i, 3)) (ho : ob S a ci) (hq : wO S a k = some q)
    (kk : G b (pc + 3) L (.ref q :: st) S kc ks) : G b pc L (.ref a :: st) S kc ks := by
  obtain ⟨p, l, e, R, s, m, args, below, meth, c, D, cA, z, nL, Q⟩ := b
  obtain ⟨hx, hb, hml, how, hts, hK, hz, hn, hR⟩ := hC
  intro H locs ls hH hS hl
  obtain ⟨c1, c2, c3, c4, c5, c6, c7⟩ := ck
  obtain ⟨o1, o2⟩ := ho
  obtain ⟨cell, q1, q2, q3, q4⟩ := (hH.2 a o1).1 (by rw [o2]; exact c6)
  rw [o2] at q2 q4
  rw [c5] at q4
  obtain ⟨hSl, hfc, kC, hkC, hkind⟩ := hK.1.1 ci _ c1
  obtain ⟨cf, kf, fi, f, hi, hsl⟩ := hSl k hk
  subst hf
  refine W.getf hx hb how (hts _ hw) hi (u_facts hfc hkC (u_lays hts c2 hk) hi).1 q1 (by rw [q3]; exact fun h => by cases h) (v := .ref (z + q)) ?_ rfl rfl hd (kk H locs ls hH hS hl)
  rw [hsl, q4 k hk]
  simp only [fv, o2, hr, hq]
  rfl
theorem apart_of {D : va_G} {cA : Nat → ClassId} {s : State} {args : Array Value} (hts : ∀ w ∈ gwL, w.before args s = true) {ci : Nat} {C : String} {T : u_T} {N : Nat} {ty : Nat → FieldType} (ck : ClOk ci C T N ty) (hK : KK D cA s) : ∀ x y, x < N → y < N → x ≠ y → (D.2 ci) x ≠ (D.2 ci) y :=
  va_apart (own := C) hts ck.2.1 ty ck.2.2.1 ck.2.2.2.1 hK.1 ck.1
theorem cAt.obj {D : va_G} {cA : Nat → ClassId} {z : Nat} {S : Wd} {a ci : Nat} {H : Heap} (o2 : (kT a).1 = ci) (c6 : ci < 100) (h : t_OB (z + a) (D.1 ci) (nfT ci) (D.2 ci) H (fv z S a)) : cAt D cA z S a H := by
  refine ⟨fun _ => by rw [o2]; exact h, fun q => ?_, fun q => ?_, fun q => ?_, fun q => ?_⟩ <;> (exfalso; omega)
theorem g_puti {ci : Nat} {C ref : String} {T : u_T} {N : Nat} {ty : Nat → FieldType} {i k a : Nat} {v : Int32} (hC : CX b own cc n rm) (ck : ClOk ci C T N ty) (hk : k < N) (hw : Cond.fieldLink own i ref (T k).2.1 (T k).2.2.1 ∈ gwL) (hf : ref = (T k).1) (hr : isR ci k = false) (hfin : (T k).2.2.2 = false) (hI : (T k).2.2.1 = "I") (hd : decode cc pc = .ok (.putfield i, 3)) (ho : ob S a ci)
    (kk : G b (pc + 3) L st (sI S a k v) kc ks) : G b pc L (.int v :: .ref a :: st) S kc ks := by
  obtain ⟨p, l, e, R, s, m, args, below, meth, c, D, cA, z, nL, Q⟩ := b
  obtain ⟨hx, hb, hml, how, hts, hK, hz, hn, hR⟩ := hC
  intro H locs ls hH hS hl
  have hap := apart_of hts ck hK
  obtain ⟨c1, c2, c3, c4, c5, c6, c7⟩ := ck
  obtain ⟨o1, o2⟩ := ho
  obtain ⟨cell, q1, q2, q3, q4⟩ := (hH.2 a o1).1 (by rw [o2]; exact c6)
  rw [o2] at q2 q4
  rw [c5] at q4
  obtain ⟨hSl, hfc, kC, hkC, hkind⟩ := hK.1.1 ci _ c1
  obtain ⟨cf, kf, fi, f, hi, hsl⟩ := hSl k hk
  subst hf
  have hlay := hts _ (c2 _ (u_in_lay hk))
  unfold u_lay at hlay
  rw [if_neg (by rw [hfin]; decide)] at hlay
  have hst := (u_facts hfc hkC (u_lays hts c2 hk) hi).1
  have h6 := u_store (v := .int v) (ty := .int) hfc hkC hkind hlay hi (by rw [hI]; decide +kernel) rfl rfl
  refine W.putK hx hb (f := f) ⟨how, hts _ hw, ⟨_, _, _, hi⟩, hst⟩ (by rw [q2]; exact h6) q1 q3 (by rw [hsl]; exact k2_hasslot (q4 k hk)) rfl rfl hd fun H' e1 e2 e3 => ?_
  rw [hsl] at e1 ⊢
  refine kk H' _ ls (HO.upd (a := a) hH e2 e3 rfl rfl (fun j hj => ?_) (fun _ _ => rfl) (cAt.obj o2 c6 ?_)) (hS.put e2 e3 (Nat.le_add_right z a)) hl
  · show (if j = a then _ else _) = _
    rw [if_neg hj]; rfl
  · rw [c5]
    refine t_OB.to (V := updV (fv z S a) k (.int v)) ⟨_, e1, q2, q3, t_set q4 hap hk _⟩ (fun j _ => ?_)
    by_cases hjk : j = k
    · subst hjk
      simp [updV, fv, o2, hr, wI, sI]
    · simp [updV, fv, wI, wO, sI, hjk]
theorem g_putiF {ci : Nat} {C ref : String} {T : u_T} {N : Nat} {ty : Nat → FieldType} {i k a : Nat} {v : Int32} (hC : CX b own cc n rm) (hin : b.2.2.2.2.2.2.2.2.1.name = "<init>") (ck : ClOk ci C T N ty) (hk : k < N) (hw : Cond.fieldLink own i ref (T k).2.1 (T k).2.2.1 ∈ gwL) (hf : ref = (T k).1) (hdecl : (T k).1 = own) (hr : isR ci k = false) (hfin : (T k).2.2.2 = true) (hI : (T k).2.2.1 = "I") (hd : decode cc pc = .ok (.putfield i, 3)) (ho : ob S a ci)
    (kk : G b (pc + 3) L st (sI S a k v) kc ks) : G b pc L (.int v :: .ref a :: st) S kc ks := by
  obtain ⟨p, l, e, R, s, m, args, below, meth, c, D, cA, z, nL, Q⟩ := b
  obtain ⟨hx, hb, hml, how, hts, hK, hz, hn, hR⟩ := hC
  intro H locs ls hH hS hl
  have hap := apart_of hts ck hK
  obtain ⟨c1, c2, c3, c4, c5, c6, c7⟩ := ck
  obtain ⟨o1, o2⟩ := ho
  obtain ⟨cell, q1, q2, q3, q4⟩ := (hH.2 a o1).1 (by rw [o2]; exact c6)
  rw [o2] at q2 q4
  rw [c5] at q4
  obtain ⟨hSl, hfc, kC, hkC, hkind⟩ := hK.1.1 ci _ c1
  obtain ⟨cf, kf, fi, f, hi, hsl⟩ := hSl k hk
  subst hf
  have hlay := hts _ (c2 _ (u_in_lay hk))
  unfold u_lay at hlay
  rw [if_pos hfin] at hlay
  have hst := (u_facts hfc hkC (u_lays hts c2 hk) hi).1
  have hcf : m.cls = cf := by
    obtain ⟨_, _, c', _, _, _, -, -, hf', -, -, -, hown2, -⟩ := Cond.laysFinal_spec hlay
    have e1 : c' = cf := by have := hi.symm.trans hf'; simp at this; exact this.1.symm
    rw [hdecl] at hown2
    rw [← e1]; exact Option.some.inj (how.symm.trans hown2)
  have h6 := u_fits (v := .int v) (ty := .int) hfc hkC hkind (Or.inr hlay) hi (by rw [hI]; decide +kernel) rfl rfl
  refine W.putFinK hx hb how (hts _ hw) hi hst hcf hin (by rw [q2]; exact h6) q1 q3 (by rw [hsl]; exact k2_hasslot (q4 k hk)) rfl rfl hd fun H' e1 e2 e3 => ?_
  rw [hsl] at e1 ⊢
  refine kk H' _ ls (HO.upd (a := a) hH e2 e3 rfl rfl (fun j hj => ?_) (fun _ _ => rfl) (cAt.obj o2 c6 ?_)) (hS.put e2 e3 (Nat.le_add_right z a)) hl
  · show (if j = a then _ else _) = _
    rw [if_neg hj]; rfl
  · rw [c5]
    refine t_OB.to (V := updV (fv z S a) k (.int v)) ⟨_, e1, q2, q3, t_set q4 hap hk _⟩ (fun j _ => ?_)
    by_cases hjk : j = k
    · subst hjk
      simp [updV, fv, o2, hr, wI, sI]
    · simp [updV, fv, wI, wO, sI, hjk]
theorem g_putrF {ci : Nat} {C ref : String} {T : u_T} {N : Nat} {ty : Nat → FieldType} {i k a q : Nat} (hC : CX b own cc n rm) (hin : b.2.2.2.2.2.2.2.2.1.name = "<init>") (ck : ClOk ci C T N ty) (hk : k < N) (hw : Cond.fieldLink own i ref (T k).2.1 (T k).2.2.1 ∈ gwL) (hf : ref = (T k).1) (hdecl : (T k).1 = own) (hr : isR ci k = true) (hfin : (T k).2.2.2 = true) (hty : (∃ x, ty k = .object x) ∨ ∃ x, ty k = .array x) (hd : decode cc pc = .ok (.putfield i, 3)) (ho : ob S a ci)
    (kk : G b (pc + 3) L st (sO S a k (some q)) kc ks) : G b pc L (.ref q :: .ref a :: st) S kc ks := by
  obtain ⟨p, l, e, R, s, m, args, below, meth, c, D, cA, z, nL, Q⟩ := b
  obtain ⟨hx, hb, hml, how, hts, hK, hz, hn, hR⟩ := hC
  intro H locs ls hH hS hl
  have hap := apart_of hts ck hK
  obtain ⟨c1, c2, c3, c4, c5, c6, c7⟩ := ck
  obtain ⟨o1, o2⟩ := ho
  obtain ⟨cell, q1, q2, q3, q4⟩ := (hH.2 a o1).1 (by rw [o2]; exact c6)
  rw [o2] at q2 q4
  rw [c5] at q4
  obtain ⟨hSl, hfc, kC, hkC, hkind⟩ := hK.1.1 ci _ c1
  obtain ⟨cf, kf, fi, f, hi, hsl⟩ := hSl k hk
  subst hf
  have hlay := hts _ (c2 _ (u_in_lay hk))
  unfold u_lay at hlay
  rw [if_pos hfin] at hlay
  have hst := (u_facts hfc hkC (u_lays hts c2 hk) hi).1
  have hcf : m.cls = cf := by
    obtain ⟨_, _, c', _, _, _, -, -, hf', -, -, -, hown2, -⟩ := Cond.laysFinal_spec hlay
    have e1 : c' = cf := by have := hi.symm.trans hf'; simp at this; exact this.1.symm
    rw [hdecl] at hown2
    rw [← e1]; exact Option.some.inj (how.symm.trans hown2)
  have h6 := u_fits (v := .ref (z + q)) (ty := ty k) hfc hkC hkind (Or.inr hlay) hi (c3 k hk) (by rcases hty with ⟨x, h⟩ | ⟨x, h⟩ <;> rw [h] <;> rfl) (by rcases hty with ⟨x, h⟩ | ⟨x, h⟩ <;> rw [h] <;> rfl)
  refine W.putFinK hx hb how (hts _ hw) hi hst hcf hin (by rw [q2]; exact h6) q1 q3 (by rw [hsl]; exact k2_hasslot (q4 k hk)) rfl rfl hd fun H' e1 e2 e3 => ?_
  rw [hsl] at e1 ⊢
  refine kk H' _ ls (HO.upd (a := a) hH e2 e3 rfl rfl (fun _ _ => rfl) (fun j hj => ?_) (cAt.obj o2 c6 ?_)) (hS.put e2 e3 (Nat.le_add_right z a)) hl
  · show (if j = a then _ else _) = _
    rw [if_neg hj]; rfl
  · rw [c5]
    refine t_OB.to (V := updV (fv z S a) k (.ref (z + q))) ⟨_, e1, q2, q3, t_set q4 hap hk _⟩ (fun j _ => ?_)
    by_cases hjk : j = k
    · subst hjk
      simp [updV, fv, o2, hr, wO, sO, va_rf]
    · simp [updV, fv, wI, wO, sO, hjk]
theorem g_iald {a : Nat} {i : Int32} (hC : CX b own cc n rm) (hd : decode cc pc = .ok (.iaload, 1)) (ho : ob S a 100) (hi : vp_in i (wlen S a)) (kk : G b (pc + 1) L (.int (wI S a i.toNatClampNeg) :: st) S kc ks) : G b pc L (.int i :: .ref a :: st) S kc ks := by
  obtain ⟨p, l, e, R, s, m, args, below, meth, c, D, cA, z, nL, Q⟩ := b
  obtain ⟨hx, hb, hml, how, hts, hK, hz, hn, hR⟩ := hC
  intro H locs ls hH hS hl
  have hlt : i.toNatClampNeg < wlen S a := Nat.not_le.mp fun q => hi (Or.inr q)
  exact W.iald hx hb ((hH.2 a ho.1).2.1 ho.2) ((hK.1.2 0 _ rfl).1 _ _) (fun q => by cases q) (by rw [arrV_size]; exact hi) (by rw [arrV_read _ _ hlt]; rfl) rfl rfl hd (kk H locs ls hH hS hl)
theorem g_zald {a : Nat} {i : Int32} (hC : CX b own cc n rm) (hd : decode cc pc = .ok (.baload, 1)) (ho : ob S a 101) (hi : vp_in i (wlen S a)) (kk : G b (pc + 1) L (.int (wI S a i.toNatClampNeg) :: st) S kc ks) : G b pc L (.int i :: .ref a :: st) S kc ks := by
  obtain ⟨p, l, e, R, s, m, args, below, meth, c, D, cA, z, nL, Q⟩ := b
  obtain ⟨hx, hb, hml, how, hts, hK, hz, hn, hR⟩ := hC
  intro H locs ls hH hS hl
  have hlt : i.toNatClampNeg < wlen S a := Nat.not_le.mp fun q => hi (Or.inr q)
  exact W.zald hx hb ((hH.2 a ho.1).2.2.1 ho.2) ((hK.1.2 1 _ rfl).1 _ _) (fun q => by cases q) (by rw [arrV_size]; exact hi) (by rw [arrV_read _ _ hlt]; rfl) rfl rfl hd (kk H locs ls hH hS hl)
theorem g_alen {a : Nat} (hC : CX b own cc n rm) (hd : decode cc pc = .ok (.arraylength, 1)) (ho : ob S a 100) (kk : G b (pc + 1) L (.int (Int32.ofNat (wlen S a)) :: st) S kc ks) : G b pc L (.ref a :: st) S kc ks := by
  obtain ⟨p, l, e, R, s, m, args, below, meth, c, D, cA, z, nL, Q⟩ := b
  obtain ⟨hx, hb, hml, how, hts, hK, hz, hn, hR⟩ := hC
  intro H locs ls hH hS hl
  exact W.alen hx hb ((hH.2 a ho.1).2.1 ho.2) ((hK.1.2 0 _ rfl).1 _ _) (by rw [arrV_size]) rfl rfl hd (kk H locs ls hH hS hl)
theorem g_iast {a : Nat} {i v : Int32} (hC : CX b own cc n rm) (hd : decode cc pc = .ok (.iastore, 1)) (ho : ob S a 100) (hi : vp_in i (wlen S a)) (kk : G b (pc + 1) L st (sI S a i.toNatClampNeg v) kc ks) : G b pc L (.int v :: .int i :: .ref a :: st) S kc ks := by
  obtain ⟨p, l, e, R, s, m, args, below, meth, c, D, cA, z, nL, Q⟩ := b
  obtain ⟨hx, hb, hml, how, hts, hK, hz, hn, hR⟩ := hC
  intro H locs ls hH hS hl
  obtain ⟨o1, o2⟩ := ho
  refine W.iast hx hb ((hH.2 a o1).2.1 o2) ((hK.1.2 0 _ rfl).1 _ _) (fun q => by cases q) (by rw [arrV_size]; exact hi) rfl rfl hd fun H' e1 e2 e3 => ?_
  rw [arrV_store] at e1
  refine kk H' _ ls (HO.upd (a := a) hH e2 e3 rfl rfl (fun j hj => ?_) (fun _ _ => rfl) ⟨fun q => ?_, fun q => ?_, fun q => ?_, fun q => ?_, fun q => ?_⟩) (hS.put e2 e3 (Nat.le_add_right z a)) hl
  · show (if j = a then _ else _) = _
    rw [if_neg hj]; rfl
  · exfalso; omega
  · rw [e1]
    congr 2
    funext j
    by_cases hj : j = i.toNatClampNeg <;> simp [updV, wI, sI, hj]
  · exfalso; omega
  · exfalso; omega
  · exfalso; omega
theorem g_zast {a : Nat} {i v : Int32} (hC : CX b own cc n rm) (hd : decode cc pc = .ok (.bastore, 1)) (ho : ob S a 101) (hi : vp_in i (wlen S a)) (kk : G b (pc + 1) L st (sI S a i.toNatClampNeg (vp_nar .boolean v)) kc ks) : G b pc L (.int v :: .int i :: .ref a :: st) S kc ks := by
  obtain ⟨p, l, e, R, s, m, args, below, meth, c, D, cA, z, nL, Q⟩ := b
  obtain ⟨hx, hb, hml, how, hts, hK, hz, hn, hR⟩ := hC
  intro H locs ls hH hS hl
  obtain ⟨o1, o2⟩ := ho
  refine W.zast hx hb ((hH.2 a o1).2.2.1 o2) ((hK.1.2 1 _ rfl).1 _ _) (fun q => by cases q) (by rw [arrV_size]; exact hi) rfl rfl hd fun H' e1 e2 e3 => ?_
  rw [arrV_store] at e1
  refine kk H' _ ls (HO.upd (a := a) hH e2 e3 rfl rfl (fun j hj => ?_) (fun _ _ => rfl) ⟨fun q => ?_, fun q => ?_, fun q => ?_, fun q => ?_, fun q => ?_⟩) (hS.put e2 e3 (Nat.le_add_right z a)) hl
  · show (if j = a then _ else _) = _
    rw [if_neg hj]; rfl
  · exfalso; omega
  · exfalso; omega
  · rw [e1]
    congr 2
    funext j
    by_cases hj : j = i.toNatClampNeg
    · subst hj
      simp [updV, wI, sI, vp_nar]
      rfl
    · simp [updV, wI, sI, hj]
  · exfalso; omega
  · exfalso; omega
theorem g_aald2 {a q : Nat} {i : Int32} (hC : CX b own cc n rm) (hd : decode cc pc = .ok (.aaload, 1)) (ho : ob S a 102) (hi : vp_in i (wlen S a)) (hq : wO S a i.toNatClampNeg = some q) (kk : G b (pc + 1) L (.ref q :: st) S kc ks) : G b pc L (.int i :: .ref a :: st) S kc ks := by
  obtain ⟨p, l, e, R, s, m, args, below, meth, c, D, cA, z, nL, Q⟩ := b
  obtain ⟨hx, hb, hml, how, hts, hK, hz, hn, hR⟩ := hC
  intro H locs ls hH hS hl
  have hlt : i.toNatClampNeg < wlen S a := Nat.not_le.mp fun q => hi (Or.inr q)
  exact W.aald (v := .ref (z + q)) (ty := .object "LoadBourse$Sheet") hx hb ((hH.2 a ho.1).2.2.2.1 ho.2) ((hK.1.2 2 _ rfl).1 _ _) rfl (fun q => by cases q) (by rw [arrV_size]; exact hi) (by rw [arrV_read _ _ hlt, hq]; rfl) rfl rfl hd (kk H locs ls hH hS hl)
theorem g_aald3 {a q : Nat} {i : Int32} (hC : CX b own cc n rm) (hd : decode cc pc = .ok (.aaload, 1)) (ho : ob S a 103) (hi : vp_in i (wlen S a)) (hq : wO S a i.toNatClampNeg = some q) (kk : G b (pc + 1) L (.ref q :: st) S kc ks) : G b pc L (.int i :: .ref a :: st) S kc ks := by
  obtain ⟨p, l, e, R, s, m, args, below, meth, c, D, cA, z, nL, Q⟩ := b
  obtain ⟨hx, hb, hml, how, hts, hK, hz, hn, hR⟩ := hC
  intro H locs ls hH hS hl
  have hlt : i.toNatClampNeg < wlen S a := Nat.not_le.mp fun q => hi (Or.inr q)
  exact W.aald (v := .ref (z + q)) (ty := .array .int) hx hb ((hH.2 a ho.1).2.2.2.2 ho.2) ((hK.1.2 3 _ rfl).1 _ _) rfl (fun q => by cases q) (by rw [arrV_size]; exact hi) (by rw [arrV_read _ _ hlt, hq]; rfl) rfl rfl hd (kk H locs ls hH hS hl)
theorem g_aast2 {a q : Nat} {i : Int32} (hC : CX b own cc n rm) (hd : decode cc pc = .ok (.aastore, 1)) (ho : ob S a 102) (hi : vp_in i (wlen S a)) (hq : ob S q 7) (kk : G b (pc + 1) L st (sO S a i.toNatClampNeg (some q)) kc ks) : G b pc L (.ref q :: .int i :: .ref a :: st) S kc ks := by
  obtain ⟨p, l, e, R, s, m, args, below, meth, c, D, cA, z, nL, Q⟩ := b
  obtain ⟨hx, hb, hml, how, hts, hK, hz, hn, hR⟩ := hC
  intro H locs ls hH hS hl
  obtain ⟨o1, o2⟩ := ho
  have hlt : i.toNatClampNeg < wlen S a := Nat.not_le.mp fun q => hi (Or.inr q)
  have h0 : ¬ i < 0 := fun q => hi (Or.inl q)
  obtain ⟨cellV, g1, g2, g3, -⟩ := (hH.2 q hq.1).1 (by rw [hq.2]; decide)
  rw [hq.2] at g2
  have hcls := (hK.1.1 7 _ rfl).2
  obtain ⟨kA, comp, k1, k2, k3, -⟩ := (hK.1.2 2 _ rfl).2
  have hcomp : comp = D.1 7 := Option.some.inj (k3.symm.trans hcls.1)
  subst hcomp
  obtain ⟨kC, hkC, -⟩ := hcls.2
  refine W.aast hx hb ((hH.2 a o1).2.2.2.1 o2) (fun q h => by cases h) (fun h => by cases h) k1 k2 rfl hkC ⟨h0, by rw [arrV_size]; exact hlt⟩ g1 (fun q h => by rw [g3] at h; cases h) (by rw [g2]; exact hkC) (by rw [g2]; exact va_asg _ _) rfl rfl hd fun H' e1 e2 e3 => ?_
  rw [arrV_store] at e1
  refine kk H' _ ls (HO.upd (a := a) hH e2 e3 rfl rfl (fun _ _ => rfl) (fun j hj => ?_) ⟨fun q => ?_, fun q => ?_, fun q => ?_, fun q => ?_, fun q => ?_⟩) (hS.put e2 e3 (Nat.le_add_right z a)) hl
  · show (if j = a then _ else _) = _
    rw [if_neg hj]; rfl
  · exfalso; omega
  · exfalso; omega
  · exfalso; omega
  · rw [e1]
    congr 2
    funext j
    by_cases hj : j = i.toNatClampNeg <;> simp [updV, wO, sO, hj, va_rf]
  · exfalso; omega
theorem g_aast3 {a q : Nat} {i : Int32} (hC : CX b own cc n rm) (hd : decode cc pc = .ok (.aastore, 1)) (ho : ob S a 103) (hi : vp_in i (wlen S a)) (hq : ob S q 100) (kk : G b (pc + 1) L st (sO S a i.toNatClampNeg (some q)) kc ks) : G b pc L (.ref q :: .int i :: .ref a :: st) S kc ks := by
  obtain ⟨p, l, e, R, s, m, args, below, meth, c, D, cA, z, nL, Q⟩ := b
  obtain ⟨hx, hb, hml, how, hts, hK, hz, hn, hR⟩ := hC
  intro H locs ls hH hS hl
  obtain ⟨o1, o2⟩ := ho
  have hlt : i.toNatClampNeg < wlen S a := Nat.not_le.mp fun q => hi (Or.inr q)
  have h0 : ¬ i < 0 := fun q => hi (Or.inl q)
  have g1 := (hH.2 q hq.1).2.1 hq.2
  obtain ⟨comp, cX, kX, x1, x2, x3, x4, x5⟩ := arrayOverA_spec hK.2.2.2.2
  have hI : s.vm.findClass ("[" ++ FieldType.int.toString) = some (cA 0) := (hK.1.2 0 _ rfl).2
  have hII : s.vm.findClass ("[" ++ (FieldType.array .int).toString) = some (cA 3) := (hK.1.2 3 _ rfl).2
  have hc3 : cX = cA 3 := Option.some.inj (x5.symm.trans hII)
  have hc0 : comp = cA 0 := Option.some.inj (x1.symm.trans hI)
  subst hc3; subst hc0
  obtain ⟨kC, hkC, -⟩ := Vm.findClass_spec hI
  refine W.aast hx hb ((hH.2 a o1).2.2.2.2 o2) (fun q h => by cases h) (fun h => by cases h) x3 x4 rfl hkC ⟨h0, by rw [arrV_size]; exact hlt⟩ g1 (fun q h => by cases h) hkC (va_asg _ _) rfl rfl hd fun H' e1 e2 e3 => ?_
  rw [arrV_store] at e1
  refine kk H' _ ls (HO.upd (a := a) hH e2 e3 rfl rfl (fun _ _ => rfl) (fun j hj => ?_) ⟨fun q => ?_, fun q => ?_, fun q => ?_, fun q => ?_, fun q => ?_⟩) (hS.put e2 e3 (Nat.le_add_right z a)) hl
  · show (if j = a then _ else _) = _
    rw [if_neg hj]; rfl
  · exfalso; omega
  · exfalso; omega
  · exfalso; omega
  · exfalso; omega
  · rw [e1]
    congr 2
    funext j
    by_cases hj : j = i.toNatClampNeg <;> simp [updV, wO, sO, hj, va_rf]
end GH
