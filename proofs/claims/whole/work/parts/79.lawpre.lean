/-! what the law's walk stands on -/
theorem ints_ok (As : List Value) (h : As.all (fun v => match v with | .int _ => true | _ => false) = true) : ∀ v ∈ As, ∃ x : Int32, v = .int x := by
  intro v hv
  have := List.all_eq_true.mp h v hv
  cases v <;> first | exact ⟨_, rfl⟩ | cases this
def LQ : Bd → Prop
  | (_p, _l, _e, R, s, _m, args, below, meth, _c, _D, _cA, z, _nL, Q) => (∃ ad : Nat, args = #[.ref ad] ∧ Q = lw_Z below #[.ref ad] s) ∧ meth.sig.returnType = ret ∧ meth.locks = false ∧ z = s.heap.size ∧ R = room_1
section GLE
variable {b : Bd} {bb : Nat} {own : String} {n : Nat} {rm : Room} {pc : Nat} {L L' : List (Nat × Value)} {st : List Value} {S : Wd} {kc ks : Nat}
theorem gl_pick (ps : List Nat) (h : ps.map (fun k => L[k]?) = L'.map some) (kk : GL b bb pc L' st S kc ks) : GL b bb pc L st S kc ks := by
  obtain ⟨p, l, e, R, s, m, args, below, meth, c, D, cA, z, nL, Q⟩ := b
  intro H locs ls hH hS hl
  refine kk H locs ls hH hS ⟨hl.1, hl.2.1, fun q hq => ?_⟩
  obtain ⟨q0, h1, rfl⟩ := List.mem_map.mp hq
  have h2 : some q0 ∈ L'.map some := List.mem_map.mpr ⟨q0, h1, rfl⟩
  rw [← h] at h2
  obtain ⟨k, -, hk⟩ := List.mem_map.mp h2
  exact hl.2.2 _ (List.mem_map.mpr ⟨q0, List.mem_of_getElem? hk, rfl⟩)
theorem gl_ret (hC : CX b own code n rm) (hQ : LQ b) (hd : decode code pc = .ok (.ireturn, 1)) (h1 : kc ≤ 600000) (h2 : ks ≤ 7302250) : GL b bb pc L [.int 1] S kc ks := by
  obtain ⟨p, l, e, R, s, m, args, below, meth, c, D, cA, z, nL, Q⟩ := b
  obtain ⟨hx, hb, hml, how, hts, hK, hz, hn, hR⟩ := hC
  obtain ⟨⟨ad, rfl, rfl⟩, hr, hlo, hzs, hRm⟩ := hQ
  intro H locs ls hH hS hl
  subst hRm; subst hzs
  exact va_forget hS.2.2 (W.widen h1 h2 (lw_ret hx hb hr hlo hd))
end GLE
theorem law_arith {Lx j : Nat} {x3 : Int32} (hL : Lx ≤ 3584) (hj0 : j ≤ 512) (hx3 : x3 = nI (7 * j)) (hc : ¬ Int32.ofNat Lx - 7 < x3) : vp_in x3 Lx ∧ (∀ k : Nat, k < 7 → vp_in (x3 + nI k) Lx) ∧ j < 512 ∧ x3 + 7 = nI (7 * (j + 1)) := by
  have e1 : (Int32.ofNat Lx - 7).toInt = (Lx : Int) - 7 := by
    rw [Int32.toInt_sub, Int32.toInt_ofNat_of_lt (by omega)]
    have : (7 : Int32).toInt = 7 := by decide
    rw [this]
    exact Int.bmod_eq_of_le (by omega) (by omega)
  have e2 : x3.toInt = (7 * j : Nat) := by rw [hx3, nI_toInt (by omega)]
  have h1 : ¬ ((Lx : Int) - 7 < (7 * j : Nat)) := by
    intro h
    apply hc
    rw [Int32.lt_iff_toInt_lt, e1, e2]
    exact h
  have hb : 7 * j + 7 ≤ Lx := by omega
  refine ⟨?_, fun k hk => ?_, by omega, ?_⟩
  · rw [hx3]; exact vp_in_nI (by omega) (by omega)
  · rw [hx3, nI_add]; exact vp_in_nI (by omega) (by omega)
  · rw [hx3]
    show nI (7 * j) + nI 7 = _
    rw [nI_add, Nat.mul_add]
