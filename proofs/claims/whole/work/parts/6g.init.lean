/-! both constructors -/
def lkO : List (Nat × Nat × Nat) → Nat → Nat → Option Nat
  | [], _, _ => none
  | e :: l, x, y => if x = e.1 ∧ y = e.2.1 then some e.2.2 else lkO l x y
def lkI : List (Nat × Nat × Int32) → Nat → Nat → Int32
  | [], _, _ => 0
  | e :: l, x, y => if x = e.1 ∧ y = e.2.1 then e.2.2 else lkI l x y
/-- a world of n fresh cells with these references and ints in them -/
def mkW (n : Nat) (ol : List (Nat × Nat × Nat)) (il : List (Nat × Nat × Int32)) : Wd := (n, (fun a => if a < n then (kT a).2 else 0), lkI il, lkO ol)
def frO (n : Nat) (ol : List (Nat × Nat × Nat)) : Bool := ol.all fun e => decide (e.1 < n)
def frI (n : Nat) (il : List (Nat × Nat × Int32)) : Bool := il.all fun e => decide (e.1 < n)
theorem lkO_fr {n : Nat} : ∀ {ol : List (Nat × Nat × Nat)}, frO n ol = true → ∀ k, lkO ol n k = none
  | [], _, _ => rfl
  | e :: l, h, k => by
    unfold frO at h
    rw [List.all_cons, Bool.and_eq_true] at h
    unfold lkO
    have := of_decide_eq_true h.1
    rw [if_neg (by omega)]
    exact lkO_fr (ol := l) h.2 k
theorem lkI_fr {n : Nat} : ∀ {il : List (Nat × Nat × Int32)}, frI n il = true → ∀ k, lkI il n k = 0
  | [], _, _ => rfl
  | e :: l, h, k => by
    unfold frI at h
    rw [List.all_cons, Bool.and_eq_true] at h
    unfold lkI
    have := of_decide_eq_true h.1
    rw [if_neg (by omega)]
    exact lkI_fr (il := l) h.2 k
section MK
variable {n : Nat} {ol : List (Nat × Nat × Nat)} {il : List (Nat × Nat × Int32)}
theorem wn_mk : wn (mkW n ol il) = n := rfl
theorem wO_mk {a k : Nat} : wO (mkW n ol il) a k = lkO ol a k := rfl
theorem sN_mk {len : Nat} (h : (kT n).2 = len) (h1 : frO n ol = true) (h2 : frI n il = true) : sN (mkW n ol il) len = mkW (n + 1) ol il := by
  refine Wd_ext rfl ?_ ?_ ?_
  · funext a
    show (if a = n then len else if a < n then (kT a).2 else 0) = if a < n + 1 then (kT a).2 else 0
    by_cases he : a = n
    · rw [if_pos he, if_pos (by omega), he, h]
    · rw [if_neg he]
      by_cases hl : a < n
      · rw [if_pos hl, if_pos (by omega)]
      · rw [if_neg hl, if_neg (by omega)]
  · funext a k
    show (if a = n then (fun _ => (0 : Int32)) else lkI il a) k = lkI il a k
    by_cases he : a = n
    · rw [if_pos he, he, lkI_fr h2]
    · rw [if_neg he]
  · funext a k
    show (if a = n then (fun _ => (none : Option Nat)) else lkO ol a) k = lkO ol a k
    by_cases he : a = n
    · rw [if_pos he, he, lkO_fr h1]
    · rw [if_neg he]
theorem sO_mk {a k v : Nat} : sO (mkW n ol il) a k (some v) = mkW n ((a, k, v) :: ol) il := by
  refine Wd_ext rfl rfl rfl ?_
  funext x y
  show (if x = a then (fun b => if b = k then some v else lkO ol x b) else lkO ol x) y = if x = a ∧ y = k then some v else lkO ol x y
  by_cases hx : x = a
  · rw [if_pos hx]
    by_cases hy : y = k
    · rw [if_pos hy, if_pos ⟨hx, hy⟩]
    · rw [if_neg hy, if_neg (fun q => hy q.2)]
  · rw [if_neg hx, if_neg (fun q => hx q.1)]
theorem sI_mk {a k : Nat} {v : Int32} : sI (mkW n ol il) a k v = mkW n ol ((a, k, v) :: il) := by
  refine Wd_ext rfl rfl ?_ rfl
  funext x y
  show (if x = a then (fun b => if b = k then v else lkI il x b) else lkI il x) y = if x = a ∧ y = k then v else lkI il x y
  by_cases hx : x = a
  · rw [if_pos hx]
    by_cases hy : y = k
    · rw [if_pos hy, if_pos ⟨hx, hy⟩]
    · rw [if_neg hy, if_neg (fun q => hy q.2)]
  · rw [if_neg hx, if_neg (fun q => hx q.1)]
theorem gd_obM {α : Type} {x : Option α} {a k : Nat} (h1 : a < n) (h2 : (kT a).1 = k) : gd (ob (mkW n ol il) a k) x = x := gd_pos ⟨h1, h2⟩
theorem gd_kM {α : Type} {x : Option α} {k : Nat} (h : (kT n).1 = k) : gd ((kT (wn (mkW n ol il))).1 = k) x = x := gd_pos h
theorem gd_kM' {α : Type} {x : Option α} {k : Nat} (h : (kT n).1 = k) : gd ((kT n).1 = k) x = x := gd_pos h
theorem gd_nkM {α : Type} {x : Option α} {k len : Nat} (h0 : n < 65) (h : (kT n).1 = k) (h2 : (kT n).2 = len) : gd (nk (mkW n ol il) k len) x = x := gd_pos ⟨h, by
  show wlen (sN (mkW n ol il) len) n = len
  rw [wlen_lt h0, h2]⟩
theorem ltS_mk {β : Type} {f : Wd → Option β} {S : Wd} : ltS S f = f S := rfl
theorem e_tab (h0 : n < 65) {a j c m len : Nat} (ha : a < n) (hk : (kT a).1 = 8) (hn : (kT n).1 = 100) (hl : (kT n).2 = len) (hlen : len = 1 + c * m) (hb : c * m ≤ 150) (h1 : frO n ol = true) (h2 : frI n il = true) : f_X8_init (mkW n ol il) a j (nI c) (nI m) = some (mkW (n + 1) ((a, 3, n) :: (a, 0, j) :: ol) ((a, 2, nI m) :: (a, 1, nI c) :: il)) := by
  have e1 : (1 : Int32) + mMax (nI c * nI m) 0 = nI len := by
    rw [nI_mul, show (0 : Int32) = nI 0 from rfl, mMax_nI (by omega) (by decide), show max (c * m) 0 = c * m by omega, hlen]
    exact nI_add 1 (c * m)
  have f1 : frO n ((a, 0, j) :: ol) = true := by
    unfold frO
    rw [List.all_cons, Bool.and_eq_true]
    exact ⟨decide_eq_true ha, h1⟩
  have f2 : frI n ((a, 2, nI m) :: (a, 1, nI c) :: il) = true := by
    unfold frI
    rw [List.all_cons, List.all_cons, Bool.and_eq_true, Bool.and_eq_true]
    exact ⟨decide_eq_true ha, decide_eq_true ha, h2⟩
  unfold f_X8_init
  rw [gd_obM ha hk, sO_mk, ltS_mk, gd_obM ha hk, sI_mk, ltS_mk, gd_obM ha hk, sI_mk, ltS_mk, e1, nI_clamp (by omega), gd_pos ⟨nI_pos (by omega), by omega⟩, gd_nkM h0 hn hl, sN_mk hl f1 f2, ltS_mk, gd_obM (by omega) hk, wn_mk, sO_mk, ltS_mk]
end MK
