/-! chain -/
theorem sI_sI (S : Wd) (i k : Nat) (v w : Int32) : sI (sI S i k v) i k w = sI S i k w := by
  refine Wd_ext rfl rfl ?_ rfl
  funext a c
  simp only [wI_sI]
  by_cases ha : a = i
  · simp only [if_pos ha]
    by_cases hc : c = k
    · simp only [if_pos hc]
    · simp only [if_neg hc]
  · simp only [if_neg ha]
def cnt (u : Int32) : Nat → Nat
  | 0 => 0
  | n + 1 => cnt u n + (if bt u n = false then 1 else 0)
theorem cnt_le (u : Int32) : ∀ n, cnt u n ≤ n
  | 0 => Nat.le_refl _
  | n + 1 => by
    have := cnt_le u n
    unfold cnt
    split <;> omega
theorem cnt_pos {u : Int32} {k : Nat} (hb : bt u k = false) : ∀ n, k < n → 0 < cnt u n
  | 0, h => by omega
  | n + 1, h => by
    unfold cnt
    by_cases he : k = n
    · subst he
      rw [if_pos hb]
      omega
    · have := cnt_pos hb n (by omega)
      omega
theorem cnt_set {u : Int32} {k : Nat} (hk : k < 32) (hb : bt u k = false) : ∀ n, n ≤ 32 → cnt (u ||| ((1 : Int32) <<< (nI k &&& 31))) n + (if k < n then 1 else 0) = cnt u n
  | 0, _ => rfl
  | n + 1, hn => by
    have ih := cnt_set hk hb n (by omega)
    unfold cnt
    rw [bt_or, bt_one hk (by omega)]
    by_cases he : n = k
    · subst he
      rw [decide_eq_true rfl, Bool.or_true, if_neg (by decide), if_pos (by omega), if_pos hb]
      rw [if_neg (by omega)] at ih
      omega
    · rw [decide_eq_false he, Bool.or_false]
      by_cases h1 : k < n
      · rw [if_pos h1] at ih
        rw [if_pos (show k < n + 1 by omega)]
        omega
      · rw [if_neg h1] at ih
        rw [if_neg (show ¬ k < n + 1 by omega)]
        omega
theorem e_endO {V : Wd} (hI : Inv V) {n : Nat} (hn : n ≤ 20) (u67 : wI V 49 67 = nI n) {X Y Z : Nat → Nat} (eN : ∀ i, i < n → X i < 8 ∧ Y i < 10 ∧ Z i < 10 ∧ wI V 49 (240 + i) = nI (X i + 8 * Y i + 80 * Z i)) {ld : Nat} (hld : ld < 8) (a2 : Int32) : ∀ (f ca : Nat) (u : Int32) (lk : Nat), cnt u n ≤ f → ca < 10 → ru B_X12_endOf (1, [48], [nI ld, a2, u, nI ca, 1], sI V 48 21 (nI lk)) = some (nI (chN X Y Z n ld f ca u lk).1, sI V 48 21 (nI (chN X Y Z n ld f ca u lk).2)) := by
  intro f
  induction f with
  | zero =>
    intro ca u lk hc hca
    have hW : Inv (sI V 48 21 (nI lk)) := hI.of (Nat.le_refl _) (fun _ _ _ _ _ => rfl) (fun i k hi hk => wI_sI_ne (by omega))
    have w49 : wI (sI V 48 21 (nI lk)) 49 = wI V 49 := wI_sI' _ _ _ _ _ (by decide)
    refine (ru_step (show B_X12_endOf (1, [48], [nI ld, a2, u, nI ca, 1], sI V 48 21 (nI lk)) = some (.inr (2, [48], [nI ld, a2, u, nI ca, 1, -1, nI 0], sI V 48 21 (nI lk))) from ?_)).trans ((e_endI hW hn (by rw [w49]; exact u67) (fun i hi => by rw [w49]; exact eN i hi) hld hca a2 u n 0 (by omega)).trans ?_)
    · show B_X12_endOf_1 _ 48 (nI ld) a2 u (nI ca) 1 = _
      unfold B_X12_endOf_1
      rw [if_neg (by decide)]
      rfl
    · cases hk : fuN X Y ld ca u n 0 with
      | none =>
        refine ru_done ?_
        show B_X12_endOf_1 _ 48 (nI ld) a2 u (nI ca) 0 = _
        unfold B_X12_endOf_1
        rw [if_pos rfl]
        rfl
      | some k =>
        obtain ⟨-, k2, k3⟩ := fuN_some hk
        have := cnt_pos k3 n (by omega)
        omega
  | succ f ih =>
    intro ca u lk hc hca
    have hW : Inv (sI V 48 21 (nI lk)) := hI.of (Nat.le_refl _) (fun _ _ _ _ _ => rfl) (fun i k hi hk => wI_sI_ne (by omega))
    have w49 : wI (sI V 48 21 (nI lk)) 49 = wI V 49 := wI_sI' _ _ _ _ _ (by decide)
    refine (ru_step (show B_X12_endOf (1, [48], [nI ld, a2, u, nI ca, 1], sI V 48 21 (nI lk)) = some (.inr (2, [48], [nI ld, a2, u, nI ca, 1, -1, nI 0], sI V 48 21 (nI lk))) from ?_)).trans ((e_endI hW hn (by rw [w49]; exact u67) (fun i hi => by rw [w49]; exact eN i hi) hld hca a2 u n 0 (by omega)).trans ?_)
    · show B_X12_endOf_1 _ 48 (nI ld) a2 u (nI ca) 1 = _
      unfold B_X12_endOf_1
      rw [if_neg (by decide)]
      rfl
    · unfold chN
      cases hk : fuN X Y ld ca u n 0 with
      | none =>
        refine ru_done ?_
        show B_X12_endOf_1 _ 48 (nI ld) a2 u (nI ca) 0 = _
        unfold B_X12_endOf_1
        rw [if_pos rfl]
      | some k =>
        obtain ⟨-, k2, k3⟩ := fuN_some hk
        have hs := cnt_set (u := u) (k := k) (by omega) k3 n (by omega)
        rw [if_pos (show k < n by omega)] at hs
        have := ih (Z k) (u ||| ((1 : Int32) <<< (nI k &&& 31))) (lk + 1) (by omega) (eN k (by omega)).2.2.1
        refine Eq.trans ?_ this
        show ru B_X12_endOf (1, [48], [nI ld, a2, u ||| ((1 : Int32) <<< (nI k &&& 31)), nI (Z k), 1], sI (sI V 48 21 (nI lk)) 48 21 (wI (sI V 48 21 (nI lk)) 48 21 + 1)) = _
        rw [wI_sI_eq, nI_1, sI_sI]
