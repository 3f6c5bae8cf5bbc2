/-! what was worked out, and the whole relation -/
def kch (a k : Nat) : Bool := pers a k || [5, 7, 13, 14, 15, 16].contains a
def kv (S : Wd) : Pv := fun a k => if kch a k = true then wI S a k else 0
theorem kv_of {S : Wd} {a k : Nat} (h : kch a k = true) : kv S a k = wI S a k := by unfold kv; rw [if_pos h]
theorem kch_keepc {a k : Nat} (h : kch a k = true) : keepc a k = true := by
  unfold keepc
  unfold kch at h
  rw [h]
  rfl
theorem kv_congr {S S' : Wd} (h : ∀ a k, kch a k = true → wI S' a k = wI S a k) : kv S' = kv S := by
  funext a k
  show (if kch a k = true then _ else _) = if kch a k = true then _ else _
  split
  · rename_i hp
    exact h a k hp
  · rfl
theorem pv_congr {S S' : Wd} (h : ∀ a k, pers a k = true → wI S' a k = wI S a k) : pv S' = pv S := by
  funext a k
  show (if pers a k = true then _ else _) = if pers a k = true then _ else _
  split
  · rename_i hp
    exact h a k hp
  · rfl
theorem Qy.kv {S S' : Wd} (h : Qy S S') : kv S' = kv S := kv_congr fun a k hk => h.2.2.2 a k (kch_keepc hk)
def WOk (C : Pv) : Prop := ∀ i : Nat, i < 64 → C 7 i = fw (C 49) i
def GOk (C : Pv) : Prop := GOk5 (C 13) (C 14) (C 15) (C 16) (C 49)
def Rel (j : Nat) (S : Wd) : Prop := Inv S ∧ RelQ (pv S) (wO S) (wl S) (wn S) ∧ wI S 0 12 = wI S 48 3 ∧ (∃ c : Nat, c ≤ j ∧ wI S 1 5 = nI c ∧ (wI S 5 3 = -1 ∨ ∃ m : Nat, m ≤ c ∧ wI S 5 3 = nI m) ∧ (wI S 13 12 = -1 ∨ ∃ m : Nat, m ≤ c ∧ wI S 13 12 = nI m)) ∧ (wI S 5 3 = wI S 1 5 → WOk (kv S)) ∧ (wI S 13 12 = wI S 1 5 → GOk (kv S))
theorem rel_up {j : Nat} {S : Wd} (h : Rel j S) : Rel (j + 1) S := by
  obtain ⟨h1, h2, h3, ⟨c, h4, h5⟩, h6⟩ := h
  exact ⟨h1, h2, h3, ⟨c, by omega, h5⟩, h6⟩
theorem rel_ob0 {j : Nat} {S : Wd} (h : Rel j S) : ob S 0 11 := ob_of h.1.1 (by decide) (by decide)
theorem Inv.qy {S S' : Wd} (h : Inv S) (hq : Qy S S') : Inv S' :=
  h.of (Nat.le_of_eq hq.1.symm) (fun i k _ _ _ => by rw [hq.2.2.1]) (fun i k hi hk => hq.2.2.2 i k (by rcases hi with rfl | rfl | rfl | rfl | rfl <;> rfl))
theorem rel_qy {j : Nat} {S S' : Wd} (h : Rel j S) (hq : Qy S S') : Rel j S' := by
  obtain ⟨h1, h2, h3, h4, h5, h6⟩ := h
  obtain ⟨q1, q2, q3, q4⟩ := id hq
  refine ⟨h1.qy hq, ?_, ?_, ?_, ?_, ?_⟩
  · rw [hq.same, q1, q2, q3]; exact h2
  · rw [q4 0 12 rfl, q4 48 3 rfl]; exact h3
  · rw [q4 1 5 rfl, q4 5 3 rfl, q4 13 12 rfl]; exact h4
  · rw [q4 1 5 rfl, q4 5 3 rfl, hq.kv]; exact h5
  · rw [q4 1 5 rfl, q4 13 12 rfl, hq.kv]; exact h6
theorem wI_sI_ne {S : Wd} {i k : Nat} {v : Int32} {a c : Nat} (h : ¬ (a = i ∧ c = k)) : wI (sI S i k v) a c = wI S a c := by
  rw [wI_sI]
  split
  · rename_i e
    split
    · rename_i e2
      exact absurd ⟨e, e2⟩ h
    · rfl
  · rfl
theorem wI_sI_eq {S : Wd} {i k : Nat} {v : Int32} : wI (sI S i k v) i k = v := by rw [wI_sI, if_pos rfl, if_pos rfl]
/-- both tell a finding -/
theorem rel_find {j : Nat} {S : Wd} {x : Int32} (h : Rel j S) : Rel j (sI (sI S 0 12 (wI S 0 12 + x)) 48 3 (wI S 48 3 + x)) := by
  obtain ⟨h1, h2, h3, h4, h5, h6⟩ := h
  generalize hS : sI (sI S 0 12 (wI S 0 12 + x)) 48 3 (wI S 48 3 + x) = S'
  have e : ∀ a k, ¬ (a = 0 ∧ k = 12) → ¬ (a = 48 ∧ k = 3) → wI S' a k = wI S a k := by
    intro a k n1 n2
    rw [← hS, wI_sI_ne n2, wI_sI_ne n1]
  have e1 : wI S' 0 12 = wI S 0 12 + x := by rw [← hS, wI_sI_ne (by decide), wI_sI_eq]
  have e2 : wI S' 48 3 = wI S 48 3 + x := by rw [← hS, wI_sI_eq]
  have q1 : wn S' = wn S := by rw [← hS]; rfl
  have q2 : wl S' = wl S := by rw [← hS]; rfl
  have q3 : wO S' = wO S := by rw [← hS]; rfl
  have hp : pv S' = pv S := pv_congr fun a k hp => e a k (by rintro ⟨rfl, rfl⟩; cases hp) (by rintro ⟨rfl, rfl⟩; cases hp)
  have hk : kv S' = kv S := kv_congr fun a k hp => e a k (by rintro ⟨rfl, rfl⟩; cases hp) (by rintro ⟨rfl, rfl⟩; cases hp)
  refine ⟨h1.of (Nat.le_of_eq q1.symm) (fun i k _ _ _ => by rw [q3]) (fun i k hi _ => e i k (by rcases hi with rfl | rfl | rfl | rfl | rfl <;> (rintro ⟨h, -⟩; cases h)) (by rcases hi with rfl | rfl | rfl | rfl | rfl <;> (rintro ⟨h, -⟩; cases h))), ?_, ?_, ?_, ?_, ?_⟩
  · rw [hp, q1, q2, q3]; exact h2
  · rw [e1, e2, h3]
  · rw [e 1 5 (by decide) (by decide), e 5 3 (by decide) (by decide), e 13 12 (by decide) (by decide)]; exact h4
  · rw [e 1 5 (by decide) (by decide), e 5 3 (by decide) (by decide), hk]; exact h5
  · rw [e 1 5 (by decide) (by decide), e 13 12 (by decide) (by decide), hk]; exact h6
