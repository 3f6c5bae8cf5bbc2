/-! The words of which the program's own functions are written -/
noncomputable def gd {α : Type} (c : Prop) (x : Option α) : Option α := @ite (Option α) c (Classical.propDecidable c) x none
theorem gd_some {α : Type} {c : Prop} {x : Option α} {r : α} (h : gd c x = some r) : c ∧ x = some r := by
  unfold gd at h
  by_cases hc : c
  · rw [if_pos hc] at h; exact ⟨hc, h⟩
  · rw [if_neg hc] at h; cases h
theorem gd_pos {α : Type} {c : Prop} {x : Option α} (h : c) : gd c x = x := by
  unfold gd
  rw [if_pos h]
def bd2 {α β : Type} (o : Option (α × Wd)) (f : α → Wd → Option β) : Option β := o.bind fun q => f q.1 q.2
theorem bd2_some {α β : Type} {o : Option (α × Wd)} {f : α → Wd → Option β} {r : β} (h : bd2 o f = some r) : ∃ x S, o = some (x, S) ∧ f x S = some r := by
  obtain ⟨⟨x, S⟩, h1, h2⟩ := Option.bind_eq_some_iff.mp h
  exact ⟨x, S, h1, h2⟩
theorem bd2_eq {α β : Type} {x : α} {S : Wd} {f : α → Wd → Option β} : bd2 (some (x, S)) f = f x S := rfl
def ix (S : Wd) (a k : Nat) (i : Int32) : Prop := ob S a k ∧ vp_in i (wlen S a)
def nk (S : Wd) (k len : Nat) : Prop := (kT (wn S)).1 = k ∧ wlen (sN S len) (wn S) = len
def irm (x y : Int32) : Int32 := x - x / y * y
/-- a loop's state: which loop, its references, its ints, the world -/
abbrev Cs : Type := Nat × List Nat × List Int32 × Wd
def it {σ ρ : Type} (f : σ → Option (ρ ⊕ σ)) : Nat → σ → Option ρ
  | 0, _ => none
  | k + 1, s => match f s with
    | none => none
    | some (.inl r) => some r
    | some (.inr s') => it f k s'
theorem it_up {σ ρ : Type} {f : σ → Option (ρ ⊕ σ)} : ∀ (k : Nat) (s : σ) (r : ρ), it f k s = some r → it f (k + 1) s = some r
  | 0, s, r, h => by cases h
  | k + 1, s, r, h => by
    rw [it] at h ⊢
    split at h
    · cases h
    · exact h
    · rename_i s' e; exact it_up k s' r h
theorem it_le {σ ρ : Type} {f : σ → Option (ρ ⊕ σ)} {k : Nat} {s : σ} {r : ρ} (h : it f k s = some r) : ∀ j : Nat, it f (k + j) s = some r
  | 0 => h
  | j + 1 => it_up _ _ _ (it_le h j)
theorem it_det {σ ρ : Type} {f : σ → Option (ρ ⊕ σ)} {k j : Nat} {s : σ} {r r' : ρ} (h : it f k s = some r) (h' : it f j s = some r') : r = r' := by
  have h1 := it_le h j
  have h2 := it_le h' k
  rw [Nat.add_comm] at h2
  exact Option.some.inj (h1.symm.trans h2)
/-- runs until there is an answer -/
noncomputable def ru {σ ρ : Type} (f : σ → Option (ρ ⊕ σ)) (s : σ) : Option ρ := @dite (Option ρ) (∃ r, ∃ k, it f k s = some r) (Classical.propDecidable _) (fun h => some h.choose) (fun _ => none)
theorem ru_iff {σ ρ : Type} {f : σ → Option (ρ ⊕ σ)} {s : σ} {r : ρ} : ru f s = some r ↔ ∃ k, it f k s = some r := by
  unfold ru
  constructor
  · intro h
    split at h
    · rename_i hx
      have := hx.choose_spec
      cases h
      exact this
    · cases h
  · rintro ⟨k, hk⟩
    have hx : ∃ r, ∃ k, it f k s = some r := ⟨r, k, hk⟩
    rw [dif_pos hx]
    obtain ⟨j, hj⟩ := hx.choose_spec
    rw [it_det hj hk]
theorem ru_done {σ ρ : Type} {f : σ → Option (ρ ⊕ σ)} {s : σ} {r : ρ} (h : f s = some (.inl r)) : ru f s = some r := ru_iff.mpr ⟨1, by rw [it, h]⟩
theorem ru_step {σ ρ : Type} {f : σ → Option (ρ ⊕ σ)} {s s' : σ} (h : f s = some (.inr s')) : ru f s = ru f s' := by
  cases hr : ru f s' with
  | some r =>
    obtain ⟨k, hk⟩ := ru_iff.mp hr
    exact ru_iff.mpr ⟨k + 1, by rw [it, h]; exact hk⟩
  | none =>
    cases hs : ru f s with
    | none => rfl
    | some r =>
      obtain ⟨k, hk⟩ := ru_iff.mp hs
      cases k with
      | zero => cases hk
      | succ k =>
        rw [it, h] at hk
        have := ru_iff.mpr ⟨k, hk⟩
        rw [hr] at this
        cases this
theorem ru_ind {σ ρ : Type} {f : σ → Option (ρ ⊕ σ)} {P : σ → ρ → Prop} (h1 : ∀ s r, f s = some (.inl r) → P s r) (h2 : ∀ s s' r, f s = some (.inr s') → P s' r → P s r) {s : σ} {r : ρ} (h : ru f s = some r) : P s r := by
  obtain ⟨k, hk⟩ := ru_iff.mp h
  induction k generalizing s with
  | zero => cases hk
  | succ k ih =>
    rw [it] at hk
    split at hk
    · cases hk
    · rename_i e; cases hk; exact h1 _ _ e
    · rename_i s' e; exact h2 _ _ _ e (ih (ru_iff.mpr ⟨k, hk⟩) hk)
theorem tout_of {x : Int32} {lo hi : Int} (vs : List Int32) (hne : ∀ v ∈ vs, ¬ x = v) (hall : ∀ k : Nat, k < (hi - lo + 1).toNat → Int32.ofInt (lo + k) ∈ vs) : x.toInt < lo ∨ hi < x.toInt := by
  rcases Int.lt_or_le x.toInt lo with h | h
  · exact Or.inl h
  · rcases Int.lt_or_le hi x.toInt with h' | h'
    · exact Or.inr h'
    · exfalso
      refine hne _ (hall (x.toInt - lo).toNat (by omega)) ?_
      have e : lo + ((x.toInt - lo).toNat : Int) = x.toInt := by omega
      rw [e, Int32.ofInt_toInt]
theorem g_irm {b : Bd} {own : String} {cc : ByteArray} {n : Nat} {rm : Room} {pc : Nat} {L : List (Nat × Value)} {st : List Value} {S : Wd} {kc ks : Nat} {x y : Int32} (hC : CX b own cc n rm) (hd : decode cc pc = .ok (.irem, 1)) (hne : ¬ y = 0) (kk : G b (pc + 1) L (.int (irm x y) :: st) S kc ks) : G b pc L (.int y :: .int x :: st) S kc ks := g_irem hC hd hne kk
theorem cls_mem {C : String} {T : u_T} {N : Nat} (h : ∀ w ∈ u_ws C T N, w ∈ lw_tbl) (g : (u_ws C T N).all goodWord = true) : ∀ w ∈ u_ws C T N, w ∈ gwL := fun w hw => gw_in (h w hw) (List.all_eq_true.mp g w hw)
theorem ck_X0 : ClOk 0 RX0 TX0 12 tyX0 := ⟨rfl, cls_mem inX0 (by decide +kernel), tyX0_ok, nmX0, rfl, by decide, by decide +kernel⟩
theorem ck_X1 : ClOk 1 RX1 TX1 5 tyX1 := ⟨rfl, cls_mem inX1 (by decide +kernel), tyX1_ok, nmX1, rfl, by decide, by decide +kernel⟩
theorem ck_X2 : ClOk 2 RX2 TX2 13 tyX2 := ⟨rfl, cls_mem inX2 (by decide +kernel), tyX2_ok, nmX2, rfl, by decide, by decide +kernel⟩
theorem ck_X3 : ClOk 3 RX3 TX3 6 tyX3 := ⟨rfl, cls_mem inX3 (by decide +kernel), tyX3_ok, nmX3, rfl, by decide, by decide +kernel⟩
theorem ck_X4 : ClOk 4 RX4 TX4 5 tyX4 := ⟨rfl, cls_mem inX4 (by decide +kernel), tyX4_ok, nmX4, rfl, by decide, by decide +kernel⟩
theorem ck_X5 : ClOk 5 RX5 TX5 2 tyX5 := ⟨rfl, cls_mem inX5 (by decide +kernel), tyX5_ok, nmX5, rfl, by decide, by decide +kernel⟩
theorem ck_X6 : ClOk 6 RX6 TX6 4 tyX6 := ⟨rfl, cls_mem inX6 (by decide +kernel), tyX6_ok, nmX6, rfl, by decide, by decide +kernel⟩
theorem ck_X7 : ClOk 7 RX7 TX7 3 tyX7 := ⟨rfl, cls_mem inX7 (by decide +kernel), tyX7_ok, nmX7, rfl, by decide, by decide +kernel⟩
theorem ck_X8 : ClOk 8 RX8 TX8 4 tyX8 := ⟨rfl, cls_mem inX8 (by decide +kernel), tyX8_ok, nmX8, rfl, by decide, by decide +kernel⟩
theorem ck_X9 : ClOk 9 RX9 TX9 4 tyX9 := ⟨rfl, cls_mem inX9 (by decide +kernel), tyX9_ok, nmX9, rfl, by decide, by decide +kernel⟩
theorem ck_X10 : ClOk 10 RX10 TX10 4 tyX10 := ⟨rfl, cls_mem inX10 (by decide +kernel), tyX10_ok, nmX10, rfl, by decide, by decide +kernel⟩
theorem ck_X11 : ClOk 11 RX11 TX11 13 tyX11 := ⟨rfl, cls_mem inX11 (by decide +kernel), tyX11_ok, nmX11, rfl, by decide, by decide +kernel⟩
theorem ck_X12 : ClOk 12 RX12 TX12 26 tyX12 := ⟨rfl, cls_mem inX12 (by decide +kernel), tyX12_ok, nmX12, rfl, by decide, by decide +kernel⟩
/-- a world gets a name -/
def ltS {β : Type} (S : Wd) (f : Wd → Option β) : Option β := f S
theorem ltS_use {β : Type} {S S1 : Wd} {f : Wd → Option β} {r : β} (e : S1 = S) (h : ltS S f = some r) : f S1 = some r := by subst e; exact h
theorem g_name {b : Bd} {pc : Nat} {L : List (Nat × Value)} {st : List Value} {S : Wd} {kc ks : Nat} (h : ∀ S1, S1 = S → G b pc L st S1 kc ks) : G b pc L st S kc ks := h S rfl
theorem i32_eq {x v : Int32} (e : x.toInt = v.toInt) : x = v := Int32.toInt_inj.mp e
