/-! why, drive -/
theorem e_refM {V : Wd} (hI : Inv V) {n m l : Nat} (hn : wI V 49 64 = nI n) (hn6 : n ≤ 6) (hm : wI V 49 65 = nI m) (hm8 : m ≤ 8) (hl : l < n) {one two : Option Nat} (h1 : opLt m one) (h2 : opLt m two) : f_X12_refused V 48 (nI l) (ans one) (ans two) = some (rfN (wI V 49) l one two, V) := by
  obtain ⟨h65, hF⟩ := id hI
  have hlo : 0 ≤ nI l ∧ nI l < nI n := ⟨nI_pos' (by omega), nI_lt hl (by omega)⟩
  have isl : ∀ {a : Nat}, a < m → (0 ≤ nI a ∧ nI a < nI m) := fun ha => ⟨nI_pos' (by omega), nI_lt ha (by omega)⟩
  unfold f_X12_refused
  rw [gd_pos (ob_of h65 (by decide) (by decide)), b_isLorry hI hn (by omega), if_pos hlo, if_neg (by decide)]
  cases one with
  | none =>
    rw [if_pos (show ans none = -1 from rfl)]
    cases two with
    | none =>
      rw [if_pos (show ans none = -1 from rfl), if_pos (show ans none < 0 by decide), if_pos (show ans none < 0 by decide)]
      rfl
    | some b =>
      have hb : b < m := h2
      rw [if_neg (show ¬ ans (some b) = -1 from nI_nm1 (by omega)), gd_pos (ob_of h65 (by decide) (by decide)), b_isLoad hI hm (by omega), if_pos (show 0 ≤ ans (some b) ∧ ans (some b) < nI m from isl hb), if_neg (by decide), if_neg (show ¬ ans (some b) < 0 from nI_pos (by omega)), if_pos (show ans none < 0 by decide)]
      rfl
  | some a =>
    have ha : a < m := h1
    have fa := e_fitsM hI (show l < 6 by omega) (show a < 8 by omega)
    rw [if_neg (show ¬ ans (some a) = -1 from nI_nm1 (by omega)), gd_pos (ob_of h65 (by decide) (by decide)), b_isLoad hI hm (by omega), if_pos (show 0 ≤ ans (some a) ∧ ans (some a) < nI m from isl ha), if_neg (by decide)]
    cases two with
    | none =>
      rw [if_pos (show ans none = -1 from rfl), if_pos (show ans none < 0 by decide), if_neg (show ¬ ans (some a) < 0 from nI_pos (by omega)), gd_pos (ob_of h65 (by decide) (by decide)), show f_X12_fits V 48 (nI l) (ans (some a)) = _ from fa, bd2_eq, if_pos (show ans none < 0 by decide)]
      show _ = some (if fitI (wI V 49) l a = 0 then (-100004 : Int32) else 0, V)
      split <;> rfl
    | some b =>
      have hb : b < m := h2
      have fb := e_fitsM hI (show l < 6 by omega) (show b < 8 by omega)
      rw [if_neg (show ¬ ans (some b) = -1 from nI_nm1 (by omega)), gd_pos (ob_of h65 (by decide) (by decide)), b_isLoad hI hm (by omega), if_pos (show 0 ≤ ans (some b) ∧ ans (some b) < nI m from isl hb), if_neg (by decide), if_neg (show ¬ ans (some b) < 0 from nI_pos (by omega)), if_neg (show ¬ ans (some a) < 0 from nI_pos (by omega)), if_neg (show ¬ ans (some a) < 0 from nI_pos (by omega))]
      show _ = some (if a = b then (-100001 : Int32) else if fitI (wI V 49) l a = 0 then -100004 else if fitI (wI V 49) l b = 0 then -100004 else 0, V)
      by_cases hab : a = b
      · rw [if_pos (show ans (some a) = ans (some b) by rw [hab]), if_pos hab]
      · rw [if_neg (show ¬ ans (some a) = ans (some b) from fun h => hab ((nI_eq (a := a) (b := b) (by omega) (by omega)).mp h)), if_neg hab, gd_pos (ob_of h65 (by decide) (by decide)), show f_X12_fits V 48 (nI l) (ans (some a)) = _ from fa, bd2_eq, if_neg (show ¬ ans (some b) < 0 from nI_pos (by omega)), gd_pos (ob_of h65 (by decide) (by decide)), show f_X12_fits V 48 (nI l) (ans (some b)) = _ from fb, bd2_eq]
        split
        · rfl
        · split <;> rfl
theorem e_refC {S : Wd} (hI : Inv S) (hlo : cLorry (wI S) (wI S 49)) (hld : cLoad (wI S) (wI S 49)) {n m l : Nat} (hn : wI S 49 64 = nI n) (hn6 : n ≤ 6) (hm : wI S 49 65 = nI m) (hm8 : m ≤ 8) (hl : l < n) {one two : Option Nat} (h1 : opLt m one) (h2 : opLt m two) : f_X11_findingOfRow S 0 (nI l) (ans one) (ans two) = some (rfN (wI S 49) l one two, S) := by
  obtain ⟨h65, hF⟩ := id hI
  obtain ⟨n', n6, nu, nv, nl⟩ := lo_facts hlo
  obtain ⟨m', m8, mu, mv, ml⟩ := ld_facts hld
  have en : n' = n := (nI_eq (by omega) (by omega)).mp (nu.symm.trans hn)
  have em : m' = m := (nI_eq (by omega) (by omega)).mp (mu.symm.trans hm)
  subst en em
  have hlo' : 0 ≤ nI l ∧ nI l < nI n' := ⟨nI_pos' (by omega), nI_lt hl (by omega)⟩
  have fit : ∀ {a : Nat}, a < m' → f_X0_fits S 12 (nI l) (nI a) = some (fitI (wI S 49) l a, S) := fun {a} ha => e_fitsC hI nv n6 mv m8 hl ha (fun c hc => by rw [(nl l hl c hc).2.1, (nl l hl c hc).2.2]) (fun c hc => by rw [((ml a ha).1 c hc).2.1, ((ml a ha).1 c hc).2.2])
  have fitN : f_X0_fits S 12 (nI l) (-1) = some (1, S) := rfl
  have lon : ∀ {o : Option Nat}, opLt m' o → f_X11_isLoadOrNone S 0 (ans o) = some (1, S) := by
    intro o ho
    unfold f_X11_isLoadOrNone
    cases o with
    | none => rw [if_pos (show ans none = -1 from rfl)]
    | some a =>
      have ha : a < m' := ho
      rw [if_neg (show ¬ ans (some a) = -1 from nI_nm1 (by omega))]
      simp (decide := true) only [gd_ob h65, hF, Option.bind_some]
      rw [b_has hI tb10, mv, if_pos (show 0 ≤ ans (some a) ∧ ans (some a) < nI m' from ⟨nI_pos' (by omega), nI_lt ha (by omega)⟩), if_neg (by decide)]
  unfold f_X11_findingOfRow
  simp (decide := true) only [gd_ob h65, hF, Option.bind_some]
  rw [b_has hI tb8, nv, if_pos hlo', if_neg (by decide)]
  simp (decide := true) only [gd_ob h65, hF, Option.bind_some, lon h1, lon h2, bd2_eq, if_false]
  cases one with
  | none =>
    rw [if_pos (show ans none = -1 from rfl)]
    cases two with
    | none =>
      rw [if_pos (show ans none = -1 from rfl), show f_X0_fits S 12 (nI l) (ans none) = _ from fitN, bd2_eq, if_neg (by decide)]
      simp (decide := true) only [gd_ob h65, hF, Option.bind_some, show f_X0_fits S 12 (nI l) (ans none) = _ from fitN, bd2_eq]
      rfl
    | some b =>
      have hb : b < m' := h2
      rw [if_neg (show ¬ ans (some b) = -1 from nI_nm1 (by omega))]
      rfl
  | some a =>
    have ha : a < m' := h1
    rw [if_neg (show ¬ ans (some a) = -1 from nI_nm1 (by omega)), show f_X0_fits S 12 (nI l) (ans (some a)) = _ from fit ha, bd2_eq]
    cases two with
    | none =>
      rw [if_neg (show ¬ ans (some a) = ans none from nI_nm1 (by omega))]
      show _ = some (if fitI (wI S 49) l a = 0 then (-100004 : Int32) else 0, S)
      split
      · rfl
      · simp (decide := true) only [gd_ob h65, hF, Option.bind_some, show f_X0_fits S 12 (nI l) (ans none) = _ from fitN, bd2_eq]
        rfl
    | some b =>
      have hb : b < m' := h2
      show _ = some (if a = b then (-100001 : Int32) else if fitI (wI S 49) l a = 0 then -100004 else if fitI (wI S 49) l b = 0 then -100004 else 0, S)
      by_cases hab : a = b
      · rw [if_pos (show ans (some a) = ans (some b) by rw [hab]), if_pos hab]
      · rw [if_neg (show ¬ ans (some a) = ans (some b) from fun h => hab ((nI_eq (a := a) (b := b) (by omega) (by omega)).mp h)), if_neg hab]
        split
        · rfl
        · simp (decide := true) only [gd_ob h65, hF, Option.bind_some, show f_X0_fits S 12 (nI l) (ans (some b)) = _ from fit hb, bd2_eq]
          split <;> rfl
/-- a load, none, or neither -/
theorem op_cases {m : Nat} (hm : m < 2 ^ 31) (a : Int32) : (∃ o : Option Nat, opLt m o ∧ a = ans o) ∨ (¬ a = -1 ∧ ¬ (0 ≤ a ∧ a < nI m)) := by
  by_cases h1 : a = -1
  · exact Or.inl ⟨none, trivial, h1⟩
  · by_cases h2 : 0 ≤ a ∧ a < nI m
    · obtain ⟨d, hd, rfl⟩ := nat_lt h2.1 h2.2 hm
      exact Or.inl ⟨some d, hd, rfl⟩
    · exact Or.inr ⟨h1, h2⟩
/-- what is no row at all, on both sides -/
theorem e_refX {S : Wd} (hI : Inv S) {n m : Nat} (nv : wI S 9 0 = nI n) (mv : wI S 11 0 = nI m) {a1 a2 a3 : Int32} (h : ¬ (0 ≤ a1 ∧ a1 < nI n) ∨ (¬ a2 = -1 ∧ ¬ (0 ≤ a2 ∧ a2 < nI m)) ∨ (¬ a3 = -1 ∧ ¬ (0 ≤ a3 ∧ a3 < nI m))) : f_X11_findingOfRow S 0 a1 a2 a3 = some (-100001, S) := by
  obtain ⟨h65, hF⟩ := id hI
  have lon : ∀ a : Int32, f_X11_isLoadOrNone S 0 a = if a = -1 then some (1, S) else if 0 ≤ a ∧ a < nI m then some (1, S) else some (0, S) := by
    intro a
    unfold f_X11_isLoadOrNone
    by_cases h1 : a = -1
    · rw [if_pos h1, if_pos h1]
    · rw [if_neg h1, if_neg h1]
      simp (decide := true) only [gd_ob h65, hF, Option.bind_some]
      rw [b_has hI tb10, mv]
      split
      · rw [if_neg (by decide)]
      · rw [if_pos rfl]
  unfold f_X11_findingOfRow
  simp (decide := true) only [gd_ob h65, hF, Option.bind_some]
  rw [b_has hI tb8, nv]
  by_cases c1 : 0 ≤ a1 ∧ a1 < nI n
  · rw [if_pos c1, if_neg (by decide), gd_pos (ob_of h65 (by decide) (by decide)), lon a2]
    have h' := h.resolve_left (fun q => q c1)
    by_cases c2 : ¬ a2 = -1 ∧ ¬ (0 ≤ a2 ∧ a2 < nI m)
    · rw [if_neg c2.1, if_neg c2.2, bd2_eq, if_pos rfl]
    · have c3 := h'.resolve_left c2
      have : (if a2 = -1 then some ((1 : Int32), S) else if 0 ≤ a2 ∧ a2 < nI m then some (1, S) else some (0, S)) = some (1, S) := by
        by_cases q : a2 = -1
        · rw [if_pos q]
        · rw [if_neg q]
          by_cases q2 : 0 ≤ a2 ∧ a2 < nI m
          · rw [if_pos q2]
          · exact absurd ⟨q, q2⟩ c2
      rw [this, bd2_eq, if_neg (by decide), gd_pos (ob_of h65 (by decide) (by decide)), lon a3, if_neg c3.1, if_neg c3.2, bd2_eq, if_pos rfl]
  · rw [if_neg c1, if_pos rfl]
theorem e_refY {V : Wd} (hI : Inv V) {n m : Nat} (hn : wI V 49 64 = nI n) (hn6 : n ≤ 6) (hm : wI V 49 65 = nI m) (hm8 : m ≤ 8) {a1 a2 a3 : Int32} (h : ¬ (0 ≤ a1 ∧ a1 < nI n) ∨ (¬ a2 = -1 ∧ ¬ (0 ≤ a2 ∧ a2 < nI m)) ∨ (¬ a3 = -1 ∧ ¬ (0 ≤ a3 ∧ a3 < nI m))) : f_X12_refused V 48 a1 a2 a3 = some (-100001, V) := by
  obtain ⟨h65, hF⟩ := id hI
  unfold f_X12_refused
  rw [gd_pos (ob_of h65 (by decide) (by decide)), b_isLorry hI hn (by omega)]
  by_cases c1 : 0 ≤ a1 ∧ a1 < nI n
  · rw [if_pos c1, if_neg (by decide)]
    have h' := h.resolve_left (fun q => q c1)
    simp (decide := true) only [gd_ob h65, b_isLoad hI hm (show m < 2 ^ 31 by omega)]
    by_cases c2 : ¬ a2 = -1 ∧ ¬ (0 ≤ a2 ∧ a2 < nI m)
    · rw [if_neg c2.1, if_neg c2.2, if_pos trivial]
    · have c3 := h'.resolve_left c2
      by_cases q : a2 = -1
      · rw [if_pos q, if_neg c3.1, if_neg c3.2, if_pos trivial]
      · rw [if_neg q]
        by_cases q2 : 0 ≤ a2 ∧ a2 < nI m
        · rw [if_pos q2, if_neg (by decide), if_neg c3.1, if_neg c3.2, if_pos trivial]
        · exact absurd ⟨q, q2⟩ c2
  · rw [if_neg c1, if_pos rfl]
