/-! follow -/
def chN (X Y Z : Nat → Nat) (n ld : Nat) : Nat → Nat → Int32 → Nat → Nat × Nat
  | 0, ca, _, lk => (ca, lk)
  | f + 1, ca, u, lk => match fuN X Y ld ca u n 0 with
    | none => (ca, lk)
    | some k => chN X Y Z n ld f (Z k) (u ||| ((1 : Int32) <<< (nI k &&& 31))) (lk + 1)
theorem fuN_some {X Y : Nat → Nat} {ld ca : Nat} {u : Int32} : ∀ {f i k : Nat}, fuN X Y ld ca u f i = some k → i ≤ k ∧ k < i + f ∧ bt u k = false
  | 0, _, _, h => by cases h
  | f + 1, i, k, h => by
    unfold fuN at h
    by_cases hc : X i = ld ∧ Y i = ca ∧ bt u i = false
    · rw [if_pos hc] at h
      cases h
      exact ⟨Nat.le_refl _, by omega, hc.2.2⟩
    · rw [if_neg hc] at h
      obtain ⟨h1, h2, h3⟩ := fuN_some h
      exact ⟨by omega, by omega, h3⟩
def wCh (S : Wd) (lk ca : Nat) : Wd := sI (sI S 24 3 (nI lk)) 24 4 (nI ca)
theorem wCh_inv {S : Wd} (hI : Inv S) (lk ca : Nat) : Inv (wCh S lk ca) := hI.of (Nat.le_refl _) (fun _ _ _ _ _ => rfl) (fun i k hi hk => by unfold wCh; rw [wI_sI_ne (by omega), wI_sI_ne (by omega)])
theorem e_followL {S : Wd} (hI : Inv S) {n : Nat} (hn : n ≤ 20) (v : wI S 27 0 = nI n) {X Y Z : Nat → Nat} (eX : ∀ i, i < n → X i < 8 ∧ wI S 27 (1 + i * 3) = nI (X i)) (eY : ∀ i, i < n → Y i < 10 ∧ wI S 27 (1 + i * 3 + 1) = nI (Y i)) (eZ : ∀ i, i < n → Z i < 10 ∧ wI S 27 (1 + i * 3 + 2) = nI (Z i)) {ld : Nat} (hld : ld < 8) (a2 : Int32) : ∀ (f t ca : Nat) (u : Int32) (lk : Nat), t + f = 20 → ca < 10 → ru B_X1_follow (1, [24], [nI ld, a2, u, nI t], wCh S lk ca) = some (wCh S (chN X Y Z n ld f ca u lk).2 (chN X Y Z n ld f ca u lk).1)
  | 0, t, ca, u, lk, ht, hca => by
    refine ru_done ?_
    show B_X1_follow_1 (wCh S lk ca) 24 (nI ld) a2 u (nI t) = _
    unfold B_X1_follow_1
    rw [if_pos (show (20 : Int32) ≤ nI t by rw [show t = 20 by omega]; decide)]
    rfl
  | f + 1, t, ca, u, lk, ht, hca => by
    have hW := wCh_inv hI lk ca
    obtain ⟨W65, hWF⟩ := id hW
    have r27 : ∀ k, wI (wCh S lk ca) 27 k = wI S 27 k := fun k => by unfold wCh; rw [wI_sI_ne (by omega), wI_sI_ne (by omega)]
    have w4 : wI (wCh S lk ca) 24 4 = nI ca := wI_sI_eq
    have w3 : wI (wCh S lk ca) 24 3 = nI lk := (wI_sI_ne (by decide)).trans wI_sI_eq
    have hfu : f_X1_firstUnused (wCh S lk ca) 24 (nI ld) (nI ca) u = some (ans (fuN X Y ld ca u n 0), wCh S lk ca) :=
      (ru_step (show B_X1_firstUnused (0, [24], [nI ld, nI ca, u], wCh S lk ca) = some (.inr (1, [24], [nI ld, nI ca, u, nI 0], wCh S lk ca)) from rfl)).trans (e_fuL hW hn (by rw [r27]; exact v) (fun i hi => ⟨(eX i hi).1, by rw [r27]; exact (eX i hi).2⟩) (fun i hi => ⟨(eY i hi).1, by rw [r27]; exact (eY i hi).2⟩) hld hca u n 0 (by omega))
    have h20 : ¬ (20 : Int32) ≤ nI t := nI_ge (b := 20) (by omega) (by decide)
    unfold chN
    cases hk : fuN X Y ld ca u n 0 with
    | none =>
      refine ru_done ?_
      show B_X1_follow_1 (wCh S lk ca) 24 (nI ld) a2 u (nI t) = _
      unfold B_X1_follow_1
      rw [if_neg h20]
      simp (decide := true) only [gd_ob W65, w4, hfu, bd2_eq, hk, ans, if_false]
    | some k =>
      obtain ⟨-, k2, -⟩ := fuN_some hk
      have hkn : k < n := by omega
      refine (ru_step ?_).trans (e_followL hI hn v eX eY eZ hld a2 f (t + 1) (Z k) (u ||| ((1 : Int32) <<< (nI k &&& 31))) (lk + 1) (by omega) (eZ k hkn).1)
      show B_X1_follow_1 (wCh S lk ca) 24 (nI ld) a2 u (nI t) = _
      unfold B_X1_follow_1
      rw [if_neg h20]
      simp (decide := true) only [gd_ob W65, w4, hfu, bd2_eq, hk, ans]
      rw [if_pos (i32nl.mp (nI_pos (n := k) (by omega)))]
      simp (decide := true) only [gd_ob W65, hWF, Option.bind_some]
      rw [show (2 : Int32) = nI 2 from rfl, e_at hW tb26 (show wI _ 27 0 = nI n by rw [r27]; exact v) hn hkn (show 2 < 3 by decide), bd2_eq, show wI (wCh S lk ca) (26 + 1) (1 + k * 3 + 2) = nI (Z k) from (r27 _).trans (eZ k hkn).2, gd_pos (ob_of W65 (by decide) (by decide))]
      show gd (ob (sI (wCh S lk ca) 24 4 (nI (Z k))) 24 1) _ = _
      have V65 : 65 ≤ wn (sI (wCh S lk ca) 24 4 (nI (Z k))) := W65
      rw [gd_pos (ob_of V65 (by decide) (by decide)), gd_pos (ob_of V65 (by decide) (by decide)), wI_sI_ne (by decide), w3, nI_1, nI_1]
      show some _ = _
      congr 5
      refine Wd_ext rfl rfl ?_ rfl
      funext a c
      unfold wCh
      simp only [wI_sI]
      by_cases ha : a = 24
      · simp only [if_pos ha]
        by_cases c3 : c = 3
        · have c4 : ¬ c = 4 := by omega
          simp only [if_pos c3, if_neg c4]
        · simp only [if_neg c3]
          by_cases c4 : c = 4
          · simp only [if_pos c4]
          · simp only [if_neg c4]
      · simp only [if_neg ha]
