/-! the start -/
theorem i_X12 : f_X12_init (mkW 49 oC iC) 48 = some (mkW 65 oM iC) := by
  unfold f_X12_init
  simp (decide := true) only [gd_nkM, gd_obM, gd_T, sN_mk, sO_mk, ltS_mk, wn_mk, Nat.reduceAdd]
  rfl
theorem lkI_0 {a k : Nat} (h : a ≠ 5 ∧ a ≠ 8 ∧ a ≠ 10 ∧ a ≠ 13 ∧ a ≠ 22 ∧ a ≠ 26 ∧ a ≠ 29) : lkI iC a k = 0 := by
  unfold iC
  simp only [lkI]
  rw [if_neg (by omega), if_neg (by omega), if_neg (by omega), if_neg (by omega), if_neg (by omega), if_neg (by omega), if_neg (by omega), if_neg (by omega), if_neg (by omega), if_neg (by omega), if_neg (by omega), if_neg (by omega)]
theorem st_inv : Inv (mkW 65 oM iC) := by
  refine ⟨by decide, ?_⟩
  repeat' apply And.intro
  all_goals rfl
theorem st_rel : Rel 0 (mkW 65 oM iC) := by
  have zW : ∀ a k, (a ≠ 5 ∧ a ≠ 8 ∧ a ≠ 10 ∧ a ≠ 13 ∧ a ≠ 22 ∧ a ≠ 26 ∧ a ≠ 29) → wI (mkW 65 oM iC) a k = 0 := fun a k h => lkI_0 h
  have zP : ∀ a k, (a ≠ 5 ∧ a ≠ 8 ∧ a ≠ 10 ∧ a ≠ 13 ∧ a ≠ 22 ∧ a ≠ 26 ∧ a ≠ 29) → pv (mkW 65 oM iC) a k = 0 := fun a k h => by
    unfold pv
    split
    · exact zW a k h
    · rfl
  refine ⟨st_inv, ⟨fun s hs => ?_, 0, 0, by decide, by decide, zP 1 3 (by decide), zP 1 4 (by decide), zP 48 2 (by decide), ⟨fun k hk => ?_, fun k hk => by omega, fun k hk => by omega⟩⟩, ?_, ⟨0, Nat.le_refl _, zW 1 5 (by decide), Or.inl rfl, Or.inl rfl⟩, fun h => ?_, fun h => ?_⟩
  · refine ⟨⟨?_, Or.inl (zP 51 s (by omega))⟩, ⟨0, by decide, zP _ _ (by omega), zP _ _ (by omega)⟩, fun i hi => ?_⟩
    · rw [zP _ _ (by omega), zP 51 s (by omega)]
    · rw [zP _ _ (by omega), zP 53 _ (by omega)]
  · have hk0 : k = 0 := by omega
    subst hk0
    show core (pv (mkW 65 oM iC)) (pv (mkW 65 oM iC) 49)
    have z49 : ∀ i, pv (mkW 65 oM iC) 49 i = 0 := fun i => zP 49 i (by decide)
    refine ⟨fun a b ha hb => ⟨0, by decide, z49 _, fun _ => zP 6 _ (by decide)⟩, ⟨0, by decide, z49 _, zP 9 _ (by decide), fun i hi => by omega⟩, ⟨0, by decide, z49 _, zP 11 _ (by decide), fun i hi => by omega⟩, ⟨0, by decide, z49 _, zP 23 _ (by decide), fun i hi => by omega⟩, ⟨0, by decide, z49 _, zP 27 _ (by decide), fun i hi => by omega⟩, ⟨0, by decide, z49 _, zP 30 _ (by decide), fun i hi => by omega⟩, fun f hf => ⟨0, 0, by decide, z49 _, z49 _, zP 25 _ (by decide), zP 25 _ (by decide)⟩, fun k hk => ?_, ⟨0, by decide, z49 _, zP 36 _ (by decide), fun i hi => by omega⟩⟩
    rw [z49, zP 32 _ (by decide)]
    decide
  · rw [zW 0 12 (by decide), zW 48 3 (by decide)]
  · rw [zW 1 5 (by decide)] at h
    exact absurd (show (-1 : Int32) = 0 from h) (by decide)
  · rw [zW 1 5 (by decide)] at h
    exact absurd (show (-1 : Int32) = 0 from h) (by decide)
theorem init_ok : ∃ S1 S2, f_X11_init (sN ((0, fun _ => 0, fun _ _ => 0, fun _ _ => none) : Wd) 0) 0 = some S1 ∧ wn S1 = 48 ∧ f_X12_init (sN S1 0) 48 = some S2 ∧ Rel 0 S2 := by
  have e0 : ((0, fun _ => 0, fun _ _ => 0, fun _ _ => none) : Wd) = mkW 0 [] [] := by
    refine Wd_ext rfl ?_ rfl rfl
    funext a
    show (0 : Nat) = if a < 0 then (kT a).2 else 0
    rw [if_neg (by omega)]
  refine ⟨mkW 48 oC iC, mkW 65 oM iC, ?_, rfl, ?_, st_rel⟩
  · rw [e0, sN_mk (by decide) rfl rfl]
    exact i_X11
  · rw [sN_mk (by decide) (by decide) (by decide)]
    exact i_X12
