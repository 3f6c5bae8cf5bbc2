/-! put -/
theorem nar8 (v : Int32) : (v <<< (((32 : Int32) - 8) &&& 31)) >>> (((32 : Int32) - 8) &&& 31) = v.toInt8.toInt32 := by
  rw [show (((32 : Int32) - 8) &&& 31) = 24 by decide]
  apply Int32.toBitVec_inj.mp
  rw [Int32.toBitVec_shiftRight, Int32.toBitVec_shiftLeft, Int8.toBitVec_toInt32, Int32.toBitVec_toInt8]
  rw [show ((24 : Int32).toBitVec.smod 32) = 24#32 by decide]
  refine BitVec.eq_of_getLsbD_eq fun i hi => ?_
  rw [show v.toBitVec <<< 24#32 = v.toBitVec <<< (24 : Nat) from rfl]
  simp only [BitVec.getLsbD_sshiftRight, BitVec.getLsbD_signExtend, BitVec.getLsbD_shiftLeft, BitVec.msb_eq_getLsbD_last, BitVec.sshiftRight', show (24#32).toNat = 24 from rfl]
  by_cases h : i < 8
  · simp [h, hi, show 24 + i < 32 by omega, show ¬ 24 + i < 24 by omega, show ¬ 32 ≤ i by omega]
  · simp [h, hi, show ¬ 24 + i < 32 by omega, show ¬ 32 ≤ i by omega]
theorem nar16 (v : Int32) : (v <<< (((32 : Int32) - 16) &&& 31)) >>> (((32 : Int32) - 16) &&& 31) = v.toInt16.toInt32 := by
  rw [show (((32 : Int32) - 16) &&& 31) = 16 by decide]
  apply Int32.toBitVec_inj.mp
  rw [Int32.toBitVec_shiftRight, Int32.toBitVec_shiftLeft, Int16.toBitVec_toInt32, Int32.toBitVec_toInt16]
  rw [show ((16 : Int32).toBitVec.smod 32) = 16#32 by decide]
  refine BitVec.eq_of_getLsbD_eq fun i hi => ?_
  rw [show v.toBitVec <<< 16#32 = v.toBitVec <<< (16 : Nat) from rfl]
  simp only [BitVec.getLsbD_sshiftRight, BitVec.getLsbD_signExtend, BitVec.getLsbD_shiftLeft, BitVec.msb_eq_getLsbD_last, BitVec.sshiftRight', show (16#32).toNat = 16 from rfl]
  by_cases h : i < 16
  · simp [h, hi, show 16 + i < 32 by omega, show ¬ 16 + i < 16 by omega, show ¬ 32 ≤ i by omega]
  · simp [h, hi, show ¬ 16 + i < 32 by omega, show ¬ 32 ≤ i by omega]
theorem nar32 (v : Int32) : (v <<< (((32 : Int32) - 32) &&& 31)) >>> (((32 : Int32) - 32) &&& 31) = v := by
  rw [show (((32 : Int32) - 32) &&& 31) = 0 by decide]
  simp
def nar (b v : Int32) : Int32 := (v <<< (((32 : Int32) - b) &&& 31)) >>> (((32 : Int32) - b) &&& 31)
theorem e_isMissing {S : Wd} (hI : Inv S) {s : Nat} (hs : s < 4) : f_X7_isMissing S (40 + 2 * s) = some (if wI S (40 + 2 * s) 1 = 0 then 1 else 0, S) := by
  obtain ⟨f1, f2, f3, f4, f5, f6⟩ := sh_facts hI hs
  unfold f_X7_isMissing
  rw [gd_pos f3]
  split <;> rfl
theorem e_reaches {S : Wd} (hI : Inv S) {s n : Nat} (hs : s < 4) (hn : n ≤ 20) (h2 : wI S (40 + 2 * s) 2 = nI n) (a b : Int32) : (∃ x y : Nat, a = nI x ∧ b = nI y ∧ x + y ≤ n ∧ f_X7_reaches S (40 + 2 * s) a b = some (1, S)) ∨ ((∀ x y : Nat, a = nI x → b = nI y → x < 2 ^ 31 → y < 2 ^ 31 → n < x + y) ∧ f_X7_reaches S (40 + 2 * s) a b = some (0, S)) := by
  obtain ⟨f1, f2, f3, f4, f5, f6⟩ := sh_facts hI hs
  unfold f_X7_reaches
  by_cases ha : a < 0
  · exact Or.inr ⟨fun x y e1 _ h _ => absurd (by rw [← e1]; exact ha) (nI_pos h), if_pos ha⟩
  · rw [if_neg ha]
    by_cases hb : b < 0
    · exact Or.inr ⟨fun x y _ e2 _ h => absurd (by rw [← e2]; exact hb) (nI_pos h), if_pos hb⟩
    · rw [if_neg hb, gd_pos f3, h2]
      obtain ⟨x, hx, rfl⟩ := nat_of (i32nl.mp ha)
      obtain ⟨y, hy, rfl⟩ := nat_of (i32nl.mp hb)
      by_cases hyn : y ≤ n
      · rw [if_neg (nI_nlt (by omega) (by omega)), gd_pos f3, nI_sub hyn]
        by_cases hxy : x + y ≤ n
        · exact Or.inl ⟨x, y, rfl, rfl, hxy, if_neg (nI_nlt (by omega) (by omega))⟩
        · refine Or.inr ⟨fun x' y' e1 e2 e3 e4 => ?_, if_pos (nI_lt (by omega) (by omega))⟩
          rw [nI_eq (by omega) (by omega)] at e1 e2
          omega
      · refine Or.inr ⟨fun x' y' e1 e2 e3 e4 => ?_, if_pos (nI_lt (by omega) (by omega))⟩
        rw [nI_eq (by omega) (by omega)] at e1 e2
        omega
theorem sim_put {j : Nat} {S : Wd} (hR : Rel j S) (hj : j < 512) (a1 a2 a3 : Int32) : ∃ r S1 S2, f_X11_put S 0 a1 a2 a3 = some (r, S1) ∧ 48 < wn S1 ∧ f_X12_put S1 48 a1 a2 a3 = some (r, S2) ∧ Rel (j + 1) S2 := by
  have hI := hR.1
  obtain ⟨h65, hF⟩ := id hI
  have hsh := rel_shR hR
  have bad : ∀ (x : Int32), x < -99999 → f_X11_put S 0 a1 a2 a3 = some (x, tl S x) → (∀ {S' : Wd}, Inv S' → wI S' 51 = wI S 51 → wI S' 52 = wI S 52 → f_X12_put S' 48 a1 a2 a3 = some (x, fl S')) → ∃ r S1 S2, f_X11_put S 0 a1 a2 a3 = some (r, S1) ∧ 48 < wn S1 ∧ f_X12_put S1 48 a1 a2 a3 = some (r, S2) ∧ Rel (j + 1) S2 := fun x hx h1 h2 => ⟨x, _, _, h1, tl_w48 hR, h2 hI.tl (tl_arr (by decide)) (tl_arr (by decide)), rel_fin hR hx⟩
  by_cases h1 : 0 ≤ a1 ∧ a1 ≤ 3
  · obtain ⟨s, hs, rfl⟩ := nat_le (n := 3) h1.1 h1.2 (by decide)
    have hs4 : s < 4 := by omega
    obtain ⟨f1, f2, f3, f4, f5, f6⟩ := sh_facts hI hs4
    obtain ⟨⟨x1, x2⟩, ⟨n, x3, x4, x5⟩, x6⟩ := id (hsh s hs4)
    have i39 : ix S 39 102 (nI s) := ix_of h65 (by decide) (by decide) hs4
    by_cases hb : wI S 51 s = 0
    · refine bad (-100002) (by decide) ?_ ?_
      · unfold f_X11_put
        rw [b_isSheet_X11, if_pos h1, if_neg (by decide)]
        simp (decide := true) only [gd_ob h65, hF, Option.bind_some]
        rw [gd_pos i39, nI_clamp (by omega), f1, Option.bind_some, gd_pos f3, e_isMissing hI hs4, x1, if_pos hb, bd2_eq, if_neg (by decide)]
        simp (decide := true) only [gd_ob h65, e_told h65, bd2_eq]
      · intro S' hI' e1 e2
        obtain ⟨g65, hG⟩ := id hI'
        unfold f_X12_put
        rw [b_isSheet_X12, if_pos h1, if_neg (by decide)]
        simp (decide := true) only [gd_ob g65, hG, Option.bind_some]
        rw [gd_pos (ix_of g65 (by decide) (by decide) (show s < 4 from hs4)), nI_clamp (by omega), e1, if_pos hb]
        simp (decide := true) only [e_finding g65, bd2_eq]
    · have hC : f_X11_put S 0 (nI s) a2 a3 = bd2 (f_X7_reaches S (40 + 2 * s) a2 1) (fun r25 S23 => if r25 = 0 then (gd (ob S23 0 11) (bd2 (f_X11_told S23 0 (-100001 : Int32)) (fun r39 S37 => some (r39, S37)))) else (gd (ob S23 0 11) (Option.bind (wO S23 0 11) (fun q28 => gd (ix S23 q28 102 (nI s)) (Option.bind (wO S23 q28 s) (fun q31 => gd (ob S23 q31 7) (Option.bind (f_X7_write S23 q31 a2 a3) (fun S34 => some ((0 : Int32), S34))))))))) := by
        unfold f_X11_put
        rw [b_isSheet_X11, if_pos h1, if_neg (by decide)]
        simp (decide := true) only [gd_ob h65, hF, Option.bind_some]
        rw [gd_pos i39, nI_clamp (by omega), f1, Option.bind_some, gd_pos f3, e_isMissing hI hs4, x1, if_neg hb, bd2_eq, if_pos rfl]
        simp (decide := true) only [gd_ob h65, hF, Option.bind_some]
        rw [gd_pos i39, f1, Option.bind_some, gd_pos f3]
      have hM : ∀ {S' : Wd}, Inv S' → wI S' 51 = wI S 51 → wI S' 52 = wI S 52 → f_X12_put S' 48 (nI s) a2 a3 = if 0 ≤ a2 ∧ a2 ≤ nI n - 1 then gd (ix S' 53 100 (20 * nI s + a2)) (some (0, sI S' 53 (20 * nI s + a2).toNatClampNeg (nar (wI S 51 s) a3))) else some (-100001, fl S') := by
        intro S' hI' e1 e2
        obtain ⟨g65, hG⟩ := id hI'
        unfold f_X12_put
        rw [b_isSheet_X12, if_pos h1, if_neg (by decide)]
        simp (decide := true) only [gd_ob g65, hG, Option.bind_some]
        rw [gd_pos (ix_of g65 (by decide) (by decide) (show s < 4 from hs4)), nI_clamp (by omega), e1, if_neg hb, gd_pos (ix_of g65 (by decide) (by decide) (show s < 4 from hs4)), e2, x5, b_within_X12]
        simp (decide := true) only [gd_ob g65, hG, Option.bind_some, e_finding g65, bd2_eq, if_true, if_false]
        rw [gd_pos (ix_of g65 (by decide) (by decide) (show s < 4 from hs4)), e1]
        rfl
      rcases e_reaches hI hs4 x3 x4 a2 1 with ⟨x, y, e1, e2, e3, e4⟩ | ⟨e1, e2⟩
      · have hy : y = 1 := ((nI_eq (by omega) (by decide)).mp (e2.symm : nI y = nI 1))
        subst hy
        subst e1
        have hx : x < n := by omega
        have hx20 : x < 20 := by omega
        have hw : f_X7_write S (40 + 2 * s) (nI x) a3 = some (sI S (41 + 2 * s) x (nar (wI S 51 s) a3)) := by
          unfold f_X7_write
          rw [if_neg (nI_pos (by omega)), gd_pos f3, x4, if_neg (nI_ge hx (by omega)), if_neg (show ¬ (20 : Int32) ≤ nI x from nI_ge (b := 20) hx20 (by decide)), gd_pos f3, f2, Option.bind_some, gd_pos f3, x1]
          rw [gd_pos (f5 x hx20), gd_pos (f5 x hx20), gd_pos (f5 x hx20), nI_clamp (by omega), gd_pos f3]
          unfold nar
          rcases x2 with h | h | h | h
          · exact absurd h hb
          · rw [h, if_pos rfl, nar8]; rfl
          · rw [h, if_neg (by decide), if_pos rfl, nar16]; rfl
          · rw [h, if_neg (by decide), if_neg (by decide), nar32]; rfl
        have hle : nI x ≤ nI n - 1 := by
          obtain ⟨m, rfl⟩ : ∃ m, n = m + 1 := ⟨n - 1, by omega⟩
          rw [nI_pred]
          exact i32nl.mp (nI_nlt (by omega) (by omega))
        generalize hv : nar (wI S 51 s) a3 = V at hw hM
        have hI1 : Inv (sI S (41 + 2 * s) x V) := hI.of (Nat.le_refl _) (fun _ _ _ _ _ => rfl) (fun i k hi hk => wI_sI_ne (by omega))
        refine ⟨0, sI S (41 + 2 * s) x V, sI (sI S (41 + 2 * s) x V) 53 (20 * s + x) V, ?_, by show 48 < wn S; omega, ?_, ?_⟩
        · rw [hC, e4, bd2_eq, if_neg (by decide)]
          simp (decide := true) only [gd_ob h65, hF, Option.bind_some]
          rw [gd_pos i39, f1, Option.bind_some, gd_pos f3, hw]
          rfl
        · rw [hM hI1 (wI_sI' _ _ _ _ _ (by omega)) (wI_sI' _ _ _ _ _ (by omega)), if_pos ⟨i32nl.mp (nI_pos (by omega)), hle⟩, show (20 : Int32) * nI s + nI x = nI (20 * s + x) by show nI 20 * nI s + nI x = _; rw [nI_mul, nI_add], gd_pos (ix_of hI1.1 (by decide) (by decide) (show _ < 80 by omega)), nI_clamp (by omega)]
        · refine rel_sh hR rfl rfl rfl (fun a k y1 y2 y3 => by rw [wI_sI_ne (by omega), wI_sI_ne (by omega)]) ?_
          intro s' hs'
          obtain ⟨⟨z1, z2⟩, ⟨n', z3, z4, z5⟩, z6⟩ := hsh s' hs'
          have k0 : ∀ k, wI (sI (sI S (41 + 2 * s) x V) 53 (20 * s + x) V) (40 + 2 * s') k = wI S (40 + 2 * s') k := fun k => by rw [wI_sI_ne (by omega), wI_sI_ne (by omega)]
          have k1 : wI (sI (sI S (41 + 2 * s) x V) 53 (20 * s + x) V) 51 s' = wI S 51 s' := by rw [wI_sI_ne (by omega), wI_sI_ne (by omega)]
          have k2 : wI (sI (sI S (41 + 2 * s) x V) 53 (20 * s + x) V) 52 s' = wI S 52 s' := by rw [wI_sI_ne (by omega), wI_sI_ne (by omega)]
          refine ⟨by rw [k0, k1]; exact ⟨z1, z2⟩, ⟨n', z3, by rw [k0]; exact z4, by rw [k2]; exact z5⟩, fun i hi => ?_⟩
          by_cases he : s' = s ∧ i = x
          · obtain ⟨rfl, rfl⟩ := he
            rw [wI_sI_eq, wI_sI_ne (by omega), wI_sI_eq]
          · rw [wI_sI_ne (by omega), wI_sI_ne (by omega), wI_sI_ne (by omega), wI_sI_ne (by omega)]
            exact z6 i hi
      · refine bad (-100001) (by decide) ?_ ?_
        · rw [hC, e2, bd2_eq, if_pos rfl]
          simp (decide := true) only [gd_ob h65, e_told h65, bd2_eq]
        · intro S' hI' y1 y2
          rw [hM hI' y1 y2, if_neg]
          rintro ⟨z1, z2⟩
          cases n with
          | zero => exact absurd (Int32.le_trans z1 z2) (by decide)
          | succ n =>
            rw [show nI (n + 1) - 1 = nI n from nI_pred n] at z2
            obtain ⟨x, hx, rfl⟩ := nat_le z1 z2 (by omega)
            have := e1 x 1 rfl rfl (by omega) (by decide)
            omega
  · refine bad (-100001) (by decide) ?_ ?_
    · unfold f_X11_put
      rw [b_isSheet_X11, if_neg h1, if_pos rfl]
      simp (decide := true) only [gd_ob h65, e_told h65, bd2_eq]
    · intro S' hI' _ _
      obtain ⟨g65, hG⟩ := id hI'
      unfold f_X12_put
      rw [b_isSheet_X12, if_neg h1, if_pos rfl]
      simp (decide := true) only [gd_ob g65, e_finding g65, bd2_eq]
