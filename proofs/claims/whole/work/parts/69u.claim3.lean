/-! sim_claim -/
theorem wrF_or {Z : Nat → Int32} {n : Nat} : ∀ f d i : Nat, i + f = n → wrF Z n f d i = -1 ∨ ∃ k : Nat, k ≤ n ∧ wrF Z n f d i = nI k
  | 0, d, i, hi => by
    unfold wrF
    split
    · exact Or.inl rfl
    · split
      · exact Or.inl rfl
      · exact Or.inr ⟨n, Nat.le_refl _, rfl⟩
  | f + 1, d, i, hi => by
    unfold wrF
    split
    · split
      · exact wrF_or f (d + 1) (i + 1) (by omega)
      · exact Or.inr ⟨i, by omega, rfl⟩
    · split
      · exact wrF_or f (d - 1) (i + 1) (by omega)
      · exact Or.inr ⟨i, by omega, rfl⟩
theorem chN_lt {X Y Z : Nat → Nat} {n ld : Nat} (hZ : ∀ i, i < n → Z i < 10) : ∀ (f ca : Nat) (u : Int32) (lk : Nat), ca < 10 → (chN X Y Z n ld f ca u lk).1 < 10
  | 0, ca, u, lk, h => h
  | f + 1, ca, u, lk, h => by
    unfold chN
    cases hk : fuN X Y ld ca u n 0 with
    | none => exact h
    | some k =>
      obtain ⟨-, k2, -⟩ := fuN_some hk
      exact chN_lt hZ f (Z k) _ (lk + 1) (hZ k (by omega))
def tx (S : Wd) (i : Nat) : Nat := (wI S 49 (410 + i)).toNatClampNeg
theorem sim_claim {j : Nat} {S : Wd} (hR : Rel j S) (hj : j < 512) (a1 a2 a3 : Int32) : ∃ r S1 S2, f_X11_claim S 0 a1 a2 a3 = some (r, S1) ∧ 48 < wn S1 ∧ f_X12_claim S1 48 a1 a2 a3 = some (r, S2) ∧ Rel (j + 1) S2 := by
  have hI := hR.1
  obtain ⟨h65, hF⟩ := id hI
  obtain ⟨k1, k2, ⟨m, hm, mu, mv, ml⟩, k4, k5, k6, k7, k8, ⟨q, hq, qu, qv, ql⟩⟩ := rel_core hR
  obtain ⟨n, hn, u, v, hf⟩ := con_facts k5
  have hT : ∀ i, i < q → ((1 ≤ tx S i ∧ tx S i ≤ 6) ∨ (10 ≤ tx S i ∧ tx S i ≤ 56)) ∧ wI S 49 (410 + i) = nI (tx S i) ∧ wI S 36 (1 + i) = nI (tx S i) := by
    intro i hi
    obtain ⟨z, z0, z1, z2⟩ := ql i hi
    have : tx S i = z := by unfold tx; rw [z1, nI_clamp (by omega)]
    rw [this]
    exact ⟨z0, z1, z2⟩
  have hff := e_firstFault hI hq qv (Z := fun i => nI (tx S i)) (fun i hi => (hT i hi).2.2)
  have hwa : ∀ {S' : Wd}, Inv S' → wI S' 49 = wI S 49 → f_X12_wrongAt S' 48 = some (wrF (fun i => nI (tx S i)) q q 0 0, S') := fun hI' hN => e_wrongAt hI' hq (by rw [hN]; exact qu) (fun i hi => by rw [hN]; exact (hT i hi).2.1)
  have bad : ∀ (x : Int32), x < -99999 → f_X11_claim S 0 a1 a2 a3 = some (x, tl S x) → (∀ {S' : Wd}, Inv S' → wI S' 49 = wI S 49 → B_X12_claim_0 S' 48 a1 a2 a3 = some (.inl (x, fl S'))) → ∃ r S1 S2, f_X11_claim S 0 a1 a2 a3 = some (r, S1) ∧ 48 < wn S1 ∧ f_X12_claim S1 48 a1 a2 a3 = some (r, S2) ∧ Rel (j + 1) S2 := fun x hx h1 h2 => ⟨x, _, _, h1, tl_w48 hR, ru_done (h2 hI.tl (tl_arr (by decide))), rel_fin hR hx⟩
  by_cases o1 : 0 ≤ a1 ∧ a1 < nI m
  · by_cases o2 : 0 ≤ a2 ∧ a2 ≤ 4000
    · by_cases o3 : 0 ≤ a3 ∧ a3 ≤ 9
      · by_cases hw : wrF (fun i => nI (tx S i)) q q 0 0 = -1
        · obtain ⟨ld, hld, rfl⟩ := nat_lt o1.1 o1.2 (by omega)
          obtain ⟨fm, hfm, rfl⟩ := nat_le (n := 9) o3.1 o3.2 (by decide)
          rw [hw] at hff
          have hfo := e_follow hI hn v hf (show ld < 8 by omega) (show fm < 10 by omega)
          have hcl := chN_lt (X := cnX S) (Y := cnY S) (Z := cnZ S) (n := n) (ld := ld) (fun i hi => (hf i hi).2.2.1) 20 fm 0 0 (by omega)
          generalize hch : chN (cnX S) (cnY S) (cnZ S) n ld 20 fm 0 0 = R at hfo hcl
          obtain ⟨ca, lk⟩ := R
          dsimp only at hfo hcl
          obtain ⟨d, e, hde, t1, t2, t3, t4⟩ := k7 ca hcl
          have hA0 : Ag (fun a _ => a = 24 ∨ a = 37 ∨ a = 38) S (wCh S lk ca) := (Ag.sI (Or.inl rfl)).trans (Ag.sI (Or.inl rfl))
          have w4 : wI (wCh S lk ca) 24 4 = nI ca := wI_sI_eq
          generalize hW0 : wCh S lk ca = W0 at hfo hA0 w4
          have row : ∀ c, c < 10 → wI S 11 (1 + ld * 11 + c) = wI S 49 (112 + 11 * ld + c) := fun c hc => by
            obtain ⟨x, -, e1, e2⟩ := (ml ld hld).1 c hc
            rw [e1, e2]
          have hInv : ∀ {W : Wd}, Ag (fun a _ => a = 24 ∨ a = 37 ∨ a = 38) S W → Inv W := fun h => h.inv hI (by omega)
          have aW : ∀ {W : Wd}, Ag (fun a _ => a = 24 ∨ a = 37 ∨ a = 38) S W → ∀ {c}, c < 10 → f_X8_at W 10 (nI ld) (nI c) = some (wI S 49 (112 + 11 * ld + c), W) := fun {W} h c hc => by
            rw [e_at (hInv h) tb10 (show wI W 11 0 = nI m by rw [h.arr (by omega)]; exact mv) hm hld (show c < 11 by omega), show wI W (10 + 1) (1 + ld * 11 + c) = wI S 11 (1 + ld * 11 + c) from h.2.2.2 _ _ (by omega), row c hc]
          generalize hpay : wI S 49 (112 + 11 * ld + 5) = pay at *
          generalize hton : wI S 49 (112 + 11 * ld + 4) = ton at *
          generalize hsrt : wI S 49 (112 + 11 * ld + 2) = srt at *
          have know : ∀ {W : Wd}, Ag (fun a _ => a = 24 ∨ a = 37 ∨ a = 38) S W → ∀ {k : Nat} {x : Int32}, Ag (fun a _ => a = 24 ∨ a = 37 ∨ a = 38) S (sI W 37 k x) := fun h k x => h.trans (Ag.sI (Or.inr (Or.inl rfl)))
          have hA1 := know hA0 (k := 1) (x := pay)
          have hA2 := know hA1 (k := 2) (x := a2)
          have hA3 := know hA2 (k := 3) (x := ton)
          have hA4 := know hA3 (k := 4) (x := srt)
          have hA5 := know hA4 (k := 5) (x := nI (ccN (cnX S) ld n))
          have hA6 := know hA5 (k := 6) (x := 100 * nI d / (nI d + nI e + 3))
          have a5 := aW hA0 (show 5 < 10 by decide)
          have a4 := aW hA2 (show 4 < 10 by decide)
          have a2' := aW hA3 (show 2 < 10 by decide)
          rw [hpay] at a5
          rw [hton] at a4
          rw [hsrt] at a2'
          have n1 := e_know (hInv hA0) (k := 1) (by decide) (by decide) pay
          have n2 := e_know (hInv hA1) (k := 2) (by decide) (by decide) a2
          have n3 := e_know (hInv hA2) (k := 3) (by decide) (by decide) ton
          have n4 := e_know (hInv hA3) (k := 4) (by decide) (by decide) srt
          have n5 := e_know (hInv hA4) (k := 5) (by decide) (by decide) (nI (ccN (cnX S) ld n))
          have n6 := e_know (hInv hA5) (k := 6) (by decide) (by decide) (100 * nI d / (nI d + nI e + 3))
          have w37 : ∀ k, wI (sI (sI (sI (sI (sI (sI W0 37 1 pay) 37 2 a2) 37 3 ton) 37 4 srt) 37 5 (nI (ccN (cnX S) ld n))) 37 6 (100 * nI d / (nI d + nI e + 3))) 37 k = if k = 6 then (100 * nI d / (nI d + nI e + 3)) else if k = 5 then nI (ccN (cnX S) ld n) else if k = 4 then srt else if k = 3 then ton else if k = 2 then a2 else if k = 1 then pay else wI W0 37 k := by
            intro k
            simp only [wI_sI, if_true]
          generalize hW1 : sI W0 37 1 pay = W1 at *
          generalize hW2 : sI W1 37 2 a2 = W2 at *
          generalize hW3 : sI W2 37 3 ton = W3 at *
          generalize hW4 : sI W3 37 4 srt = W4 at *
          generalize hW5 : sI W4 37 5 (nI (ccN (cnX S) ld n)) = W5 at *
          generalize hW6 : sI W5 37 6 (100 * nI d / (nI d + nI e + 3)) = W6 at *
          obtain ⟨p0, F0⟩ := id (hInv hA0)
          obtain ⟨p1, F1⟩ := id (hInv hA1)
          obtain ⟨p2, F2⟩ := id (hInv hA2)
          obtain ⟨p3, F3⟩ := id (hInv hA3)
          obtain ⟨p4, F4⟩ := id (hInv hA4)
          obtain ⟨p5, F5⟩ := id (hInv hA5)
          obtain ⟨p6, F6⟩ := id (hInv hA6)
          have r27 : wI W4 27 = wI S 27 := hA4.arr (by omega)
          have hcc := e_contrC (hInv hA4) hn (by rw [r27]; exact v) (X := cnX S) (fun i hi => ⟨(hf i hi).1, by rw [r27]; exact (hf i hi).2.2.2.1⟩) (show ld < 8 by omega)
          have r4 : wI W5 24 4 = nI ca := by
            rw [← hW5, wI_sI_ne (by omega), ← hW4, wI_sI_ne (by omega), ← hW3, wI_sI_ne (by omega), ← hW2, wI_sI_ne (by omega), ← hW1, wI_sI_ne (by omega)]
            exact w4
          have r25 : wI W5 25 = wI S 25 := hA5.arr (by omega)
          have hlt : f_X1_leastTrust W5 24 (nI ca) = some (100 * nI d / (nI d + nI e + 3), W5) := by
            unfold f_X1_leastTrust
            simp (decide := true) only [gd_ob p5, e_doneOf (hInv hA5) hcl, e_judgedOf (hInv hA5) hcl, bd2_eq]
            rw [r25, t3, t4, gd_pos (nI_3ne hde)]
          have r36 : wI W6 36 = wI S 36 := hA6.arr (by omega)
          have hwo := e_workOut (hInv hA6) hq (by rw [r36]; exact qv) (Z := tx S) (fun i hi => ⟨(hT i hi).1, by rw [r36]; exact (hT i hi).2.2⟩) (w37 1) (w37 2) (w37 3) (w37 4) (w37 5) (w37 6) hw
          simp (decide := true) only [if_true, if_false] at hwo
          generalize hA38 : stk (fcI pay a2 ton srt (nI (ccN (cnX S) ld n)) (100 * nI d / (nI d + nI e + 3))) (fun i => nI (tx S i)) q 0 0 (wI W6 38) = A38 at hwo
          have hA7 : Ag (fun a _ => a = 24 ∨ a = 37 ∨ a = 38) S (sA W6 38 A38) := hA6.trans (Ag.sA (fun _ => Or.inr (Or.inr rfl)))
          have hC : f_X11_claim S 0 (nI ld) a2 (nI fm) = some (mMax (if q = 0 then 0 else A38 0) (-99999), sA W6 38 A38) := by
            unfold f_X11_claim f_X1_carrier
            simp (decide := true) only [gd_ob h65, hF, Option.bind_some]
            rw [b_has hI tb10, mv, if_pos o1, if_neg (by decide), b_within_X11, if_pos o2, if_neg (by decide), b_isFirm_X11, if_pos o3, if_neg (by decide)]
            simp (decide := true) only [gd_ob h65, hF, Option.bind_some, hff, bd2_eq]
            rw [if_pos trivial]
            simp (decide := true) only [gd_ob h65, hF, Option.bind_some, hfo, gd_ob p0, F0, show (1 : Int32) = nI 1 from rfl, show (2 : Int32) = nI 2 from rfl, show (3 : Int32) = nI 3 from rfl, show (4 : Int32) = nI 4 from rfl, show (5 : Int32) = nI 5 from rfl, show (6 : Int32) = nI 6 from rfl, a5, n1, bd2_eq]
            simp (decide := true) only [gd_ob p1, F1, Option.bind_some, n2, gd_ob p2, F2, a4, n3, gd_ob p3, F3, a2', n4, bd2_eq]
            simp (decide := true) only [gd_ob p4, F4, Option.bind_some, hcc, n5, gd_ob p5, F5, r4, hlt, n6, gd_ob p6, F6, hwo, bd2_eq]
          have hI7 := hInv hA7
          have e49 : wI (sA W6 38 A38) 49 = wI S 49 := hA7.arr (by omega)
          have hM0 : B_X12_claim (0, [48], [nI ld, a2, nI fm], sA W6 38 A38) = some (.inr (1, [48], [nI ld, a2, nI fm, nI 0, nI 0], sI (sA W6 38 A38) 63 0 0)) := by
            obtain ⟨g65, hG⟩ := id hI7
            show B_X12_claim_0 _ 48 (nI ld) a2 (nI fm) = _
            unfold B_X12_claim_0
            rw [gd_pos (ob_of g65 (by decide) (by decide)), b_isLoad hI7 (by rw [e49]; exact mu) (by omega), if_pos o1, if_neg (by decide), b_within_X12, if_pos o2, if_neg (by decide), b_isFirm_X12, if_pos o3, if_neg (by decide), gd_pos (ob_of g65 (by decide) (by decide)), hwa hI7 e49, bd2_eq, hw, if_pos (by decide)]
            simp (decide := true) only [gd_ob g65, hG, Option.bind_some]
            rw [gd_pos (show ix (sA W6 38 A38) 63 100 (0 : Int32) from ix_of (i := 0) g65 (by decide) (by decide) (by decide))]
            rfl
          have hB : Ag (fun a k => a = 63 ∨ (a = 48 ∧ k = 21)) (sA W6 38 A38) (sI (sA W6 38 A38) 63 0 0) := Ag.sI (Or.inl rfl)
          obtain ⟨W', m1, m2⟩ := e_claimL hI7 hm hld (show fm < 10 by omega) a2 hn (by rw [e49]; exact u) (X := cnX S) (Y := cnY S) (Z := cnZ S) (fun i hi => by rw [e49]; exact ⟨(hf i hi).1, (hf i hi).2.1, (hf i hi).2.2.1, (hf i hi).2.2.2.2.2.2⟩) hch hcl hde (by rw [e49]; exact t1) (by rw [e49]; exact t2) hq (by rw [e49]; exact qu) (T := tx S) (fun i hi => by rw [e49]; exact ⟨(hT i hi).1, (hT i hi).2.1⟩) rfl q 0 0 _ (by omega) (by omega) hB hw
          rw [e49, hpay, hton, hsrt] at m1
          refine ⟨_, _, W', hC, by rw [hA7.1]; omega, (ru_step hM0).trans (m1.trans ?_), rel_up (rel_qy hR ((hA7.qy ?_).trans (m2.qy ?_)))⟩
          · congr 2
            by_cases h0 : q = 0
            · subst h0
              rw [if_pos rfl]
              unfold stk
              rw [wI_sI_eq]
            · rw [if_neg h0, ← hA38]
              exact congrArg (fun x => mMax x (-99999)) (stk_congr hq (by omega) q 0 0 _ _ (by omega) hw (fun k hk => absurd hk (by omega)))
          · rintro a k (rfl | rfl | rfl) <;> rfl
          · rintro a k (rfl | ⟨rfl, rfl⟩) <;> rfl
        · obtain ⟨k, hk, ek⟩ := (wrF_or (Z := fun i => nI (tx S i)) (n := q) q 0 0 (by omega)).resolve_left hw
          refine bad (-100008) (by decide) ?_ ?_
          · unfold f_X11_claim
            simp (decide := true) only [gd_ob h65, hF, Option.bind_some]
            rw [b_has hI tb10, mv, if_pos o1, if_neg (by decide), b_within_X11, if_pos o2, if_neg (by decide), b_isFirm_X11, if_pos o3, if_neg (by decide)]
            simp (decide := true) only [gd_ob h65, hF, Option.bind_some, hff, bd2_eq]
            rw [if_neg hw, e_told h65, bd2_eq]
          · intro S' hI' hN
            obtain ⟨g65, hG⟩ := id hI'
            unfold B_X12_claim_0
            rw [gd_pos (ob_of g65 (by decide) (by decide)), b_isLoad hI' (by rw [hN]; exact mu) (by omega), if_pos o1, if_neg (by decide), b_within_X12, if_pos o2, if_neg (by decide), b_isFirm_X12, if_pos o3, if_neg (by decide), gd_pos (ob_of g65 (by decide) (by decide)), hwa hI' hN, bd2_eq, ek, if_neg (nI_pos (by omega))]
            simp (decide := true) only [gd_ob g65, e_finding g65, bd2_eq]
      · refine bad (-100001) (by decide) ?_ ?_
        · unfold f_X11_claim
          simp (decide := true) only [gd_ob h65, hF, Option.bind_some]
          rw [b_has hI tb10, mv, if_pos o1, if_neg (by decide), b_within_X11, if_pos o2, if_neg (by decide), b_isFirm_X11, if_neg o3, if_pos rfl]
          simp (decide := true) only [gd_ob h65, e_told h65, bd2_eq]
        · intro S' hI' hN
          obtain ⟨g65, hG⟩ := id hI'
          unfold B_X12_claim_0
          rw [gd_pos (ob_of g65 (by decide) (by decide)), b_isLoad hI' (by rw [hN]; exact mu) (by omega), if_pos o1, if_neg (by decide), b_within_X12, if_pos o2, if_neg (by decide), b_isFirm_X12, if_neg o3, if_pos rfl]
          simp (decide := true) only [gd_ob g65, e_finding g65, bd2_eq]
    · refine bad (-100001) (by decide) ?_ ?_
      · unfold f_X11_claim
        simp (decide := true) only [gd_ob h65, hF, Option.bind_some]
        rw [b_has hI tb10, mv, if_pos o1, if_neg (by decide), b_within_X11, if_neg o2, if_pos rfl]
        simp (decide := true) only [gd_ob h65, e_told h65, bd2_eq]
      · intro S' hI' hN
        obtain ⟨g65, hG⟩ := id hI'
        unfold B_X12_claim_0
        rw [gd_pos (ob_of g65 (by decide) (by decide)), b_isLoad hI' (by rw [hN]; exact mu) (by omega), if_pos o1, if_neg (by decide), b_within_X12, if_neg o2, if_pos rfl]
        simp (decide := true) only [gd_ob g65, e_finding g65, bd2_eq]
  · refine bad (-100001) (by decide) ?_ ?_
    · unfold f_X11_claim
      simp (decide := true) only [gd_ob h65, hF, Option.bind_some]
      rw [b_has hI tb10, mv, if_neg o1, if_pos rfl]
      simp (decide := true) only [gd_ob h65, e_told h65, bd2_eq]
    · intro S' hI' hN
      obtain ⟨g65, hG⟩ := id hI'
      unfold B_X12_claim_0
      rw [gd_pos (ob_of g65 (by decide) (by decide)), b_isLoad hI' (by rw [hN]; exact mu) (by omega), if_neg o1, if_pos rfl]
      simp (decide := true) only [gd_ob g65, e_finding g65, bd2_eq]
