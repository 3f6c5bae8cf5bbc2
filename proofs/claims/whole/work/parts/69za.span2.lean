/-! span: the reference, and the whole -/
theorem pri_parts {x y z : Nat} (hx : x ≤ 77) (hy : y ≤ 365) (hz : z ≤ 9999) : nI (10000 * (366 * x + y) + z) / 10000 / 366 = nI x ∧ irm (nI (10000 * (366 * x + y) + z) / 10000) 366 = nI y ∧ irm (nI (10000 * (366 * x + y) + z)) 10000 = nI z := by
  have e1 : nI (10000 * (366 * x + y) + z) / 10000 = nI ((10000 * (366 * x + y) + z) / 10000) := pk_div (d := 10000) (by omega) (by decide) (by decide)
  rw [show (10000 * (366 * x + y) + z) / 10000 = 366 * x + y by omega] at e1
  rw [e1]
  refine ⟨(show _ = nI ((366 * x + y) / 366) from pk_div (d := 366) (by omega) (by decide) (by decide)).trans (congrArg nI (by omega)), (irm_nI (d := 366) (by omega) (by decide) (by decide)).trans (congrArg nI (by omega)), (irm_nI (d := 10000) (by omega) (by decide) (by decide)).trans (congrArg nI (by omega))⟩
theorem e_spanI {V : Wd} (hI : Inv V) (ln d wh p : Int32) {c i : Nat} {pr : Int32} (hp : irm p 10000 = pr) : ∀ (k : Nat) (A : Nat → Int32), k < 40 → ru B_X12_span (2, [48], [ln, d, wh, nI c, nI i, p, nI k], sA V 60 A) = ru B_X12_span (1, [48], [ln, d, wh, nI (c + 1), nI (i + 1)], sA V 60 (insR pr k A))
  | 0, A, hk => by
    have hIA : Inv (sA V 60 A) := (Ag.sA (D := fun a _ => a = 60) (fun _ => rfl)).inv hI (by omega)
    obtain ⟨g65, hG⟩ := id hIA
    refine ru_step ?_
    show B_X12_span_2 (sA V 60 A) 48 ln d wh (nI c) (nI i) p (nI 0) = _
    unfold B_X12_span_2
    rw [if_pos (by decide)]
    simp (decide := true) only [gd_ob g65, hG, Option.bind_some]
    rw [gd_pos (ix_of g65 (by decide) (by decide) (show 0 < 40 from hk)), nI_clamp (by omega), sI_sA, hp, nI_1, nI_1]
    rfl
  | k + 1, A, hk => by
    have hIA : Inv (sA V 60 A) := (Ag.sA (D := fun a _ => a = 60) (fun _ => rfl)).inv hI (by omega)
    obtain ⟨g65, hG⟩ := id hIA
    have rA : ∀ i, wI (sA V 60 A) 60 i = A i := fun i => by rw [wI_sA, if_pos rfl]
    have st : B_X12_span (2, [48], [ln, d, wh, nI c, nI i, p, nI (k + 1)], sA V 60 A) = if A k ≤ pr then some (.inr (1, [48], [ln, d, wh, nI (c + 1), nI (i + 1)], sA V 60 (upd A (k + 1) pr))) else some (.inr (2, [48], [ln, d, wh, nI c, nI i, p, nI k], sA V 60 (upd A (k + 1) (A k)))) := by
      show B_X12_span_2 (sA V 60 A) 48 ln d wh (nI c) (nI i) p (nI (k + 1)) = _
      unfold B_X12_span_2
      rw [if_neg (nI_nle (by omega) (by omega))]
      simp (decide := true) only [gd_ob g65, hG, Option.bind_some, nI_pred, nI_m1, hp, nI_1]
      rw [gd_pos (ix_of g65 (by decide) (by decide) (show k < 40 by omega)), gd_pos (ix_of g65 (by decide) (by decide) (show k + 1 < 40 from hk)), gd_pos (ix_of g65 (by decide) (by decide) (show k < 40 by omega)), gd_pos (ix_of g65 (by decide) (by decide) (show k + 1 < 40 from hk)), nI_clamp (by omega), nI_clamp (by omega), rA, sI_sA, sI_sA]
      rfl
    unfold insR
    by_cases h : A k ≤ pr
    · rw [if_pos h] at st ⊢
      exact ru_step st
    · rw [if_neg h] at st ⊢
      exact (ru_step st).trans (e_spanI hI ln d wh p hp k _ (by omega))
theorem e_spanL {V : Wd} (hI : Inv V) {n : Nat} (hn : n ≤ 40) (u : wI V 49 66 = nI n) {X Y Z : Nat → Nat} (hf : ∀ i, i < n → X i ≤ 77 ∧ Y i ≤ 365 ∧ Z i ≤ 9999 ∧ wI V 49 (200 + i) = nI (10000 * (366 * X i + Y i) + Z i)) {ln d : Nat} (hln : ln < 2 ^ 31) (hd : d ≤ 365) (wh : Int32) : ∀ i, i ≤ n → ru B_X12_span (1, [48], [nI ln, nI d, wh, 0, 0], V) = ru B_X12_span (1, [48], [nI ln, nI d, wh, nI (gaR X Y Z ln d (wI V 60) i).1, nI i], sA V 60 (gaR X Y Z ln d (wI V 60) i).2)
  | 0, _ => by
    show _ = ru B_X12_span (1, [48], [nI ln, nI d, wh, 0, 0], sA V 60 (wI V 60))
    rw [sA_self]
  | i + 1, hi => by
    refine (e_spanL hI hn u hf hln hd wh i (by omega)).trans ?_
    have hle := gaR_le (X := X) (Y := Y) (Z := Z) (ln := ln) (d := d) (A := wI V 60) i
    rw [show gaR X Y Z ln d (wI V 60) (i + 1) = if X i = ln ∧ d < Y i + 30 ∧ Y i ≤ d then ((gaR X Y Z ln d (wI V 60) i).1 + 1, insR (nI (Z i)) (gaR X Y Z ln d (wI V 60) i).1 (gaR X Y Z ln d (wI V 60) i).2) else gaR X Y Z ln d (wI V 60) i from rfl]
    generalize gaR X Y Z ln d (wI V 60) i = R at *
    obtain ⟨c, A⟩ := R
    dsimp only at hle ⊢
    have hIA : Inv (sA V 60 A) := (Ag.sA (D := fun a _ => a = 60) (fun _ => rfl)).inv hI (by omega)
    obtain ⟨g65, hG⟩ := id hIA
    have r49 : wI (sA V 60 A) 49 = wI V 49 := by rw [wI_sA, if_neg (by decide)]
    obtain ⟨x1, y1, z1, e1⟩ := hf i (by omega)
    obtain ⟨p1, p2, p3⟩ := pri_parts x1 y1 z1
    have st : B_X12_span (1, [48], [nI ln, nI d, wh, nI c, nI i], sA V 60 A) = if X i = ln ∧ d < Y i + 30 ∧ Y i ≤ d then some (.inr (2, [48], [nI ln, nI d, wh, nI c, nI i, nI (10000 * (366 * X i + Y i) + Z i), nI c], sA V 60 A)) else some (.inr (1, [48], [nI ln, nI d, wh, nI c, nI (i + 1)], sA V 60 A)) := by
      show B_X12_span_1 (sA V 60 A) 48 (nI ln) (nI d) wh (nI c) (nI i) = _
      unfold B_X12_span_1
      simp (decide := true) only [gd_ob g65, hG, Option.bind_some, gd_pos (show ix (sA V 60 A) 49 100 (66 : Int32) from rdN g65 (show 66 < 424 by decide)), show (66 : Int32).toNatClampNeg = 66 from rfl, r49, u]
      rw [if_neg (nI_ge (show i < n by omega) (by omega)), show (200 : Int32) + nI i = nI (200 + i) from nI_add 200 i, gd_pos (rdN g65 (by omega)), nI_clamp (by omega), e1, p1, p2, b_within_X12, nI_1]
      by_cases h1 : X i = ln
      · rw [if_pos (show nI (X i) = nI ln by rw [h1])]
        by_cases h2 : d < Y i + 30 ∧ Y i ≤ d
        · rw [if_pos ⟨(day_le y1 hd).2.mpr h2.1, nI_le h2.2 (by omega)⟩, if_neg (by decide), if_pos ⟨h1, h2⟩]
        · rw [if_neg (fun h => h2 ⟨(day_le y1 hd).2.mp h.1, nI_le_of (by omega) h.2⟩), if_pos rfl, if_neg (fun h => h2 h.2)]
      · rw [if_neg (fun h => h1 ((nI_eq (by omega) hln).mp h)), if_neg (fun h => h1 h.1)]
    by_cases h : X i = ln ∧ d < Y i + 30 ∧ Y i ≤ d
    · rw [if_pos h] at st ⊢
      exact (ru_step st).trans (e_spanI hI (nI ln) (nI d) wh _ p3 c A (by omega))
    · rw [if_neg h] at st ⊢
      exact ru_step st
def spIx (wh : Int32) (c : Nat) : Nat := if wh = 0 then c / 4 else if wh = 1 then (c - 1) / 2 else c - 1 - c / 4
theorem sp_ix {c : Nat} (h0 : 0 < c) (hc : c ≤ 40) : nI c / 4 = nI (c / 4) ∧ (nI c - 1) / 2 = nI ((c - 1) / 2) ∧ nI c - 1 - nI c / 4 = nI (c - 1 - c / 4) := by
  have e1 : nI c / 4 = nI (c / 4) := pk_div (d := 4) (by omega) (by decide) (by decide)
  have e2 : nI c - 1 = nI (c - 1) := nI_sub (b := 1) h0
  refine ⟨e1, ?_, ?_⟩
  · rw [e2]
    exact pk_div (d := 2) (by omega) (by decide) (by decide)
  · rw [e1, e2]
    exact nI_sub (by omega)
theorem sim_span {j : Nat} {S : Wd} (hR : Rel j S) (hj : j < 512) (a1 a2 a3 : Int32) : ∃ r S1 S2, f_X11_span S 0 a1 a2 a3 = some (r, S1) ∧ 48 < wn S1 ∧ f_X12_span S1 48 a1 a2 a3 = some (r, S2) ∧ Rel (j + 1) S2 := by
  have hI := hR.1
  obtain ⟨h65, hF⟩ := id hI
  obtain ⟨k1, k2, k3, k4, -⟩ := rel_core hR
  obtain ⟨n, hn, u, v, hf⟩ := pri_facts k4
  by_cases hok : (0 ≤ a1 ∧ (0 ≤ a1 / 10 ∧ a1 / 10 ≤ 7) ∧ (0 ≤ irm a1 10 ∧ irm a1 10 ≤ 7)) ∧ (0 ≤ a2 ∧ a2 ≤ 365) ∧ (0 ≤ a3 ∧ a3 ≤ 3)
  · obtain ⟨o1, o2, o3⟩ := hok
    obtain ⟨ln, hln, rfl⟩ := nat_of o1.1
    obtain ⟨d, hd, rfl⟩ := nat_le (n := 365) o2.1 o2.2 (by decide)
    have hga := e_gather hI hn v (X := prX S) (Y := prY S) (Z := prZ S) (fun i hi => ⟨(hf i hi).1, (hf i hi).2.1, (hf i hi).2.2.1, (hf i hi).2.2.2.1, (hf i hi).2.2.2.2.1, (hf i hi).2.2.2.2.2.1⟩) hln hd
    have hlo := gaR_lo (X := prX S) (Y := prY S) (Z := prZ S) (ln := ln) (d := d) (A := wI S 21) (m := n) (fun i hi => (hf i hi).2.2.1) n (Nat.le_refl _)
    have hle := gaR_le (X := prX S) (Y := prY S) (Z := prZ S) (ln := ln) (d := d) (A := wI S 21) n
    have ref : ∀ {V : Wd}, Inv V → wI V 49 = wI S 49 → ∃ B, ru B_X12_span (1, [48], [nI ln, nI d, a3, 0, 0], V) = ru B_X12_span (1, [48], [nI ln, nI d, a3, nI (gaR (prX S) (prY S) (prZ S) ln d (wI S 21) n).1, nI n], sA V 60 B) ∧ ∀ k, k < (gaR (prX S) (prY S) (prZ S) ln d (wI S 21) n).1 → B k = (gaR (prX S) (prY S) (prZ S) ln d (wI S 21) n).2 k := by
      intro V hV e
      have := e_spanL hV hn (by rw [e]; exact u) (X := prX S) (Y := prY S) (Z := prZ S) (fun i hi => by rw [e]; exact ⟨(hf i hi).1, (hf i hi).2.1, (hf i hi).2.2.1, (hf i hi).2.2.2.2.2.2⟩) hln hd a3 n (Nat.le_refl _)
      obtain ⟨q1, q2⟩ := gaR_congr (X := prX S) (Y := prY S) (Z := prZ S) (ln := ln) (d := d) (A := wI S 21) (B := wI V 60) n
      rw [← q1] at this
      exact ⟨_, this, fun k hk => (q2 k hk).symm⟩
    generalize gaR (prX S) (prY S) (prZ S) ln d (wI S 21) n = R at hga hlo hle ref
    obtain ⟨c, A⟩ := R
    dsimp only at hga hlo hle ref
    have hA : Ag (fun a _ => a = 21) S (sA S 21 A) := Ag.sA (fun _ => rfl)
    have hIA := hA.inv hI (by omega)
    obtain ⟨g65, hG⟩ := id hIA
    have hRA : Rel j (sA S 21 A) := rel_qy hR (hA.qy (by rintro a k rfl; rfl))
    have rA : ∀ i, wI (sA S 21 A) 21 i = A i := fun i => by rw [wI_sA, if_pos rfl]
    have e49 : wI (sA S 21 A) 49 = wI S 49 := by rw [wI_sA, if_neg (by decide)]
    have hC : f_X11_span S 0 (nI ln) (nI d) a3 = bd2 (f_X5_tells S 20 (nI ln) (nI d) a3) (fun r27 S25 => gd (ob S25 0 11) (bd2 (f_X11_told S25 0 r27) (fun r31 S29 => some (r31, S29)))) := by
      unfold f_X11_span
      rw [b_isLane_X11, if_pos o1, if_neg (by decide), b_within_X11, if_pos o2, if_neg (by decide), b_within_X11, if_pos o3, if_neg (by decide)]
      simp (decide := true) only [gd_ob h65, hF, Option.bind_some]
    have hM0 : ∀ {V : Wd}, Inv V → B_X12_span (0, [48], [nI ln, nI d, a3], V) = some (.inr (1, [48], [nI ln, nI d, a3, 0, 0], V)) := by
      intro V hV
      show B_X12_span_0 V 48 (nI ln) (nI d) a3 = _
      unfold B_X12_span_0
      rw [b_isLane_X12, if_pos o1, if_neg (by decide), b_isDay_X12, if_pos o2, if_neg (by decide), b_within_X12, if_pos o3, if_neg (by decide)]
    have hM1 : ∀ {V : Wd} {B : Nat → Int32}, Inv V → wI V 49 = wI S 49 → B_X12_span (1, [48], [nI ln, nI d, a3, nI c, nI n], sA V 60 B) = if a3 = 3 then some (.inl (nI c, sA V 60 B)) else if c = 0 then some (.inl (-100006, fl (sA V 60 B))) else some (.inl (B (spIx a3 c), sA V 60 B)) := by
      intro V B hV e
      have hIB : Inv (sA V 60 B) := (Ag.sA (D := fun a _ => a = 60) (fun _ => rfl)).inv hV (by omega)
      obtain ⟨p65, hP⟩ := id hIB
      have r49 : wI (sA V 60 B) 49 = wI S 49 := by rw [wI_sA, if_neg (by decide), e]
      have rB : ∀ i, wI (sA V 60 B) 60 i = B i := fun i => by rw [wI_sA, if_pos rfl]
      show B_X12_span_1 (sA V 60 B) 48 (nI ln) (nI d) a3 (nI c) (nI n) = _
      unfold B_X12_span_1
      simp (decide := true) only [gd_ob p65, hP, Option.bind_some, gd_pos (show ix (sA V 60 B) 49 100 (66 : Int32) from rdN p65 (show 66 < 424 by decide)), show (66 : Int32).toNatClampNeg = 66 from rfl, r49, u, e_finding p65, bd2_eq]
      rw [if_pos (Int32.le_refl _)]
      split
      · rfl
      · by_cases h0 : c = 0
        · rw [if_pos h0, if_pos (show nI c = 0 by rw [h0]; rfl)]
        · obtain ⟨s1, s2, s3⟩ := sp_ix (show 0 < c by omega) (show c ≤ 40 by omega)
          rw [if_neg h0, if_neg (nI_ne0 (by omega) (by omega)), s3, s1, s2]
          unfold spIx
          split
          · rw [gd_pos (ix_of p65 (by decide) (by decide) (show c / 4 < 40 by omega)), nI_clamp (by omega), rB]
          · split
            · rw [gd_pos (ix_of p65 (by decide) (by decide) (show (c - 1) / 2 < 40 by omega)), nI_clamp (by omega), rB]
            · rw [gd_pos (ix_of p65 (by decide) (by decide) (show c - 1 - c / 4 < 40 by omega)), nI_clamp (by omega), rB]
    have hT : f_X5_tells S 20 (nI ln) (nI d) a3 = if a3 = 3 then some (nI c, sA S 21 A) else if c = 0 then some (-100006, sA S 21 A) else some (A (spIx a3 c), sA S 21 A) := by
      unfold f_X5_tells
      rw [gd_pos (ob_of h65 (by decide) (by decide)), hga, bd2_eq]
      simp (decide := true) only [gd_ob g65, hG, Option.bind_some]
      split
      · rfl
      · by_cases h0 : c = 0
        · rw [if_pos h0, if_pos (show nI c = 0 by rw [h0]; rfl)]
        · obtain ⟨s1, s2, s3⟩ := sp_ix (show 0 < c by omega) (show c ≤ 40 by omega)
          rw [if_neg h0, if_neg (nI_ne0 (by omega) (by omega)), s3, s1, s2]
          unfold spIx
          by_cases h1 : a3 = 1
          · rw [if_pos h1, if_neg (show ¬ a3 = 0 by rw [h1]; decide), if_pos h1, gd_pos (ix_of g65 (by decide) (by decide) (show (c - 1) / 2 < 40 by omega)), nI_clamp (by omega), rA]
          · rw [if_neg h1, if_neg h1]
            split
            · rw [gd_pos (ix_of g65 (by decide) (by decide) (show c / 4 < 40 by omega)), nI_clamp (by omega), rA]
            · rw [gd_pos (ix_of g65 (by decide) (by decide) (show c - 1 - c / 4 < 40 by omega)), nI_clamp (by omega), rA]
    have hix : c ≠ 0 → spIx a3 c < c := by
      intro h0
      unfold spIx
      split
      · omega
      · split <;> omega
    have fin : ∀ (r : Int32), (-99999 : Int32) ≤ r → f_X5_tells S 20 (nI ln) (nI d) a3 = some (r, sA S 21 A) → (∀ {B : Nat → Int32}, (∀ k, k < c → B k = A k) → B_X12_span (1, [48], [nI ln, nI d, a3, nI c, nI n], sA (sA S 21 A) 60 B) = some (.inl (r, sA (sA S 21 A) 60 B))) → ∃ r S1 S2, f_X11_span S 0 (nI ln) (nI d) a3 = some (r, S1) ∧ 48 < wn S1 ∧ f_X12_span S1 48 (nI ln) (nI d) a3 = some (r, S2) ∧ Rel (j + 1) S2 := by
      intro r hr h1 h2
      obtain ⟨B, b1, b2⟩ := ref hIA e49
      refine ⟨r, sA S 21 A, sA (sA S 21 A) 60 B, ?_, by show 48 < wn S; omega, (ru_step (hM0 hIA)).trans (b1.trans (ru_done (h2 b2))), rel_up (rel_qy hRA (Ag.qy (D := fun a _ => a = 60) (Ag.sA (fun _ => rfl)) (by rintro a k rfl; rfl)))⟩
      rw [hC, h1, bd2_eq, gd_pos (ob_of g65 (by decide) (by decide)), e_told g65, bd2_eq, tl_ge hr]
    by_cases w3 : a3 = 3
    · exact fin (nI c) (nI_nofind (by omega)) (by rw [hT, if_pos w3]) (fun _ => by rw [hM1 hIA e49, if_pos w3])
    · by_cases h0 : c = 0
      · obtain ⟨B, b1, b2⟩ := ref (hIA.tl (v := -100006)) ((tl_arr (by decide)).trans e49)
        refine ⟨-100006, tl (sA S 21 A) (-100006), fl (sA (tl (sA S 21 A) (-100006)) 60 B), ?_, by rw [tl_wn]; show 48 < wn S; omega, (ru_step (hM0 hIA.tl)).trans (b1.trans (ru_done ?_)), rel_qy (rel_fin hRA (by decide)) ((ag_fl (D := fun a _ => a = 60) (Ag.sA (fun _ => rfl)) (by omega)).qy (by rintro a k rfl; rfl))⟩
        · rw [hC, hT, if_neg w3, if_pos h0, bd2_eq, gd_pos (ob_of g65 (by decide) (by decide)), e_told g65, bd2_eq]
        · rw [hM1 hIA.tl ((tl_arr (by decide)).trans e49), if_neg w3, if_pos h0]
      · have hi := hix h0
        exact fin (A (spIx a3 c)) (hlo _ hi) (by rw [hT, if_neg w3, if_neg h0]) (fun hB => by rw [hM1 hIA e49, if_neg w3, if_neg h0, hB _ hi])
  · obtain ⟨g65, hG⟩ := id (hI.tl (v := -100001))
    refine ⟨-100001, _, _, ?_, tl_w48 (v := -100001) hR, ru_done ?_, rel_fin (v := -100001) hR (by decide)⟩
    · unfold f_X11_span
      rw [b_isLane_X11]
      split
      · rename_i o1
        rw [if_neg (by decide), b_within_X11]
        split
        · rename_i o2
          rw [if_neg (by decide), b_within_X11, if_neg (fun o3 => hok ⟨o1, o2, o3⟩)]
          simp (decide := true) only [if_true, gd_ob h65, e_told h65, bd2_eq]
        · simp (decide := true) only [if_true, gd_ob h65, e_told h65, bd2_eq]
      · simp (decide := true) only [if_true, gd_ob h65, e_told h65, bd2_eq]
    · show B_X12_span_0 _ 48 a1 a2 a3 = _
      unfold B_X12_span_0
      rw [b_isLane_X12]
      split
      · rename_i o1
        rw [if_neg (by decide), b_isDay_X12]
        split
        · rename_i o2
          rw [if_neg (by decide), b_within_X12, if_neg (fun o3 => hok ⟨o1, o2, o3⟩)]
          simp (decide := true) only [if_true, gd_ob g65, e_finding g65, bd2_eq]
        · simp (decide := true) only [if_true, gd_ob g65, e_finding g65, bd2_eq]
      · simp (decide := true) only [if_true, gd_ob g65, e_finding g65, bd2_eq]
