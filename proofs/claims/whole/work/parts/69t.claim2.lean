/-! claim: the reference's row, and the whole -/
theorem e_workOut {S : Wd} (hI : Inv S) {n : Nat} (hn : n ≤ 14) (v : wI S 36 0 = nI n) {Z : Nat → Nat} (hZ : ∀ i, i < n → ((1 ≤ Z i ∧ Z i ≤ 6) ∨ (10 ≤ Z i ∧ Z i ≤ 56)) ∧ wI S 36 (1 + i) = nI (Z i)) {p l t s c r : Int32} (f1 : wI S 37 1 = p) (f2 : wI S 37 2 = l) (f3 : wI S 37 3 = t) (f4 : wI S 37 4 = s) (f5 : wI S 37 5 = c) (f6 : wI S 37 6 = r) (hw : wrF (fun i => nI (Z i)) n n 0 0 = -1) : f_X9_workOut S 35 = some (if n = 0 then 0 else stk (fcI p l t s c r) (fun i => nI (Z i)) n 0 0 (wI S 38) 0, sA S 38 (stk (fcI p l t s c r) (fun i => nI (Z i)) n 0 0 (wI S 38))) := by
  obtain ⟨h65, hF⟩ := id hI
  unfold f_X9_workOut
  have key := e_workL hI hn hZ f1 f2 f3 f4 f5 f6 n 0 0 (wI S 38) (by omega) (by omega) hw
  rw [sA_self] at key
  refine (ru_step (show B_X9_workOut (0, [35], [], S) = some (.inr (1, [35], [nI n, nI 0, nI 0], S)) from ?_)).trans key
  show B_X9_workOut_0 S 35 = _
  unfold B_X9_workOut_0
  simp (decide := true) only [gd_ob h65, e_txCount hI hn v, bd2_eq]
  rfl
theorem e_readBy {V : Wd} (hI : Inv V) {m : Nat} (hm : m ≤ 8) {ld fm : Nat} (hld : ld < m) (hfm : fm < 10) (late : Int32) {n : Nat} (hn : n ≤ 20) (u67 : wI V 49 67 = nI n) {X Y Z : Nat → Nat} (eN : ∀ i, i < n → X i < 8 ∧ Y i < 10 ∧ Z i < 10 ∧ wI V 49 (240 + i) = nI (X i + 8 * Y i + 80 * Z i)) {ca lk d e : Nat} (hch : chN X Y Z n ld 20 fm 0 0 = (ca, lk)) (hca : ca < 10) (hde : d + e ≤ 200) (t1 : wI V 49 (290 + ca) = nI d) (t2 : wI V 49 (300 + ca) = nI e) {z : Nat} (hz : (1 ≤ z ∧ z ≤ 6) ∨ (10 ≤ z ∧ z ≤ 56)) : ∃ V', f_X12_readBy V 48 (nI z) (nI ld) late (nI fm) = some (fcI (wI V 49 (112 + 11 * ld + 5)) late (wI V 49 (112 + 11 * ld + 4)) (wI V 49 (112 + 11 * ld + 2)) (nI (ccN X ld n)) (100 * nI d / (nI d + nI e + 3)) (nI z), V') ∧ Ag (fun a k => a = 48 ∧ k = 21) V V' := by
  obtain ⟨h65, hF⟩ := id hI
  unfold f_X12_readBy fcI
  by_cases c1 : nI z = 1
  · rw [if_pos c1, if_pos c1]
    refine ⟨V, ?_, Ag.rf⟩
    unfold f_X12_payOf
    rw [gd_pos (ob_of h65 (by decide) (by decide)), if_pos (nI_pos' (by omega))]
    simp (decide := true) only [gd_ob h65, hF, Option.bind_some, show (5 : Int32) = nI 5 from rfl, e_ofLoad, bd2_eq]
    rw [gd_pos (rdN h65 (by omega)), nI_clamp (by omega), bd2_eq]
  rw [if_neg c1, if_neg c1]
  by_cases c2 : nI z = 2
  · rw [if_pos c2, if_pos c2]
    exact ⟨V, rfl, Ag.rf⟩
  rw [if_neg c2, if_neg c2]
  by_cases c3 : nI z = 3
  · rw [if_pos c3, if_pos c3]
    refine ⟨V, ?_, Ag.rf⟩
    simp (decide := true) only [gd_ob h65, hF, Option.bind_some, show (4 : Int32) = nI 4 from rfl, e_ofLoad, bd2_eq]
    rw [gd_pos (rdN h65 (by omega)), nI_clamp (by omega)]
  rw [if_neg c3, if_neg c3]
  by_cases c4 : nI z = 4
  · rw [if_pos c4, if_pos c4]
    refine ⟨V, ?_, Ag.rf⟩
    simp (decide := true) only [gd_ob h65, hF, Option.bind_some, show (2 : Int32) = nI 2 from rfl, e_ofLoad, bd2_eq]
    rw [gd_pos (rdN h65 (by omega)), nI_clamp (by omega)]
  rw [if_neg c4, if_neg c4]
  by_cases c5 : nI z = 5
  · rw [if_pos c5, if_pos c5]
    refine ⟨V, ?_, Ag.rf⟩
    rw [gd_pos (ob_of h65 (by decide) (by decide)), e_contrM hI hn u67 eN (show ld < 8 by omega), bd2_eq]
  rw [if_neg c5, if_neg c5]
  by_cases c6 : nI z = 6
  · rw [if_pos c6, if_pos c6]
    have hen := e_endOf hI hn u67 eN (show ld < 8 by omega) hfm
    rw [hch] at hen
    have hA : Ag (fun a k => a = 48 ∧ k = 21) V (sI V 48 21 (nI lk)) := Ag.sI ⟨rfl, rfl⟩
    have hIA := hA.inv hI (by omega)
    have e49 : wI (sI V 48 21 (nI lk)) 49 = wI V 49 := hA.arr (by omega)
    refine ⟨sI V 48 21 (nI lk), ?_, hA⟩
    rw [gd_pos (ob_of h65 (by decide) (by decide)), hen, bd2_eq, gd_pos (ob_of hIA.1 (by decide) (by decide)), e_trustOf hIA hca _ (by rw [e49, t1, t2]; exact nI_3ne hde), bd2_eq, e49, t1, t2, show nI d + (0 : Int32) = nI d from Int32.add_zero _]
  · rw [if_neg c6, if_neg c6]
    exact ⟨V, rfl, Ag.rf⟩
/-- the reference's loop -/
theorem e_claimL {V : Wd} (hI : Inv V) {m : Nat} (hm : m ≤ 8) {ld fm : Nat} (hld : ld < m) (hfm : fm < 10) (late : Int32) {n : Nat} (hn : n ≤ 20) (u67 : wI V 49 67 = nI n) {X Y Z : Nat → Nat} (eN : ∀ i, i < n → X i < 8 ∧ Y i < 10 ∧ Z i < 10 ∧ wI V 49 (240 + i) = nI (X i + 8 * Y i + 80 * Z i)) {ca lk d e : Nat} (hch : chN X Y Z n ld 20 fm 0 0 = (ca, lk)) (hca : ca < 10) (hde : d + e ≤ 200) (t1 : wI V 49 (290 + ca) = nI d) (t2 : wI V 49 (300 + ca) = nI e) {q : Nat} (hq : q ≤ 14) (u69 : wI V 49 69 = nI q) {T : Nat → Nat} (hT : ∀ i, i < q → ((1 ≤ T i ∧ T i ≤ 6) ∨ (10 ≤ T i ∧ T i ≤ 56)) ∧ wI V 49 (410 + i) = nI (T i)) {g : Int32 → Int32} (hg : g = fcI (wI V 49 (112 + 11 * ld + 5)) late (wI V 49 (112 + 11 * ld + 4)) (wI V 49 (112 + 11 * ld + 2)) (nI (ccN X ld n)) (100 * nI d / (nI d + nI e + 3))) : ∀ (f dp i : Nat) (W : Wd), i + f = q → dp ≤ 5 → Ag (fun a k => a = 63 ∨ (a = 48 ∧ k = 21)) V W → wrF (fun i => nI (T i)) q f dp i = -1 → ∃ W', ru B_X12_claim (1, [48], [nI ld, late, nI fm, nI dp, nI i], W) = some (mMax (stk g (fun i => nI (T i)) f dp i (wI W 63) 0) (-99999), W') ∧ Ag (fun a k => a = 63 ∨ (a = 48 ∧ k = 21)) V W'
  | 0, dp, i, W, hi, hd, hA, hw => by
    have hin : i = q := by omega
    subst hin
    have hIW := hA.inv hI (by omega)
    obtain ⟨g65, hG⟩ := id hIW
    have e49 : wI W 49 = wI V 49 := hA.arr (by omega)
    refine ⟨W, ru_done ?_, hA⟩
    show B_X12_claim_1 W 48 (nI ld) late (nI fm) (nI dp) (nI i) = _
    unfold B_X12_claim_1 stk
    simp (decide := true) only [gd_ob g65, hG, Option.bind_some, gd_pos (show ix W 49 100 (69 : Int32) from rdN g65 (show 69 < 424 by decide)), show (69 : Int32).toNatClampNeg = 69 from rfl, e49, u69]
    rw [if_pos (Int32.le_refl _), gd_pos (show ix W 63 100 (0 : Int32) from ix_of (i := 0) g65 (by decide) (by decide) (by decide))]
    rfl
  | f + 1, dp, i, W, hi, hd, hA, hw => by
    have hIW := hA.inv hI (by omega)
    obtain ⟨g65, hG⟩ := id hIW
    have e49 : wI W 49 = wI V 49 := hA.arr (by omega)
    obtain ⟨z1, z2⟩ := hT i (by omega)
    have ix63 : ∀ {W : Wd}, 65 ≤ wn W → ∀ {k}, k < 5 → ix W 63 100 (nI k) := fun h _ hk => ix_of h (by decide) (by decide) hk
    unfold wrF at hw
    unfold stk
    by_cases hz : nI (T i) < 50
    · simp only [if_pos hz] at hw ⊢
      by_cases h5 : dp < 5
      · rw [if_pos h5] at hw
        obtain ⟨V', r1, r2⟩ := e_readBy hIW hm hld hfm late hn (by rw [e49]; exact u67) (fun i hi => by rw [e49]; exact eN i hi) hch hca hde (by rw [e49]; exact t1) (by rw [e49]; exact t2) z1
        rw [e49, ← hg] at r1
        have hA2 : Ag (fun a k => a = 63 ∨ (a = 48 ∧ k = 21)) V V' := hA.trans (r2.mono (fun a k h => Or.inr h))
        have hA3 : Ag (fun a k => a = 63 ∨ (a = 48 ∧ k = 21)) V (sI V' 63 dp (g (nI (T i)))) := hA2.trans (Ag.sI (Or.inl rfl))
        have e63 : wI (sI V' 63 dp (g (nI (T i)))) 63 = upd (wI W 63) dp (g (nI (T i))) := by
          funext k
          rw [wI_sI, if_pos rfl, r2.arr (a := 63) (by omega)]
          rfl
        obtain ⟨W', w1, w2⟩ := e_claimL hI hm hld hfm late hn u67 eN hch hca hde t1 t2 hq u69 hT hg f (dp + 1) (i + 1) _ (by omega) (by omega) hA3 hw
        rw [e63] at w1
        refine ⟨W', (ru_step ?_).trans w1, w2⟩
        have V65 : 65 ≤ wn V' := by rw [r2.1]; exact g65
        show B_X12_claim_1 W 48 (nI ld) late (nI fm) (nI dp) (nI i) = _
        unfold B_X12_claim_1
        simp (decide := true) only [gd_ob g65, hG, Option.bind_some, gd_pos (show ix W 49 100 (69 : Int32) from rdN g65 (show 69 < 424 by decide)), show (69 : Int32).toNatClampNeg = 69 from rfl, e49, u69]
        rw [if_neg (nI_ge (show i < q by omega) (by omega)), show (410 : Int32) + nI i = nI (410 + i) from nI_add 410 i, gd_pos (rdN g65 (by omega)), nI_clamp (by omega), z2, if_neg (i32nle.mpr hz), r1, bd2_eq, gd_pos (ix63 V65 h5), nI_clamp (by omega), nI_1, nI_1]
        rfl
      · rw [if_neg h5] at hw
        exact absurd hw (nI_nm1 (by omega))
    · simp only [if_neg hz] at hw ⊢
      by_cases h2 : 2 ≤ dp
      · rw [if_pos h2] at hw
        obtain ⟨e', rfl⟩ : ∃ e, dp = e + 2 := ⟨dp - 2, by omega⟩
        have hA3 : Ag (fun a k => a = 63 ∨ (a = 48 ∧ k = 21)) V (sI W 63 e' (jnI (nI (T i)) (wI W 63 e') (wI W 63 (e' + 1)))) := hA.trans (Ag.sI (Or.inl rfl))
        have e63 : wI (sI W 63 e' (jnI (nI (T i)) (wI W 63 e') (wI W 63 (e' + 1)))) 63 = upd (wI W 63) e' (jnI (nI (T i)) (wI W 63 e') (wI W 63 (e' + 1))) := by
          funext k
          rw [wI_sI, if_pos rfl]
          rfl
        obtain ⟨W', w1, w2⟩ := e_claimL hI hm hld hfm late hn u67 eN hch hca hde t1 t2 hq u69 hT hg f (e' + 1) (i + 1) _ (by omega) (by omega) hA3 hw
        rw [e63] at w1
        refine ⟨W', (ru_step ?_).trans w1, w2⟩
        show B_X12_claim_1 W 48 (nI ld) late (nI fm) (nI (e' + 2)) (nI i) = _
        unfold B_X12_claim_1
        simp (decide := true) only [gd_ob g65, hG, Option.bind_some, gd_pos (show ix W 49 100 (69 : Int32) from rdN g65 (show 69 < 424 by decide)), show (69 : Int32).toNatClampNeg = 69 from rfl, e49, u69]
        rw [if_neg (nI_ge (show i < q by omega) (by omega)), show (410 : Int32) + nI i = nI (410 + i) from nI_add 410 i, gd_pos (rdN g65 (by omega)), nI_clamp (by omega), z2, if_pos (i32nl.mp hz), nI_m1 (e' + 1), nI_pred, gd_pos (ix63 g65 (by omega)), gd_pos (ix63 g65 (by omega)), e_jM, bd2_eq, gd_pos (ix63 g65 (by omega)), nI_clamp (by omega), nI_clamp (by omega), nI_1]
        rfl
      · rw [if_neg h2] at hw
        exact absurd hw (nI_nm1 (by omega))
