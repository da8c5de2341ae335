section
variable {sc od nc tp cc gc ac : Int32} {Ce Sk Va An Ov : Nat → Int64} {Rc St Jl Tk Tn Su Ne Ha Cb Jd Go Fm : Nat → Int32}
variable {src dis opn sbt sbr dep mny mor grs fnd kpt : Int32} {ySk yRe ySo yAn : Nat → Int64} {yRo yCe yTo yIl ySz yTk yIn yEn ySu yWc yWi yHa yCo yLo yGo yFi : Nat → Int32}
variable {n t : Nat → Nat} {p : Nat}
theorem nq_nb0 : narrow .boolean (.int 0) = .int 0 := rfl
theorem nq_nb1 : narrow .boolean (.int 1) = .int 1 := rfl
theorem nq_xFit {post : Int32 → Prop} {p t w : Nat} (hp : p < 10) (ht : t < 2147483648) (hw : w < 4) : wpX_fits post (nI p) (nI t) (nI w) ↔ post (nq_b (nq_fit p t w)) := by
  simp only [wpX_fits, wX_fits_11, wX_fits_30, wX_fits_99, nq_and2 w hw, nq_and1 w hw, nq_xCol ht, nq_xSub ht, nq_b0, nq_tn0, nq_div ht, nq_nb0, nq_nb1, show (nI (t) < (41 : Int32)) = ((t) < 41) from propext (nI_ltI (b := 41) (ht) (by decide)), show ((41 : Int32) < nI (t)) = (41 < (t)) from propext (nI_ltI (a := 41) (by decide) (ht)), show (nI (t) ≤ (41 : Int32)) = ((t) ≤ 41) from propext (nI_leI (b := 41) (ht) (by decide)), show ((41 : Int32) ≤ nI (t)) = (41 ≤ (t)) from propext (nI_leI (a := 41) (by decide) (ht)), show (nI (t) = (41 : Int32)) = ((t) = 41) from propext (nI_eq (b := 41) (ht) (by decide)), show (nI (t) < (59 : Int32)) = ((t) < 59) from propext (nI_ltI (b := 59) (ht) (by decide)), show ((59 : Int32) < nI (t)) = (59 < (t)) from propext (nI_ltI (a := 59) (by decide) (ht)), show (nI (t) ≤ (59 : Int32)) = ((t) ≤ 59) from propext (nI_leI (b := 59) (ht) (by decide)), show ((59 : Int32) ≤ nI (t)) = (59 ≤ (t)) from propext (nI_leI (a := 59) (by decide) (ht)), show (nI (t) = (59 : Int32)) = ((t) = 59) from propext (nI_eq (b := 59) (ht) (by decide)), show (nI (t) < (70 : Int32)) = ((t) < 70) from propext (nI_ltI (b := 70) (ht) (by decide)), show ((70 : Int32) < nI (t)) = (70 < (t)) from propext (nI_ltI (a := 70) (by decide) (ht)), show (nI (t) ≤ (70 : Int32)) = ((t) ≤ 70) from propext (nI_leI (b := 70) (ht) (by decide)), show ((70 : Int32) ≤ nI (t)) = (70 ≤ (t)) from propext (nI_leI (a := 70) (by decide) (ht)), show (nI (t) = (70 : Int32)) = ((t) = 70) from propext (nI_eq (b := 70) (ht) (by decide)), show (nI (t) < (76 : Int32)) = ((t) < 76) from propext (nI_ltI (b := 76) (ht) (by decide)), show ((76 : Int32) < nI (t)) = (76 < (t)) from propext (nI_ltI (a := 76) (by decide) (ht)), show (nI (t) ≤ (76 : Int32)) = ((t) ≤ 76) from propext (nI_leI (b := 76) (ht) (by decide)), show ((76 : Int32) ≤ nI (t)) = (76 ≤ (t)) from propext (nI_leI (a := 76) (by decide) (ht)), show (nI (t) = (76 : Int32)) = ((t) = 76) from propext (nI_eq (b := 76) (ht) (by decide)), show (nI (t) < (80 : Int32)) = ((t) < 80) from propext (nI_ltI (b := 80) (ht) (by decide)), show ((80 : Int32) < nI (t)) = (80 < (t)) from propext (nI_ltI (a := 80) (by decide) (ht)), show (nI (t) ≤ (80 : Int32)) = ((t) ≤ 80) from propext (nI_leI (b := 80) (ht) (by decide)), show ((80 : Int32) ≤ nI (t)) = (80 ≤ (t)) from propext (nI_leI (a := 80) (by decide) (ht)), show (nI (t) = (80 : Int32)) = ((t) = 80) from propext (nI_eq (b := 80) (ht) (by decide)), show (nI (t) < (87 : Int32)) = ((t) < 87) from propext (nI_ltI (b := 87) (ht) (by decide)), show ((87 : Int32) < nI (t)) = (87 < (t)) from propext (nI_ltI (a := 87) (by decide) (ht)), show (nI (t) ≤ (87 : Int32)) = ((t) ≤ 87) from propext (nI_leI (b := 87) (ht) (by decide)), show ((87 : Int32) ≤ nI (t)) = (87 ≤ (t)) from propext (nI_leI (a := 87) (by decide) (ht)), show (nI (t) = (87 : Int32)) = ((t) = 87) from propext (nI_eq (b := 87) (ht) (by decide)), show (nI (t / 10) < (1 : Int32)) = ((t / 10) < 1) from propext (nI_ltI (b := 1) (nq_d10 ht) (by decide)), show ((1 : Int32) < nI (t / 10)) = (1 < (t / 10)) from propext (nI_ltI (a := 1) (by decide) (nq_d10 ht)), show (nI (t / 10) ≤ (1 : Int32)) = ((t / 10) ≤ 1) from propext (nI_leI (b := 1) (nq_d10 ht) (by decide)), show ((1 : Int32) ≤ nI (t / 10)) = (1 ≤ (t / 10)) from propext (nI_leI (a := 1) (by decide) (nq_d10 ht)), show (nI (t / 10) = (1 : Int32)) = ((t / 10) = 1) from propext (nI_eq (b := 1) (nq_d10 ht) (by decide)), show (nI (t / 10) < (3 : Int32)) = ((t / 10) < 3) from propext (nI_ltI (b := 3) (nq_d10 ht) (by decide)), show ((3 : Int32) < nI (t / 10)) = (3 < (t / 10)) from propext (nI_ltI (a := 3) (by decide) (nq_d10 ht)), show (nI (t / 10) ≤ (3 : Int32)) = ((t / 10) ≤ 3) from propext (nI_leI (b := 3) (nq_d10 ht) (by decide)), show ((3 : Int32) ≤ nI (t / 10)) = (3 ≤ (t / 10)) from propext (nI_leI (a := 3) (by decide) (nq_d10 ht)), show (nI (t / 10) = (3 : Int32)) = ((t / 10) = 3) from propext (nI_eq (b := 3) (nq_d10 ht) (by decide)), show (nI (p) < (1 : Int32)) = ((p) < 1) from propext (nI_ltI (b := 1) (by omega) (by decide)), show ((1 : Int32) < nI (p)) = (1 < (p)) from propext (nI_ltI (a := 1) (by decide) (by omega)), show (nI (p) ≤ (1 : Int32)) = ((p) ≤ 1) from propext (nI_leI (b := 1) (by omega) (by decide)), show ((1 : Int32) ≤ nI (p)) = (1 ≤ (p)) from propext (nI_leI (a := 1) (by decide) (by omega)), show (nI (p) = (1 : Int32)) = ((p) = 1) from propext (nI_eq (b := 1) (by omega) (by decide)), show (nI (w / 2 * 2) < (0 : Int32)) = ((w / 2 * 2) < 0) from propext (nI_ltI (b := 0) (by omega) (by decide)), show ((0 : Int32) < nI (w / 2 * 2)) = (0 < (w / 2 * 2)) from propext (nI_ltI (a := 0) (by decide) (by omega)), show (nI (w / 2 * 2) ≤ (0 : Int32)) = ((w / 2 * 2) ≤ 0) from propext (nI_leI (b := 0) (by omega) (by decide)), show ((0 : Int32) ≤ nI (w / 2 * 2)) = (0 ≤ (w / 2 * 2)) from propext (nI_leI (a := 0) (by decide) (by omega)), show (nI (w / 2 * 2) = (0 : Int32)) = ((w / 2 * 2) = 0) from propext (nI_eq (b := 0) (by omega) (by decide)), show (nI (w % 2) < (0 : Int32)) = ((w % 2) < 0) from propext (nI_ltI (b := 0) (by omega) (by decide)), show ((0 : Int32) < nI (w % 2)) = (0 < (w % 2)) from propext (nI_ltI (a := 0) (by decide) (by omega)), show (nI (w % 2) ≤ (0 : Int32)) = ((w % 2) ≤ 0) from propext (nI_leI (b := 0) (by omega) (by decide)), show ((0 : Int32) ≤ nI (w % 2)) = (0 ≤ (w % 2)) from propext (nI_leI (a := 0) (by decide) (by omega)), show (nI (w % 2) = (0 : Int32)) = ((w % 2) = 0) from propext (nI_eq (b := 0) (by omega) (by decide)), nq_ite post, forall_eq, not_true_eq_false, not_false_eq_true, true_implies, false_implies, implies_true, and_true, true_and, and_self]
  refine iff_of_eq (congrArg post ?_)
  simp only [nq_b, nq_fit]
  rcases Bool.eq_false_or_eq_true (nq_sub t) with h | h <;> rcases Bool.eq_false_or_eq_true (nq_col t) with h2 | h2 <;> simp only [h, h2, reduceCtorEq, if_true, if_false, false_and, true_and, or_false]
  all_goals repeat' split
  all_goals first | rfl | (exfalso; simp_all; done) | (exfalso; simp_all; omega)
theorem nq_yMay {post : Int32 → Prop} {p t w : Nat} {r : List Nat} (hp : p < 10) (ht : t < 2147483648) (hw : w < 4) (hS : nq_Sw yWc yWi (w :: r)) (hr : r.length < 64) : wpY_mayCome post (src, dis, (nI (r.length + 1)), sbt, sbr, dep, mny, mor, grs, fnd, kpt, yRo, yCe, yTo, yIl, ySz, yTk, yIn, yEn, ySu, yWc, yWi, yHa, ySk, yCo, yLo, yGo, yFi, yRe, ySo, yAn) (nI p) (nI t) ↔ post (nq_b (nq_fit p t w)) := by
  obtain ⟨s1, s2, s3⟩ := nq_Sw_t hS
  have i1 : vp_in (nI r.length) 64 := vp_in_nI (by omega) (by decide)
  have c1 : (nI r.length).toNatClampNeg = r.length := nI_clamp (by omega)
  simp only [wpY_mayCome, wY_mayCome_47, wY_mayCome_61, nI_pred, i1, c1, s1, s2, nq_yE ht, nq_yC ht, nq_yCol ht, nq_ySub ht, nq_b2 w hw, nq_b1 w hw, nq_bnrw, nq_b0, nq_tn0, nq_div ht, show (nI (t / 10) < (2 : Int32)) = ((t / 10) < 2) from propext (nI_ltI (b := 2) (nq_d10 ht) (by decide)), show ((2 : Int32) < nI (t / 10)) = (2 < (t / 10)) from propext (nI_ltI (a := 2) (by decide) (nq_d10 ht)), show (nI (t / 10) ≤ (2 : Int32)) = ((t / 10) ≤ 2) from propext (nI_leI (b := 2) (nq_d10 ht) (by decide)), show ((2 : Int32) ≤ nI (t / 10)) = (2 ≤ (t / 10)) from propext (nI_leI (a := 2) (by decide) (nq_d10 ht)), show (nI (t / 10) = (2 : Int32)) = ((t / 10) = 2) from propext (nI_eq (b := 2) (nq_d10 ht) (by decide)), show (nI (t / 10) < (3 : Int32)) = ((t / 10) < 3) from propext (nI_ltI (b := 3) (nq_d10 ht) (by decide)), show ((3 : Int32) < nI (t / 10)) = (3 < (t / 10)) from propext (nI_ltI (a := 3) (by decide) (nq_d10 ht)), show (nI (t / 10) ≤ (3 : Int32)) = ((t / 10) ≤ 3) from propext (nI_leI (b := 3) (nq_d10 ht) (by decide)), show ((3 : Int32) ≤ nI (t / 10)) = (3 ≤ (t / 10)) from propext (nI_leI (a := 3) (by decide) (nq_d10 ht)), show (nI (t / 10) = (3 : Int32)) = ((t / 10) = 3) from propext (nI_eq (b := 3) (nq_d10 ht) (by decide)), show (nI (p) < (1 : Int32)) = ((p) < 1) from propext (nI_ltI (b := 1) (by omega) (by decide)), show ((1 : Int32) < nI (p)) = (1 < (p)) from propext (nI_ltI (a := 1) (by decide) (by omega)), show (nI (p) ≤ (1 : Int32)) = ((p) ≤ 1) from propext (nI_leI (b := 1) (by omega) (by decide)), show ((1 : Int32) ≤ nI (p)) = (1 ≤ (p)) from propext (nI_leI (a := 1) (by decide) (by omega)), show (nI (p) = (1 : Int32)) = ((p) = 1) from propext (nI_eq (b := 1) (by omega) (by decide)), nq_ite post, forall_eq, not_true_eq_false, not_false_eq_true, true_implies, false_implies, implies_true, and_true, true_and, and_self]
  refine iff_of_eq (congrArg post ?_)
  simp only [nq_b, nq_fit, nq_isE, nq_isC]
  rcases Bool.eq_false_or_eq_true (nq_sub t) with h | h <;> rcases Bool.eq_false_or_eq_true (nq_col t) with h2 | h2
  · exfalso
    unfold nq_sub at h
    unfold nq_col at h2
    rw [decide_eq_true_eq] at h h2
    omega
  · have h3 : ¬ ((41 ≤ t ∧ t ≤ 59) ∨ (70 ≤ t ∧ t ≤ 76)) := by
      unfold nq_sub at h
      rw [decide_eq_true_eq] at h
      omega
    have h4 : ¬ (80 ≤ t ∧ t ≤ 87) := by
      unfold nq_sub at h
      rw [decide_eq_true_eq] at h
      omega
    simp only [h, h2, h3, h4, reduceCtorEq, if_true, if_false, false_and, true_and, or_false, false_or, Bool.true_or, Bool.or_true, Bool.false_or, decide_false, decide_eq_false_iff_not, decide_eq_true_eq]
    repeat' split
    all_goals first | rfl | (exfalso; simp_all; done) | (exfalso; simp_all; omega)
  · simp only [h, h2, reduceCtorEq, if_true, if_false, false_and, true_and, or_false, Bool.true_or, Bool.or_true, Bool.or_false, Bool.false_or, decide_eq_false_iff_not, decide_eq_true_eq]
    have h3 : t ≤ 32 := by
      unfold nq_col at h2
      rw [decide_eq_true_eq] at h2
      exact h2.1
    repeat' split
    all_goals first | rfl | (exfalso; simp_all; done) | (exfalso; simp_all; omega)
  · simp only [h, h2, reduceCtorEq, if_true, if_false, false_and, true_and, or_false, Bool.true_or, Bool.or_true, Bool.or_false, Bool.false_or, decide_eq_false_iff_not, decide_eq_true_eq]
    repeat' split
    all_goals first | rfl | (exfalso; simp_all; done) | (exfalso; simp only [decide_eq_true_eq] at *; omega)
theorem nq_negl {x : Int32} {b : Nat} (h : x < 0) (hb : b < 2147483648) : x < nI b := Int32.lt_of_lt_of_le h (nI_pos' hb)
theorem nq_xFitN {post : Int32 → Prop} {p w : Nat} {x : Int32} (hx : x < 0) : wpX_fits post (nI p) x (nI w) ↔ post 0 := by
  have l90 : x < 90 := nq_negl (b := 90) hx (by decide)
  have l100 : x < 100 := nq_negl (b := 100) hx (by decide)
  have l41 : x < 41 := nq_negl (b := 41) hx (by decide)
  have l70 : x < 70 := nq_negl (b := 70) hx (by decide)
  have l80 : x < 80 := nq_negl (b := 80) hx (by decide)
  simp only [wpX_fits, wX_fits_11, wX_fits_30, wX_fits_99, wpX_isColumn, wpX_isSubquery, wX_isSubquery_12, hx, l90, l100, l41, l70, l80, forall_eq, not_true_eq_false, not_false_eq_true, true_implies, false_implies, implies_true, and_true, true_and, and_self]
  by_cases h1 : nI w &&& 2 = 0 <;> by_cases h2 : nI w &&& 1 = 0 <;> simp only [h1, h2, forall_eq, not_true_eq_false, not_false_eq_true, true_implies, false_implies, implies_true, and_true, true_and, and_self]
theorem nq_yMayN {post : Int32 → Prop} {p w : Nat} {x : Int32} {r : List Nat} (hx : x < 0) (hr : r.length < 64) : wpY_mayCome post (src, dis, (nI (r.length + 1)), sbt, sbr, dep, mny, mor, grs, fnd, kpt, yRo, yCe, yTo, yIl, ySz, yTk, yIn, yEn, ySu, yWc, yWi, yHa, ySk, yCo, yLo, yGo, yFi, yRe, ySo, yAn) (nI p) x ↔ post 0 := by
  have i1 : vp_in (nI r.length) 64 := vp_in_nI (by omega) (by decide)
  have l90 : x < 90 := nq_negl (b := 90) hx (by decide)
  have l100 : x < 100 := nq_negl (b := 100) hx (by decide)
  have l41 : x < 41 := nq_negl (b := 41) hx (by decide)
  have l70 : x < 70 := nq_negl (b := 70) hx (by decide)
  have l80 : x < 80 := nq_negl (b := 80) hx (by decide)
  simp only [wpY_mayCome, nI_pred, i1, wpY_isExpression, wY_isExpression_20, wpY_isCondition, wY_isCondition_12, wpY_isColumn, wpY_isSubquery, wY_isSubquery_12, wpY_isMatch, hx, l90, l100, l41, l70, l80, forall_eq, not_true_eq_false, not_false_eq_true, true_implies, false_implies, implies_true, and_true, true_and, and_self]
  by_cases h1 : yWc (nI r.length).toNatClampNeg = 0 <;> simp only [h1, forall_eq, not_true_eq_false, not_false_eq_true, true_implies, false_implies, implies_true, and_true, true_and, and_self]
theorem nq_ws_c {p : Nat} {t t' : Nat → Nat} : ∀ k, (∀ j, j < k → t' (20 * p + j) = t (20 * p + j)) → nq_ws p t' k = nq_ws p t k
  | 0, _ => rfl
  | k + 1, h => by
    have := nq_ws_c k fun j hj => h j (by omega)
    simp only [nq_ws, this, h k (by omega)]
theorem nq_tt_a {x : Nat} (hn : ∀ q, q < 10 → n q ≤ 20) (hp : p < 10) (hn2 : n p < 20) (h : nq_TT n t Tn Tk) : nq_TT (nq_un n p (n p + 1)) (nq_un t (20 * p + n p) x) (upd Tn p (nI (n p) + 1)) (upd Tk (20 * p + n p) (nI x)) := by
  intro q hq
  have hnq := hn q hq
  simp only [nq_un, upd]
  by_cases e : q = p
  · simp only [e, if_true]
    refine ⟨nI_1 _, fun k hk => ?_⟩
    by_cases e2 : k = n p
    · simp only [e2, if_true]
    · have e3 : ¬ (20 * p + k = 20 * p + n p) := by omega
      simp only [e3, if_false]
      exact (h p hp).2 k (by omega)
  · simp only [e, if_false]
    refine ⟨(h q hq).1, fun k hk => ?_⟩
    have e3 : ¬ (20 * q + k = 20 * p + n p) := by omega
    simp only [e3, if_false]
    exact (h q hq).2 k hk
theorem nq_wf_a {x w : Nat} {r : List Nat} (hp : p < 10) (hn2 : n p < 20) (h : nq_WF n t) (hw : nq_ws p t (n p) = w :: r) (hf : nq_fit p x w = true) : nq_WF (nq_un n p (n p + 1)) (nq_un t (20 * p + n p) x) := by
  intro q hq
  have hnq := (h q hq).1
  by_cases e : q = p
  · subst e
    simp only [nq_un, if_true]
    refine ⟨by omega, fun k hk => ?_⟩
    have ew : nq_ws q (nq_un t (20 * q + n q) x) k = nq_ws q t k := nq_ws_c k fun j hj => if_neg (by omega)
    rw [ew]
    by_cases e2 : k = n q
    · subst e2
      simp only [if_true]
      exact ⟨w, r, hw, hf⟩
    · have e3 : ¬ (20 * q + k = 20 * q + n q) := by omega
      simp only [e3, if_false]
      exact (h q hq).2 k (by omega)
  · simp only [nq_un, e, if_false]
    refine ⟨hnq, fun k hk => ?_⟩
    have ew : nq_ws q (nq_un t (20 * p + n p) x) k = nq_ws q t k := nq_ws_c k fun j hj => if_neg (by omega)
    rw [ew]
    have e3 : ¬ (20 * q + k = 20 * p + n p) := by omega
    simp only [e3, if_false]
    exact (h q hq).2 k hk
theorem i_vc_feed {k : Nat} {u : SX} {v : SY} (I : i_Rel k u v) (hk : k + 5 ≤ 2560) (v1 : Int32) (v2 : Int32) : wpX_feed (fun r u' => wpY_feed (fun r' v' => r' = r ∧ i_Rel (k + 5) u' v') v v1 v2) u v1 v2 := by
  obtain ⟨sc, od, nc, tp, cc, gc, ac, Ce, Rc, St, Jl, Tk, Tn, Su, Ne, Ha, Sk, Cb, Jd, Va, Go, Fm, An, Ov⟩ := u
  obtain ⟨src, dis, opn, sbt, sbr, dep, mny, mor, grs, fnd, kpt, yRo, yCe, yTo, yIl, ySz, yTk, yIn, yEn, ySu, yWc, yWi, yHa, ySk, yCo, yLo, yGo, yFi, yRe, ySo, yAn⟩ := v
  have I0 := I
  obtain ⟨s, m, rw, tb, su, n, t, cv, av, hs, hm, hc, hr, ht, hl, hu, ⟨hT1, hT2, hT3, hT4⟩, ha⟩ := I
  subst hT1 hT2
  by_cases h1 : v1 < 0 ∨ nI 10 ≤ v1
  · simp only [wpX_feed, wpY_feed, nq_xp0 h1, forall_eq, not_true_eq_false, not_false_eq_true, true_implies, false_implies, implies_true, and_true, true_and, and_self]
    rcases h1 with h1 | h1
    · simp only [h1, forall_eq, not_true_eq_false, not_false_eq_true, true_implies, false_implies, implies_true, and_true, true_and, and_self]
      exact I0
    · have e1 : ¬ v1 < 0 := nq_nonneg h1 (by decide)
      have e2 : ¬ v1 ≤ 9 := nq_nle (a := 9) h1 (by decide) (by decide)
      simp only [e1, e2, forall_eq, not_true_eq_false, not_false_eq_true, true_implies, false_implies, implies_true, and_true, true_and, and_self]
      exact I0
  obtain ⟨p, hp, rfl⟩ := nq_10 h1
  have e1 : ¬ nI p < 0 := nI_pos (by omega)
  have e2 : nI p ≤ 9 := nI_le (b := 9) (by omega) (by decide)
  have cp : (nI p).toNatClampNeg = p := nI_clamp (by omega)
  have vp : vp_in (nI p) 10 := vp_in_nI hp (by decide)
  have nt : ¬ (1 : Int32) = 0 := by decide
  have hn := (hT4 p hp).1
  have hl1 := nq_wsI hT4 hp (n p) (Nat.le_refl _)
  simp only [wpX_feed, wpY_feed, nq_xp1 hp, nt, e1, e2, cp, vp, (hT3 p hp).1, forall_eq, not_true_eq_false, not_false_eq_true, true_implies, false_implies, implies_true, and_true, true_and, and_self]
  refine nq_xOpen hT3 hT4 hp ?_
  cases hw : nq_ws p t (n p) with
  | nil =>
    simp only [List.length_nil, nI_0, forall_eq, not_true_eq_false, not_false_eq_true, true_implies, false_implies, implies_true, and_true, true_and, and_self]
    refine nq_yScan hT3 hT4 hp fun yIn' yWc' yWi' hS' _ _ => ?_
    simp only [hw, List.length_nil, nI_0, forall_eq, not_true_eq_false, not_false_eq_true, true_implies, false_implies, implies_true, and_true, true_and, and_self]
    exact I0
  | cons w r =>
    rw [hw] at hl1
    have w4 := hl1.2 w List.mem_cons_self
    have lr : r.length ≤ 2 * n p := by have := hl1.1; rw [List.length_cons] at this; omega
    have o1 : ¬ nI (r.length + 1) = 0 := nI_ne0 (by omega) (by omega)
    simp only [List.length_cons, o1, forall_eq, not_true_eq_false, not_false_eq_true, true_implies, false_implies, implies_true, and_true, true_and, and_self]
    by_cases h20 : n p = 20
    · have x20 : ¬ nI (n p) < 20 := by rw [h20]; decide
      simp only [x20, forall_eq, not_true_eq_false, not_false_eq_true, true_implies, false_implies, implies_true, and_true, true_and, and_self]
      refine nq_yScan hT3 hT4 hp fun yIn' yWc' yWi' hS' _ _ => ?_
      have y20 : nI (n p) = 20 := by rw [h20]; rfl
      simp only [hw, List.length_cons, o1, cp, vp, (hT3 p hp).1, y20, forall_eq, not_true_eq_false, not_false_eq_true, true_implies, false_implies, implies_true, and_true, true_and, and_self]
      exact I0
    · have x20 : nI (n p) < 20 := nI_lt (b := 20) (by omega) (by decide)
      have y20 : ¬ nI (n p) = 20 := fun e => h20 ((nI_eq (b := 20) (by omega) (by decide)).mp e)
      simp only [x20, forall_eq, not_true_eq_false, not_false_eq_true, true_implies, false_implies, implies_true, and_true, true_and, and_self]
      refine nq_xNeed hT3 hT4 hp hw fun nc' Ne' => ?_
      by_cases hx : v2 < 0
      · simp only [nq_xFitN hx, forall_eq, not_true_eq_false, not_false_eq_true, true_implies, false_implies, implies_true, and_true, true_and, and_self]
        refine nq_yScan hT3 hT4 hp fun yIn' yWc' yWi' hS' _ _ => ?_
        simp only [hw, List.length_cons, o1, cp, vp, (hT3 p hp).1, y20, nq_yMayN (w := w) hx (show r.length < 64 by omega), forall_eq, not_true_eq_false, not_false_eq_true, true_implies, false_implies, implies_true, and_true, true_and, and_self]
        exact I0
      · obtain ⟨x, hx2, rfl⟩ := nI_of hx
        simp only [nq_xFit hp hx2 w4, nq_b0]
        rcases Bool.eq_false_or_eq_true (nq_fit p x w) with hf | hf
        · have x0 : nI p * 20 + nI (n p) = nI (20 * p + n p) := by
            simp only [nq_i20, pk_mul, nI_add]
            exact congrArg nI (by omega)
          have x1 : 20 * nI p + nI (n p) = nI (20 * p + n p) := by simp only [nq_i20, pk_mul, nI_add]
          have i0 : vp_in (nI (20 * p + n p)) 200 := vp_in_nI (by omega) (by decide)
          have c0 : (nI (20 * p + n p)).toNatClampNeg = 20 * p + n p := nI_clamp (by omega)
          simp only [hf, reduceCtorEq, x0, i0, c0, cp, vp, forall_eq, not_true_eq_false, not_false_eq_true, true_implies, false_implies, implies_true, and_true, true_and, and_self]
          refine nq_yScan hT3 hT4 hp fun yIn' yWc' yWi' hS' _ _ => ?_
          rw [hw] at hS'
          simp only [hw, List.length_cons, o1, cp, vp, (hT3 p hp).1, y20, nq_yMay hp hx2 w4 hS' (show r.length < 64 by omega), nq_b0, hf, reduceCtorEq, x1, i0, c0, pk_us, forall_eq, not_true_eq_false, not_false_eq_true, true_implies, false_implies, implies_true, and_true, true_and, and_self]
          exact ⟨s, m, rw, tb, su, _, _, cv, av, hs, hm, hc, hr, ht, hl, hu, ⟨rfl, rfl, nq_tt_a (fun q hq => (hT4 q hq).1) hp (by omega) hT3, nq_wf_a hp (by omega) hT4 hw hf⟩, ha⟩
        · simp only [hf, forall_eq, not_true_eq_false, not_false_eq_true, true_implies, false_implies, implies_true, and_true, true_and, and_self]
          refine nq_yScan hT3 hT4 hp fun yIn' yWc' yWi' hS' _ _ => ?_
          rw [hw] at hS'
          simp only [hw, List.length_cons, o1, cp, vp, (hT3 p hp).1, y20, nq_yMay hp hx2 w4 hS' (show r.length < 64 by omega), nq_b0, hf, forall_eq, not_true_eq_false, not_false_eq_true, true_implies, false_implies, implies_true, and_true, true_and, and_self]
          exact I0
theorem i_vc_state {k : Nat} {u : SX} {v : SY} (I : i_Rel k u v) (hk : k + 5 ≤ 2560) (v1 : Int32) : wpX_state (fun r => wpY_state (fun r' v' => r' = r ∧ i_Rel (k + 5) u v') v v1) u v1 := by
  obtain ⟨sc, od, nc, tp, cc, gc, ac, Ce, Rc, St, Jl, Tk, Tn, Su, Ne, Ha, Sk, Cb, Jd, Va, Go, Fm, An, Ov⟩ := u
  obtain ⟨src, dis, opn, sbt, sbr, dep, mny, mor, grs, fnd, kpt, yRo, yCe, yTo, yIl, ySz, yTk, yIn, yEn, ySu, yWc, yWi, yHa, ySk, yCo, yLo, yGo, yFi, yRe, ySo, yAn⟩ := v
  have I0 := I
  obtain ⟨s, m, rw, tb, su, n, t, cv, av, hs, hm, hc, hr, ht, hl, hu, ⟨hT1, hT2, hT3, hT4⟩, ha⟩ := I
  subst hT1 hT2
  by_cases h1 : v1 < 0 ∨ nI 10 ≤ v1
  · simp only [wpX_state, wpY_state, nq_xp0 h1, forall_eq, not_true_eq_false, not_false_eq_true, true_implies, false_implies, implies_true, and_true, true_and, and_self]
    rcases h1 with h1 | h1
    · simp only [h1, forall_eq, not_true_eq_false, not_false_eq_true, true_implies, false_implies, implies_true, and_true, true_and, and_self]
      exact I0
    · have e1 : ¬ v1 < 0 := nq_nonneg h1 (by decide)
      have e2 : ¬ v1 ≤ 9 := nq_nle (a := 9) h1 (by decide) (by decide)
      simp only [e1, e2, forall_eq, not_true_eq_false, not_false_eq_true, true_implies, false_implies, implies_true, and_true, true_and, and_self]
      exact I0
  obtain ⟨p, hp, rfl⟩ := nq_10 h1
  have e1 : ¬ nI p < 0 := nI_pos (by omega)
  have e2 : nI p ≤ 9 := nI_le (b := 9) (by omega) (by decide)
  have cp : (nI p).toNatClampNeg = p := nI_clamp (by omega)
  have vp : vp_in (nI p) 10 := vp_in_nI hp (by decide)
  have nt : ¬ (1 : Int32) = 0 := by decide
  have hn := (hT4 p hp).1
  have hl1 := nq_wsI hT4 hp (n p) (Nat.le_refl _)
  simp only [wpX_state, wpY_state, nq_xp1 hp, nt, e1, e2, cp, vp, (hT3 p hp).1, forall_eq, not_true_eq_false, not_false_eq_true, true_implies, false_implies, implies_true, and_true, true_and, and_self]
  by_cases h0 : n p = 0
  · have x0 : nI (n p) = 0 := by rw [h0]; rfl
    have hw : (nq_ws p t (n p)).length = 1 := by rw [h0]; rfl
    simp only [x0, forall_eq, not_true_eq_false, not_false_eq_true, true_implies, false_implies, implies_true, and_true, true_and, and_self]
    refine nq_yScan hT3 hT4 hp fun yIn' yWc' yWi' hS' _ _ => ?_
    simp only [hw, show ¬ nI 1 = 0 from by decide, vp, cp, (hT3 p hp).1, x0, forall_eq, not_true_eq_false, not_false_eq_true, true_implies, false_implies, implies_true, and_true, true_and, and_self]
    exact I0
  · have x0 : ¬ nI (n p) = 0 := nI_ne0 (by omega) (by omega)
    simp only [x0, forall_eq, not_true_eq_false, not_false_eq_true, true_implies, false_implies, implies_true, and_true, true_and, and_self]
    refine nq_xOpen hT3 hT4 hp ?_
    cases hw : nq_ws p t (n p) with
    | nil =>
      simp only [List.length_nil, nI_0, forall_eq, not_true_eq_false, not_false_eq_true, true_implies, false_implies, implies_true, and_true, true_and, and_self]
      refine nq_yScan hT3 hT4 hp fun yIn' yWc' yWi' hS' _ _ => ?_
      simp only [hw, List.length_nil, nI_0, forall_eq, not_true_eq_false, not_false_eq_true, true_implies, false_implies, implies_true, and_true, true_and, and_self]
      exact I0
    | cons w r =>
      rw [hw] at hl1
      have lr : r.length ≤ 2 * n p := by have := hl1.1; rw [List.length_cons] at this; omega
      have o1 : ¬ nI (r.length + 1) = 0 := nI_ne0 (by omega) (by omega)
      simp only [List.length_cons, o1, forall_eq, not_true_eq_false, not_false_eq_true, true_implies, false_implies, implies_true, and_true, true_and, and_self]
      refine nq_yScan hT3 hT4 hp fun yIn' yWc' yWi' hS' _ _ => ?_
      simp only [hw, List.length_cons, o1, cp, vp, (hT3 p hp).1, x0, forall_eq, not_true_eq_false, not_false_eq_true, true_implies, false_implies, implies_true, and_true, true_and, and_self]
      exact I0
end
