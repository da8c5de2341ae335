section
variable {sc od nc tp cc gc ac : Int32} {Ce Sk Va An Ov : Nat → Int64} {Rc St Jl Tk Tn Su Ne Ha Cb Jd Go Fm : Nat → Int32}
variable {src dis opn sbt sbr dep mny mor grs fnd kpt : Int32} {ySk yRe ySo yAn : Nat → Int64} {yRo yCe yTo yIl ySz yTk yIn yEn ySu yWc yWi yHa yCo yLo yGo yFi : Nat → Int32}
theorem i_vc_from {k : Nat} {u : SX} {v : SY} (I : i_Rel k u v) (hk : k + 5 ≤ 2560) (v1 : Int32) (v2 : Int32) : wpX_from (fun r u' => wpY_from (fun r' v' => r' = r ∧ i_Rel (k + 5) u' v') v v1 (lw_bz v2)) u v1 (lw_bz v2) := by
  obtain ⟨sc, od, nc, tp, cc, gc, ac, Ce, Rc, St, Jl, Tk, Tn, Su, Ne, Ha, Sk, Cb, Jd, Va, Go, Fm, An, Ov⟩ := u
  obtain ⟨src, dis, opn, sbt, sbr, dep, mny, mor, grs, fnd, kpt, yRo, yCe, yTo, yIl, ySz, yTk, yIn, yEn, ySu, yWc, yWi, yHa, ySk, yCo, yLo, yGo, yFi, yRe, ySo, yAn⟩ := v
  have I0 := I
  obtain ⟨s, m, rw, tb, su, n, t, cv, av, ⟨hs1, rfl, rfl, hs4⟩, hm, hc, hr, ⟨ht1, ht2⟩, hl, hu, hT, ha⟩ := I
  subst ht1 hl
  by_cases h1 : v1 < 0 ∨ nI 3 ≤ v1
  · simp only [wpX_from, wpY_from, nq_xt0 h1, nq_yt0 h1, forall_eq, not_true_eq_false, not_false_eq_true, true_implies, false_implies, implies_true, and_true, true_and, and_self, show ¬ (1 : Int32) = 0 from by decide]
    exact I0
  obtain ⟨j, hj, rfl⟩ := nq_3 h1
  by_cases h2 : s = 3
  · subst h2
    simp only [wpX_from, wpY_from, nq_xt1 hj, nq_yt1 hj, show nI 3 = 3 from rfl, show ¬ (3 : Int32) < 3 from by decide, forall_eq, not_true_eq_false, not_false_eq_true, true_implies, false_implies, implies_true, and_true, true_and, and_self, show ¬ (1 : Int32) = 0 from by decide]
    exact I0
  · have x3 : nI s < 3 := nI_lt (b := 3) (by omega) (by decide)
    have y3 : ¬ nI s = 3 := fun e => h2 ((nI_eq (a := s) (b := 3) (by omega) (by decide)).mp e)
    have vs : vp_in (nI s) 3 := vp_in_nI (by omega) (by decide)
    have cs : (nI s).toNatClampNeg = s := nI_clamp (by omega)
    simp only [wpX_from, wpY_from, nq_xt1 hj, nq_yt1 hj, x3, y3, vs, cs, nI_1, nI_pred, forall_eq, not_true_eq_false, not_false_eq_true, true_implies, false_implies, implies_true, and_true, true_and, and_self, show ¬ (1 : Int32) = 0 from by decide]
    refine ⟨s + 1, m, rw, nq_un tb s j, su, n, t, cv, av, ⟨by omega, rfl, rfl, hs4⟩, hm, hc, hr, ⟨rfl, fun i hi => ?_⟩, rfl, hu, hT, ha⟩
    simp only [nq_un, upd]
    by_cases e : i = s
    · simp only [e, if_true]
      exact ⟨hj, by trivial⟩
    · simp only [e, if_false]
      exact ht2 i hi
theorem nq_tt_e {n t : Nat → Nat} {p : Nat} (h : nq_TT n t Tn Tk) : nq_TT (nq_un n p 0) t (upd Tn p 0) Tk := by
  intro q hq
  simp only [nq_un, upd]
  by_cases e : q = p
  · simp only [e, if_true]
    exact ⟨by trivial, fun k hk => absurd hk (Nat.not_lt_zero k)⟩
  · simp only [e, if_false]
    exact h q hq
theorem nq_wf_e {n t : Nat → Nat} {p : Nat} (h : nq_WF n t) : nq_WF (nq_un n p 0) t := by
  intro q hq
  simp only [nq_un]
  by_cases e : q = p
  · simp only [e, if_true]
    exact ⟨by omega, fun k hk => absurd hk (Nat.not_lt_zero k)⟩
  · simp only [e, if_false]
    exact h q hq
theorem i_vc_erase {k : Nat} {u : SX} {v : SY} (I : i_Rel k u v) (hk : k + 5 ≤ 2560) (v1 : Int32) : wpX_erase (fun r u' => wpY_erase (fun r' v' => r' = r ∧ i_Rel (k + 5) u' v') v v1) u v1 := by
  obtain ⟨sc, od, nc, tp, cc, gc, ac, Ce, Rc, St, Jl, Tk, Tn, Su, Ne, Ha, Sk, Cb, Jd, Va, Go, Fm, An, Ov⟩ := u
  obtain ⟨src, dis, opn, sbt, sbr, dep, mny, mor, grs, fnd, kpt, yRo, yCe, yTo, yIl, ySz, yTk, yIn, yEn, ySu, yWc, yWi, yHa, ySk, yCo, yLo, yGo, yFi, yRe, ySo, yAn⟩ := v
  have I0 := I
  obtain ⟨s, m, rw, tb, su, n, t, cv, av, hs, hm, hc, hr, ht, hl, hu, ⟨hT1, hT2, hT3, hT4⟩, ha⟩ := I
  subst hT1
  by_cases h1 : v1 < 0 ∨ nI 10 ≤ v1
  · simp only [wpX_erase, wpY_erase, nq_xp0 h1, forall_eq, not_true_eq_false, not_false_eq_true, true_implies, false_implies, implies_true, and_true, true_and, and_self]
    rcases h1 with h1 | h1
    · simp only [h1, forall_eq, not_true_eq_false, not_false_eq_true, true_implies, false_implies, implies_true, and_true, true_and, and_self]
      exact I0
    · have e1 : ¬ v1 < 0 := nq_nonneg h1 (by decide)
      have e2 : ¬ v1 ≤ 9 := nq_nle (a := 9) h1 (by decide) (by decide)
      simp only [e1, e2, forall_eq, not_true_eq_false, not_false_eq_true, true_implies, false_implies, implies_true, and_true, true_and, and_self]
      exact I0
  obtain ⟨j, hj, rfl⟩ := nq_10 h1
  have e1 : ¬ nI j < 0 := nI_pos (by omega)
  have e2 : nI j ≤ 9 := nI_le (b := 9) (by omega) (by decide)
  have cj : (nI j).toNatClampNeg = j := nI_clamp (by omega)
  have vj : vp_in (nI j) 10 := vp_in_nI hj (by decide)
  simp only [wpX_erase, wpY_erase, nq_xp1 hj, e1, e2, cj, vj, forall_eq, not_true_eq_false, not_false_eq_true, true_implies, false_implies, implies_true, and_true, true_and, and_self, show ¬ (1 : Int32) = 0 from by decide]
  exact ⟨s, m, rw, tb, su, nq_un n j 0, t, cv, av, hs, hm, hc, hr, ht, hl, hu, ⟨rfl, hT2, nq_tt_e hT3, nq_wf_e hT4⟩, ha⟩
theorem i_vc_summary {k : Nat} {u : SX} {v : SY} (I : i_Rel k u v) (hk : k + 5 ≤ 2560) (v1 : Int32) (v2 : Int32) : wpX_summary (fun r u' => wpY_summary (fun r' v' => r' = r ∧ i_Rel (k + 5) u' v') v v1 v2) u v1 v2 := by
  obtain ⟨sc, od, nc, tp, cc, gc, ac, Ce, Rc, St, Jl, Tk, Tn, Su, Ne, Ha, Sk, Cb, Jd, Va, Go, Fm, An, Ov⟩ := u
  obtain ⟨src, dis, opn, sbt, sbr, dep, mny, mor, grs, fnd, kpt, yRo, yCe, yTo, yIl, ySz, yTk, yIn, yEn, ySu, yWc, yWi, yHa, ySk, yCo, yLo, yGo, yFi, yRe, ySo, yAn⟩ := v
  have I0 := I
  obtain ⟨s, m, rw, tb, su, n, t, cv, av, hs, hm, hc, hr, ht, hl, ⟨hu1, hu2⟩, hT, ha⟩ := I
  subst hu1
  by_cases h1 : v1 < 0 ∨ nI 3 ≤ v1
  · simp only [wpX_summary, wpY_summary, nq_xo0 h1, forall_eq, not_true_eq_false, not_false_eq_true, true_implies, false_implies, implies_true, and_true, true_and, and_self]
    rcases h1 with h1 | h1
    · simp only [h1, forall_eq, not_true_eq_false, not_false_eq_true, true_implies, false_implies, implies_true, and_true, true_and, and_self]
      exact I0
    · have e1 : ¬ v1 < 0 := nq_nonneg h1 (by decide)
      have e2 : 2 < v1 := nq_ltt (a := 2) h1 (by decide) (by decide)
      simp only [e1, e2, forall_eq, not_true_eq_false, not_false_eq_true, true_implies, false_implies, implies_true, and_true, true_and, and_self]
      exact I0
  obtain ⟨j, hj, rfl⟩ := nq_3 h1
  have e1 : ¬ nI j < 0 := nI_pos (by omega)
  have e2 : ¬ 2 < nI j := nI_nlt (a := 2) (by omega) (by decide)
  have cj : (nI j).toNatClampNeg = j := nI_clamp (by omega)
  have vj : vp_in (nI j) 3 := vp_in_nI hj (by decide)
  by_cases h2 : v2 < 0
  · simp only [wpX_summary, wpY_summary, nq_xo1 hj, e1, e2, h2, forall_eq, not_true_eq_false, not_false_eq_true, true_implies, false_implies, implies_true, and_true, true_and, and_self, show ¬ (1 : Int32) = 0 from by decide]
    exact I0
  obtain ⟨i, hi, rfl⟩ := nI_of h2
  by_cases h3 : i ≤ 5
  · have e3 : nI i ≤ 5 := nI_le (b := 5) h3 (by decide)
    simp only [wpX_summary, wpY_summary, nq_xo1 hj, e1, e2, h2, e3, cj, vj, forall_eq, not_true_eq_false, not_false_eq_true, true_implies, false_implies, implies_true, and_true, true_and, and_self, show ¬ (1 : Int32) = 0 from by decide]
    refine ⟨s, m, rw, tb, nq_un su j i, n, t, cv, av, hs, hm, hc, hr, ht, hl, ⟨rfl, fun i' hi' => ?_⟩, hT, ha⟩
    simp only [nq_un, upd]
    by_cases e : i' = j
    · simp only [e, if_true]
      exact ⟨h3, by trivial⟩
    · simp only [e, if_false]
      exact hu2 i' hi'
  · have e3 : ¬ nI i ≤ 5 := nI_ge (a := 5) (by omega) hi
    simp only [wpX_summary, wpY_summary, nq_xo1 hj, e1, e2, h2, e3, forall_eq, not_true_eq_false, not_false_eq_true, true_implies, false_implies, implies_true, and_true, true_and, and_self, show ¬ (1 : Int32) = 0 from by decide]
    exact I0
theorem nq_bzf (x : Int32) : fits .boolean (.int (lw_bz x)) = true := by
  rcases lw_bz_01 x with h | h <;> rw [h] <;> rfl
theorem i_vc_distinct {k : Nat} {u : SX} {v : SY} (I : i_Rel k u v) (hk : k + 5 ≤ 2560) (v1 : Int32) : wpX_distinct (fun r u' => wpY_distinct (fun r' v' => r' = r ∧ i_Rel (k + 5) u' v') v (lw_bz v1)) u (lw_bz v1) := by
  obtain ⟨sc, od, nc, tp, cc, gc, ac, Ce, Rc, St, Jl, Tk, Tn, Su, Ne, Ha, Sk, Cb, Jd, Va, Go, Fm, An, Ov⟩ := u
  obtain ⟨src, dis, opn, sbt, sbr, dep, mny, mor, grs, fnd, kpt, yRo, yCe, yTo, yIl, ySz, yTk, yIn, yEn, ySu, yWc, yWi, yHa, ySk, yCo, yLo, yGo, yFi, yRe, ySo, yAn⟩ := v
  obtain ⟨s, m, rw, tb, su, n, t, cv, av, ⟨hs1, hs2, hs3, hs4⟩, hm, hc, hr, ht, hl, hu, hT, ha⟩ := I
  subst hs4
  by_cases h : od = 0
  · simp only [wpX_distinct, wpY_distinct, lw_bz_n, nq_bzf, h, forall_eq, not_true_eq_false, not_false_eq_true, true_implies, false_implies, implies_true, and_true, true_and, and_self]
    exact ⟨s, m, rw, tb, su, n, t, cv, av, ⟨hs1, hs2, hs3, rfl⟩, hm, hc, hr, ht, hl, hu, hT, ha⟩
  · simp only [wpX_distinct, wpY_distinct, lw_bz_n, nq_bzf, h, forall_eq, not_true_eq_false, not_false_eq_true, true_implies, false_implies, implies_true, and_true, true_and, and_self]
    exact ⟨s, m, rw, tb, su, n, t, cv, av, ⟨hs1, hs2, hs3, rfl⟩, hm, hc, hr, ht, hl, hu, hT, ha⟩
theorem i_vc_size {k : Nat} {u : SX} {v : SY} (I : i_Rel k u v) (hk : k + 5 ≤ 2560) : wpX_size (fun r => wpY_size (fun r' => r' = r ∧ i_Rel (k + 5) u v) v) u := by
  obtain ⟨sc, od, nc, tp, cc, gc, ac, Ce, Rc, St, Jl, Tk, Tn, Su, Ne, Ha, Sk, Cb, Jd, Va, Go, Fm, An, Ov⟩ := u
  obtain ⟨src, dis, opn, sbt, sbr, dep, mny, mor, grs, fnd, kpt, yRo, yCe, yTo, yIl, ySz, yTk, yIn, yEn, ySu, yWc, yWi, yHa, ySk, yCo, yLo, yGo, yFi, yRe, ySo, yAn⟩ := v
  have I0 : i_Rel (k + 5) (sc, od, nc, tp, cc, gc, ac, Ce, Rc, St, Jl, Tk, Tn, Su, Ne, Ha, Sk, Cb, Jd, Va, Go, Fm, An, Ov) (src, dis, opn, sbt, sbr, dep, mny, mor, grs, fnd, kpt, yRo, yCe, yTo, yIl, ySz, yTk, yIn, yEn, ySu, yWc, yWi, yHa, ySk, yCo, yLo, yGo, yFi, yRe, ySo, yAn) := I
  obtain ⟨s, m, rw, tb, su, n, t, cv, av, hs, ⟨hm1, hm2, hm3, hm4⟩, hc, hr, ht, hl, hu, hT, ha⟩ := I
  exact ⟨hm3.trans hm2.symm, I0⟩
theorem nq_yshown {a : nq_V} {A : Int32 → Prop} : ((nq_f a = 1099511627776 → A 1000) ∧ (¬ nq_f a = 1099511627776 → A (nq_f a).toInt32)) ↔ A (nq_k a) := by
  cases a with
  | none => simp only [nq_f, nq_k, forall_eq, not_true_eq_false, not_false_eq_true, true_implies, false_implies, implies_true, and_true, true_and, and_self]
  | some x => simp only [nq_f, nq_k, nq_ne2, Int32.toInt32_toInt64, forall_eq, not_true_eq_false, not_false_eq_true, true_implies, false_implies, implies_true, and_true, true_and, and_self]
theorem i_vc_answer {k : Nat} {u : SX} {v : SY} (I : i_Rel k u v) (hk : k + 5 ≤ 2560) (v1 : Int32) (v2 : Int32) : wpX_answer (fun r => wpY_answer (fun r' => r' = r ∧ i_Rel (k + 5) u v) v v1 v2) u v1 v2 := by
  obtain ⟨sc, od, nc, tp, cc, gc, ac, Ce, Rc, St, Jl, Tk, Tn, Su, Ne, Ha, Sk, Cb, Jd, Va, Go, Fm, An, Ov⟩ := u
  obtain ⟨src, dis, opn, sbt, sbr, dep, mny, mor, grs, fnd, kpt, yRo, yCe, yTo, yIl, ySz, yTk, yIn, yEn, ySu, yWc, yWi, yHa, ySk, yCo, yLo, yGo, yFi, yRe, ySo, yAn⟩ := v
  have I0 : i_Rel (k + 5) (sc, od, nc, tp, cc, gc, ac, Ce, Rc, St, Jl, Tk, Tn, Su, Ne, Ha, Sk, Cb, Jd, Va, Go, Fm, An, Ov) (src, dis, opn, sbt, sbr, dep, mny, mor, grs, fnd, kpt, yRo, yCe, yTo, yIl, ySz, yTk, yIn, yEn, ySu, yWc, yWi, yHa, ySk, yCo, yLo, yGo, yFi, yRe, ySo, yAn) := I
  generalize i_Rel (k + 5) (sc, od, nc, tp, cc, gc, ac, Ce, Rc, St, Jl, Tk, Tn, Su, Ne, Ha, Sk, Cb, Jd, Va, Go, Fm, An, Ov) (src, dis, opn, sbt, sbr, dep, mny, mor, grs, fnd, kpt, yRo, yCe, yTo, yIl, ySz, yTk, yIn, yEn, ySu, yWc, yWi, yHa, ySk, yCo, yLo, yGo, yFi, yRe, ySo, yAn) = G at I0
  obtain ⟨s, m, rw, tb, su, n, t, cv, av, hs, ⟨hm1, hm2, hm3, hm4⟩, hc, hr, ht, hl, hu, hT, ha⟩ := I
  subst hm2 hm3
  by_cases h1 : v1 < 0
  · simp only [wpX_answer, wpY_answer, h1, forall_eq, not_true_eq_false, not_false_eq_true, true_implies, false_implies, implies_true, and_true, true_and, and_self]
    exact I0
  obtain ⟨i, hi, rfl⟩ := nI_of h1
  by_cases h2 : i < m
  · have e2 : ¬ nI m ≤ nI i := nI_ge h2 (by omega)
    by_cases h3 : v2 < 0 ∨ nI 3 ≤ v2
    · simp only [wpX_answer, wpY_answer, h1, e2, nq_xo0 h3, forall_eq, not_true_eq_false, not_false_eq_true, true_implies, false_implies, implies_true, and_true, true_and, and_self]
      rcases h3 with h3 | h3
      · simp only [h3, forall_eq, not_true_eq_false, not_false_eq_true, true_implies, false_implies, implies_true, and_true, true_and, and_self]
        exact I0
      · have e3 : ¬ v2 < 0 := nq_nonneg h3 (by decide)
        have e4 : ¬ v2 ≤ 2 := nq_nle (a := 2) h3 (by decide) (by decide)
        simp only [e3, e4, forall_eq, not_true_eq_false, not_false_eq_true, true_implies, false_implies, implies_true, and_true, true_and, and_self]
        exact I0
    · obtain ⟨j, hj, rfl⟩ := nq_3 h3
      have e3 : ¬ nI j < 0 := nI_pos (by omega)
      have e4 : nI j ≤ 2 := nI_le (b := 2) (by omega) (by decide)
      have x1 : nI i * 3 + nI j = nI (3 * i + j) := by
        simp only [nq_i3, pk_mul, nI_add]
        exact congrArg nI (by omega)
      have x2 : 3 * nI i + nI j = nI (3 * i + j) := by simp only [nq_i3, pk_mul, nI_add]
      have i0 : vp_in (nI (3 * i + j)) 648 := vp_in_nI (by omega) (by decide)
      have c0 : (nI (3 * i + j)).toNatClampNeg = 3 * i + j := nI_clamp (by omega)
      obtain ⟨a1, a2⟩ := ha (3 * i + j) (by omega)
      simp only [wpX_answer, wpY_answer, h1, e2, nq_xo1 hj, e3, e4, x1, x2, i0, c0, a1, a2, nq_xshown, forall_eq, not_true_eq_false, not_false_eq_true, true_implies, false_implies, implies_true, and_true, true_and, and_self, show ¬ (1 : Int32) = 0 from by decide]
      exact (nq_yshown (A := fun r => r = nq_k (av (3 * i + j)) ∧ G)).mpr ⟨rfl, I0⟩
  · have e2 : nI m ≤ nI i := nI_le (by omega) hi
    simp only [wpX_answer, wpY_answer, h1, e2, forall_eq, not_true_eq_false, not_false_eq_true, true_implies, false_implies, implies_true, and_true, true_and, and_self]
    exact I0
/-- the digest's share of a value -/
def nq_0 : nq_V → Int32
  | none => 0
  | some x => x
theorem nq_xcounted {post : Int32 → Prop} {a : nq_V} : wpX_counted post (nq_e a) ↔ post (nq_0 a) := by
  cases a with
  | none => simp only [wpX_counted, nq_e, nq_0, forall_eq, not_true_eq_false, not_false_eq_true, true_implies, false_implies, implies_true, and_true, true_and, and_self]
  | some x => simp only [wpX_counted, nq_e, nq_0, nq_ne1, Int32.toInt32_toInt64, forall_eq, not_true_eq_false, not_false_eq_true, true_implies, false_implies, implies_true, and_true, true_and, and_self]
def nq_dg (av : Nat → nq_V) : Nat → Int32
  | 0 => 0
  | i + 1 => nq_dg av i + (nI i + 1) * (nq_0 (av (3 * i)) + 3 * nq_0 (av (3 * i + 1)) + 7 * nq_0 (av (3 * i + 2)))
theorem nq_xdg {post : Int32 → Prop} {av : Nat → nq_V} {m : Nat} (hm : m ≤ 216) (ha : ∀ j, j < 3 * m → An j = nq_e (av j)) (H : post (nq_dg av m)) : ∀ f i, i ≤ m → m - i < f → wX_digest_4 post sc od nc tp cc gc (nI m) Ce Rc St Jl Tk Tn Su Ne Ha Sk Cb Jd Va Go Fm An Ov f (nq_dg av i) (nI i) := by
  intro f
  induction f with
  | zero => intro q _ h; omega
  | succ f ih =>
    intro i hi hf
    rcases Nat.lt_or_ge i m with z | z
    · have z3 : ¬ nI m ≤ nI i := nI_ge z (by omega)
      have x0 : nI i * 3 = nI (3 * i) := by
        simp only [nq_i3, pk_mul]
        exact congrArg nI (by omega)
      have x1 : nI (3 * i) + 1 = nI (3 * i + 1) := nI_add _ 1
      have x2 : nI (3 * i) + 2 = nI (3 * i + 2) := nI_add _ 2
      have i0 : vp_in (nI (3 * i)) 648 := vp_in_nI (by omega) (by decide)
      have i1 : vp_in (nI (3 * i + 1)) 648 := vp_in_nI (by omega) (by decide)
      have i2 : vp_in (nI (3 * i + 2)) 648 := vp_in_nI (by omega) (by decide)
      have c0 : (nI (3 * i)).toNatClampNeg = 3 * i := nI_clamp (by omega)
      have c1 : (nI (3 * i + 1)).toNatClampNeg = 3 * i + 1 := nI_clamp (by omega)
      have c2 : (nI (3 * i + 2)).toNatClampNeg = 3 * i + 2 := nI_clamp (by omega)
      simp only [wX_digest_4, z3, x0, x1, x2, i0, i1, i2, c0, c1, c2, ha (3 * i) (by omega), ha (3 * i + 1) (by omega), ha (3 * i + 2) (by omega), nq_xcounted, forall_eq, not_true_eq_false, not_false_eq_true, true_implies, false_implies, implies_true, and_true, true_and, and_self]
      have := ih (i + 1) (by omega) (by omega)
      rw [← nI_1] at this
      exact this
    · have : i = m := by omega
      subst this
      have z3 : nI i ≤ nI i := nI_le (Nat.le_refl _) (by omega)
      simp only [wX_digest_4, z3, forall_eq, not_true_eq_false, not_false_eq_true, true_implies, false_implies, implies_true, and_true, true_and, and_self]
      exact H
theorem nq_y51 {post : Int32 → Prop} {J4 J14 : Int32 → Int32 → Prop} {x1 x2 : Int32} {o : Nat} {z : Int32} (ho : o < 3) (H : J14 (x1 + (x2 + 1) * (if o = 0 then z else if o = 1 then 3 * z else 7 * z)) (nI (o + 1))) : wY_digest_51 post J4 J14 x1 x2 (nI o) z src dis opn sbt sbr dep mny mor grs fnd kpt yRo yCe yTo yIl ySz yTk yIn yEn ySu yWc yWi yHa ySk yCo yLo yGo yFi yRe ySo yAn := by
  match o, ho with
  | 0, _ => simp only [wY_digest_51, show nI 0 = 0 from rfl, forall_eq, not_true_eq_false, not_false_eq_true, true_implies, false_implies, implies_true, and_true, true_and, and_self]; exact H
  | 1, _ => simp only [wY_digest_51, show nI 1 = 1 from rfl, show ¬ (1 : Int32) = 0 from by decide, forall_eq, not_true_eq_false, not_false_eq_true, true_implies, false_implies, implies_true, and_true, true_and, and_self]; exact H
  | 2, _ => simp only [wY_digest_51, show ¬ nI 2 = 0 from by decide, show ¬ nI 2 = 1 from by decide, forall_eq, not_true_eq_false, not_false_eq_true, true_implies, false_implies, implies_true, and_true, true_and, and_self]; exact H
theorem nq_y14 {post : Int32 → Prop} {J4 : Int32 → Int32 → Prop} {av : Nat → nq_V} {m i o f : Nat} {x : Int32} (hm : m ≤ 216) (hi : i < m) (ho : o < 3) (ha : ∀ j, j < 3 * m → yAn j = nq_f (av j)) (H : wY_digest_14 post J4 (nI i) src dis opn sbt sbr dep mny mor grs fnd kpt yRo yCe yTo yIl ySz yTk yIn yEn ySu yWc yWi yHa ySk yCo yLo yGo yFi yRe ySo yAn f (x + (nI i + 1) * (if o = 0 then nq_0 (av (3 * i + o)) else if o = 1 then 3 * nq_0 (av (3 * i + o)) else 7 * nq_0 (av (3 * i + o)))) (nI (o + 1))) : wY_digest_14 post J4 (nI i) src dis opn sbt sbr dep mny mor grs fnd kpt yRo yCe yTo yIl ySz yTk yIn yEn ySu yWc yWi yHa ySk yCo yLo yGo yFi yRe ySo yAn (f + 1) x (nI o) := by
  have z3 : ¬ 3 ≤ nI o := nI_ge (b := 3) ho (by decide)
  have x2 : 3 * nI i + nI o = nI (3 * i + o) := by simp only [nq_i3, pk_mul, nI_add]
  have i0 : vp_in (nI (3 * i + o)) 648 := vp_in_nI (by omega) (by decide)
  have c0 : (nI (3 * i + o)).toNatClampNeg = 3 * i + o := nI_clamp (by omega)
  simp only [wY_digest_14, z3, x2, i0, c0, ha (3 * i + o) (by omega), forall_eq, not_true_eq_false, not_false_eq_true, true_implies, false_implies, implies_true, and_true, true_and, and_self]
  generalize av (3 * i + o) = a at H
  cases a with
  | none =>
    simp only [nq_f, forall_eq, not_true_eq_false, not_false_eq_true, true_implies, false_implies, implies_true, and_true, true_and, and_self]
    exact nq_y51 ho H
  | some y =>
    simp only [nq_f, nq_ne2, Int32.toInt32_toInt64, forall_eq, not_true_eq_false, not_false_eq_true, true_implies, false_implies, implies_true, and_true, true_and, and_self]
    exact nq_y51 ho H
theorem nq_ydg {post : Int32 → Prop} {av : Nat → nq_V} {m : Nat} (hm : m ≤ 216) (ha : ∀ j, j < 3 * m → yAn j = nq_f (av j)) (H : post (nq_dg av m)) : ∀ f i, i ≤ m → m - i < f → wY_digest_4 post src dis opn sbt sbr dep mny mor grs fnd (nI m) yRo yCe yTo yIl ySz yTk yIn yEn ySu yWc yWi yHa ySk yCo yLo yGo yFi yRe ySo yAn f (nq_dg av i) (nI i) := by
  intro f
  induction f with
  | zero => intro q _ h; omega
  | succ f ih =>
    intro i hi hf
    rcases Nat.lt_or_ge i m with z | z
    · have z3 : ¬ nI m ≤ nI i := nI_ge z (by omega)
      simp only [wY_digest_4, z3, forall_eq, not_true_eq_false, not_false_eq_true, true_implies, false_implies, implies_true, and_true, true_and, and_self]
      refine ⟨4, nq_y14 (o := 0) (m := m) hm z (by omega) ha (nq_y14 (o := 1) (m := m) hm z (by omega) ha (nq_y14 (o := 2) (m := m) hm z (by omega) ha ?_))⟩
      simp only [wY_digest_14, show (3 : Int32) ≤ nI (2 + 1) from by decide, nI_1, forall_eq, not_true_eq_false, not_false_eq_true, true_implies, false_implies, implies_true, and_true, true_and, and_self]
      have := ih (i + 1) (by omega) (by omega)
      have e : nq_dg av (i + 1) = nq_dg av i + (nI i + 1) * (if 0 = 0 then nq_0 (av (3 * i + 0)) else if 0 = 1 then 3 * nq_0 (av (3 * i + 0)) else 7 * nq_0 (av (3 * i + 0))) + (nI i + 1) * (if 1 = 0 then nq_0 (av (3 * i + 1)) else if 1 = 1 then 3 * nq_0 (av (3 * i + 1)) else 7 * nq_0 (av (3 * i + 1))) + (nI i + 1) * (if 2 = 0 then nq_0 (av (3 * i + 2)) else if 2 = 1 then 3 * nq_0 (av (3 * i + 2)) else 7 * nq_0 (av (3 * i + 2))) := by
        simp only [nq_dg, if_true, show ¬ (1 = 0) from by decide, show ¬ (2 = 0) from by decide, show ¬ (2 = 1) from by decide, if_false, Nat.add_zero]
        grind
      rw [e, ← nI_1] at this
      rw [← nI_1]
      exact this
    · have : i = m := by omega
      subst this
      have z3 : nI i ≤ nI i := nI_le (Nat.le_refl _) (by omega)
      simp only [wY_digest_4, z3, forall_eq, not_true_eq_false, not_false_eq_true, true_implies, false_implies, implies_true, and_true, true_and, and_self]
      exact H
theorem i_vc_digest {k : Nat} {u : SX} {v : SY} (I : i_Rel k u v) (hk : k + 5 ≤ 2560) : wpX_digest (fun r => wpY_digest (fun r' => r' = r ∧ i_Rel (k + 5) u v) v) u := by
  obtain ⟨sc, od, nc, tp, cc, gc, ac, Ce, Rc, St, Jl, Tk, Tn, Su, Ne, Ha, Sk, Cb, Jd, Va, Go, Fm, An, Ov⟩ := u
  obtain ⟨src, dis, opn, sbt, sbr, dep, mny, mor, grs, fnd, kpt, yRo, yCe, yTo, yIl, ySz, yTk, yIn, yEn, ySu, yWc, yWi, yHa, ySk, yCo, yLo, yGo, yFi, yRe, ySo, yAn⟩ := v
  have I0 : i_Rel (k + 5) (sc, od, nc, tp, cc, gc, ac, Ce, Rc, St, Jl, Tk, Tn, Su, Ne, Ha, Sk, Cb, Jd, Va, Go, Fm, An, Ov) (src, dis, opn, sbt, sbr, dep, mny, mor, grs, fnd, kpt, yRo, yCe, yTo, yIl, ySz, yTk, yIn, yEn, ySu, yWc, yWi, yHa, ySk, yCo, yLo, yGo, yFi, yRe, ySo, yAn) := I
  generalize i_Rel (k + 5) (sc, od, nc, tp, cc, gc, ac, Ce, Rc, St, Jl, Tk, Tn, Su, Ne, Ha, Sk, Cb, Jd, Va, Go, Fm, An, Ov) (src, dis, opn, sbt, sbr, dep, mny, mor, grs, fnd, kpt, yRo, yCe, yTo, yIl, ySz, yTk, yIn, yEn, ySu, yWc, yWi, yHa, ySk, yCo, yLo, yGo, yFi, yRe, ySo, yAn) = G at I0
  obtain ⟨s, m, rw, tb, su, n, t, cv, av, hs, ⟨hm1, hm2, hm3, hm4⟩, hc, hr, ht, hl, hu, hT, ha⟩ := I
  subst hm2 hm3
  exact ⟨_, nq_xdg hm1 (fun j hj => (ha j hj).1) ⟨_, nq_ydg hm1 (fun j hj => (ha j hj).2) ⟨rfl, I0⟩ (m + 1) 0 (by omega) (by omega)⟩ (m + 1) 0 (by omega) (by omega)⟩
/-! clear -/
theorem nq_clr {f : Nat → Int32} {n : Nat} : ∃ g : Nat → Nat → Int32, g 0 = f ∧ (∀ i, g (i + 1) = upd (g i) i 0) ∧ ∀ i j, j < i → g i j = 0 := by
  refine ⟨fun i => Nat.rec f (fun i g => upd g i 0) i, rfl, fun i => rfl, fun i => ?_⟩
  induction i with
  | zero => intro j hj; omega
  | succ i ih =>
    intro j hj
    show upd _ i 0 j = 0
    by_cases e : j = i
    · rw [e, pk_us]
    · rw [pk_un e]
      exact ih j (by omega)
theorem nq_xc33 {post : SX → Prop} {g : Nat → Nat → Int32} (hg : ∀ i, g (i + 1) = upd (g i) i 0) (H : post (sc, od, nc, tp, cc, gc, ac, Ce, Rc, St, Jl, Tk, Tn, (g 3), Ne, Ha, Sk, Cb, Jd, Va, Go, Fm, An, Ov)) : ∀ f i, i ≤ 3 → 3 - i < f → wX_clear_33 post sc od nc tp cc gc ac f (nI i) Ce Rc St Jl Tk Tn (g i) Ne Ha Sk Cb Jd Va Go Fm An Ov := by
  intro f
  induction f with
  | zero => intro q _ h; omega
  | succ f ih =>
    intro i hi hf
    rcases Nat.lt_or_ge i 3 with z | z
    · have z3 : ¬ 3 ≤ nI i := nI_ge (b := 3) z (by decide)
      have i0 : vp_in (nI i) 3 := vp_in_nI z (by decide)
      have c0 : (nI i).toNatClampNeg = i := nI_clamp (by omega)
      simp only [wX_clear_33, z3, i0, c0, nI_1, ← hg, forall_eq, not_true_eq_false, not_false_eq_true, true_implies, false_implies, implies_true, and_true, true_and, and_self]
      exact ih (i + 1) (by omega) (by omega)
    · have : i = 3 := by omega
      subst this
      simp only [wX_clear_33, show (3 : Int32) ≤ nI 3 from by decide, forall_eq, not_true_eq_false, not_false_eq_true, true_implies, false_implies, implies_true, and_true, true_and, and_self]
      exact H
theorem nq_xc12 {post : SX → Prop} {g g2 : Nat → Nat → Int32} (hg : ∀ i, g (i + 1) = upd (g i) i 0) (hg2 : ∀ i, g2 (i + 1) = upd (g2 i) i 0) (H : post (sc, od, nc, tp, cc, gc, ac, Ce, Rc, St, Jl, Tk, (g 10), (g2 3), Ne, Ha, Sk, Cb, Jd, Va, Go, Fm, An, Ov)) : ∀ f i, i ≤ 10 → 10 - i < f → wX_clear_12 post sc od nc tp cc gc ac f (nI i) Ce Rc St Jl Tk (g i) (g2 0) Ne Ha Sk Cb Jd Va Go Fm An Ov := by
  intro f
  induction f with
  | zero => intro q _ h; omega
  | succ f ih =>
    intro i hi hf
    rcases Nat.lt_or_ge i 10 with z | z
    · have z3 : ¬ 10 ≤ nI i := nI_ge (b := 10) z (by decide)
      have i0 : vp_in (nI i) 10 := vp_in_nI z (by decide)
      have c0 : (nI i).toNatClampNeg = i := nI_clamp (by omega)
      simp only [wX_clear_12, z3, i0, c0, nI_1, ← hg, forall_eq, not_true_eq_false, not_false_eq_true, true_implies, false_implies, implies_true, and_true, true_and, and_self]
      exact ih (i + 1) (by omega) (by omega)
    · have : i = 10 := by omega
      subst this
      simp only [wX_clear_12, show (10 : Int32) ≤ nI 10 from by decide, forall_eq, not_true_eq_false, not_false_eq_true, true_implies, false_implies, implies_true, and_true, true_and, and_self]
      exact ⟨4, nq_xc33 hg2 H 4 0 (by omega) (by omega)⟩
theorem nq_yc33 {post : SY → Prop} {g : Nat → Nat → Int32} (hg : ∀ i, g (i + 1) = upd (g i) i 0) (H : post (src, dis, opn, sbt, sbr, dep, mny, mor, grs, fnd, kpt, yRo, yCe, yTo, yIl, ySz, yTk, yIn, yEn, (g 3), yWc, yWi, yHa, ySk, yCo, yLo, yGo, yFi, yRe, ySo, yAn)) : ∀ f i, i ≤ 3 → 3 - i < f → wY_clear_33 post src dis opn sbt sbr dep mny mor grs fnd kpt f (nI i) yRo yCe yTo yIl ySz yTk yIn yEn (g i) yWc yWi yHa ySk yCo yLo yGo yFi yRe ySo yAn := by
  intro f
  induction f with
  | zero => intro q _ h; omega
  | succ f ih =>
    intro i hi hf
    rcases Nat.lt_or_ge i 3 with z | z
    · have z3 : ¬ 3 ≤ nI i := nI_ge (b := 3) z (by decide)
      have i0 : vp_in (nI i) 3 := vp_in_nI z (by decide)
      have c0 : (nI i).toNatClampNeg = i := nI_clamp (by omega)
      simp only [wY_clear_33, z3, i0, c0, nI_1, ← hg, forall_eq, not_true_eq_false, not_false_eq_true, true_implies, false_implies, implies_true, and_true, true_and, and_self]
      exact ih (i + 1) (by omega) (by omega)
    · have : i = 3 := by omega
      subst this
      simp only [wY_clear_33, show (3 : Int32) ≤ nI 3 from by decide, forall_eq, not_true_eq_false, not_false_eq_true, true_implies, false_implies, implies_true, and_true, true_and, and_self]
      exact H
theorem nq_yc12 {post : SY → Prop} {g g2 : Nat → Nat → Int32} (hg : ∀ i, g (i + 1) = upd (g i) i 0) (hg2 : ∀ i, g2 (i + 1) = upd (g2 i) i 0) (H : post (src, dis, opn, sbt, sbr, dep, mny, mor, grs, fnd, kpt, yRo, yCe, yTo, yIl, (g 10), yTk, yIn, yEn, (g2 3), yWc, yWi, yHa, ySk, yCo, yLo, yGo, yFi, yRe, ySo, yAn)) : ∀ f i, i ≤ 10 → 10 - i < f → wY_clear_12 post src dis opn sbt sbr dep mny mor grs fnd kpt f (nI i) yRo yCe yTo yIl (g i) yTk yIn yEn (g2 0) yWc yWi yHa ySk yCo yLo yGo yFi yRe ySo yAn := by
  intro f
  induction f with
  | zero => intro q _ h; omega
  | succ f ih =>
    intro i hi hf
    rcases Nat.lt_or_ge i 10 with z | z
    · have z3 : ¬ 10 ≤ nI i := nI_ge (b := 10) z (by decide)
      have i0 : vp_in (nI i) 10 := vp_in_nI z (by decide)
      have c0 : (nI i).toNatClampNeg = i := nI_clamp (by omega)
      simp only [wY_clear_12, z3, i0, c0, nI_1, ← hg, forall_eq, not_true_eq_false, not_false_eq_true, true_implies, false_implies, implies_true, and_true, true_and, and_self]
      exact ih (i + 1) (by omega) (by omega)
    · have : i = 10 := by omega
      subst this
      simp only [wY_clear_12, show (10 : Int32) ≤ nI 10 from by decide, forall_eq, not_true_eq_false, not_false_eq_true, true_implies, false_implies, implies_true, and_true, true_and, and_self]
      exact ⟨4, nq_yc33 hg2 H 4 0 (by omega) (by omega)⟩
theorem i_vc_clear {k : Nat} {u : SX} {v : SY} (I : i_Rel k u v) (hk : k + 5 ≤ 2560) : wpX_clear (fun u' => wpY_clear (fun v' => i_Rel (k + 5) u' v') v) u := by
  obtain ⟨sc, od, nc, tp, cc, gc, ac, Ce, Rc, St, Jl, Tk, Tn, Su, Ne, Ha, Sk, Cb, Jd, Va, Go, Fm, An, Ov⟩ := u
  obtain ⟨src, dis, opn, sbt, sbr, dep, mny, mor, grs, fnd, kpt, yRo, yCe, yTo, yIl, ySz, yTk, yIn, yEn, ySu, yWc, yWi, yHa, ySk, yCo, yLo, yGo, yFi, yRe, ySo, yAn⟩ := v
  obtain ⟨s, m, rw, tb, su, n, t, cv, av, ⟨hs1, hs2, hs3, hs4⟩, hm, hc, hr, ht, hl, ⟨hu1, hu2⟩, ⟨hT1, hT2, hT3, hT4⟩, ha⟩ := I
  subst hu1 hT1
  obtain ⟨g, g0, gs, gz⟩ := nq_clr (f := Tn) (n := 10)
  obtain ⟨g2, g20, g2s, g2z⟩ := nq_clr (f := Su) (n := 3)
  subst g0 g20
  refine ⟨_, nq_xc12 gs g2s ?_ 11 0 (by omega) (by omega)⟩
  refine ⟨_, nq_yc12 gs g2s ?_ 11 0 (by omega) (by omega)⟩
  exact ⟨0, m, rw, tb, fun _ => 0, fun _ => 0, t, cv, av, ⟨by omega, rfl, rfl, rfl⟩, hm, hc, hr, ht, hl, ⟨rfl, fun i hi => ⟨Nat.zero_le _, g2z 3 i hi⟩⟩, ⟨rfl, hT2, fun p hp => ⟨gz 10 p hp, fun k hk => absurd hk (Nat.not_lt_zero k)⟩, fun p _ => ⟨Nat.zero_le _, fun k hk => absurd hk (Nat.not_lt_zero k)⟩⟩, ha⟩
end
