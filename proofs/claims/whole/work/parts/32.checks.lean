section
variable {sc od nc tp cc gc ac : Int32} {Ce Sk Va An Ov : Nat → Int64} {Rc St Jl Tk Tn Su Ne Ha Cb Jd Go Fm : Nat → Int32}
variable {src dis opn sbt sbr dep mny mor grs fnd kpt : Int32} {ySk yRe ySo yAn : Nat → Int64} {yRo yCe yTo yIl ySz yTk yIn yEn ySu yWc yWi yHa yCo yLo yGo yFi : Nat → Int32}
variable {n t : Nat → Nat} {p : Nat} {cv : Nat → nq_V} {rw tb su : Nat → Nat}
theorem nq_xUnf {post : Int32 → Prop} (hT : nq_TT n t Tn Tk) (hW : nq_WF n t) (H1 : ¬ nq_Full n t → post 1) (H0 : nq_Full n t → post 0) : wpX_hasUnfinishedPart post (sc, od, nc, tp, cc, gc, ac, Ce, Rc, St, Jl, Tk, Tn, Su, Ne, Ha, Sk, Cb, Jd, Va, Go, Fm, An, Ov) := by
  have key : ∀ f p, p ≤ 10 → 10 - p < f → (∀ q, q < p → 0 < n q → nq_ws q t (n q) = []) → wX_hasUnfinishedPart_2 post sc od nc tp cc gc ac Ce Rc St Jl Tk Tn Su Ne Ha Sk Cb Jd Va Go Fm An Ov f (nI p) := by
    intro f
    induction f with
    | zero => intro p _ h; omega
    | succ f ih =>
      intro p hp hf hQ
      rcases Nat.lt_or_ge p 10 with z | z
      · have z3 : ¬ 10 ≤ nI p := nI_ge (b := 10) z (by decide)
        have ip : vp_in (nI p) 10 := vp_in_nI z (by decide)
        have cp : (nI p).toNatClampNeg = p := nI_clamp (by omega)
        have hn := (hT p z).1
        have ln := (hW p z).1
        simp only [wX_hasUnfinishedPart_2, z3, ip, cp, hn, show (nI (n p) < (0 : Int32)) = ((n p) < 0) from propext (nI_ltI (b := 0) (by omega) (by decide)), show ((0 : Int32) < nI (n p)) = (0 < (n p)) from propext (nI_ltI (a := 0) (by decide) (by omega)), show (nI (n p) ≤ (0 : Int32)) = ((n p) ≤ 0) from propext (nI_leI (b := 0) (by omega) (by decide)), show ((0 : Int32) ≤ nI (n p)) = (0 ≤ (n p)) from propext (nI_leI (a := 0) (by decide) (by omega)), show (nI (n p) = (0 : Int32)) = ((n p) = 0) from propext (nI_eq (b := 0) (by omega) (by decide)), nI_1, forall_eq, not_true_eq_false, not_false_eq_true, true_implies, false_implies, implies_true, and_true, true_and, and_self]
        by_cases h0 : n p ≤ 0
        · refine br_t h0 ?_
          refine ih (p + 1) (by omega) (by omega) (fun q hq hn0 => ?_)
          by_cases e : q = p
          · subst e; omega
          · exact hQ q (by omega) hn0
        · refine br_f h0 ?_
          refine nq_xOpen hT hW z ?_
          cases hw : nq_ws p t (n p) with
          | nil =>
            simp only [List.length_nil, nI_0, show (0 : Int32) ≤ 0 from by decide, forall_eq, not_true_eq_false, not_false_eq_true, true_implies, false_implies, implies_true, and_true, true_and, and_self]
            refine ih (p + 1) (by omega) (by omega) (fun q hq hn0 => ?_)
            by_cases e : q = p
            · rw [e]; exact hw
            · exact hQ q (by omega) hn0
          | cons w r =>
            have hl := (nq_wsI hW z (n p) (Nat.le_refl _)).1
            rw [hw, List.length_cons] at hl
            have o1 : ¬ nI (r.length + 1) ≤ 0 := nI_nle (by omega) (by omega)
            simp only [List.length_cons, o1, forall_eq, not_true_eq_false, not_false_eq_true, true_implies, false_implies, implies_true, and_true, true_and, and_self]
            exact H1 (fun hF => by have := hF p z (by omega); rw [hw] at this; cases this)
      · have : p = 10 := by omega
        subst this
        simp only [wX_hasUnfinishedPart_2, show (10 : Int32) ≤ nI 10 from by decide, forall_eq, not_true_eq_false, not_false_eq_true, true_implies, false_implies, implies_true, and_true, true_and, and_self]
        exact H0 hQ
  exact ⟨_, key 11 0 (by omega) (by omega) (fun q hq => by omega)⟩
/-- does a part name a source that is missing? -/
def nq_mis (n t : Nat → Nat) (S p : Nat) : Prop := ∃ k, k < n p ∧ nq_col (t (20 * p + k)) = true ∧ t (20 * p + k) / 10 ≠ 3 ∧ S ≤ t (20 * p + k) / 10
theorem nq_col4 {t : Nat} (h : nq_col t = true) : t / 10 ≤ 3 := by
  unfold nq_col at h
  rw [decide_eq_true_eq] at h
  omega
theorem nq_xMis {post : Int32 → Prop} {S : Nat} (hS : S ≤ 3) (hT : nq_TT n t Tn Tk) (hW : nq_WF n t) (H1 : (∃ p, p < 10 ∧ nq_mis n t S p) → post 1) (H0 : (∀ p, p < 10 → ¬ nq_mis n t S p) → post 0) : wpX_namesMissingSource post ((nI S), od, nc, tp, cc, gc, ac, Ce, Rc, St, Jl, Tk, Tn, Su, Ne, Ha, Sk, Cb, Jd, Va, Go, Fm, An, Ov) := by
  have key : ∀ f p, p ≤ 10 → 10 - p < f → (∀ q, q < p → ¬ nq_mis n t S q) → wX_namesMissingSource_2 post (nI S) od nc tp cc gc ac Ce Rc St Jl Tk Tn Su Ne Ha Sk Cb Jd Va Go Fm An Ov f (nI p) := by
    intro f
    induction f with
    | zero => intro p _ h; omega
    | succ f ih =>
      intro p hp hf hQ
      rcases Nat.lt_or_ge p 10 with z | z
      · have z3 : ¬ 10 ≤ nI p := nI_ge (b := 10) z (by decide)
        have ip : vp_in (nI p) 10 := vp_in_nI z (by decide)
        have cp : (nI p).toNatClampNeg = p := nI_clamp (by omega)
        have hn := (hT p z).1
        have ln := (hW p z).1
        simp only [wX_namesMissingSource_2, z3, forall_eq, not_true_eq_false, not_false_eq_true, true_implies, false_implies, implies_true, and_true, true_and, and_self]
        have key2 : ∀ f2 k, k ≤ n p → n p - k < f2 → (∀ j, j < k → ¬ (nq_col (t (20 * p + j)) = true ∧ t (20 * p + j) / 10 ≠ 3 ∧ S ≤ t (20 * p + j) / 10)) → wX_namesMissingSource_10 post (wX_namesMissingSource_2 post (nI S) od nc tp cc gc ac Ce Rc St Jl Tk Tn Su Ne Ha Sk Cb Jd Va Go Fm An Ov f) (nI p) (nI S) od nc tp cc gc ac Ce Rc St Jl Tk Tn Su Ne Ha Sk Cb Jd Va Go Fm An Ov f2 (nI k) := by
          intro f2
          induction f2 with
          | zero => intro k _ h; omega
          | succ f2 ih2 =>
            intro k hk hf2 hJ
            rcases Nat.lt_or_ge k (n p) with y | y
            · have y3 : ¬ nI (n p) ≤ nI k := nI_ge y (by omega)
              have x0 : nI p * 20 + nI k = nI (20 * p + k) := by
                simp only [nq_i20, pk_mul, nI_add]
                exact congrArg nI (by omega)
              have i0 : vp_in (nI (20 * p + k)) 200 := vp_in_nI (by omega) (by decide)
              have c0 : (nI (20 * p + k)).toNatClampNeg = 20 * p + k := nI_clamp (by omega)
              have t153 := (nq_opS hW z y).2.2
              have tlt : t (20 * p + k) < 2147483648 := by omega
              simp only [wX_namesMissingSource_10, ip, cp, hn, y3, x0, i0, c0, (hT p z).2 k y, nq_tn0, nq_div tlt, nq_xCol tlt, nq_b0, show (nI (t (20 * p + k) / 10) < (3 : Int32)) = ((t (20 * p + k) / 10) < 3) from propext (nI_ltI (b := 3) (nq_d10 tlt) (by decide)), show ((3 : Int32) < nI (t (20 * p + k) / 10)) = (3 < (t (20 * p + k) / 10)) from propext (nI_ltI (a := 3) (by decide) (nq_d10 tlt)), show (nI (t (20 * p + k) / 10) ≤ (3 : Int32)) = ((t (20 * p + k) / 10) ≤ 3) from propext (nI_leI (b := 3) (nq_d10 tlt) (by decide)), show ((3 : Int32) ≤ nI (t (20 * p + k) / 10)) = (3 ≤ (t (20 * p + k) / 10)) from propext (nI_leI (a := 3) (by decide) (nq_d10 tlt)), show (nI (t (20 * p + k) / 10) = (3 : Int32)) = ((t (20 * p + k) / 10) = 3) from propext (nI_eq (b := 3) (nq_d10 tlt) (by decide)), show (nI (t (20 * p + k) / 10) < nI S) = (t (20 * p + k) / 10 < S) from propext (nI_ltI (nq_d10 tlt) (by omega)), nI_1, forall_eq, not_true_eq_false, not_false_eq_true, true_implies, false_implies, implies_true, and_true, true_and, and_self]
              have skip : ¬ (nq_col (t (20 * p + k)) = true ∧ t (20 * p + k) / 10 ≠ 3 ∧ S ≤ t (20 * p + k) / 10) → wX_namesMissingSource_10 post (wX_namesMissingSource_2 post (nI S) od nc tp cc gc ac Ce Rc St Jl Tk Tn Su Ne Ha Sk Cb Jd Va Go Fm An Ov f) (nI p) (nI S) od nc tp cc gc ac Ce Rc St Jl Tk Tn Su Ne Ha Sk Cb Jd Va Go Fm An Ov f2 (nI (k + 1)) := by
                intro hno
                refine ih2 (k + 1) (by omega) (by omega) (fun j hj => ?_)
                by_cases e : j = k
                · rw [e]; exact hno
                · exact hJ j (by omega)
              rcases Bool.eq_false_or_eq_true (nq_col (t (20 * p + k))) with hc | hc
              · refine br_f (by rw [hc]; decide) ?_
                by_cases e3 : t (20 * p + k) / 10 = 3
                · exact br_t e3 (skip (fun h => h.2.1 e3))
                · refine br_f e3 ?_
                  by_cases eS : t (20 * p + k) / 10 < S
                  · exact br_t eS (skip (fun h => by omega))
                  · exact br_f eS (H1 ⟨p, z, k, y, hc, e3, by omega⟩)
              · exact br_t hc (skip (fun h => by rw [hc] at h; exact absurd h.1 (by decide)))
            · have : k = n p := by omega
              subst this
              have y3 : nI (n p) ≤ nI (n p) := nI_le (Nat.le_refl _) (by omega)
              simp only [wX_namesMissingSource_10, ip, cp, hn, y3, nI_1, forall_eq, not_true_eq_false, not_false_eq_true, true_implies, false_implies, implies_true, and_true, true_and, and_self]
              refine ih (p + 1) (by omega) (by omega) (fun q hq hm => ?_)
              by_cases e : q = p
              · subst e
                obtain ⟨k, hk, h2⟩ := hm
                exact hJ k hk h2
              · exact hQ q (by omega) hm
        exact ⟨_, key2 (n p + 1) 0 (by omega) (by omega) (fun j hj => by omega)⟩
      · have : p = 10 := by omega
        subst this
        simp only [wX_namesMissingSource_2, show (10 : Int32) ≤ nI 10 from by decide, forall_eq, not_true_eq_false, not_false_eq_true, true_implies, false_implies, implies_true, and_true, true_and, and_self]
        exact H0 hQ
  exact ⟨_, key 11 0 (by omega) (by omega) (fun q hq => by omega)⟩
theorem nq_yMis {post : Int32 → Prop} {S : Nat} (hS : S ≤ 3) (hT : nq_TT n t ySz yTk) (hW : nq_WF n t) (hp : p < 10) (H1 : nq_mis n t S p → post 1) (H0 : ¬ nq_mis n t S p → post 0) : wpY_namesMissing post ((nI S), dis, opn, sbt, sbr, dep, mny, mor, grs, fnd, kpt, yRo, yCe, yTo, yIl, ySz, yTk, yIn, yEn, ySu, yWc, yWi, yHa, ySk, yCo, yLo, yGo, yFi, yRe, ySo, yAn) (nI p) := by
  have ip : vp_in (nI p) 10 := vp_in_nI hp (by decide)
  have cp : (nI p).toNatClampNeg = p := nI_clamp (by omega)
  have hn := (hT p hp).1
  have ln := (hW p hp).1
  have e20 : 20 * nI p = nI (20 * p) := by simp only [nq_i20, pk_mul]
  simp only [wpY_namesMissing, e20, forall_eq, not_true_eq_false, not_false_eq_true, true_implies, false_implies, implies_true, and_true, true_and, and_self]
  have key2 : ∀ f2 k, k ≤ n p → n p - k < f2 → (∀ j, j < k → ¬ (nq_col (t (20 * p + j)) = true ∧ t (20 * p + j) / 10 ≠ 3 ∧ S ≤ t (20 * p + j) / 10)) → wY_namesMissing_5 post (nI p) (nI S) dis opn sbt sbr dep mny mor grs fnd kpt yRo yCe yTo yIl ySz yTk yIn yEn ySu yWc yWi yHa ySk yCo yLo yGo yFi yRe ySo yAn f2 (nI (20 * p + k)) := by
    intro f2
    induction f2 with
    | zero => intro k _ h; omega
    | succ f2 ih2 =>
      intro k hk hf2 hJ
      rcases Nat.lt_or_ge k (n p) with y | y
      · have y3 : ¬ nI (20 * p + n p) ≤ nI (20 * p + k) := nI_ge (by omega) (by omega)
        have i0 : vp_in (nI (20 * p + k)) 200 := vp_in_nI (by omega) (by decide)
        have c0 : (nI (20 * p + k)).toNatClampNeg = 20 * p + k := nI_clamp (by omega)
        have t153 := (nq_opS hW hp y).2.2
        have tlt : t (20 * p + k) < 2147483648 := by omega
        have e1 : nI (20 * p + k) + 1 = nI (20 * p + (k + 1)) := nI_1 _
        simp only [wY_namesMissing_5, ip, cp, hn, e20, nI_add, y3, i0, c0, (hT p hp).2 k y, nq_tn0, nq_div tlt, nq_yCol tlt, nq_b0, show (nI (t (20 * p + k) / 10) < (3 : Int32)) = ((t (20 * p + k) / 10) < 3) from propext (nI_ltI (b := 3) (nq_d10 tlt) (by decide)), show ((3 : Int32) < nI (t (20 * p + k) / 10)) = (3 < (t (20 * p + k) / 10)) from propext (nI_ltI (a := 3) (by decide) (nq_d10 tlt)), show (nI (t (20 * p + k) / 10) ≤ (3 : Int32)) = ((t (20 * p + k) / 10) ≤ 3) from propext (nI_leI (b := 3) (nq_d10 tlt) (by decide)), show ((3 : Int32) ≤ nI (t (20 * p + k) / 10)) = (3 ≤ (t (20 * p + k) / 10)) from propext (nI_leI (a := 3) (by decide) (nq_d10 tlt)), show (nI (t (20 * p + k) / 10) = (3 : Int32)) = ((t (20 * p + k) / 10) = 3) from propext (nI_eq (b := 3) (nq_d10 tlt) (by decide)), show (nI (t (20 * p + k) / 10) < nI S) = (t (20 * p + k) / 10 < S) from propext (nI_ltI (nq_d10 tlt) (by omega)), e1, forall_eq, not_true_eq_false, not_false_eq_true, true_implies, false_implies, implies_true, and_true, true_and, and_self]
        have skip : ¬ (nq_col (t (20 * p + k)) = true ∧ t (20 * p + k) / 10 ≠ 3 ∧ S ≤ t (20 * p + k) / 10) → wY_namesMissing_5 post (nI p) (nI S) dis opn sbt sbr dep mny mor grs fnd kpt yRo yCe yTo yIl ySz yTk yIn yEn ySu yWc yWi yHa ySk yCo yLo yGo yFi yRe ySo yAn f2 (nI (20 * p + (k + 1))) := by
          intro hno
          refine ih2 (k + 1) (by omega) (by omega) (fun j hj => ?_)
          by_cases e : j = k
          · rw [e]; exact hno
          · exact hJ j (by omega)
        rcases Bool.eq_false_or_eq_true (nq_col (t (20 * p + k))) with hc | hc
        · refine br_f (by rw [hc]; decide) ?_
          have c4 := nq_col4 hc
          by_cases e3 : 3 ≤ t (20 * p + k) / 10
          · exact br_t e3 (skip (fun h => h.2.1 (by omega)))
          · refine br_f e3 ?_
            by_cases eS : t (20 * p + k) / 10 < S
            · exact br_t eS (skip (fun h => by omega))
            · exact br_f eS (H1 ⟨k, y, hc, by omega, by omega⟩)
        · exact br_t hc (skip (fun h => by rw [hc] at h; exact absurd h.1 (by decide)))
      · have : k = n p := by omega
        subst this
        have y3 : nI (20 * p + n p) ≤ nI (20 * p + n p) := nI_le (Nat.le_refl _) (by omega)
        simp only [wY_namesMissing_5, ip, cp, hn, e20, nI_add, y3, forall_eq, not_true_eq_false, not_false_eq_true, true_implies, false_implies, implies_true, and_true, true_and, and_self]
        exact H0 (fun hm => by
          obtain ⟨k, hk, h2⟩ := hm
          exact hJ k hk h2)
  exact ⟨_, key2 (n p + 1) 0 (by omega) (by omega) (fun j hj => by omega)⟩
theorem nq_yState {post : Int32 → SY → Prop} (hT : nq_TT n t ySz yTk) (hW : nq_WF n t) (hp : p < 10) (H : ∀ opn' yIn' yWc' yWi', post (if n p = 0 then 0 else if nq_ws p t (n p) = [] then 1 else -1) (src, dis, opn', sbt, sbr, dep, mny, mor, grs, fnd, kpt, yRo, yCe, yTo, yIl, ySz, yTk, yIn', yEn, ySu, yWc', yWi', yHa, ySk, yCo, yLo, yGo, yFi, yRe, ySo, yAn)) : wpY_state post (src, dis, opn, sbt, sbr, dep, mny, mor, grs, fnd, kpt, yRo, yCe, yTo, yIl, ySz, yTk, yIn, yEn, ySu, yWc, yWi, yHa, ySk, yCo, yLo, yGo, yFi, yRe, ySo, yAn) (nI p) := by
  have e1 : ¬ nI p < 0 := nI_pos (by omega)
  have e2 : nI p ≤ 9 := nI_le (b := 9) (by omega) (by decide)
  have cp : (nI p).toNatClampNeg = p := nI_clamp (by omega)
  have vp : vp_in (nI p) 10 := vp_in_nI hp (by decide)
  have hn := (hW p hp).1
  have hl1 := nq_wsI hW hp (n p) (Nat.le_refl _)
  simp only [wpY_state, e1, e2, forall_eq, not_true_eq_false, not_false_eq_true, true_implies, false_implies, implies_true, and_true, true_and, and_self]
  refine nq_yScan hT hW hp fun yIn' yWc' yWi' hS' _ _ => ?_
  have HH := fun o => H o yIn' yWc' yWi'
  by_cases h0 : n p = 0
  · have x0 : nI (n p) = 0 := by rw [h0]; rfl
    have hw : (nq_ws p t (n p)).length = 1 := by rw [h0]; rfl
    simp only [h0, if_true] at HH
    simp only [hw, show ¬ nI 1 = 0 from by decide, vp, cp, (hT p hp).1, x0, forall_eq, not_true_eq_false, not_false_eq_true, true_implies, false_implies, implies_true, and_true, true_and, and_self]
    exact HH _
  · have x0 : ¬ nI (n p) = 0 := nI_ne0 (by omega) (by omega)
    simp only [h0, if_false] at HH
    cases hw : nq_ws p t (n p) with
    | nil =>
      simp only [hw, if_true] at HH
      simp only [List.length_nil, nI_0, forall_eq, not_true_eq_false, not_false_eq_true, true_implies, false_implies, implies_true, and_true, true_and, and_self]
      exact HH _
    | cons w r =>
      rw [hw] at hl1
      have lr : r.length ≤ 2 * n p := by have := hl1.1; rw [List.length_cons] at this; omega
      have o1 : ¬ nI (r.length + 1) = 0 := nI_ne0 (by omega) (by omega)
      simp only [hw, reduceCtorEq, if_false] at HH
      simp only [List.length_cons, o1, cp, vp, (hT p hp).1, x0, forall_eq, not_true_eq_false, not_false_eq_true, true_implies, false_implies, implies_true, and_true, true_and, and_self]
      exact HH _
/-- the reference's run up to the joins -/
theorem nq_yStart {post : Int32 → SY → Prop} {S : Nat} (hS : S ≤ 3) (hT : nq_TT n t ySz yTk) (hW : nq_WF n t)
    (HB : (¬ nq_Full n t ∨ ∃ p, p < 10 ∧ nq_mis n t S p) → ∀ opn' yIn' yWc' yWi', post (-2000) ((nI S), dis, opn', sbt, sbr, dep, mny, mor, grs, fnd, kpt, yRo, yCe, yTo, yIl, ySz, yTk, yIn', yEn, ySu, yWc', yWi', yHa, ySk, yCo, yLo, yGo, yFi, yRe, ySo, yAn))
    (HG : nq_Full n t → (∀ p, p < 10 → ¬ nq_mis n t S p) → ∀ opn' yIn' yWc' yWi' yEn', (∀ p, p < 10 → nq_In n t p yIn') → (∀ p, p < 10 → ∀ k, k < n p → yEn' (20 * p + k) = nI (nq_en p t k)) → wpY_combine (fun u => match u with | (src1, dis1, opn1, sbt1, sbr1, dep1, mny1, mor1, grs1, fnd1, kpt1, yRo1, yCe1, yTo1, yIl1, ySz1, yTk1, yIn1, yEn1, ySu1, yWc1, yWi1, yHa1, ySk1, yCo1, yLo1, yGo1, yFi1, yRe1, ySo1, yAn1) => wpY_group (fun u => match u with | (src2, dis2, opn2, sbt2, sbr2, dep2, mny2, mor2, grs2, fnd2, kpt2, yRo2, yCe2, yTo2, yIl2, ySz2, yTk2, yIn2, yEn2, ySu2, yWc2, yWi2, yHa2, ySk2, yCo2, yLo2, yGo2, yFi2, yRe2, ySo2, yAn2) => ∃ n97, wY_run_97 post n97 0 src2 dis2 opn2 sbt2 sbr2 dep2 mny2 mor2 grs2 0 kpt2 yRo2 yCe2 yTo2 yIl2 ySz2 yTk2 yIn2 yEn2 ySu2 yWc2 yWi2 yHa2 ySk2 yCo2 yLo2 yGo2 yFi2 yRe2 ySo2 yAn2) (src1, dis1, opn1, sbt1, sbr1, dep1, mny1, mor1, grs1, fnd1, kpt1, yRo1, yCe1, yTo1, yIl1, ySz1, yTk1, yIn1, yEn1, ySu1, yWc1, yWi1, yHa1, ySk1, yCo1, yLo1, yGo1, yFi1, yRe1, ySo1, yAn1)) ((nI S), dis, opn', sbt, sbr, dep, mny, mor, grs, fnd, kpt, yRo, yCe, yTo, yIl, ySz, yTk, yIn', yEn', ySu, yWc', yWi', yHa, ySk, yCo, yLo, yGo, yFi, yRe, ySo, yAn)) :
    ∃ f, wY_run_13 post f 0 (nI S) dis opn sbt sbr dep mny mor grs fnd kpt yRo yCe yTo yIl ySz yTk yIn yEn ySu yWc yWi yHa ySk yCo yLo yGo yFi yRe ySo yAn := by
  have key65 : nq_Full n t → (∀ p, p < 10 → ¬ nq_mis n t S p) → ∀ f p, p ≤ 10 → 10 - p < f → ∀ opn yIn yWc yWi yEn, (∀ q, q < p → nq_In n t q yIn) → (∀ q, q < p → ∀ k, k < n q → yEn (20 * q + k) = nI (nq_en q t k)) → wY_run_65 post f (nI p) (nI S) dis opn sbt sbr dep mny mor grs fnd kpt yRo yCe yTo yIl ySz yTk yIn yEn ySu yWc yWi yHa ySk yCo yLo yGo yFi yRe ySo yAn := by
    intro hF hM f
    induction f with
    | zero => intro p _ h; omega
    | succ f ih =>
      intro p hp hf opn yIn yWc yWi yEn h1 h2
      rcases Nat.lt_or_ge p 10 with z | z
      · have z3 : ¬ 10 ≤ nI p := nI_ge (b := 10) z (by decide)
        simp only [wY_run_65, z3, nI_1, forall_eq, not_true_eq_false, not_false_eq_true, true_implies, false_implies, implies_true, and_true, true_and, and_self]
        refine nq_yMark hT hW z (hF p z) fun opn' yIn' yWc' yWi' yEn' a1 a2 a3 a4 => ?_
        refine ih (p + 1) (by omega) (by omega) opn' yIn' yWc' yWi' yEn' (fun q hq => ?_) (fun q hq => ?_)
        · by_cases e : q = p
          · rw [e]; exact a1
          · intro i hi w r hw
            have := (hW q (by omega)).1
            rw [a2 _ (by omega)]
            exact h1 q (by omega) i hi w r hw
        · by_cases e : q = p
          · rw [e]; exact a3
          · intro k hk
            have := (hW q (by omega)).1
            rw [a4 _ (by omega)]
            exact h2 q (by omega) k hk
      · have : p = 10 := by omega
        subst this
        simp only [wY_run_65, show (10 : Int32) ≤ nI 10 from by decide, forall_eq, not_true_eq_false, not_false_eq_true, true_implies, false_implies, implies_true, and_true, true_and, and_self]
        exact HG hF hM _ _ _ _ _ h1 h2
  have key39 : nq_Full n t → ∀ opn yIn yWc yWi, ∀ f p, p ≤ 10 → 10 - p < f → (∀ q, q < p → ¬ nq_mis n t S q) → wY_run_39 post (nI S) dis opn sbt sbr dep mny mor grs fnd kpt yRo yCe yTo yIl ySz yTk yIn yEn ySu yWc yWi yHa ySk yCo yLo yGo yFi yRe ySo yAn f (nI p) := by
    intro hF opn yIn yWc yWi f
    induction f with
    | zero => intro p _ h; omega
    | succ f ih =>
      intro p hp hf hQ
      rcases Nat.lt_or_ge p 10 with z | z
      · have z3 : ¬ 10 ≤ nI p := nI_ge (b := 10) z (by decide)
        simp only [wY_run_39, z3, nI_1, forall_eq, not_true_eq_false, not_false_eq_true, true_implies, false_implies, implies_true, and_true, true_and, and_self]
        refine nq_yMis hS hT hW z (fun hm => ?_) (fun hm => ?_)
        · refine br_f (by decide) ?_
          exact HB (Or.inr ⟨p, z, hm⟩) _ _ _ _
        · refine br_t rfl ?_
          refine ih (p + 1) (by omega) (by omega) (fun q hq => ?_)
          by_cases e : q = p
          · rw [e]; exact hm
          · exact hQ q (by omega)
      · have : p = 10 := by omega
        subst this
        simp only [wY_run_39, show (10 : Int32) ≤ nI 10 from by decide, forall_eq, not_true_eq_false, not_false_eq_true, true_implies, false_implies, implies_true, and_true, true_and, and_self]
        exact ⟨_, key65 hF hQ 11 0 (by omega) (by omega) opn yIn yWc yWi yEn (fun q hq => by omega) (fun q hq => by omega)⟩
  have key13 : ∀ f p, p ≤ 10 → 10 - p < f → ∀ opn yIn yWc yWi, (∀ q, q < p → 0 < n q → nq_ws q t (n q) = []) → wY_run_13 post f (nI p) (nI S) dis opn sbt sbr dep mny mor grs fnd kpt yRo yCe yTo yIl ySz yTk yIn yEn ySu yWc yWi yHa ySk yCo yLo yGo yFi yRe ySo yAn := by
    intro f
    induction f with
    | zero => intro p _ h; omega
    | succ f ih =>
      intro p hp hf opn yIn yWc yWi hQ
      rcases Nat.lt_or_ge p 10 with z | z
      · have z3 : ¬ 10 ≤ nI p := nI_ge (b := 10) z (by decide)
        simp only [wY_run_13, z3, nI_1, forall_eq, not_true_eq_false, not_false_eq_true, true_implies, false_implies, implies_true, and_true, true_and, and_self]
        refine nq_yState hT hW z fun opn' yIn' yWc' yWi' => ?_
        by_cases h0 : n p = 0
        · rw [if_pos h0]
          refine br_t (by decide) ?_
          refine ih (p + 1) (by omega) (by omega) _ _ _ _ (fun q hq hn0 => ?_)
          by_cases e : q = p
          · subst e; omega
          · exact hQ q (by omega) hn0
        · rw [if_neg h0]
          by_cases hw : nq_ws p t (n p) = []
          · rw [if_pos hw]
            refine br_t (by decide) ?_
            refine ih (p + 1) (by omega) (by omega) _ _ _ _ (fun q hq hn0 => ?_)
            by_cases e : q = p
            · rw [e]; exact hw
            · exact hQ q (by omega) hn0
          · rw [if_neg hw]
            refine br_f (by decide) ?_
            exact HB (Or.inl (fun hF => hw (hF p z (by omega)))) _ _ _ _
      · have : p = 10 := by omega
        subst this
        simp only [wY_run_13, show (10 : Int32) ≤ nI 10 from by decide, forall_eq, not_true_eq_false, not_false_eq_true, true_implies, false_implies, implies_true, and_true, true_and, and_self]
        exact ⟨_, key39 hQ opn yIn yWc yWi 11 0 (by omega) (by omega) (fun q hq => by omega)⟩
  exact ⟨_, key13 11 0 (by omega) (by omega) opn yIn yWc yWi (fun q hq => by omega)⟩
end
