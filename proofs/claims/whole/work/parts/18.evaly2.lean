section
variable {sc od nc tp cc gc ac : Int32} {Ce Sk Va An Ov : Nat → Int64} {Rc St Jl Tk Tn Su Ne Ha Cb Jd Go Fm : Nat → Int32}
variable {src dis opn sbt sbr dep mny mor grs fnd kpt : Int32} {ySk yRe ySo yAn : Nat → Int64} {yRo yCe yTo yIl ySz yTk yIn yEn ySu yWc yWi yHa yCo yLo yGo yFi : Nat → Int32}
variable {n t : Nat → Nat} {p s e w0 : Nat} {r : List Nat} {cv : Nat → nq_V} {h hv : Nat → Option Nat} {rw tb : Nat → Nat}
theorem nq_HY3 {q : Nat} (hH : nq_HY yHa yTo tb h hv) : nq_HY yHa yTo tb h (nq_h3 hv q) := by
  intro s hs
  obtain ⟨a1, a2, a3, a4, a5⟩ := hH s hs
  refine ⟨a1, a2, a3, a4, ?_⟩
  unfold nq_h3
  rw [if_neg (by omega), a5]
theorem nq_svx {tok e d : Nat} {a a' : nq_V} (h1 : tok < 100) : ∀ i, nq_sv cv hv t tok e d a i = nq_sv cv hv t tok e d a' i := by
  intro i
  induction i with
  | zero => rfl
  | succ i ih => simp only [nq_sv, h1, if_true, ih]
theorem nq_toldm (v : nq_V) : (match v with | none => (2 : Int32) | some x => x) = nq_told v := by cases v <;> rfl
theorem nq_y121 {post : Int64 → SY → Prop} {k tok code : Nat} {a : nq_V} {M : List Int64} (hT : nq_TT n t ySz yTk) (hW : nq_WF n t) (hp : p < 10) (hc : nq_ws p t (n p) = []) (hk : k < n p) (hs : nq_ws p t s = w0 :: r) (hw0 : 2 ≤ w0) (hw1 : w0 % 2 = 1) (hE : nq_IsE p t s e) (hen : e ≤ n p) (hM : M.length ≤ r.length) (hcv : ∀ j, cv j ≠ some 1000) (hH : nq_HY yHa yTo tb h hv) (hR : ∀ i, i < 3 → rw i ≤ 6 ∧ yRo i = nI (rw i)) (hsub : nq_sub tok = true) (hend : yEn (20 * p + k) = nI e) (hcd : code < 1000) (hcode : code % 10 < 3 ∧ (¬ tok < 100 → code % 10 = tok % 10))
    (H : ∀ sbt' sbr' ySk', nq_St ySk' M → post (nq_d (nq_sv cv hv t tok (20 * p + e) (e - s) a (rw (nq_tbl tok)))) (src, dis, opn, sbt', sbr', (nI M.length), mny, mor, grs, fnd, kpt, yRo, (fun j => nq_k (cv j)), yTo, yIl, ySz, yTk, yIn, yEn, ySu, yWc, yWi, yHa, ySk', yCo, yLo, yGo, yFi, yRe, ySo, yAn)) :
    ∀ f i, i ≤ rw (nq_tbl tok) → rw (nq_tbl tok) - i < f → ∀ so su un sbt sbr ySk, nq_FL tok so su un (nq_sv cv hv t tok (20 * p + e) (e - s) a i) → nq_St ySk M → wY_subquery_121 post (nI p) (nI k) (nI tok) (nq_b (decide (tok < 100))) (nI s) (nI code) (nq_f a) (nI (nq_tbl tok)) f (nq_b so) (nq_b su) (nq_b un) (nI i) src dis opn sbt sbr (nI M.length) mny mor grs fnd kpt yRo (fun j => nq_k (cv j)) yTo yIl ySz yTk yIn yEn ySu yWc yWi yHa ySk yCo yLo yGo yFi yRe ySo yAn := by
  have hn := (hW p hp).1
  obtain ⟨t3, tc⟩ := nq_tbl3 hsub
  have tokr := nq_subT hsub
  have tlt : tok < 2147483648 := by omega
  have i3 : vp_in (nI (nq_tbl tok)) 3 := vp_in_nI t3 (by decide)
  have c3 : (nI (nq_tbl tok)).toNatClampNeg = nq_tbl tok := nI_clamp (by omega)
  obtain ⟨r6, hr⟩ := hR (nq_tbl tok) t3
  have ek : 20 * nI p + nI k = nI (20 * p + k) := by simp only [nq_i20, pk_mul, nI_add]
  have ik : vp_in (nI (20 * p + k)) 200 := vp_in_nI (by omega) (by decide)
  have ck : (nI (20 * p + k)).toNatClampNeg = 20 * p + k := nI_clamp (by omega)
  have e1 : 20 * nI p + nI s = nI (20 * p + s) := by simp only [nq_i20, pk_mul, nI_add]
  have e2 : 20 * nI p + nI e = nI (20 * p + e) := by simp only [nq_i20, pk_mul, nI_add]
  intro f
  induction f with
  | zero => intro q _ h; omega
  | succ f ih =>
    intro i hi hf so su un sbt sbr ySk hF hS
    rcases Nat.lt_or_ge i (rw (nq_tbl tok)) with z | z
    · have z3 : ¬ nI (rw (nq_tbl tok)) ≤ nI i := nI_ge z (by omega)
      simp only [wY_subquery_121, i3, c3, hr, z3, ek, ik, ck, e1, hend, e2, nI_1, forall_eq, not_true_eq_false, not_false_eq_true, true_implies, false_implies, implies_true, and_true, true_and, and_self]
      refine nq_yTI (hv := nq_h3 hv (18 * nq_tbl tok + 3 * i)) hT hW hp hc hs hw0 hw1 hE hen hM hcv (nq_HY3 hH) ⟨nq_tbl tok, i, rfl, rfl, t3, by omega, if_pos rfl⟩ (fun ySk' hS' => ?_) hS
      rcases Bool.eq_false_or_eq_true (nq_ct cv hv t tok (20 * p + e) (e - s) i) with hct | hct
      · have hct' := hct
        unfold nq_ct at hct'
        have en : nq_sv cv hv t tok (20 * p + e) (e - s) a (i + 1) = (if tok < 100 then some 1 else if tok < 130 then nq_or (nq_sv cv hv t tok (20 * p + e) (e - s) a i) (nq_same a (cv (18 * nq_tbl tok + 3 * i + code % 10))) else nq_and (nq_sv cv hv t tok (20 * p + e) (e - s) a i) (nq_less a (cv (18 * nq_tbl tok + 3 * i + code % 10)))) := by
          simp only [nq_sv, hct, if_true]
          by_cases l : tok < 100
          · rw [if_pos l, if_pos l]
          · rw [if_neg l, if_neg l, hcode.2 l]
        have hF2 := nq_FLs (a := a) (c := cv (18 * nq_tbl tok + 3 * i + code % 10)) hF
        rw [← en] at hF2
        have nxt := ih (i + 1) (by omega) (by omega) _ _ _ (nI (nq_tbl tok)) (nI i) ySk' hF2 hS'
        rw [← nI_1] at nxt
        simp only [hct', nq_b0, reduceCtorEq, nq_tn0, nq_rem (show code < 2147483648 by omega), nq_yCell hcv (show 18 * nq_tbl tok + 3 * i + code % 10 < 54 by omega), show (nI (tok) < (130 : Int32)) = ((tok) < 130) from propext (nI_ltI (b := 130) (tlt) (by decide)), show ((130 : Int32) < nI (tok)) = (130 < (tok)) from propext (nI_ltI (a := 130) (by decide) (tlt)), show (nI (tok) ≤ (130 : Int32)) = ((tok) ≤ 130) from propext (nI_leI (b := 130) (tlt) (by decide)), show ((130 : Int32) ≤ nI (tok)) = (130 ≤ (tok)) from propext (nI_leI (a := 130) (by decide) (tlt)), show (nI (tok) = (130 : Int32)) = ((tok) = 130) from propext (nI_eq (b := 130) (tlt) (by decide)), forall_eq, not_true_eq_false, not_false_eq_true, true_implies, false_implies, implies_true, and_true, true_and, and_self]
        by_cases m : 130 ≤ tok
        · simp only [m, if_true] at nxt
          simp only [m, nq_yLess, nq_toldm, forall_eq, not_true_eq_false, not_false_eq_true, true_implies, false_implies, implies_true, and_true, true_and, and_self]
          refine nq_y216 tlt ?_
          simp only [m, if_true]
          exact nxt
        · simp only [m, if_false] at nxt
          simp only [m, nq_yEq, nq_toldm, forall_eq, not_true_eq_false, not_false_eq_true, true_implies, false_implies, implies_true, and_true, true_and, and_self]
          refine nq_y216 tlt ?_
          simp only [m, if_false]
          exact nxt
      · have hct' := hct
        unfold nq_ct at hct'
        have en : nq_sv cv hv t tok (20 * p + e) (e - s) a (i + 1) = nq_sv cv hv t tok (20 * p + e) (e - s) a i := by simp only [nq_sv, hct, reduceCtorEq, if_false]
        rw [← en] at hF
        have nxt := ih (i + 1) (by omega) (by omega) _ _ _ (nI (nq_tbl tok)) (nI i) ySk' hF hS'
        simp only [hct', nq_b0, forall_eq, not_true_eq_false, not_false_eq_true, true_implies, false_implies, implies_true, and_true, true_and, and_self]
        exact nxt
    · have : i = rw (nq_tbl tok) := by omega
      subst this
      have z3 : nI (rw (nq_tbl tok)) ≤ nI (rw (nq_tbl tok)) := nI_le (Nat.le_refl _) (by omega)
      have HH := H sbt sbr ySk hS
      unfold nq_FL at hF
      simp only [wY_subquery_121, i3, c3, hr, z3, nq_b0, show (nI (tok) < (130 : Int32)) = ((tok) < 130) from propext (nI_ltI (b := 130) (tlt) (by decide)), show ((130 : Int32) < nI (tok)) = (130 < (tok)) from propext (nI_ltI (a := 130) (by decide) (tlt)), show (nI (tok) ≤ (130 : Int32)) = ((tok) ≤ 130) from propext (nI_leI (b := 130) (tlt) (by decide)), show ((130 : Int32) ≤ nI (tok)) = (130 ≤ (tok)) from propext (nI_leI (a := 130) (by decide) (tlt)), show (nI (tok) = (130 : Int32)) = ((tok) = 130) from propext (nI_eq (b := 130) (tlt) (by decide)), decide_eq_false_iff_not, forall_eq, not_true_eq_false, not_false_eq_true, true_implies, false_implies, implies_true, and_true, true_and, and_self]
      by_cases l : tok < 100
      · simp only [l, if_true] at hF
        rw [hF] at HH
        simp only [l, forall_eq, not_true_eq_false, not_false_eq_true, true_implies, false_implies, implies_true, and_true, true_and, and_self]
        cases so
        · simp only [forall_eq, not_true_eq_false, not_false_eq_true, true_implies, false_implies, implies_true, and_true, true_and, and_self]
          exact HH
        · simp only [reduceCtorEq, forall_eq, not_true_eq_false, not_false_eq_true, true_implies, false_implies, implies_true, and_true, true_and, and_self]
          exact HH
      · simp only [l, if_false] at hF
        simp only [l, forall_eq, not_true_eq_false, not_false_eq_true, true_implies, false_implies, implies_true, and_true, true_and, and_self]
        by_cases m : 130 ≤ tok
        · have m2 : ¬ tok < 130 := by omega
          simp only [m2, if_false] at hF
          rw [hF] at HH
          simp only [m, forall_eq, not_true_eq_false, not_false_eq_true, true_implies, false_implies, implies_true, and_true, true_and, and_self]
          cases su <;> cases un <;> simp only [reduceCtorEq, forall_eq, not_true_eq_false, not_false_eq_true, true_implies, false_implies, implies_true, and_true, true_and, and_self] <;> exact HH
        · have m2 : tok < 130 := by omega
          simp only [m2, if_true] at hF
          rw [hF] at HH
          simp only [m, forall_eq, not_true_eq_false, not_false_eq_true, true_implies, false_implies, implies_true, and_true, true_and, and_self]
          cases su <;> cases un <;> simp only [reduceCtorEq, forall_eq, not_true_eq_false, not_false_eq_true, true_implies, false_implies, implies_true, and_true, true_and, and_self] <;> exact HH
theorem nq_ySubq {post : Int64 → SY → Prop} {k w : Nat} {a : nq_V} {N M : List Int64} (hT : nq_TT n t ySz yTk) (hW : nq_WF n t) (hp : p < 10) (hc : nq_ws p t (n p) = []) (hk : k < n p) (hw : nq_ws p t k = w :: r) (hsub : nq_sub (t (20 * p + k)) = true) (hN1 : t (20 * p + k) < 100 → N = M) (hN2 : ¬ t (20 * p + k) < 100 → N = nq_f a :: M) (hM : M.length ≤ r.length) (hM2 : M.length < 60) (hcv : ∀ j, cv j ≠ some 1000) (hH : nq_HY yHa yTo tb h hv) (hR : ∀ i, i < 3 → rw i ≤ 6 ∧ yRo i = nI (rw i)) (hEn : ∀ k, k < n p → yEn (20 * p + k) = nI (nq_en p t k)) (hS : nq_St ySk N)
    (H : ∀ sbt' sbr' ySk', nq_St ySk' M → post (nq_d (nq_sv cv hv t (t (20 * p + k)) (20 * p + nq_en p t k) (nq_en p t k - nq_ss p t k) a (rw (nq_tbl (t (20 * p + k)))))) (src, dis, opn, sbt', sbr', (nI M.length), mny, mor, grs, fnd, kpt, yRo, (fun j => nq_k (cv j)), yTo, yIl, ySz, yTk, yIn, yEn, ySu, yWc, yWi, yHa, ySk', yCo, yLo, yGo, yFi, yRe, ySo, yAn)) : wpY_subquery post (src, dis, opn, sbt, sbr, (nI N.length), mny, mor, grs, fnd, kpt, yRo, (fun j => nq_k (cv j)), yTo, yIl, ySz, yTk, yIn, yEn, ySu, yWc, yWi, yHa, ySk, yCo, yLo, yGo, yFi, yRe, ySo, yAn) (nI p) (nI k) := by
  have hn := (hW p hp).1
  obtain ⟨g1, g2, g3, g4, g5, g6⟩ := nq_subE hW hp hc hk hw hsub
  have tokr := nq_subT hsub
  obtain ⟨t3, tc⟩ := nq_tbl3 hsub
  have tlt : t (20 * p + k) < 2147483648 := by omega
  have ek : 20 * nI p + nI k = nI (20 * p + k) := by simp only [nq_i20, pk_mul, nI_add]
  have ik : vp_in (nI (20 * p + k)) 200 := vp_in_nI (by omega) (by decide)
  have ck : (nI (20 * p + k)).toNatClampNeg = 20 * p + k := nI_clamp (by omega)
  have nt : ¬ (1 : Int32) = 0 := by decide
  rcases Nat.lt_or_ge (t (20 * p + k)) 100 with l | l
  · have l2 : ¬ 100 ≤ t (20 * p + k) := by omega
    have hN := hN1 l
    subst hN
    have es : nq_ss p t k = k + 1 := if_pos l
    have et : nq_tbl (t (20 * p + k)) = t (20 * p + k) - 90 := if_pos l
    have d1 : nI k + 1 = nI (nq_ss p t k) := by rw [es]; exact nI_add _ 1
    have d2 : 10 * (nI (t (20 * p + k)) - 90) = nI (10 * (t (20 * p + k) - 90)) := by
      rw [show nI (t (20 * p + k)) - 90 = nI (t (20 * p + k) - 90) from pk_sub (b := 90) (by omega)]
      exact pk_mul 10 _
    have d3 : nI (10 * (t (20 * p + k) - 90)) / 10 = nI (nq_tbl (t (20 * p + k))) := by
      rw [nq_div (by omega), et]
      exact congrArg nI (by omega)
    have gg := nq_y121 (post := post) (M := N) (a := some 0) (code := 10 * (t (20 * p + k) - 90)) hT hW hp hc hk g1 (by omega) (by omega) g2 g3 hM hcv hH hR hsub (hEn k hk) (by omega) ⟨by omega, fun z => absurd l z⟩ (by
      rw [nq_svx l (a' := a)]
      exact H) (rw (nq_tbl (t (20 * p + k))) + 1) 0 (by omega) (by omega) false false false sbt sbr ySk (by
        unfold nq_FL
        simp only [nq_sv, l, show t (20 * p + k) < 130 by omega, if_true]
        rfl) hS
    simp only [l, decide_true, nq_bt] at gg
    simp only [wpY_subquery, wY_subquery_23, wY_subquery_49, wY_subquery_85, wY_subquery_100, ek, ik, ck, (hT p hp).2 k hk, show (nI (t (20 * p + k)) < (100 : Int32)) = ((t (20 * p + k)) < 100) from propext (nI_ltI (b := 100) (tlt) (by decide)), show ((100 : Int32) < nI (t (20 * p + k))) = (100 < (t (20 * p + k))) from propext (nI_ltI (a := 100) (by decide) (tlt)), show (nI (t (20 * p + k)) ≤ (100 : Int32)) = ((t (20 * p + k)) ≤ 100) from propext (nI_leI (b := 100) (tlt) (by decide)), show ((100 : Int32) ≤ nI (t (20 * p + k))) = (100 ≤ (t (20 * p + k))) from propext (nI_leI (a := 100) (by decide) (tlt)), show (nI (t (20 * p + k)) = (100 : Int32)) = ((t (20 * p + k)) = 100) from propext (nI_eq (b := 100) (tlt) (by decide)), show (nI (t (20 * p + k)) < (130 : Int32)) = ((t (20 * p + k)) < 130) from propext (nI_ltI (b := 130) (tlt) (by decide)), show ((130 : Int32) < nI (t (20 * p + k))) = (130 < (t (20 * p + k))) from propext (nI_ltI (a := 130) (by decide) (tlt)), show (nI (t (20 * p + k)) ≤ (130 : Int32)) = ((t (20 * p + k)) ≤ 130) from propext (nI_leI (b := 130) (tlt) (by decide)), show ((130 : Int32) ≤ nI (t (20 * p + k))) = (130 ≤ (t (20 * p + k))) from propext (nI_leI (a := 130) (by decide) (tlt)), show (nI (t (20 * p + k)) = (130 : Int32)) = ((t (20 * p + k)) = 130) from propext (nI_eq (b := 130) (tlt) (by decide)), l2, nt, d1, d2, d3, nq_tn0, forall_eq, not_true_eq_false, not_false_eq_true, true_implies, false_implies, implies_true, and_true, true_and, and_self]
    exact ⟨_, gg⟩
  · have l2 : ¬ t (20 * p + k) < 100 := by omega
    have hN := hN2 l2
    subst hN
    obtain ⟨q1, q2⟩ := g6 l2
    have es : nq_ss p t k = nq_en p t (k + 1) := if_neg l2
    have et : nq_tbl (t (20 * p + k)) = (t (20 * p + k) - 100) / 10 % 3 := if_neg l2
    have qlt : k + 1 < n p := by have := q1.1; omega
    have e1 : nI (20 * p + k) + 1 = nI (20 * p + (k + 1)) := nI_add _ 1
    have i1 : vp_in (nI (20 * p + (k + 1))) 200 := vp_in_nI (by omega) (by decide)
    have c1 : (nI (20 * p + (k + 1))).toNatClampNeg = 20 * p + (k + 1) := nI_clamp (by omega)
    have s1 := hEn (k + 1) qlt
    rw [← es] at s1
    have main : ∀ code, code < 1000 → (code % 10 < 3 ∧ (¬ t (20 * p + k) < 100 → code % 10 = t (20 * p + k) % 10)) → nI code / 10 = nI (nq_tbl (t (20 * p + k))) → ∃ f, wY_subquery_121 post (nI p) (nI k) (nI (t (20 * p + k))) 0 (nI (nq_ss p t k)) (nI code) (nq_f a) (nI (nq_tbl (t (20 * p + k)))) f 0 0 0 0 src dis opn sbt sbr (nI M.length) mny mor grs fnd kpt yRo (fun j => nq_k (cv j)) yTo yIl ySz yTk yIn yEn ySu yWc yWi yHa ySk yCo yLo yGo yFi yRe ySo yAn := by
      intro code hcd hcode _
      have gg := nq_y121 (post := post) (M := M) (a := a) (code := code) hT hW hp hc hk g1 (by omega) (by omega) g2 g3 hM hcv hH hR hsub (hEn k hk) hcd hcode H (rw (nq_tbl (t (20 * p + k))) + 1) 0 (by omega) (by omega) false false false sbt sbr ySk (by
        unfold nq_FL
        by_cases m : t (20 * p + k) < 130
        · simp only [nq_sv, l2, m, if_true, if_false, reduceCtorEq]
        · simp only [nq_sv, l2, m, if_false, reduceCtorEq]) hS.2
      simp only [l2, decide_false, nq_bf] at gg
      exact ⟨_, gg⟩
    by_cases m : 130 ≤ t (20 * p + k)
    · have d2 : nI (t (20 * p + k)) - 130 = nI (t (20 * p + k) - 130) := pk_sub (b := 130) m
      have d3 : nI (t (20 * p + k) - 130) / 10 = nI (nq_tbl (t (20 * p + k))) := by
        rw [nq_div (by omega), et]
        exact congrArg nI (by omega)
      have mm := main (t (20 * p + k) - 130) (by omega) ⟨by omega, fun _ => by omega⟩ d3
      simp only [wpY_subquery, wY_subquery_23, wY_subquery_49, wY_subquery_85, wY_subquery_100, ek, ik, ck, (hT p hp).2 k hk, show (nI (t (20 * p + k)) < (100 : Int32)) = ((t (20 * p + k)) < 100) from propext (nI_ltI (b := 100) (tlt) (by decide)), show ((100 : Int32) < nI (t (20 * p + k))) = (100 < (t (20 * p + k))) from propext (nI_ltI (a := 100) (by decide) (tlt)), show (nI (t (20 * p + k)) ≤ (100 : Int32)) = ((t (20 * p + k)) ≤ 100) from propext (nI_leI (b := 100) (tlt) (by decide)), show ((100 : Int32) ≤ nI (t (20 * p + k))) = (100 ≤ (t (20 * p + k))) from propext (nI_leI (a := 100) (by decide) (tlt)), show (nI (t (20 * p + k)) = (100 : Int32)) = ((t (20 * p + k)) = 100) from propext (nI_eq (b := 100) (tlt) (by decide)), show (nI (t (20 * p + k)) < (130 : Int32)) = ((t (20 * p + k)) < 130) from propext (nI_ltI (b := 130) (tlt) (by decide)), show ((130 : Int32) < nI (t (20 * p + k))) = (130 < (t (20 * p + k))) from propext (nI_ltI (a := 130) (by decide) (tlt)), show (nI (t (20 * p + k)) ≤ (130 : Int32)) = ((t (20 * p + k)) ≤ 130) from propext (nI_leI (b := 130) (tlt) (by decide)), show ((130 : Int32) ≤ nI (t (20 * p + k))) = (130 ≤ (t (20 * p + k))) from propext (nI_leI (a := 130) (by decide) (tlt)), show (nI (t (20 * p + k)) = (130 : Int32)) = ((t (20 * p + k)) = 130) from propext (nI_eq (b := 130) (tlt) (by decide)), l, m, e1, i1, c1, s1, d2, d3, List.length_cons, nq_yPop (k := M.length) hS rfl (by omega), nq_tn0, forall_eq, not_true_eq_false, not_false_eq_true, true_implies, false_implies, implies_true, and_true, true_and, and_self]
      exact mm
    · have d2 : nI (t (20 * p + k)) - 100 = nI (t (20 * p + k) - 100) := pk_sub (b := 100) l
      have d3 : nI (t (20 * p + k) - 100) / 10 = nI (nq_tbl (t (20 * p + k))) := by
        rw [nq_div (by omega), et]
        exact congrArg nI (by omega)
      have mm := main (t (20 * p + k) - 100) (by omega) ⟨by omega, fun _ => by omega⟩ d3
      simp only [wpY_subquery, wY_subquery_23, wY_subquery_49, wY_subquery_85, wY_subquery_100, ek, ik, ck, (hT p hp).2 k hk, show (nI (t (20 * p + k)) < (100 : Int32)) = ((t (20 * p + k)) < 100) from propext (nI_ltI (b := 100) (tlt) (by decide)), show ((100 : Int32) < nI (t (20 * p + k))) = (100 < (t (20 * p + k))) from propext (nI_ltI (a := 100) (by decide) (tlt)), show (nI (t (20 * p + k)) ≤ (100 : Int32)) = ((t (20 * p + k)) ≤ 100) from propext (nI_leI (b := 100) (tlt) (by decide)), show ((100 : Int32) ≤ nI (t (20 * p + k))) = (100 ≤ (t (20 * p + k))) from propext (nI_leI (a := 100) (by decide) (tlt)), show (nI (t (20 * p + k)) = (100 : Int32)) = ((t (20 * p + k)) = 100) from propext (nI_eq (b := 100) (tlt) (by decide)), show (nI (t (20 * p + k)) < (130 : Int32)) = ((t (20 * p + k)) < 130) from propext (nI_ltI (b := 130) (tlt) (by decide)), show ((130 : Int32) < nI (t (20 * p + k))) = (130 < (t (20 * p + k))) from propext (nI_ltI (a := 130) (by decide) (tlt)), show (nI (t (20 * p + k)) ≤ (130 : Int32)) = ((t (20 * p + k)) ≤ 130) from propext (nI_leI (b := 130) (tlt) (by decide)), show ((130 : Int32) ≤ nI (t (20 * p + k))) = (130 ≤ (t (20 * p + k))) from propext (nI_leI (a := 130) (by decide) (tlt)), show (nI (t (20 * p + k)) = (130 : Int32)) = ((t (20 * p + k)) = 130) from propext (nI_eq (b := 130) (tlt) (by decide)), l, m, e1, i1, c1, s1, d2, d3, List.length_cons, nq_yPop (k := M.length) hS rfl (by omega), nq_tn0, forall_eq, not_true_eq_false, not_false_eq_true, true_implies, false_implies, implies_true, and_true, true_and, and_self]
      exact mm
end
