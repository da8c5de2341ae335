section
variable {sc od nc tp cc gc ac : Int32} {Ce Sk Va An Ov : Nat → Int64} {Rc St Jl Tk Tn Su Ne Ha Cb Jd Go Fm : Nat → Int32}
variable {src dis opn sbt sbr dep mny mor grs fnd kpt : Int32} {ySk yRe ySo yAn : Nat → Int64} {yRo yCe yTo yIl ySz yTk yIn yEn ySu yWc yWi yHa yCo yLo yGo yFi : Nat → Int32}
variable {n t : Nat → Nat} {p s e w0 : Nat} {r : List Nat} {cv : Nat → nq_V} {hv : Nat → Option Nat} {rw : Nat → Nat}
theorem nq_xSubq {post : SX → Prop} {k w : Nat} {a : nq_V} {P R : List (Nat × nq_V)} (hT : nq_TT n t Tn Tk) (hW : nq_WF n t) (hp : p < 10) (hc : nq_ws p t (n p) = []) (hk : k < n p) (hw : nq_ws p t k = w :: r) (hsub : nq_sub (t (20 * p + k)) = true) (hP1 : t (20 * p + k) < 100 → ∃ v, P = [(3, v)]) (hP2 : ¬ t (20 * p + k) < 100 → ∃ v, P = [(0, a), (3, v)]) (hR1 : R.map Prod.fst = r) (hl : P.length + R.length ≤ 20) (hH : nq_HX Ha hv) (h3 : Ha 3 = -1) (hR : ∀ i, i < 3 → rw i ≤ 6 ∧ Rc i = nI (rw i)) (hS : nq_St Sk ((P ++ R).map nq_mx))
    (H : ∀ Sk', nq_St Sk' (nq_c (nq_sv cv hv t (t (20 * p + k)) (20 * p + nq_en p t k) (nq_en p t k - nq_ss p t k) a (rw (nq_tbl (t (20 * p + k))))) :: R.map nq_mx) → post (sc, od, nc, (nI (R.length + 1)), cc, gc, ac, (fun j => nq_e (cv j)), Rc, St, Jl, Tk, Tn, Su, Ne, Ha, Sk', Cb, Jd, Va, Go, Fm, An, Ov)) : wpX_applySubquery post (sc, od, nc, (nI (P.length + R.length)), cc, gc, ac, (fun j => nq_e (cv j)), Rc, St, Jl, Tk, Tn, Su, Ne, Ha, Sk, Cb, Jd, Va, Go, Fm, An, Ov) (nI (20 * p + k)) := by
  have hn := (hW p hp).1
  obtain ⟨g1, g2, g3, g4, g5, g6⟩ := nq_subE hW hp hc hk hw hsub
  have tokr := nq_subT hsub
  obtain ⟨t3, tc⟩ := nq_tbl3 hsub
  have tlt : t (20 * p + k) < 2147483648 := by omega
  have hrl : R.length = r.length := by rw [← hR1, List.length_map]
  have i1 : vp_in (nI (20 * p + k)) 200 := vp_in_nI (by omega) (by decide)
  have c1 : (nI (20 * p + k)).toNatClampNeg = 20 * p + k := nI_clamp (by omega)
  rw [List.map_append] at hS
  have main : ∀ x7, (100 ≤ t (20 * p + k) → x7 = nq_e a) → ∃ f, wX_applySubquery_140 post (nI (t (20 * p + k))) (nq_b (decide (t (20 * p + k) < 100))) (nq_b (decide (130 ≤ t (20 * p + k)))) (nI (20 * p + nq_ss p t k)) (nI (20 * p + nq_en p t k)) x7 (nI (nq_tbl (t (20 * p + k)))) f (nq_c (nq_sv cv hv t (t (20 * p + k)) (20 * p + nq_en p t k) (nq_en p t k - nq_ss p t k) a 0)) 0 sc od nc (nI R.length) cc gc ac (fun j => nq_e (cv j)) Rc St Jl Tk Tn Su Ne Ha Sk Cb Jd Va Go Fm An Ov := by
    intro x7 hx7
    have hp0 : 0 < P.length := by
      by_cases z : t (20 * p + k) < 100
      · obtain ⟨v, rfl⟩ := hP1 z; simp
      · obtain ⟨v, rfl⟩ := hP2 z; simp
    have := nq_x140 (post := post) (M := R.map nq_mx) (x7 := x7) (a := a) hT hW hp hc g1 (by omega) (by omega) g2 g3 (by rw [List.length_map]; omega) (by rw [List.length_map]; omega) hH h3 hR hsub hx7 (by rw [List.length_map]; exact H) (rw (nq_tbl (t (20 * p + k))) + 1) 0 (by omega) (by omega) Ha Sk (fun _ _ => rfl) (nq_St_a hS)
    rw [List.length_map] at this
    exact ⟨_, this⟩
  have n3 : ¬ (3 : Int32) = 0 := by decide
  have nt : ¬ (1 : Int32) = 0 := by decide
  rcases Nat.lt_or_ge (t (20 * p + k)) 100 with l | l
  · obtain ⟨v, rfl⟩ := hP1 l
    have l2 : ¬ 100 ≤ t (20 * p + k) := by omega
    have m1 : t (20 * p + k) < 130 := by omega
    have m2 : ¬ 130 ≤ t (20 * p + k) := by omega
    have es : nq_ss p t k = k + 1 := if_pos l
    have et : nq_tbl (t (20 * p + k)) = t (20 * p + k) - 90 := if_pos l
    have ez : nq_c (nq_sv cv hv t (t (20 * p + k)) (20 * p + nq_en p t k) (nq_en p t k - nq_ss p t k) a 0) = 0 := by simp only [nq_sv, m1, if_true]; rfl
    have d1 : nI (20 * p + k) + 1 = nI (20 * p + nq_ss p t k) := by rw [es]; exact nI_add _ 1
    have d2 : nI (t (20 * p + k)) - 90 = nI (nq_tbl (t (20 * p + k))) := by rw [et]; exact pk_sub (b := 90) (by omega)
    have d3 : nI ([(3, v)].length + R.length) - 1 = nI R.length := by
      rw [List.length_cons, List.length_nil, show 0 + 1 + R.length = R.length + 1 by omega, nI_pred]
    have mm := main (-1099511627776) (fun z => absurd z l2)
    simp only [l, decide_true, nq_bt, m2, decide_false, nq_bf, ez] at mm
    simp only [wpX_applySubquery, i1, c1, (hT p hp).2 k hk, show (nI (t (20 * p + k)) < (100 : Int32)) = ((t (20 * p + k)) < 100) from propext (nI_ltI (b := 100) (tlt) (by decide)), show ((100 : Int32) < nI (t (20 * p + k))) = (100 < (t (20 * p + k))) from propext (nI_ltI (a := 100) (by decide) (tlt)), show (nI (t (20 * p + k)) ≤ (100 : Int32)) = ((t (20 * p + k)) ≤ 100) from propext (nI_leI (b := 100) (tlt) (by decide)), show ((100 : Int32) ≤ nI (t (20 * p + k))) = (100 ≤ (t (20 * p + k))) from propext (nI_leI (a := 100) (by decide) (tlt)), show (nI (t (20 * p + k)) = (100 : Int32)) = ((t (20 * p + k)) = 100) from propext (nI_eq (b := 100) (tlt) (by decide)), show (nI (t (20 * p + k)) < (130 : Int32)) = ((t (20 * p + k)) < 130) from propext (nI_ltI (b := 130) (tlt) (by decide)), show ((130 : Int32) < nI (t (20 * p + k))) = (130 < (t (20 * p + k))) from propext (nI_ltI (a := 130) (by decide) (tlt)), show (nI (t (20 * p + k)) ≤ (130 : Int32)) = ((t (20 * p + k)) ≤ 130) from propext (nI_leI (b := 130) (tlt) (by decide)), show ((130 : Int32) ≤ nI (t (20 * p + k))) = (130 ≤ (t (20 * p + k))) from propext (nI_leI (a := 130) (by decide) (tlt)), show (nI (t (20 * p + k)) = (130 : Int32)) = ((t (20 * p + k)) = 130) from propext (nI_eq (b := 130) (tlt) (by decide)), l2, m1, wX_applySubquery_18, wX_applySubquery_31, wX_applySubquery_50, wX_applySubquery_81, wX_applySubquery_97, wX_applySubquery_121, nt, d1, forall_eq, not_true_eq_false, not_false_eq_true, true_implies, false_implies, implies_true, and_true, true_and, and_self]
    refine nq_xEnd hT hW hp g2 g3 ?_
    simp only [d2, d3]
    exact mm
  · obtain ⟨v, rfl⟩ := hP2 (by omega)
    have l2 : ¬ t (20 * p + k) < 100 := by omega
    have et : nq_tbl (t (20 * p + k)) = (t (20 * p + k) - 100) / 10 % 3 := if_neg l2
    have d0 : nI (20 * p + k) + 1 = nI (20 * p + (k + 1)) := nI_add _ 1
    have d2 : (nI (t (20 * p + k)) - 100) / 10 - (nI (t (20 * p + k)) - 100) / 10 / 3 * 3 = nI (nq_tbl (t (20 * p + k))) := by
      rw [et, show nI (t (20 * p + k)) - 100 = nI (t (20 * p + k) - 100) from pk_sub (b := 100) l, nq_div (by omega)]
      exact pk_rem (d := 3) (by omega) (by decide) (by decide)
    have d3 : nI ([((0 : Nat), a), (3, v)].length + R.length) - 2 = nI R.length := by
      rw [List.length_cons, List.length_cons, List.length_nil, show 0 + 1 + 1 + R.length = R.length + 2 by omega]
      exact (pk_sub (b := 2) (by omega)).trans (congrArg nI (by omega))
    have d4 : nI ([((0 : Nat), a), (3, v)].length + R.length) - 1 = nI (R.length + 1) := by
      rw [List.length_cons, List.length_cons, List.length_nil, show 0 + 1 + 1 + R.length = R.length + 1 + 1 by omega, nI_pred]
    simp only [List.length_cons, List.length_nil] at hl
    have i2 : vp_in (nI (R.length + 1)) 20 := vp_in_nI (by omega) (by decide)
    have c2 : (nI (R.length + 1)).toNatClampNeg = R.length + 1 := nI_clamp (by omega)
    have s1 : Sk (R.length + 1) = nq_e a := by
      have h := hS
      rw [List.map_cons, List.map_cons, List.map_nil, List.cons_append, List.cons_append, List.nil_append] at h
      have := h.1
      rw [List.length_cons, List.length_map] at this
      exact this
    have mm := main (nq_e a) (fun _ => rfl)
    simp only [l2, decide_false, nq_bf] at mm
    rcases Nat.lt_or_ge (t (20 * p + k)) 130 with m | m
    · have m2 : ¬ 130 ≤ t (20 * p + k) := by omega
      have ez : nq_c (nq_sv cv hv t (t (20 * p + k)) (20 * p + nq_en p t k) (nq_en p t k - nq_ss p t k) a 0) = 0 := by simp only [nq_sv, m, if_true]; rfl
      simp only [m2, decide_false, nq_bf, ez] at mm
      simp only [wpX_applySubquery, i1, c1, (hT p hp).2 k hk, show (nI (t (20 * p + k)) < (100 : Int32)) = ((t (20 * p + k)) < 100) from propext (nI_ltI (b := 100) (tlt) (by decide)), show ((100 : Int32) < nI (t (20 * p + k))) = (100 < (t (20 * p + k))) from propext (nI_ltI (a := 100) (by decide) (tlt)), show (nI (t (20 * p + k)) ≤ (100 : Int32)) = ((t (20 * p + k)) ≤ 100) from propext (nI_leI (b := 100) (tlt) (by decide)), show ((100 : Int32) ≤ nI (t (20 * p + k))) = (100 ≤ (t (20 * p + k))) from propext (nI_leI (a := 100) (by decide) (tlt)), show (nI (t (20 * p + k)) = (100 : Int32)) = ((t (20 * p + k)) = 100) from propext (nI_eq (b := 100) (tlt) (by decide)), show (nI (t (20 * p + k)) < (130 : Int32)) = ((t (20 * p + k)) < 130) from propext (nI_ltI (b := 130) (tlt) (by decide)), show ((130 : Int32) < nI (t (20 * p + k))) = (130 < (t (20 * p + k))) from propext (nI_ltI (a := 130) (by decide) (tlt)), show (nI (t (20 * p + k)) ≤ (130 : Int32)) = ((t (20 * p + k)) ≤ 130) from propext (nI_leI (b := 130) (tlt) (by decide)), show ((130 : Int32) ≤ nI (t (20 * p + k))) = (130 ≤ (t (20 * p + k))) from propext (nI_leI (a := 130) (by decide) (tlt)), show (nI (t (20 * p + k)) = (130 : Int32)) = ((t (20 * p + k)) = 130) from propext (nI_eq (b := 130) (tlt) (by decide)), l, m, wX_applySubquery_18, wX_applySubquery_31, d0, forall_eq, not_true_eq_false, not_false_eq_true, true_implies, false_implies, implies_true, and_true, true_and, and_self]
      obtain ⟨q1, q2⟩ := g6 l2
      refine nq_xEnd hT hW hp q1 q2 ?_
      simp only [wX_applySubquery_50]
      refine nq_xEnd hT hW hp g2 g3 ?_
      simp only [wX_applySubquery_81, wX_applySubquery_97, wX_applySubquery_121, d2, d3, d4, i2, c2, s1, n3, nq_tn0, forall_eq, not_true_eq_false, not_false_eq_true, true_implies, false_implies, implies_true, and_true, true_and, and_self]
      exact mm
    · have m2 : ¬ t (20 * p + k) < 130 := by omega
      have ez : nq_c (nq_sv cv hv t (t (20 * p + k)) (20 * p + nq_en p t k) (nq_en p t k - nq_ss p t k) a 0) = 2 := by simp only [nq_sv, m2, if_false]; rfl
      simp only [m, decide_true, nq_bt, ez] at mm
      simp only [wpX_applySubquery, i1, c1, (hT p hp).2 k hk, show (nI (t (20 * p + k)) < (100 : Int32)) = ((t (20 * p + k)) < 100) from propext (nI_ltI (b := 100) (tlt) (by decide)), show ((100 : Int32) < nI (t (20 * p + k))) = (100 < (t (20 * p + k))) from propext (nI_ltI (a := 100) (by decide) (tlt)), show (nI (t (20 * p + k)) ≤ (100 : Int32)) = ((t (20 * p + k)) ≤ 100) from propext (nI_leI (b := 100) (tlt) (by decide)), show ((100 : Int32) ≤ nI (t (20 * p + k))) = (100 ≤ (t (20 * p + k))) from propext (nI_leI (a := 100) (by decide) (tlt)), show (nI (t (20 * p + k)) = (100 : Int32)) = ((t (20 * p + k)) = 100) from propext (nI_eq (b := 100) (tlt) (by decide)), show (nI (t (20 * p + k)) < (130 : Int32)) = ((t (20 * p + k)) < 130) from propext (nI_ltI (b := 130) (tlt) (by decide)), show ((130 : Int32) < nI (t (20 * p + k))) = (130 < (t (20 * p + k))) from propext (nI_ltI (a := 130) (by decide) (tlt)), show (nI (t (20 * p + k)) ≤ (130 : Int32)) = ((t (20 * p + k)) ≤ 130) from propext (nI_leI (b := 130) (tlt) (by decide)), show ((130 : Int32) ≤ nI (t (20 * p + k))) = (130 ≤ (t (20 * p + k))) from propext (nI_leI (a := 130) (by decide) (tlt)), show (nI (t (20 * p + k)) = (130 : Int32)) = ((t (20 * p + k)) = 130) from propext (nI_eq (b := 130) (tlt) (by decide)), l, m2, wX_applySubquery_18, wX_applySubquery_31, d0, forall_eq, not_true_eq_false, not_false_eq_true, true_implies, false_implies, implies_true, and_true, true_and, and_self]
      obtain ⟨q1, q2⟩ := g6 l2
      refine nq_xEnd hT hW hp q1 q2 ?_
      simp only [wX_applySubquery_50]
      refine nq_xEnd hT hW hp g2 g3 ?_
      simp only [wX_applySubquery_81, wX_applySubquery_97, wX_applySubquery_121, d2, d3, d4, i2, c2, s1, n3, nt, nq_tn0, forall_eq, not_true_eq_false, not_false_eq_true, true_implies, false_implies, implies_true, and_true, true_and, and_self]
      exact mm
/-- what the needs say of the next step back: the parts of token k among the pairs, and what stays -/
theorem nq_sel {k w : Nat} {L : List (Nat × nq_V)} (hW : nq_WF n t) (hp : p < 10) (hk : k < n p) (hw : nq_ws p t k = w :: r) (hL : L.map Prod.fst = nq_ws p t (k + 1)) : ∃ K R, L = K ++ R ∧ K.map Prod.fst = nq_kids (t (20 * p + k)) w ∧ R.map Prod.fst = r ∧ K.length = nq_ar (t (20 * p + k)) := by
  obtain ⟨w', r', f1, f2, ff, w4, t153, kl, es, rl, a3⟩ := nq_wsS hW hp hk
  rw [hw] at f1
  obtain ⟨rfl, rfl⟩ := List.cons.inj f1
  rw [f2] at hL
  obtain ⟨K, R, h1, h2, h3, h4, h5⟩ := nq_step (lf := fun _ => none) kl hL
  exact ⟨K, R, h1, h2, h3, h4⟩
def nq_fl (L : List (Nat × nq_V)) : List nq_V := (L.filter (fun q => decide (q.1 < 2))).map Prod.snd
theorem nq_fl_a (K R : List (Nat × nq_V)) : nq_fl (K ++ R) = nq_fl K ++ nq_fl R := by
  unfold nq_fl
  rw [List.filter_append, List.map_append]
theorem nq_fl_in {K : List (Nat × nq_V)} {l : List Nat} (h : K.map Prod.fst = l) (h2 : ∀ x, x ∈ l → 2 ≤ x) : nq_fl K = [] := by
  subst h
  unfold nq_fl
  rw [List.filter_eq_nil_iff.mpr]
  · rfl
  · intro q hq
    have := h2 q.1 (List.mem_map_of_mem hq)
    rw [decide_eq_true_eq]
    omega
theorem nq_fl_out {K : List (Nat × nq_V)} {l : List Nat} (h : K.map Prod.fst = l) (h2 : ∀ x, x ∈ l → x < 2) : nq_fl K = K.map Prod.snd := by
  subst h
  unfold nq_fl
  rw [List.filter_eq_self.mpr]
  intro q hq
  rw [decide_eq_true_eq]
  exact h2 q.1 (List.mem_map_of_mem hq)
theorem nq_xEval {post : Int64 → SX → Prop} (hT : nq_TT n t Tn Tk) (hW : nq_WF n t) (hp : p < 10) (hc : 0 < n p → nq_ws p t (n p) = []) (hH : nq_HX Ha hv) (h3 : Ha 3 = -1) (hR : ∀ i, i < 3 → rw i ≤ 6 ∧ Rc i = nI (rw i)) (H : ∀ tp' Sk', post (nq_x (if p ≤ 3 then 1 else 0) (nq_pv cv rw n t p hv)) (sc, od, nc, tp', cc, gc, ac, (fun j => nq_e (cv j)), Rc, St, Jl, Tk, Tn, Su, Ne, Ha, Sk', Cb, Jd, Va, Go, Fm, An, Ov)) : wpX_evaluate post (sc, od, nc, tp, cc, gc, ac, (fun j => nq_e (cv j)), Rc, St, Jl, Tk, Tn, Su, Ne, Ha, Sk, Cb, Jd, Va, Go, Fm, An, Ov) (nI p) := by
  have hn := (hW p hp).1
  have ip : vp_in (nI p) 10 := vp_in_nI hp (by decide)
  have cp : (nI p).toNatClampNeg = p := nI_clamp (by omega)
  have nt : ¬ (1 : Int32) = 0 := by decide
  unfold nq_pv at H
  rcases Nat.eq_zero_or_pos (n p) with h0 | h0
  · simp only [h0, if_true] at H
    simp only [wpX_evaluate, ip, cp, (hT p hp).1, h0, nI_0, nq_xCp hp, nq_b0, decide_eq_false_iff_not, forall_eq, not_true_eq_false, not_false_eq_true, true_implies, false_implies, implies_true, and_true, true_and, and_self]
    by_cases z : p ≤ 3
    · simp only [z, if_true] at H
      simp only [z, forall_eq, not_true_eq_false, not_false_eq_true, true_implies, false_implies, implies_true, and_true, true_and, and_self]
      exact H _ _
    · simp only [z, if_false] at H
      simp only [z, forall_eq, not_true_eq_false, not_false_eq_true, true_implies, false_implies, implies_true, and_true, true_and, and_self]
      exact H _ _
  · have hc := hc h0
    have h0' : ¬ n p = 0 := by omega
    have n0 : ¬ nI (n p) = 0 := nI_ne0 h0 (by omega)
    have e1 : nI p * 20 = nI (20 * p) := by
      simp only [nq_i20, pk_mul]
      exact congrArg nI (by omega)
    simp only [h0', if_false] at H
    simp only [wpX_evaluate, ip, cp, (hT p hp).1, n0, e1, nI_add, forall_eq, not_true_eq_false, not_false_eq_true, true_implies, false_implies, implies_true, and_true, true_and, and_self]
    have key : ∀ k, k ≤ n p → ∀ f, k < f → ∀ (L : List (Nat × nq_V)) Sk, L.map Prod.fst = nq_ws p t k → nq_fl L = nq_ps cv hv rw p t (n p) (n p - k) → nq_St Sk (L.map nq_mx) → wX_evaluate_45 post (nI (20 * p)) f (nI (20 * p + k) - 1) sc od nc (nI L.length) cc gc ac (fun j => nq_e (cv j)) Rc St Jl Tk Tn Su Ne Ha Sk Cb Jd Va Go Fm An Ov := by
      intro k
      induction k with
      | zero =>
        intro _ f hf L Sk hL hv2 hS
        obtain ⟨f, rfl⟩ : ∃ g, f = g + 1 := ⟨f - 1, by omega⟩
        have x1 : nI (20 * p + 0) - 1 < nI (20 * p) := by
          rw [Nat.add_zero]
          rcases Nat.eq_zero_or_pos (20 * p) with z | z
          · rw [z]; decide
          · rw [show nI (20 * p) - 1 = nI (20 * p - 1) from pk_sub (b := 1) z]
            exact nI_lt (by omega) (by omega)
        have hL2 : L.map Prod.fst = [if p ≤ 3 then 1 else 0] := hL
        obtain ⟨⟨w, v⟩, rfl, hwe⟩ := nq_1l hL2
        have hw2 : w < 2 := by
          have : w = if p ≤ 3 then 1 else 0 := hwe
          rw [this]; split <;> omega
        have hv3 : nq_ps cv hv rw p t (n p) (n p) = [v] := by
          rw [show n p - 0 = n p from rfl] at hv2
          rw [← hv2, nq_fl_out (l := [w]) rfl (fun x hx => by rw [List.mem_singleton] at hx; omega)]
          rfl
        rw [hv3] at H
        have s1 : Sk 0 = nq_x w v := hS.1
        simp only [wX_evaluate_45, x1, s1, forall_eq, not_true_eq_false, not_false_eq_true, true_implies, false_implies, implies_true, and_true, true_and, and_self]
        rw [show w = if p ≤ 3 then 1 else 0 from hwe]
        exact H _ _
      | succ k ih =>
        intro hk f hf L Sk hL hv2 hS
        obtain ⟨f, rfl⟩ : ∃ g, f = g + 1 := ⟨f - 1, by omega⟩
        obtain ⟨w, r', f1, f2, ff, w4, t153, kl, es, rl, a3⟩ := nq_wsS hW hp (show k < n p by omega)
        obtain ⟨K, R, rfl, gK, gR, gl⟩ := nq_sel hW hp (show k < n p by omega) f1 hL
        have o1 := nq_oplt hW hp hc (n p - (k + 1)) (by omega)
        have o2 := nq_oplt hW hp hc (n p - k) (by omega)
        unfold nq_op at o1 o2
        rw [show n p - (n p - (k + 1)) = k + 1 by omega, ← hL, List.length_map, List.length_append] at o1
        rw [show n p - (n p - k) = k by omega, f1, List.length_cons, ← gR, List.length_map] at o2
        have x0 : nI (20 * p + (k + 1)) - 1 = nI (20 * p + k) := nI_pred (20 * p + k)
        have x1 : ¬ nI (20 * p + k) < nI (20 * p) := nI_nlt (by omega) (by omega)
        have i1 : vp_in (nI (20 * p + k)) 200 := vp_in_nI (by omega) (by decide)
        have c1 : (nI (20 * p + k)).toNatClampNeg = 20 * p + k := nI_clamp (by omega)
        have e2 : nI (20 * p + k) + (-1) = nI (20 * p + k) - 1 := by grind
        have ej : n p - k = n p - (k + 1) + 1 := by omega
        have ek : n p - 1 - (n p - (k + 1)) = k := by omega
        have hh : (nq_ws p t k).headD 0 = w := by rw [f1]; rfl
        have tlt : t (20 * p + k) < 2147483648 := by omega
        rcases Bool.eq_false_or_eq_true (nq_sub (t (20 * p + k))) with hsub | hsub
        · have hw2 : w < 2 := es.resolve_left (by rw [hsub]; decide)
          obtain ⟨a1, a2⟩ := nq_subAr hsub
          rw [a2 w] at gK
          have w1 : w % 2 = 1 := by
            apply Classical.byContradiction
            intro hz
            have h4 := (nq_fitEC ff).2 hz
            have h5 := nq_subT hsub
            unfold nq_isE nq_col at h4
            rw [Bool.or_eq_true, decide_eq_true_eq, decide_eq_true_eq] at h4
            omega
          obtain ⟨a, hP1, hP2, hfl⟩ : ∃ a, (t (20 * p + k) < 100 → ∃ v, K = [(3, v)]) ∧ (¬ t (20 * p + k) < 100 → ∃ v, K = [(0, a), (3, v)]) ∧ nq_ps cv hv rw p t (n p) (n p - k) = nq_sv cv hv t (t (20 * p + k)) (20 * p + nq_en p t k) (nq_en p t k - nq_ss p t k) a (rw (nq_tbl (t (20 * p + k)))) :: nq_fl R := by
            rw [ej]
            simp only [nq_ps, ek, hh, show ¬ 2 ≤ w by omega, hsub, if_false, if_true, ← hv2, nq_fl_a]
            by_cases l : t (20 * p + k) < 100
            · rw [if_pos l] at gK
              obtain ⟨⟨w3, v⟩, rfl, h3⟩ := nq_1l gK
              cases h3
              exact ⟨_, fun _ => ⟨v, rfl⟩, fun z => absurd l z, by simp only [l, if_true, List.drop_zero]; rfl⟩
            · rw [if_neg l] at gK
              obtain ⟨⟨w2, a⟩, ⟨w3, v⟩, rfl, h2, h3⟩ := nq_2l gK
              cases h2
              cases h3
              exact ⟨a, fun z => absurd z l, fun _ => ⟨v, rfl⟩, by simp only [l, if_false]; rfl⟩
          simp only [wX_evaluate_45, x0, x1, i1, c1, (hT p hp).2 k (by omega), nq_xSub tlt, hsub, nq_bt, nt, e2, List.length_append, forall_eq, not_true_eq_false, not_false_eq_true, true_implies, false_implies, implies_true, and_true, true_and, and_self]
          refine nq_xSubq hT hW hp hc (by omega) f1 hsub hP1 hP2 gR (by omega) hH h3 hR hS fun Sk' hS' => ?_
          have := ih (by omega) f (by omega) ((w, nq_sv cv hv t (t (20 * p + k)) (20 * p + nq_en p t k) (nq_en p t k - nq_ss p t k) a (rw (nq_tbl (t (20 * p + k))))) :: R) Sk' (by rw [List.map_cons, gR, f1]) (by
            rw [hfl]
            unfold nq_fl
            rw [List.filter_cons_of_pos (by simp; omega)]
            rfl) (by
            rw [List.map_cons]
            unfold nq_mx nq_x
            simp only [w1, if_true]
            exact hS')
          rw [List.length_cons] at this
          exact this
        · simp only [wX_evaluate_45, x0, x1, i1, c1, (hT p hp).2 k (by omega), nq_xSub tlt, hsub, nq_bf, e2, forall_eq, not_true_eq_false, not_false_eq_true, true_implies, false_implies, implies_true, and_true, true_and, and_self]
          rw [List.map_append] at hS
          have ll : (K ++ R).length = K.length + (R.map nq_mx).length := by rw [List.length_append, List.length_map]
          rw [ll]
          refine nq_xApply hH ff hsub gK (by rw [List.length_map]; omega) (by rw [List.length_map]; omega) hS fun Sk' hS' => ?_
          have := ih (by omega) f (by omega) ((w, nq_rs (nq_leaf cv hv) (t (20 * p + k)) (K.map Prod.snd)) :: R) Sk' (by rw [List.map_cons, gR, f1]) (by
            rw [ej]
            simp only [nq_ps, ek, hh, hsub, ← hv2, nq_fl_a]
            by_cases hw2 : 2 ≤ w
            · rw [if_pos hw2, nq_fl_in gK (nq_kids2 _ t153 w w4 hw2 hsub), List.nil_append]
              unfold nq_fl
              rw [List.filter_cons_of_neg (by simp; omega)]
            · rw [if_neg hw2, if_neg (by decide), nq_fl_out gK (nq_kids1 _ t153 w (by omega) hsub)]
              unfold nq_st
              rw [List.take_left' (by rw [List.length_map, gl]), List.drop_left' (by rw [List.length_map, gl])]
              unfold nq_fl
              rw [List.filter_cons_of_pos (by simp; omega)]
              rfl) hS'
          rw [List.length_cons] at this
          rw [List.length_map]
          exact this
    have hcl : ([] : List (Nat × nq_V)).map Prod.fst = nq_ws p t (n p) := by rw [hc]; rfl
    have := key (n p) (Nat.le_refl _) (n p + 1) (by omega) [] Sk hcl (by rw [Nat.sub_self]; rfl) trivial
    exact ⟨_, this⟩
end
