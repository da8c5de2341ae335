section
variable {sc od nc tp cc gc ac : Int32} {Ce Sk Va An Ov : Nat → Int64} {Rc St Jl Tk Tn Su Ne Ha Cb Jd Go Fm : Nat → Int32}
variable {src dis opn sbt sbr dep mny mor grs fnd kpt : Int32} {ySk yRe ySo yAn : Nat → Int64} {yRo yCe yTo yIl ySz yTk yIn yEn ySu yWc yWi yHa yCo yLo yGo yFi : Nat → Int32}
def nq_HY (yHa yTo : Nat → Int32) (tb : Nat → Nat) (h hv : Nat → Option Nat) : Prop := ∀ s, s < 3 → yHa s = nq_hx (h s) ∧ yTo s = nI (tb s) ∧ tb s < 3 ∧ (∀ r, h s = some r → r < 6) ∧ hv s = (h s).map (fun r => 18 * tb s + 3 * r)
def nq_H3 (sbt sbr : Int32) (hv : Nat → Option Nat) : Prop := ∃ a b, sbt = nI a ∧ sbr = nI b ∧ a < 3 ∧ b < 6 ∧ hv 3 = some (18 * a + 3 * b)
theorem nq_yColumn {post : Int64 → Prop} {cv : Nat → nq_V} {tb : Nat → Nat} {h hv : Nat → Option Nat} {t : Nat} (hcv : ∀ j, cv j ≠ some 1000) (hH : nq_HY yHa yTo tb h hv) (hc : nq_col t = true) (h3 : t / 10 = 3 → nq_H3 sbt sbr hv) : wpY_column post (src, dis, opn, sbt, sbr, dep, mny, mor, grs, fnd, kpt, yRo, (fun j => nq_k (cv j)), yTo, yIl, ySz, yTk, yIn, yEn, ySu, yWc, yWi, yHa, ySk, yCo, yLo, yGo, yFi, yRe, ySo, yAn) (nI (t / 10)) (nI (t % 10)) ↔ post (nq_f (nq_leaf cv hv t)) := by
  have hcol : t ≤ 32 ∧ t % 10 < 3 := by
    unfold nq_col at hc
    rwa [decide_eq_true_eq] at hc
  have l1 : ¬ t = 70 := by omega
  have l2 : ¬ 40 < t := by omega
  simp only [nq_leaf, l1, l2, if_false]
  by_cases e3 : t / 10 = 3
  · obtain ⟨a, b, rfl, rfl, ha, hb, e⟩ := h3 e3
    simp only [wpY_column, e3, show nI 3 = 3 from rfl, e, nq_yCell hcv (show 18 * a + 3 * b + t % 10 < 54 by omega), forall_eq, not_true_eq_false, not_false_eq_true, true_implies, false_implies, implies_true, and_true, true_and, and_self]
  · obtain ⟨y1, y2, y3, y4, y5⟩ := hH (t / 10) (by omega)
    have i3 : vp_in (nI (t / 10)) 3 := vp_in_nI (by omega) (by decide)
    have c3 : (nI (t / 10)).toNatClampNeg = t / 10 := nI_clamp (by omega)
    have n3 : ¬ nI (t / 10) = 3 := fun e => e3 ((nI_eq (b := 3) (by omega) (by decide)).mp e)
    simp only [wpY_column, n3, i3, c3, y1, y2, y5, forall_eq, not_true_eq_false, not_false_eq_true, true_implies, false_implies, implies_true, and_true, true_and, and_self]
    cases hq : h (t / 10) with
    | none => simp only [nq_hx, Option.map_none, show ¬ (0 : Int32) ≤ -1 from by decide, nq_f, forall_eq, not_true_eq_false, not_false_eq_true, true_implies, false_implies, implies_true, and_true, true_and, and_self]
    | some r =>
      have r6 := y4 r hq
      simp only [nq_hx, Option.map_some, nI_pos' (n := r) (by omega), nq_yCell hcv (show 18 * tb (t / 10) + 3 * r + t % 10 < 54 by omega), forall_eq, not_true_eq_false, not_false_eq_true, true_implies, false_implies, implies_true, and_true, true_and, and_self]
theorem nq_ySimple {post : SY → Prop} {cv : Nat → nq_V} {tb : Nat → Nat} {h hv : Nat → Option Nat} {p t w : Nat} {K : List (Nat × nq_V)} {M : List Int64} (hcv : ∀ j, cv j ≠ some 1000) (hH : nq_HY yHa yTo tb h hv) (h3 : t / 10 = 3 → nq_H3 sbt sbr hv) (hf : nq_fit p t w = true) (hs : nq_sub t = false) (hK : K.map Prod.fst = nq_kids t w) (hM : M.length < 60) (hS : nq_St ySk (K.map nq_my ++ M)) (H : ∀ ySk', nq_St ySk' (nq_y w (nq_rs (nq_leaf cv hv) t (K.map Prod.snd)) :: M) → post (src, dis, opn, sbt, sbr, (nI (M.length + 1)), mny, mor, grs, fnd, kpt, yRo, (fun j => nq_k (cv j)), yTo, yIl, ySz, yTk, yIn, yEn, ySu, yWc, yWi, yHa, ySk', yCo, yLo, yGo, yFi, yRe, ySo, yAn)) : wpY_simple post (src, dis, opn, sbt, sbr, (nI (K.length + M.length)), mny, mor, grs, fnd, kpt, yRo, (fun j => nq_k (cv j)), yTo, yIl, ySz, yTk, yIn, yEn, ySu, yWc, yWi, yHa, ySk, yCo, yLo, yGo, yFi, yRe, ySo, yAn) (nI t) := by
  rcases nq_cases hf hs with ⟨hw, h70, hc, a0, kk⟩ | ⟨hw, ht, a2, kk⟩ | ⟨hw, rfl⟩ | ⟨hw, ht, a1, kk⟩ | ⟨hw, ht, a2, kk⟩
  · rw [kk, List.map_eq_nil_iff] at hK
    subst hK
    have ht : t < 2147483648 := by omega
    simp only [nq_y, hw, show ¬ (0 = 1) from by decide, if_false, nq_rs, a0, if_true] at H
    simp only [List.map_nil, List.nil_append] at hS
    simp only [wpY_simple, nq_yCol ht, nq_b0, List.length_nil, Nat.zero_add, nq_tn0, forall_eq, not_true_eq_false, not_false_eq_true, true_implies, false_implies, implies_true, and_true, true_and, and_self]
    rcases Bool.eq_false_or_eq_true (nq_col t) with h1 | h1
    · have e3 : nI t - nI (t / 10) * 10 = nI (t % 10) := by rw [← nq_div ht]; exact nq_rem ht
      simp only [h1, reduceCtorEq, nq_div ht, e3, nq_yColumn hcv hH h1 h3, forall_eq, not_true_eq_false, not_false_eq_true, true_implies, false_implies, implies_true, and_true, true_and, and_self]
      exact nq_yPush hS (by omega) H
    · have h41 : 41 ≤ t := hc.resolve_left (by rw [h1]; decide)
      by_cases h2 : t = 70
      · subst h2
        simp only [h1, show (nI (70) < (60 : Int32)) = ((70) < 60) from propext (nI_ltI (b := 60) (by decide) (by decide)), show ((60 : Int32) < nI (70)) = (60 < (70)) from propext (nI_ltI (a := 60) (by decide) (by decide)), show (nI (70) ≤ (60 : Int32)) = ((70) ≤ 60) from propext (nI_leI (b := 60) (by decide) (by decide)), show ((60 : Int32) ≤ nI (70)) = (60 ≤ (70)) from propext (nI_leI (a := 60) (by decide) (by decide)), show (nI (70) = (60 : Int32)) = ((70) = 60) from propext (nI_eq (b := 60) (by decide) (by decide)), show (nI (70) < (70 : Int32)) = ((70) < 70) from propext (nI_ltI (b := 70) (by decide) (by decide)), show ((70 : Int32) < nI (70)) = (70 < (70)) from propext (nI_ltI (a := 70) (by decide) (by decide)), show (nI (70) ≤ (70 : Int32)) = ((70) ≤ 70) from propext (nI_leI (b := 70) (by decide) (by decide)), show ((70 : Int32) ≤ nI (70)) = (70 ≤ (70)) from propext (nI_leI (a := 70) (by decide) (by decide)), show (nI (70) = (70 : Int32)) = ((70) = 70) from propext (nI_eq (b := 70) (by decide) (by decide)), show 60 ≤ 70 from by decide, forall_eq, not_true_eq_false, not_false_eq_true, true_implies, false_implies, implies_true, and_true, true_and, and_self]
        exact nq_yPush hS (by omega) H
      · have h59 : ¬ 60 ≤ t := by
          have := (nq_fitEC hf).2 (by omega)
          unfold nq_isE at this
          rw [h1, Bool.false_or, decide_eq_true_eq] at this
          omega
        have lf : nq_leaf cv hv t = some (nI t - 50) := by
          unfold nq_leaf
          rw [if_neg h2, if_pos (by omega)]
        rw [lf] at H
        simp only [h1, show (nI (t) < (60 : Int32)) = ((t) < 60) from propext (nI_ltI (b := 60) (ht) (by decide)), show ((60 : Int32) < nI (t)) = (60 < (t)) from propext (nI_ltI (a := 60) (by decide) (ht)), show (nI (t) ≤ (60 : Int32)) = ((t) ≤ 60) from propext (nI_leI (b := 60) (ht) (by decide)), show ((60 : Int32) ≤ nI (t)) = (60 ≤ (t)) from propext (nI_leI (a := 60) (by decide) (ht)), show (nI (t) = (60 : Int32)) = ((t) = 60) from propext (nI_eq (b := 60) (ht) (by decide)), show (nI (t) < (70 : Int32)) = ((t) < 70) from propext (nI_ltI (b := 70) (ht) (by decide)), show ((70 : Int32) < nI (t)) = (70 < (t)) from propext (nI_ltI (a := 70) (by decide) (ht)), show (nI (t) ≤ (70 : Int32)) = ((t) ≤ 70) from propext (nI_leI (b := 70) (ht) (by decide)), show ((70 : Int32) ≤ nI (t)) = (70 ≤ (t)) from propext (nI_leI (a := 70) (by decide) (ht)), show (nI (t) = (70 : Int32)) = ((t) = 70) from propext (nI_eq (b := 70) (ht) (by decide)), h59, forall_eq, not_true_eq_false, not_false_eq_true, true_implies, false_implies, implies_true, and_true, true_and, and_self]
        exact nq_yPush hS (by omega) H
  · rw [kk] at hK
    obtain ⟨⟨w1, a⟩, ⟨w2, b⟩, rfl, rfl, rfl⟩ := nq_2l hK
    have ht2 : t < 2147483648 := by omega
    have nc : nq_col t = false := by
      unfold nq_col
      rw [decide_eq_false_iff_not]
      omega
    have n60 : 60 ≤ t := by omega
    have n70 : ¬ t = 70 := by omega
    have n80 : ¬ 80 ≤ t := by omega
    simp only [nq_y, hw, show ¬ (0 = 1) from by decide, if_false, nq_rs, a2, show ¬ (2 = 0) from by decide, List.map_cons, List.map_nil, List.getD_cons_zero, List.getD_cons_succ, List.getD_nil] at H
    simp only [List.map_cons, List.map_nil, nq_my, nq_ye0, List.cons_append, List.nil_append] at hS
    have el : [(0 + w / 2 * 2, a), (0 + w / 2 * 2, b)].length + M.length = M.length + 1 + 1 := by simp only [List.length_cons, List.length_nil]; omega
    rw [el]
    simp only [wpY_simple, nq_yCol ht2, nc, nq_bf, show (nI (t) < (60 : Int32)) = ((t) < 60) from propext (nI_ltI (b := 60) (ht2) (by decide)), show ((60 : Int32) < nI (t)) = (60 < (t)) from propext (nI_ltI (a := 60) (by decide) (ht2)), show (nI (t) ≤ (60 : Int32)) = ((t) ≤ 60) from propext (nI_leI (b := 60) (ht2) (by decide)), show ((60 : Int32) ≤ nI (t)) = (60 ≤ (t)) from propext (nI_leI (a := 60) (by decide) (ht2)), show (nI (t) = (60 : Int32)) = ((t) = 60) from propext (nI_eq (b := 60) (ht2) (by decide)), show (nI (t) < (70 : Int32)) = ((t) < 70) from propext (nI_ltI (b := 70) (ht2) (by decide)), show ((70 : Int32) < nI (t)) = (70 < (t)) from propext (nI_ltI (a := 70) (by decide) (ht2)), show (nI (t) ≤ (70 : Int32)) = ((t) ≤ 70) from propext (nI_leI (b := 70) (ht2) (by decide)), show ((70 : Int32) ≤ nI (t)) = (70 ≤ (t)) from propext (nI_leI (a := 70) (by decide) (ht2)), show (nI (t) = (70 : Int32)) = ((t) = 70) from propext (nI_eq (b := 70) (ht2) (by decide)), show (nI (t) < (80 : Int32)) = ((t) < 80) from propext (nI_ltI (b := 80) (ht2) (by decide)), show ((80 : Int32) < nI (t)) = (80 < (t)) from propext (nI_ltI (a := 80) (by decide) (ht2)), show (nI (t) ≤ (80 : Int32)) = ((t) ≤ 80) from propext (nI_leI (b := 80) (ht2) (by decide)), show ((80 : Int32) ≤ nI (t)) = (80 ≤ (t)) from propext (nI_leI (a := 80) (by decide) (ht2)), show (nI (t) = (80 : Int32)) = ((t) = 80) from propext (nI_eq (b := 80) (ht2) (by decide)), n60, n70, n80, nq_yExpr ht hS (show M.length < 62 by omega), forall_eq, not_true_eq_false, not_false_eq_true, true_implies, false_implies, implies_true, and_true, true_and, and_self]
    exact nq_yPush hS.2.2 (by omega) H
  · have kk : nq_kids 76 w = [1 + w / 2 * 2, w / 2 * 2, w / 2 * 2] := by simp [nq_kids, hs]
    rw [kk] at hK
    obtain ⟨⟨w1, a⟩, ⟨w2, b⟩, ⟨w3, c⟩, rfl, rfl, rfl, rfl⟩ := nq_3l hK
    have a3 : nq_ar 76 = 3 := rfl
    have nc : nq_col 76 = false := by decide
    simp only [nq_y, hw, show ¬ (0 = 1) from by decide, if_false, nq_rs, a3, show ¬ (3 = 0) from by decide, List.map_cons, List.map_nil, List.getD_cons_zero, List.getD_cons_succ, List.getD_nil] at H
    simp only [List.map_cons, List.map_nil, nq_my, nq_ye, nq_yc, List.cons_append, List.nil_append] at hS
    have el : [(1 + w / 2 * 2, a), (w / 2 * 2, b), (w / 2 * 2, c)].length + M.length = M.length + 1 + 1 + 1 := by simp only [List.length_cons, List.length_nil]; omega
    rw [el]
    simp only [wpY_simple, nq_yCol (show 76 < 2147483648 from by decide), nc, nq_bf, show (nI (76) < (60 : Int32)) = ((76) < 60) from propext (nI_ltI (b := 60) (by decide) (by decide)), show ((60 : Int32) < nI (76)) = (60 < (76)) from propext (nI_ltI (a := 60) (by decide) (by decide)), show (nI (76) ≤ (60 : Int32)) = ((76) ≤ 60) from propext (nI_leI (b := 60) (by decide) (by decide)), show ((60 : Int32) ≤ nI (76)) = (60 ≤ (76)) from propext (nI_leI (a := 60) (by decide) (by decide)), show (nI (76) = (60 : Int32)) = ((76) = 60) from propext (nI_eq (b := 60) (by decide) (by decide)), show (nI (76) < (70 : Int32)) = ((76) < 70) from propext (nI_ltI (b := 70) (by decide) (by decide)), show ((70 : Int32) < nI (76)) = (70 < (76)) from propext (nI_ltI (a := 70) (by decide) (by decide)), show (nI (76) ≤ (70 : Int32)) = ((76) ≤ 70) from propext (nI_leI (b := 70) (by decide) (by decide)), show ((70 : Int32) ≤ nI (76)) = (70 ≤ (76)) from propext (nI_leI (a := 70) (by decide) (by decide)), show (nI (76) = (70 : Int32)) = ((76) = 70) from propext (nI_eq (b := 70) (by decide) (by decide)), show (nI (76) < (80 : Int32)) = ((76) < 80) from propext (nI_ltI (b := 80) (by decide) (by decide)), show ((80 : Int32) < nI (76)) = (80 < (76)) from propext (nI_ltI (a := 80) (by decide) (by decide)), show (nI (76) ≤ (80 : Int32)) = ((76) ≤ 80) from propext (nI_leI (b := 80) (by decide) (by decide)), show ((80 : Int32) ≤ nI (76)) = (80 ≤ (76)) from propext (nI_leI (a := 80) (by decide) (by decide)), show (nI (76) = (80 : Int32)) = ((76) = 80) from propext (nI_eq (b := 80) (by decide) (by decide)), show 60 ≤ 76 from by decide, show ¬ (76 = 70) from by decide, show ¬ 80 ≤ 76 from by decide, nq_yExpr76 hS (show M.length < 61 by omega), forall_eq, not_true_eq_false, not_false_eq_true, true_implies, false_implies, implies_true, and_true, true_and, and_self]
    exact nq_yPush hS.2.2.2 (by omega) H
  · rw [kk] at hK
    obtain ⟨⟨w1, a⟩, rfl, rfl⟩ := nq_1l hK
    have ht2 : t < 2147483648 := by omega
    have nc : nq_col t = false := by
      unfold nq_col
      rw [decide_eq_false_iff_not]
      omega
    have n60 : 60 ≤ t := by omega
    have n70 : ¬ t = 70 := by omega
    have n80 : 80 ≤ t := by omega
    have ee : nq_y ((if 84 ≤ t then 1 else 0) + w / 2 * 2) a = if 84 ≤ t then nq_d a else nq_f a := by
      by_cases h : 84 ≤ t
      · simp only [h, if_true, nq_yc]
      · simp only [h, if_false, nq_ye0]
    simp only [nq_y, hw, if_true, nq_rs, a1, show ¬ (1 = 0) from by decide, if_false, List.map_cons, List.map_nil, List.getD_cons_zero, List.getD_cons_succ, List.getD_nil] at H
    simp only [List.map_cons, List.map_nil, nq_my, ee, List.cons_append, List.nil_append] at hS
    have el : [((if 84 ≤ t then 1 else 0) + w / 2 * 2, a)].length + M.length = M.length + 1 := by simp only [List.length_cons, List.length_nil]; omega
    rw [el]
    simp only [wpY_simple, nq_yCol ht2, nc, nq_bf, show (nI (t) < (60 : Int32)) = ((t) < 60) from propext (nI_ltI (b := 60) (ht2) (by decide)), show ((60 : Int32) < nI (t)) = (60 < (t)) from propext (nI_ltI (a := 60) (by decide) (ht2)), show (nI (t) ≤ (60 : Int32)) = ((t) ≤ 60) from propext (nI_leI (b := 60) (ht2) (by decide)), show ((60 : Int32) ≤ nI (t)) = (60 ≤ (t)) from propext (nI_leI (a := 60) (by decide) (ht2)), show (nI (t) = (60 : Int32)) = ((t) = 60) from propext (nI_eq (b := 60) (ht2) (by decide)), show (nI (t) < (70 : Int32)) = ((t) < 70) from propext (nI_ltI (b := 70) (ht2) (by decide)), show ((70 : Int32) < nI (t)) = (70 < (t)) from propext (nI_ltI (a := 70) (by decide) (ht2)), show (nI (t) ≤ (70 : Int32)) = ((t) ≤ 70) from propext (nI_leI (b := 70) (ht2) (by decide)), show ((70 : Int32) ≤ nI (t)) = (70 ≤ (t)) from propext (nI_leI (a := 70) (by decide) (ht2)), show (nI (t) = (70 : Int32)) = ((t) = 70) from propext (nI_eq (b := 70) (ht2) (by decide)), show (nI (t) < (80 : Int32)) = ((t) < 80) from propext (nI_ltI (b := 80) (ht2) (by decide)), show ((80 : Int32) < nI (t)) = (80 < (t)) from propext (nI_ltI (a := 80) (by decide) (ht2)), show (nI (t) ≤ (80 : Int32)) = ((t) ≤ 80) from propext (nI_leI (b := 80) (ht2) (by decide)), show ((80 : Int32) ≤ nI (t)) = (80 ≤ (t)) from propext (nI_leI (a := 80) (by decide) (ht2)), show (nI (t) = (80 : Int32)) = ((t) = 80) from propext (nI_eq (b := 80) (ht2) (by decide)), n60, n70, n80, nq_yCond1 ht hS (show M.length < 63 by omega), forall_eq, not_true_eq_false, not_false_eq_true, true_implies, false_implies, implies_true, and_true, true_and, and_self]
    exact nq_yPush hS.2 (by omega) H
  · rw [kk] at hK
    obtain ⟨⟨w1, a⟩, ⟨w2, b⟩, rfl, rfl, rfl⟩ := nq_2l hK
    have ht2 : t < 2147483648 := by omega
    have nc : nq_col t = false := by
      unfold nq_col
      rw [decide_eq_false_iff_not]
      omega
    have n60 : 60 ≤ t := by omega
    have n70 : ¬ t = 70 := by omega
    have n80 : 80 ≤ t := by omega
    have ee : ∀ a, nq_y ((if 84 ≤ t then 1 else 0) + w / 2 * 2) a = if 84 ≤ t then nq_d a else nq_f a := by
      intro a
      by_cases h : 84 ≤ t
      · simp only [h, if_true, nq_yc]
      · simp only [h, if_false, nq_ye0]
    simp only [nq_y, hw, if_true, nq_rs, a2, show ¬ (2 = 0) from by decide, if_false, List.map_cons, List.map_nil, List.getD_cons_zero, List.getD_cons_succ, List.getD_nil] at H
    simp only [List.map_cons, List.map_nil, nq_my, ee, List.cons_append, List.nil_append] at hS
    have el : [((if 84 ≤ t then 1 else 0) + w / 2 * 2, a), ((if 84 ≤ t then 1 else 0) + w / 2 * 2, b)].length + M.length = M.length + 1 + 1 := by simp only [List.length_cons, List.length_nil]; omega
    rw [el]
    simp only [wpY_simple, nq_yCol ht2, nc, nq_bf, show (nI (t) < (60 : Int32)) = ((t) < 60) from propext (nI_ltI (b := 60) (ht2) (by decide)), show ((60 : Int32) < nI (t)) = (60 < (t)) from propext (nI_ltI (a := 60) (by decide) (ht2)), show (nI (t) ≤ (60 : Int32)) = ((t) ≤ 60) from propext (nI_leI (b := 60) (ht2) (by decide)), show ((60 : Int32) ≤ nI (t)) = (60 ≤ (t)) from propext (nI_leI (a := 60) (by decide) (ht2)), show (nI (t) = (60 : Int32)) = ((t) = 60) from propext (nI_eq (b := 60) (ht2) (by decide)), show (nI (t) < (70 : Int32)) = ((t) < 70) from propext (nI_ltI (b := 70) (ht2) (by decide)), show ((70 : Int32) < nI (t)) = (70 < (t)) from propext (nI_ltI (a := 70) (by decide) (ht2)), show (nI (t) ≤ (70 : Int32)) = ((t) ≤ 70) from propext (nI_leI (b := 70) (ht2) (by decide)), show ((70 : Int32) ≤ nI (t)) = (70 ≤ (t)) from propext (nI_leI (a := 70) (by decide) (ht2)), show (nI (t) = (70 : Int32)) = ((t) = 70) from propext (nI_eq (b := 70) (ht2) (by decide)), show (nI (t) < (80 : Int32)) = ((t) < 80) from propext (nI_ltI (b := 80) (ht2) (by decide)), show ((80 : Int32) < nI (t)) = (80 < (t)) from propext (nI_ltI (a := 80) (by decide) (ht2)), show (nI (t) ≤ (80 : Int32)) = ((t) ≤ 80) from propext (nI_leI (b := 80) (ht2) (by decide)), show ((80 : Int32) ≤ nI (t)) = (80 ≤ (t)) from propext (nI_leI (a := 80) (by decide) (ht2)), show (nI (t) = (80 : Int32)) = ((t) = 80) from propext (nI_eq (b := 80) (ht2) (by decide)), n60, n70, n80, nq_yCond2 ht hS (show M.length < 62 by omega), forall_eq, not_true_eq_false, not_false_eq_true, true_implies, false_implies, implies_true, and_true, true_and, and_self]
    exact nq_yPush hS.2.2 (by omega) H
/-! the inner evaluation, of the c of a subquery -/
def nq_st (lf : Nat → nq_V) (t : Nat) (s : List nq_V) : List nq_V := nq_rs lf t (s.take (nq_ar t)) :: s.drop (nq_ar t)
/-- the stack after the last j tokens ahead of position e -/
def nq_is (lf : Nat → nq_V) (t : Nat → Nat) (e : Nat) : Nat → List nq_V
  | 0 => []
  | j + 1 => nq_st lf (t (e - 1 - j)) (nq_is lf t e j)
theorem nq_step {lf : Nat → nq_V} {t w : Nat} {L : List (Nat × nq_V)} {iw : List Nat} (hl : (nq_kids t w).length = nq_ar t) (h : L.map Prod.fst = nq_kids t w ++ iw) : ∃ K R, L = K ++ R ∧ K.map Prod.fst = nq_kids t w ∧ R.map Prod.fst = iw ∧ K.length = nq_ar t ∧ nq_st lf t (L.map Prod.snd) = nq_rs lf t (K.map Prod.snd) :: R.map Prod.snd := by
  obtain ⟨K, R, rfl, h1, h2⟩ := List.map_eq_append_iff.mp h
  have hk : K.length = nq_ar t := by rw [← hl, ← h1, List.length_map]
  refine ⟨K, R, rfl, h1, h2, hk, ?_⟩
  unfold nq_st
  rw [List.map_append, List.take_left' (by rw [List.length_map, hk]), List.drop_left' (by rw [List.length_map, hk])]
def nq_op (p : Nat) (t : Nat → Nat) (k : Nat) : Nat := (nq_ws p t k).length
def nq_IsE (p : Nat) (t : Nat → Nat) (s e : Nat) : Prop := s < e ∧ nq_op p t e + 1 = nq_op p t s ∧ ∀ q, s < q → q < e → nq_op p t s ≤ nq_op p t q
theorem nq_kids2 : ∀ t, t < 153 → ∀ w, w < 4 → 2 ≤ w → nq_sub t = false → ∀ x, x ∈ nq_kids t w → 2 ≤ x := by decide +kernel
theorem nq_seg {n t : Nat → Nat} {p s e w0 : Nat} {r : List Nat} (hW : nq_WF n t) (hp : p < 10) (hs : nq_ws p t s = w0 :: r) (hw0 : 2 ≤ w0) (hE : nq_IsE p t s e) (hen : e ≤ n p) : ∀ k, s ≤ k → k ≤ e → ∃ iw, nq_ws p t k = iw ++ r ∧ (∀ x, x ∈ iw → 2 ≤ x) ∧ (k < e → iw ≠ []) ∧ (k = e → iw = []) := by
  obtain ⟨h1, h2, h3⟩ := hE
  unfold nq_op at h2 h3
  rw [hs, List.length_cons] at h2
  have key : ∀ d, s + d ≤ e → ∃ iw, nq_ws p t (s + d) = iw ++ r ∧ (∀ x, x ∈ iw → 2 ≤ x) ∧ (s + d < e → iw ≠ []) ∧ (s + d = e → iw = []) := by
    intro d
    induction d with
    | zero =>
      intro _
      refine ⟨[w0], hs, fun x hx => ?_, fun _ => by simp, fun z => by omega⟩
      rw [List.mem_singleton] at hx
      rw [hx]
      exact hw0
    | succ d ih =>
      intro hd
      obtain ⟨iw, e1, e2, e3, e4⟩ := ih (by omega)
      have hne := e3 (by omega)
      obtain ⟨w, r', f1, f2, ff, w4, t153, kl, es, rl, a3⟩ := nq_wsS hW hp (show s + d < n p by omega)
      match iw, hne with
      | w' :: iw', _ =>
        rw [f1, List.cons_append] at e1
        obtain ⟨rfl, rfl⟩ := List.cons.inj e1
        have hw2 := e2 w List.mem_cons_self
        refine ⟨nq_kids (t (20 * p + (s + d))) w ++ iw', ?_, fun x hx => ?_, fun z => ?_, fun z => ?_⟩
        · rw [show s + (d + 1) = s + d + 1 from rfl, f2, List.append_assoc]
        · rcases List.mem_append.mp hx with hx | hx
          · exact nq_kids2 _ t153 w w4 hw2 (es.resolve_right (by omega)) x hx
          · exact e2 x (List.mem_cons_of_mem _ hx)
        · have := h3 (s + (d + 1)) (by omega) z
          rw [hs, show s + (d + 1) = s + d + 1 from rfl, f2, ← List.append_assoc, List.length_append, List.length_cons] at this
          intro hc
          rw [hc, List.length_nil] at this
          omega
        · rw [← z, show s + (d + 1) = s + d + 1 from rfl, f2, ← List.append_assoc, List.length_append] at h2
          exact List.eq_nil_of_length_eq_zero (by omega)
  intro k hk1 hk2
  have := key (k - s) (by omega)
  rwa [show s + (k - s) = k by omega] at this
theorem nq_oplt {n t : Nat → Nat} {p : Nat} (hW : nq_WF n t) (hp : p < 10) (hc : nq_ws p t (n p) = []) : ∀ d, d ≤ n p → nq_op p t (n p - d) ≤ d := by
  intro d
  induction d with
  | zero =>
    intro _
    unfold nq_op
    rw [Nat.sub_zero, hc]
    exact Nat.le_refl _
  | succ d ih =>
    intro hd
    have := ih (by omega)
    obtain ⟨w, r', f1, f2, ff, w4, t153, kl, es, rl, a3⟩ := nq_wsS hW hp (show n p - (d + 1) < n p by omega)
    unfold nq_op at this ⊢
    rw [show n p - d = n p - (d + 1) + 1 by omega, f2, List.length_append] at this
    rw [f1, List.length_cons]
    omega
end
