section
variable {sc od nc tp cc gc ac : Int32} {Ce Sk Va An Ov : Nat → Int64} {Rc St Jl Tk Tn Su Ne Ha Cb Jd Go Fm : Nat → Int32}
variable {src dis opn sbt sbr dep mny mor grs fnd kpt : Int32} {ySk yRe ySo yAn : Nat → Int64} {yRo yCe yTo yIl ySz yTk yIn yEn ySu yWc yWi yHa yCo yLo yGo yFi : Nat → Int32}
def nq_b (b : Bool) : Int32 := if b = true then 1 else 0
theorem nq_bt : nq_b true = 1 := rfl
theorem nq_bf : nq_b false = 0 := rfl
theorem nq_b0 {b : Bool} : nq_b b = 0 ↔ b = false := by cases b <;> decide
theorem nq_bnar (b : Bool) : vp_nar .boolean (nq_b b) = nq_b b := by cases b <;> rfl
theorem nq_bnrw (b : Bool) : narrow .boolean (.int (nq_b b)) = .int (nq_b b) := by cases b <;> rfl
theorem nq_ite (post : Int32 → Prop) {c : Prop} [Decidable c] {x y : Int32} : ((c → post x) ∧ (¬ c → post y)) ↔ post (if c then x else y) := by
  by_cases h : c
  · simp only [h, if_true, forall_eq, not_true_eq_false, not_false_eq_true, true_implies, false_implies, implies_true, and_true, true_and, and_self]
  · simp only [h, if_false, forall_eq, not_true_eq_false, not_false_eq_true, true_implies, false_implies, implies_true, and_true, true_and, and_self]
theorem nq_lo {t : Nat} (ht : t < 2147483648) (b : Nat) (hb : (OfNat.ofNat b : Nat) < 2147483648) : nI t < no_index (OfNat.ofNat b : Int32) ↔ t < (OfNat.ofNat b : Nat) := nI_ltI ht hb
theorem nq_ol {t : Nat} (ht : t < 2147483648) (b : Nat) (hb : (OfNat.ofNat b : Nat) < 2147483648) : no_index (OfNat.ofNat b : Int32) < nI t ↔ (OfNat.ofNat b : Nat) < t := nI_ltI hb ht
theorem nq_leo {t : Nat} (ht : t < 2147483648) (b : Nat) (hb : (OfNat.ofNat b : Nat) < 2147483648) : nI t ≤ no_index (OfNat.ofNat b : Int32) ↔ t ≤ (OfNat.ofNat b : Nat) := nI_leI ht hb
theorem nq_ole {t : Nat} (ht : t < 2147483648) (b : Nat) (hb : (OfNat.ofNat b : Nat) < 2147483648) : no_index (OfNat.ofNat b : Int32) ≤ nI t ↔ (OfNat.ofNat b : Nat) ≤ t := nI_leI hb ht
theorem nq_eqo {t : Nat} (ht : t < 2147483648) (b : Nat) (hb : (OfNat.ofNat b : Nat) < 2147483648) : nI t = no_index (OfNat.ofNat b : Int32) ↔ t = (OfNat.ofNat b : Nat) := nI_eq ht hb
theorem nq_div {t : Nat} (ht : t < 2147483648) : nI t / 10 = nI (t / 10) := pk_div (d := 10) ht (by decide) (by decide)
theorem nq_rem {t : Nat} (ht : t < 2147483648) : nI t - nI t / 10 * 10 = nI (t % 10) := pk_rem (d := 10) ht (by decide) (by decide)
theorem nq_tn0 : ¬ (10 : Int32) = 0 := by decide
theorem nq_m10 (t : Nat) : t % 10 < 2147483648 := by omega
theorem nq_d10 {t : Nat} (ht : t < 2147483648) : t / 10 < 2147483648 := by omega
theorem nq_xSub {post : Int32 → Prop} {t : Nat} (ht : t < 2147483648) : wpX_isSubquery post (nI t) ↔ post (nq_b (nq_sub t)) := by
  simp only [wpX_isSubquery, wX_isSubquery_12, nq_tn0, nq_rem ht, nq_lo ht, nq_ol ht, nq_leo ht, nq_ole (nq_m10 t), nq_ite post, Nat.reduceLT, forall_eq, not_true_eq_false, not_false_eq_true, true_implies, false_implies, implies_true, and_true, true_and, and_self]
  refine iff_of_eq (congrArg post ?_)
  simp only [nq_b, nq_sub, decide_eq_true_eq]
  repeat' split
  all_goals first | rfl | (exfalso; omega)
theorem nq_xCol {post : Int32 → Prop} {t : Nat} (ht : t < 2147483648) : wpX_isColumn post (nI t) ↔ post (nq_b (nq_col t)) := by
  simp only [wpX_isColumn, nI_pos (n := t) ht, nq_tn0, nq_rem ht, nq_ol ht, nq_ole (nq_m10 t), nq_ite post, Nat.reduceLT, forall_eq, not_true_eq_false, not_false_eq_true, true_implies, false_implies, implies_true, and_true, true_and, and_self]
  refine iff_of_eq (congrArg post ?_)
  simp only [nq_b, nq_col, decide_eq_true_eq]
  repeat' split
  all_goals first | rfl | (exfalso; omega)
theorem nq_xAr {post : Int32 → Prop} {t : Nat} (ht : t < 2147483648) : wpX_operands post (nI t) ↔ post (nI (nq_ar t)) := by
  simp only [wpX_operands, wX_operands_46, wX_operands_50, wX_operands_51, show ¬ (1 : Int32) = 0 from by decide, nq_lo ht, nq_ol ht, nq_eqo ht, nq_ite post, Nat.reduceLT, forall_eq, not_true_eq_false, not_false_eq_true, true_implies, false_implies, implies_true, and_true, true_and, and_self]
  refine iff_of_eq (congrArg post ?_)
  simp only [nq_ar]
  repeat' split
  all_goals first | rfl | (exfalso; omega)
theorem nq_xCp {post : Int32 → Prop} {p : Nat} (hp : p < 10) : wpX_isConditionPart post (nI p) ↔ post (nq_b (decide (p ≤ 3))) := by
  simp only [wpX_isConditionPart, nq_ol (t := p) (by omega), nq_ite post, Nat.reduceLT, forall_eq, not_true_eq_false, not_false_eq_true, true_implies, false_implies, implies_true, and_true, true_and, and_self]
  refine iff_of_eq (congrArg post ?_)
  simp only [nq_b, decide_eq_true_eq]
  repeat' split
  all_goals first | rfl | (exfalso; omega)
def nq_mat (t : Nat) : Bool := decide (100 ≤ t ∧ t ≤ 152 ∧ t % 10 < 3)
theorem nq_yCol {post : Int32 → Prop} {t : Nat} (ht : t < 2147483648) : wpY_isColumn post (src, dis, opn, sbt, sbr, dep, mny, mor, grs, fnd, kpt, yRo, yCe, yTo, yIl, ySz, yTk, yIn, yEn, ySu, yWc, yWi, yHa, ySk, yCo, yLo, yGo, yFi, yRe, ySo, yAn) (nI t) ↔ post (nq_b (nq_col t)) := by
  simp only [wpY_isColumn, nI_pos (n := t) ht, nq_tn0, nq_rem ht, nq_ol ht, nq_ol (nq_m10 t), nq_ite post, Nat.reduceLT, forall_eq, not_true_eq_false, not_false_eq_true, true_implies, false_implies, implies_true, and_true, true_and, and_self]
  refine iff_of_eq (congrArg post ?_)
  simp only [nq_b, nq_col, decide_eq_true_eq]
  repeat' split
  all_goals first | rfl | (exfalso; omega)
theorem nq_yMat {post : Int32 → Prop} {t : Nat} (ht : t < 2147483648) : wpY_isMatch post (src, dis, opn, sbt, sbr, dep, mny, mor, grs, fnd, kpt, yRo, yCe, yTo, yIl, ySz, yTk, yIn, yEn, ySu, yWc, yWi, yHa, ySk, yCo, yLo, yGo, yFi, yRe, ySo, yAn) (nI t) ↔ post (nq_b (nq_mat t)) := by
  simp only [wpY_isMatch, wY_isMatch_26, nq_tn0, nq_rem ht, nq_lo ht, nq_ol ht, nq_leo ht, nq_ol (nq_m10 t), nq_ite post, Nat.reduceLT, forall_eq, not_true_eq_false, not_false_eq_true, true_implies, false_implies, implies_true, and_true, true_and, and_self]
  refine iff_of_eq (congrArg post ?_)
  simp only [nq_b, nq_mat, decide_eq_true_eq]
  repeat' split
  all_goals first | rfl | (exfalso; omega)
theorem nq_ySub {post : Int32 → Prop} {t : Nat} (ht : t < 2147483648) : wpY_isSubquery post (src, dis, opn, sbt, sbr, dep, mny, mor, grs, fnd, kpt, yRo, yCe, yTo, yIl, ySz, yTk, yIn, yEn, ySu, yWc, yWi, yHa, ySk, yCo, yLo, yGo, yFi, yRe, ySo, yAn) (nI t) ↔ post (nq_b (nq_sub t)) := by
  simp only [wpY_isSubquery, wY_isSubquery_12, nq_yMat ht, nq_b0, nq_lo ht, nq_leo ht, nq_ite post, Nat.reduceLT, forall_eq, not_true_eq_false, not_false_eq_true, true_implies, false_implies, implies_true, and_true, true_and, and_self]
  refine iff_of_eq (congrArg post ?_)
  simp only [nq_b, nq_mat, nq_sub, decide_eq_true_eq, decide_eq_false_iff_not]
  repeat' split
  all_goals first | rfl | (exfalso; omega)
def nq_isE (t : Nat) : Bool := nq_col t || decide ((41 ≤ t ∧ t ≤ 59) ∨ (70 ≤ t ∧ t ≤ 76))
def nq_isC (t : Nat) : Bool := decide (80 ≤ t ∧ t ≤ 87) || nq_sub t
theorem nq_yE {post : Int32 → Prop} {t : Nat} (ht : t < 2147483648) : wpY_isExpression post (src, dis, opn, sbt, sbr, dep, mny, mor, grs, fnd, kpt, yRo, yCe, yTo, yIl, ySz, yTk, yIn, yEn, ySu, yWc, yWi, yHa, ySk, yCo, yLo, yGo, yFi, yRe, ySo, yAn) (nI t) ↔ post (nq_b (nq_isE t)) := by
  simp only [wpY_isExpression, wY_isExpression_20, nq_yCol ht, nq_b0, nq_lo ht, nq_ol ht, nq_leo ht, nq_ite post, Nat.reduceLT, forall_eq, not_true_eq_false, not_false_eq_true, true_implies, false_implies, implies_true, and_true, true_and, and_self]
  refine iff_of_eq (congrArg post ?_)
  simp only [nq_b, nq_isE]
  cases nq_col t <;> simp only [Bool.true_or, Bool.false_or, decide_eq_true_eq, if_true, if_false, reduceCtorEq]
  repeat' split
  all_goals first | rfl | (exfalso; omega)
theorem nq_yC {post : Int32 → Prop} {t : Nat} (ht : t < 2147483648) : wpY_isCondition post (src, dis, opn, sbt, sbr, dep, mny, mor, grs, fnd, kpt, yRo, yCe, yTo, yIl, ySz, yTk, yIn, yEn, ySu, yWc, yWi, yHa, ySk, yCo, yLo, yGo, yFi, yRe, ySo, yAn) (nI t) ↔ post (nq_b (nq_isC t)) := by
  simp only [wpY_isCondition, wY_isCondition_12, nq_ySub ht, nq_b0, nq_lo ht, nq_ol ht, nq_leo ht, nq_ite post, Nat.reduceLT, forall_eq, not_true_eq_false, not_false_eq_true, true_implies, false_implies, implies_true, and_true, true_and, and_self]
  refine iff_of_eq (congrArg post ?_)
  simp only [nq_b, nq_isC]
  cases nq_sub t <;> simp only [Bool.or_true, Bool.or_false, decide_eq_true_eq, if_true, if_false, reduceCtorEq]
  repeat' split
  all_goals first | rfl | (exfalso; omega)
theorem nq_yAr {post : Int32 → Prop} {t : Nat} (ht : t < 2147483648) : wpY_partsOf post (src, dis, opn, sbt, sbr, dep, mny, mor, grs, fnd, kpt, yRo, yCe, yTo, yIl, ySz, yTk, yIn, yEn, ySu, yWc, yWi, yHa, ySk, yCo, yLo, yGo, yFi, yRe, ySo, yAn) (nI t) ↔ post (nI (nq_ar t)) := by
  simp only [wpY_partsOf, nq_lo ht, nq_ol ht, nq_eqo ht, nq_ite post, Nat.reduceLT, forall_eq, not_true_eq_false, not_false_eq_true, true_implies, false_implies, implies_true, and_true, true_and, and_self]
  refine iff_of_eq (congrArg post ?_)
  simp only [nq_ar]
  repeat' split
  all_goals first | rfl | (exfalso; omega)
def nq_tc (t i : Nat) : Bool := if t = 76 then decide (i = 0) else if (84 ≤ t ∧ t ≤ 87) ∨ (90 ≤ t ∧ t ≤ 92) then true else (nq_mat t && decide (i = 1))
theorem nq_yTc {post : Int32 → Prop} {t i : Nat} (ht : t < 2147483648) (hi : i < 3) : wpY_takesCondition post (src, dis, opn, sbt, sbr, dep, mny, mor, grs, fnd, kpt, yRo, yCe, yTo, yIl, ySz, yTk, yIn, yEn, ySu, yWc, yWi, yHa, ySk, yCo, yLo, yGo, yFi, yRe, ySo, yAn) (nI t) (nI i) ↔ post (nq_b (nq_tc t i)) := by
  have hi2 : i < 2147483648 := by omega
  simp only [wpY_takesCondition, wY_takesCondition_28, wY_takesCondition_42, nq_yMat ht, nq_b0, nq_lo ht, nq_ol ht, nq_leo ht, nq_eqo ht, nq_eqo hi2, nq_ite post, Nat.reduceLT, forall_eq, not_true_eq_false, not_false_eq_true, true_implies, false_implies, implies_true, and_true, true_and, and_self]
  refine iff_of_eq (congrArg post ?_)
  simp only [nq_b, nq_tc]
  cases nq_mat t <;> simp only [Bool.true_and, Bool.false_and]
  all_goals repeat' split
  all_goals first | rfl | (exfalso; simp_all; done) | (exfalso; simp_all; omega)
theorem nq_kidsY : ∀ t, t < 153 → ∀ w, w < 4 → (nq_sub t = false ∨ w < 2) → nq_kids t w = (List.range (nq_ar t)).map (fun i => (if nq_tc t i = true then 1 else 0) + 2 * (if 2 ≤ w ∨ (nq_sub t = true ∧ nq_tc t i = true) then 1 else 0)) := by
  decide +kernel
theorem nq_kidsL : ∀ t, t < 153 → ∀ w, w < 4 → (nq_kids t w).length = nq_ar t ∧ nq_ar t ≤ 3 ∧ ∀ x, x ∈ nq_kids t w → x < 4 := by
  decide +kernel
theorem nq_fit153 {p t w : Nat} (h : nq_fit p t w = true) : t < 153 ∧ (nq_sub t = false ∨ w < 2) := by
  unfold nq_fit at h
  by_cases hw : w % 2 = 1
  · rw [if_pos hw, decide_eq_true_eq] at h
    cases hs : nq_sub t with
    | false => rw [hs] at h; exact ⟨by have := h.resolve_right (fun z => nomatch z.1); omega, Or.inl rfl⟩
    | true =>
      have h2 := hs
      unfold nq_sub at h2
      rw [decide_eq_true_eq] at h2
      exact ⟨by omega, Or.inr (by rcases h with h | h; omega; exact h.2)⟩
  · rw [if_neg hw] at h
    have h3 : t < 77 := by
      by_cases hc : nq_col t = true
      · unfold nq_col at hc
        rw [decide_eq_true_eq] at hc
        omega
      · rw [if_neg hc, decide_eq_true_eq] at h
        omega
    refine ⟨by omega, Or.inl ?_⟩
    unfold nq_sub
    rw [decide_eq_false_iff_not]
    omega
/-! stacks in arrays: the top first -/
def nq_St {α : Type} (A : Nat → α) : List α → Prop
  | [] => True
  | a :: r => A r.length = a ∧ nq_St A r
theorem nq_St_c {α : Type} {A B : Nat → α} : ∀ {L : List α}, nq_St A L → (∀ i, i < L.length → B i = A i) → nq_St B L
  | [], _, _ => trivial
  | a :: r, h, hc => ⟨(hc r.length (by simp)).trans h.1, nq_St_c h.2 fun i hi => hc i (by simp; omega)⟩
theorem nq_St_p {A : Nat → Int32} {L : List Int32} {x : Int32} (h : nq_St A L) : nq_St (upd A L.length x) (x :: L) :=
  ⟨pk_us, nq_St_c h fun i hi => pk_un (by omega)⟩
theorem nq_St_pL {A : Nat → Int64} {L : List Int64} {x : Int64} (h : nq_St A L) : nq_St (vp_updL A L.length x) (x :: L) :=
  ⟨pk_uLs, nq_St_c h fun i hi => pk_uLn (by omega)⟩
theorem nq_St_a {α : Type} {A : Nat → α} : ∀ {L M : List α}, nq_St A (L ++ M) → nq_St A M
  | [], _, h => h
  | _ :: _, _, h => nq_St_a h.2
end
