section
variable {sc od nc tp cc gc ac : Int32} {Ce Sk Va An Ov : Nat → Int64} {Rc St Jl Tk Tn Su Ne Ha Cb Jd Go Fm : Nat → Int32}
variable {src dis opn sbt sbr dep mny mor grs fnd kpt : Int32} {ySk yRe ySo yAn : Nat → Int64} {yRo yCe yTo yIl ySz yTk yIn yEn ySu yWc yWi yHa yCo yLo yGo yFi : Nat → Int32}
variable {n t : Nat → Nat} {p s e w0 : Nat} {r : List Nat} {cv : Nat → nq_V} {h hv : Nat → Option Nat} {rw tb : Nat → Nat}
theorem nq_y25 {post : SY → Prop} {J14 : Int32 → (Nat → Int32) → (Nat → Int32) → (Nat → Int32) → (Nat → Int32) → (Nat → Int32) → (Nat → Int32) → (Nat → Int32) → (Nat → Int32) → (Nat → Int32) → (Nat → Int32) → (Nat → Int32) → (Nat → Int32) → (Nat → Int64) → (Nat → Int32) → (Nat → Int32) → (Nat → Int32) → (Nat → Int32) → (Nat → Int64) → (Nat → Int64) → (Nat → Int64) → Prop} {i : Nat} (hT : nq_TT n t ySz yTk) (hW : nq_WF n t) (hp : p < 10) (hc : nq_ws p t (n p) = []) (hi : i < n p) (hA : ∀ k, i < k → k < n p → yEn (20 * p + k) = nI (nq_en p t k)) (H : J14 (nI i - 1) yRo yCe yTo yIl ySz yTk yIn (upd yEn (20 * p + i) (nI (nq_en p t i))) ySu yWc yWi yHa ySk yCo yLo yGo yFi yRe ySo yAn) : ∀ f c x, c ≤ nq_ar (t (20 * p + i)) → nq_ar (t (20 * p + i)) - c < f → nq_Ch n p t i c x → wY_mark_25 post J14 (nI p) (nI i) src dis opn sbt sbr dep mny mor grs fnd kpt yRo yCe yTo yIl ySz yTk yIn yEn ySu yWc yWi yHa ySk yCo yLo yGo yFi yRe ySo yAn f (nI x) (nI c) := by
  have hn := (hW p hp).1
  have t153 := (nq_opS hW hp hi).2.2
  have tlt : t (20 * p + i) < 2147483648 := by omega
  have a3 := nq_arle (t (20 * p + i))
  have e0 : 20 * nI p + nI i = nI (20 * p + i) := by simp only [nq_i20, pk_mul, nI_add]
  have i0 : vp_in (nI (20 * p + i)) 200 := vp_in_nI (by omega) (by decide)
  have c0 : (nI (20 * p + i)).toNatClampNeg = 20 * p + i := nI_clamp (by omega)
  have e2 : nI i + (-1) = nI i - 1 := by grind
  intro f
  induction f with
  | zero => intro c x _ h; omega
  | succ f ih =>
    intro c x hca hf hC
    rcases Nat.lt_or_ge c (nq_ar (t (20 * p + i))) with z | z
    · have z3 : ¬ nI (nq_ar (t (20 * p + i))) ≤ nI c := nI_ge z (by omega)
      have xl := nq_chlt hW hp hc hi hC z
      obtain ⟨en1, en2⟩ := nq_enE hW hp hc xl
      have e1 : 20 * nI p + nI x = nI (20 * p + x) := by simp only [nq_i20, pk_mul, nI_add]
      have i1 : vp_in (nI (20 * p + x)) 200 := vp_in_nI (by omega) (by decide)
      have c1 : (nI (20 * p + x)).toNatClampNeg = 20 * p + x := nI_clamp (by omega)
      simp only [wY_mark_25, e0, i0, c0, (hT p hp).2 i hi, nq_yAr tlt, z3, e1, i1, c1, hA x hC.1 xl, nI_1, forall_eq, not_true_eq_false, not_false_eq_true, true_implies, false_implies, implies_true, and_true, true_and, and_self]
      exact ih (c + 1) _ (by omega) (by omega) (nq_chs hC en1 en2)
    · have : c = nq_ar (t (20 * p + i)) := by omega
      subst this
      have z3 : nI (nq_ar (t (20 * p + i))) ≤ nI (nq_ar (t (20 * p + i))) := nI_le (Nat.le_refl _) (by omega)
      have ee := nq_IsEu (nq_chE hW hp hi hC) (nq_enE hW hp hc hi).1
      subst ee
      simp only [wY_mark_25, e0, i0, c0, (hT p hp).2 i hi, nq_yAr tlt, z3, e2, forall_eq, not_true_eq_false, not_false_eq_true, true_implies, false_implies, implies_true, and_true, true_and, and_self]
      exact H
theorem nq_yMark {post : SY → Prop} (hT : nq_TT n t ySz yTk) (hW : nq_WF n t) (hp : p < 10) (hc : 0 < n p → nq_ws p t (n p) = []) (H : ∀ opn' yIn' yWc' yWi' yEn', nq_In n t p yIn' → (∀ j, (j < 20 * p ∨ 20 * p + 20 ≤ j) → yIn' j = yIn j) → (∀ k, k < n p → yEn' (20 * p + k) = nI (nq_en p t k)) → (∀ j, (j < 20 * p ∨ 20 * p + 20 ≤ j) → yEn' j = yEn j) → post (src, dis, opn', sbt, sbr, dep, mny, mor, grs, fnd, kpt, yRo, yCe, yTo, yIl, ySz, yTk, yIn', yEn', ySu, yWc', yWi', yHa, ySk, yCo, yLo, yGo, yFi, yRe, ySo, yAn)) : wpY_mark post (src, dis, opn, sbt, sbr, dep, mny, mor, grs, fnd, kpt, yRo, yCe, yTo, yIl, ySz, yTk, yIn, yEn, ySu, yWc, yWi, yHa, ySk, yCo, yLo, yGo, yFi, yRe, ySo, yAn) (nI p) := by
  have hn := (hW p hp).1
  have ip : vp_in (nI p) 10 := vp_in_nI hp (by decide)
  have cp : (nI p).toNatClampNeg = p := nI_clamp (by omega)
  simp only [wpY_mark]
  refine nq_yScan hT hW hp fun yIn' yWc' yWi' hS' hI hO => ?_
  simp only [ip, cp, (hT p hp).1, forall_eq, not_true_eq_false, not_false_eq_true, true_implies, false_implies, implies_true, and_true, true_and, and_self]
  have key : ∀ i, i ≤ n p → ∀ f, i < f → ∀ yEn', (∀ k, i ≤ k → k < n p → yEn' (20 * p + k) = nI (nq_en p t k)) → (∀ j, (j < 20 * p ∨ 20 * p + 20 ≤ j) → yEn' j = yEn j) → wY_mark_14 post (nI p) src dis (nI (nq_ws p t (n p)).length) sbt sbr dep mny mor grs fnd kpt f (nI i - 1) yRo yCe yTo yIl ySz yTk yIn' yEn' ySu yWc' yWi' yHa ySk yCo yLo yGo yFi yRe ySo yAn := by
    intro i
    induction i with
    | zero =>
      intro _ f hf yEn' hA hB
      obtain ⟨f, rfl⟩ : ∃ g, f = g + 1 := ⟨f - 1, by omega⟩
      have x1 : nI 0 - 1 < 0 := by decide
      simp only [wY_mark_14, x1, forall_eq, not_true_eq_false, not_false_eq_true, true_implies, false_implies, implies_true, and_true, true_and, and_self]
      exact H _ _ _ _ _ hI hO (fun k hk => hA k (by omega) hk) hB
    | succ i ih =>
      intro hi f hf yEn' hA hB
      obtain ⟨f, rfl⟩ : ∃ g, f = g + 1 := ⟨f - 1, by omega⟩
      have x0 : nI (i + 1) - 1 = nI i := nI_pred i
      have x1 : ¬ nI i < 0 := nI_pos (by omega)
      simp only [wY_mark_14, x0, x1, nI_1, forall_eq, not_true_eq_false, not_false_eq_true, true_implies, false_implies, implies_true, and_true, true_and, and_self]
      refine ⟨4, nq_y25 hT hW hp (hc (by omega)) (show i < n p by omega) (fun k h1 h2 => hA k (by omega) h2) ?_ 4 0 (i + 1) (by omega) (by have := nq_arle (t (20 * p + i)); omega) (nq_ch0 (by omega))⟩
      refine ih (by omega) f (by omega) _ (fun k h1 h2 => ?_) (fun j hj => ?_)
      · by_cases z : k = i
        · rw [z, pk_us]
        · rw [pk_un (by omega)]
          exact hA k (by omega) h2
      · rw [pk_un (by omega)]
        exact hB j hj
  exact ⟨_, key (n p) (Nat.le_refl _) (n p + 1) (by omega) yEn (fun k h1 h2 => by omega) (fun j _ => rfl)⟩
/-! the reference's subquery -/
def nq_FL (tok : Nat) (so su un : Bool) (v : nq_V) : Prop :=
  if tok < 100 then v = nq_B so else if tok < 130 then v = (if su = true then some 1 else if un = true then none else some 0) else v = (if su = true then some 0 else if un = true then none else some 1)
def nq_told (v : nq_V) : Int32 := match v with
  | none => 2
  | some x => x
theorem nq_FLs {tok : Nat} {so su un : Bool} {v a c : nq_V} (h : nq_FL tok so su un v) : nq_FL tok true (su || decide (nq_told (if 130 ≤ tok then nq_less a c else nq_same a c) = if 130 ≤ tok then 0 else 1)) (un || decide (nq_told (if 130 ≤ tok then nq_less a c else nq_same a c) = 2)) (if tok < 100 then some 1 else if tok < 130 then nq_or v (nq_same a c) else nq_and v (nq_less a c)) := by
  unfold nq_FL at h ⊢
  by_cases l : tok < 100
  · simp only [l, if_true]
    rfl
  · simp only [l, if_false] at h ⊢
    by_cases m : tok < 130
    · have m2 : ¬ 130 ≤ tok := by omega
      simp only [m, m2, if_true, if_false] at h ⊢
      subst h
      rcases nq_same01 a c with h | h | h <;> rw [h] <;> cases su <;> cases un <;> decide
    · have m2 : 130 ≤ tok := by omega
      simp only [m, m2, if_true, if_false] at h ⊢
      subst h
      rcases nq_less01 a c with h | h | h <;> rw [h] <;> cases su <;> cases un <;> decide
theorem nq_y216 {post : Int64 → SY → Prop} {J121 : Int32 → Int32 → Int32 → Int32 → Int32 → Int32 → Int32 → Int32 → Int32 → Int32 → Int32 → Int32 → Int32 → Int32 → Int32 → (Nat → Int32) → (Nat → Int32) → (Nat → Int32) → (Nat → Int32) → (Nat → Int32) → (Nat → Int32) → (Nat → Int32) → (Nat → Int32) → (Nat → Int32) → (Nat → Int32) → (Nat → Int32) → (Nat → Int32) → (Nat → Int64) → (Nat → Int32) → (Nat → Int32) → (Nat → Int32) → (Nat → Int32) → (Nat → Int64) → (Nat → Int64) → (Nat → Int64) → Prop} {x1 x2 x4 x5 x6 x9 x13 told : Int32} {x7 : Int64} {tok : Nat} {su un : Bool} (ht : tok < 2147483648) (H : J121 1 (nq_b (su || decide (told = if 130 ≤ tok then 0 else 1))) (nq_b (un || decide (told = 2))) (x13 + 1) src dis opn sbt sbr dep mny mor grs fnd kpt yRo yCe yTo yIl ySz yTk yIn yEn ySu yWc yWi yHa ySk yCo yLo yGo yFi yRe ySo yAn) : wY_subquery_216 post J121 x1 x2 (nI tok) x4 x5 x6 x7 x9 (nq_b su) (nq_b un) x13 told src dis opn sbt sbr dep mny mor grs fnd kpt yRo yCe yTo yIl ySz yTk yIn yEn ySu yWc yWi yHa ySk yCo yLo yGo yFi yRe ySo yAn := by
  simp only [wY_subquery_216, wY_subquery_240, wY_subquery_243, wY_subquery_248, nq_b0, show (nI (tok) < (130 : Int32)) = ((tok) < 130) from propext (nI_ltI (b := 130) (ht) (by decide)), show ((130 : Int32) < nI (tok)) = (130 < (tok)) from propext (nI_ltI (a := 130) (by decide) (ht)), show (nI (tok) ≤ (130 : Int32)) = ((tok) ≤ 130) from propext (nI_leI (b := 130) (ht) (by decide)), show ((130 : Int32) ≤ nI (tok)) = (130 ≤ (tok)) from propext (nI_leI (a := 130) (by decide) (ht)), show (nI (tok) = (130 : Int32)) = ((tok) = 130) from propext (nI_eq (b := 130) (ht) (by decide)), forall_eq, not_true_eq_false, not_false_eq_true, true_implies, false_implies, implies_true, and_true, true_and, and_self]
  by_cases m : 130 ≤ tok
  · simp only [m, if_true] at H
    simp only [m, forall_eq, not_true_eq_false, not_false_eq_true, true_implies, false_implies, implies_true, and_true, true_and, and_self]
    cases su
    · by_cases t0 : told = 0
      · simp only [t0, decide_true, Bool.or_true] at H
        simp only [t0, forall_eq, not_true_eq_false, not_false_eq_true, true_implies, false_implies, implies_true, and_true, true_and, and_self]
        cases un
        · simp only [show ¬ (0 : Int32) = 2 from by decide, decide_false, Bool.or_false] at H
          simp only [show ¬ (0 : Int32) = 2 from by decide, forall_eq, not_true_eq_false, not_false_eq_true, true_implies, false_implies, implies_true, and_true, true_and, and_self]
          exact H
        · simp only [Bool.true_or] at H
          simp only [reduceCtorEq, forall_eq, not_true_eq_false, not_false_eq_true, true_implies, false_implies, implies_true, and_true, true_and, and_self]
          exact H
      · simp only [t0, decide_false, Bool.or_false] at H
        simp only [t0, forall_eq, not_true_eq_false, not_false_eq_true, true_implies, false_implies, implies_true, and_true, true_and, and_self]
        cases un
        · by_cases t2 : told = 2
          · simp only [t2, decide_true, Bool.or_true] at H
            simp only [t2, forall_eq, not_true_eq_false, not_false_eq_true, true_implies, false_implies, implies_true, and_true, true_and, and_self]
            exact H
          · simp only [t2, decide_false, Bool.or_false] at H
            simp only [t2, forall_eq, not_true_eq_false, not_false_eq_true, true_implies, false_implies, implies_true, and_true, true_and, and_self]
            exact H
        · simp only [Bool.true_or] at H
          simp only [reduceCtorEq, forall_eq, not_true_eq_false, not_false_eq_true, true_implies, false_implies, implies_true, and_true, true_and, and_self]
          exact H
    · simp only [Bool.true_or] at H
      simp only [reduceCtorEq, forall_eq, not_true_eq_false, not_false_eq_true, true_implies, false_implies, implies_true, and_true, true_and, and_self]
      cases un
      · by_cases t2 : told = 2
        · simp only [t2, decide_true, Bool.or_true] at H
          simp only [t2, forall_eq, not_true_eq_false, not_false_eq_true, true_implies, false_implies, implies_true, and_true, true_and, and_self]
          exact H
        · simp only [t2, decide_false, Bool.or_false] at H
          simp only [t2, forall_eq, not_true_eq_false, not_false_eq_true, true_implies, false_implies, implies_true, and_true, true_and, and_self]
          exact H
      · simp only [Bool.true_or] at H
        simp only [reduceCtorEq, forall_eq, not_true_eq_false, not_false_eq_true, true_implies, false_implies, implies_true, and_true, true_and, and_self]
        exact H
  · simp only [m, if_false] at H
    simp only [m, forall_eq, not_true_eq_false, not_false_eq_true, true_implies, false_implies, implies_true, and_true, true_and, and_self]
    cases su
    · by_cases t0 : told = 1
      · simp only [t0, decide_true, Bool.or_true] at H
        simp only [t0, forall_eq, not_true_eq_false, not_false_eq_true, true_implies, false_implies, implies_true, and_true, true_and, and_self]
        cases un
        · simp only [show ¬ (1 : Int32) = 2 from by decide, decide_false, Bool.or_false] at H
          simp only [show ¬ (1 : Int32) = 2 from by decide, forall_eq, not_true_eq_false, not_false_eq_true, true_implies, false_implies, implies_true, and_true, true_and, and_self]
          exact H
        · simp only [Bool.true_or] at H
          simp only [reduceCtorEq, forall_eq, not_true_eq_false, not_false_eq_true, true_implies, false_implies, implies_true, and_true, true_and, and_self]
          exact H
      · simp only [t0, decide_false, Bool.or_false] at H
        simp only [t0, forall_eq, not_true_eq_false, not_false_eq_true, true_implies, false_implies, implies_true, and_true, true_and, and_self]
        cases un
        · by_cases t2 : told = 2
          · simp only [t2, decide_true, Bool.or_true] at H
            simp only [t2, forall_eq, not_true_eq_false, not_false_eq_true, true_implies, false_implies, implies_true, and_true, true_and, and_self]
            exact H
          · simp only [t2, decide_false, Bool.or_false] at H
            simp only [t2, forall_eq, not_true_eq_false, not_false_eq_true, true_implies, false_implies, implies_true, and_true, true_and, and_self]
            exact H
        · simp only [Bool.true_or] at H
          simp only [reduceCtorEq, forall_eq, not_true_eq_false, not_false_eq_true, true_implies, false_implies, implies_true, and_true, true_and, and_self]
          exact H
    · simp only [Bool.true_or] at H
      simp only [reduceCtorEq, forall_eq, not_true_eq_false, not_false_eq_true, true_implies, false_implies, implies_true, and_true, true_and, and_self]
      cases un
      · by_cases t2 : told = 2
        · simp only [t2, decide_true, Bool.or_true] at H
          simp only [t2, forall_eq, not_true_eq_false, not_false_eq_true, true_implies, false_implies, implies_true, and_true, true_and, and_self]
          exact H
        · simp only [t2, decide_false, Bool.or_false] at H
          simp only [t2, forall_eq, not_true_eq_false, not_false_eq_true, true_implies, false_implies, implies_true, and_true, true_and, and_self]
          exact H
      · simp only [Bool.true_or] at H
        simp only [reduceCtorEq, forall_eq, not_true_eq_false, not_false_eq_true, true_implies, false_implies, implies_true, and_true, true_and, and_self]
        exact H
end
