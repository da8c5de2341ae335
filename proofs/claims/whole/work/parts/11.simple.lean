section
variable {sc od nc tp cc gc ac : Int32} {Ce Sk Va An Ov : Nat → Int64} {Rc St Jl Tk Tn Su Ne Ha Cb Jd Go Fm : Nat → Int32}
variable {src dis opn sbt sbr dep mny mor grs fnd kpt : Int32} {ySk yRe ySo yAn : Nat → Int64} {yRo yCe yTo yIl ySz yTk yIn yEn ySu yWc yWi yHa yCo yLo yGo yFi : Nat → Int32}
theorem nq_yPop {post : Int64 → SY → Prop} {x : Int64} {M : List Int64} {k : Nat} (hS : nq_St ySk (x :: M)) (hk : M.length = k) (hM : k < 64) : wpY_pop post (src, dis, opn, sbt, sbr, (nI (k + 1)), mny, mor, grs, fnd, kpt, yRo, yCe, yTo, yIl, ySz, yTk, yIn, yEn, ySu, yWc, yWi, yHa, ySk, yCo, yLo, yGo, yFi, yRe, ySo, yAn) ↔ post x (src, dis, opn, sbt, sbr, (nI k), mny, mor, grs, fnd, kpt, yRo, yCe, yTo, yIl, ySz, yTk, yIn, yEn, ySu, yWc, yWi, yHa, ySk, yCo, yLo, yGo, yFi, yRe, ySo, yAn) := by
  subst hk
  have i1 : vp_in (nI M.length) 64 := vp_in_nI hM (by decide)
  have c1 : (nI M.length).toNatClampNeg = M.length := nI_clamp (by omega)
  have s1 : ySk M.length = x := hS.1
  simp only [wpY_pop, nI_pred, i1, c1, s1, forall_eq, not_true_eq_false, not_false_eq_true, true_implies, false_implies, implies_true, and_true, true_and, and_self]
theorem nq_yPush {post : SY → Prop} {x : Int64} {M : List Int64} (hS : nq_St ySk M) (hM : M.length < 64) (H : ∀ ySk', nq_St ySk' (x :: M) → post (src, dis, opn, sbt, sbr, (nI (M.length + 1)), mny, mor, grs, fnd, kpt, yRo, yCe, yTo, yIl, ySz, yTk, yIn, yEn, ySu, yWc, yWi, yHa, ySk', yCo, yLo, yGo, yFi, yRe, ySo, yAn)) : wpY_push post (src, dis, opn, sbt, sbr, (nI M.length), mny, mor, grs, fnd, kpt, yRo, yCe, yTo, yIl, ySz, yTk, yIn, yEn, ySu, yWc, yWi, yHa, ySk, yCo, yLo, yGo, yFi, yRe, ySo, yAn) x := by
  have i1 : vp_in (nI M.length) 64 := vp_in_nI hM (by decide)
  have c1 : (nI M.length).toNatClampNeg = M.length := nI_clamp (by omega)
  simp only [wpY_push, i1, c1, nI_1, forall_eq, not_true_eq_false, not_false_eq_true, true_implies, false_implies, implies_true, and_true, true_and, and_self]
  exact H _ (nq_St_pL hS)
theorem nq_yCell {post : Int64 → Prop} {cv : Nat → nq_V} {a b c : Nat} (hv : ∀ j, cv j ≠ some 1000) (h : 18 * a + 3 * b + c < 54) : wpY_cell post (src, dis, opn, sbt, sbr, dep, mny, mor, grs, fnd, kpt, yRo, (fun j => nq_k (cv j)), yTo, yIl, ySz, yTk, yIn, yEn, ySu, yWc, yWi, yHa, ySk, yCo, yLo, yGo, yFi, yRe, ySo, yAn) (nI a) (nI b) (nI c) ↔ post (nq_f (cv (18 * a + 3 * b + c))) := by
  have e1 : 18 * nI a + 3 * nI b + nI c = nI (18 * a + 3 * b + c) := by simp only [nq_i18, nq_i3, pk_mul, nI_add]
  have i1 : vp_in (nI (18 * a + 3 * b + c)) 54 := vp_in_nI h (by decide)
  have c1 : (nI (18 * a + 3 * b + c)).toNatClampNeg = 18 * a + 3 * b + c := nI_clamp (by omega)
  simp only [wpY_cell, e1, i1, c1, forall_eq, not_true_eq_false, not_false_eq_true, true_implies, false_implies, implies_true, and_true, true_and, and_self]
  have := hv (18 * a + 3 * b + c)
  cases hq : cv (18 * a + 3 * b + c) with
  | none => simp only [nq_k, nq_f, forall_eq, not_true_eq_false, not_false_eq_true, true_implies, false_implies, implies_true, and_true, true_and, and_self]
  | some x =>
    rw [hq] at this
    have h2 : ¬ x = 1000 := fun e => this (by rw [e])
    simp only [nq_k, nq_f, h2, forall_eq, not_true_eq_false, not_false_eq_true, true_implies, false_implies, implies_true, and_true, true_and, and_self]
theorem nq_yLess {post : Int32 → Prop} {a b : nq_V} : wpY_isLess post (src, dis, opn, sbt, sbr, dep, mny, mor, grs, fnd, kpt, yRo, yCe, yTo, yIl, ySz, yTk, yIn, yEn, ySu, yWc, yWi, yHa, ySk, yCo, yLo, yGo, yFi, yRe, ySo, yAn) (nq_f a) (nq_f b) ↔ post (match nq_less a b with | none => 2 | some x => x) := by
  cases a with
  | none => simp only [wpY_isLess, nq_f, nq_less, nq_l2, forall_eq, not_true_eq_false, not_false_eq_true, true_implies, false_implies, implies_true, and_true, true_and, and_self]
  | some x => cases b with
    | none => simp only [wpY_isLess, nq_f, nq_ne2, nq_less, nq_l2, forall_eq, not_true_eq_false, not_false_eq_true, true_implies, false_implies, implies_true, and_true, true_and, and_self]
    | some y =>
      by_cases h : y ≤ x
      · simp only [wpY_isLess, nq_f, nq_ne2, nq_less, nq_l2, Int32.toInt64_le, h, Int32.not_lt.mpr h, if_false, forall_eq, not_true_eq_false, not_false_eq_true, true_implies, false_implies, implies_true, and_true, true_and, and_self]
      · simp only [wpY_isLess, nq_f, nq_ne2, nq_less, nq_l2, Int32.toInt64_le, h, Int32.not_le.mp h, if_true, forall_eq, not_true_eq_false, not_false_eq_true, true_implies, false_implies, implies_true, and_true, true_and, and_self]
theorem nq_yEq {post : Int32 → Prop} {a b : nq_V} : wpY_isEqual post (src, dis, opn, sbt, sbr, dep, mny, mor, grs, fnd, kpt, yRo, yCe, yTo, yIl, ySz, yTk, yIn, yEn, ySu, yWc, yWi, yHa, ySk, yCo, yLo, yGo, yFi, yRe, ySo, yAn) (nq_f a) (nq_f b) ↔ post (match nq_same a b with | none => 2 | some x => x) := by
  cases a with
  | none => simp only [wpY_isEqual, nq_f, nq_same, nq_l2, forall_eq, not_true_eq_false, not_false_eq_true, true_implies, false_implies, implies_true, and_true, true_and, and_self]
  | some x => cases b with
    | none => simp only [wpY_isEqual, nq_f, nq_ne2, nq_same, nq_l2, forall_eq, not_true_eq_false, not_false_eq_true, true_implies, false_implies, implies_true, and_true, true_and, and_self]
    | some y =>
      by_cases h : x = y
      · simp only [wpY_isEqual, nq_f, nq_ne2, nq_same, nq_l2, nq_64, h, if_true, forall_eq, not_true_eq_false, not_false_eq_true, true_implies, false_implies, implies_true, and_true, true_and, and_self]
      · simp only [wpY_isEqual, nq_f, nq_ne2, nq_same, nq_l2, nq_64, h, if_false, forall_eq, not_true_eq_false, not_false_eq_true, true_implies, false_implies, implies_true, and_true, true_and, and_self]
theorem nq_m2 (a : nq_V) (h : a = none ∨ a = some 0 ∨ a = some 1) : (match a with | none => (2 : Int32) | some x => x).toInt64 = nq_d a := by
  rcases h with h | h | h <;> subst h <;> rfl
theorem nq_less01 (a b : nq_V) : nq_less a b = none ∨ nq_less a b = some 0 ∨ nq_less a b = some 1 := by
  cases a with
  | none => exact Or.inl rfl
  | some x => cases b with
    | none => exact Or.inl rfl
    | some y =>
      by_cases h : x < y
      · exact Or.inr (Or.inr (by simp [nq_less, nq_l2, h]))
      · exact Or.inr (Or.inl (by simp [nq_less, nq_l2, h]))
theorem nq_same01 (a b : nq_V) : nq_same a b = none ∨ nq_same a b = some 0 ∨ nq_same a b = some 1 := by
  cases a with
  | none => exact Or.inl rfl
  | some x => cases b with
    | none => exact Or.inl rfl
    | some y =>
      by_cases h : x = y
      · exact Or.inr (Or.inr (by simp [nq_same, nq_l2, h]))
      · exact Or.inr (Or.inl (by simp [nq_same, nq_l2, h]))
theorem nq_yExpr {post : Int64 → SY → Prop} {t : Nat} {a b : nq_V} {M : List Int64} (ht : t = 71 ∨ t = 72 ∨ t = 73 ∨ t = 74 ∨ t = 75) (hS : nq_St ySk (nq_f a :: nq_f b :: M)) (hM : M.length < 62) : wpY_expression post (src, dis, opn, sbt, sbr, (nI (M.length + 1 + 1)), mny, mor, grs, fnd, kpt, yRo, yCe, yTo, yIl, ySz, yTk, yIn, yEn, ySu, yWc, yWi, yHa, ySk, yCo, yLo, yGo, yFi, yRe, ySo, yAn) (nI t) ↔ post (nq_f (nq_ap t a b none)) (src, dis, opn, sbt, sbr, (nI M.length), mny, mor, grs, fnd, kpt, yRo, yCe, yTo, yIl, ySz, yTk, yIn, yEn, ySu, yWc, yWi, yHa, ySk, yCo, yLo, yGo, yFi, yRe, ySo, yAn) := by
  simp only [wpY_expression, nq_yPop (k := M.length + 1) hS rfl (by omega), nq_yPop (k := M.length) hS.2 rfl (by omega)]
  rcases ht with rfl | rfl | rfl | rfl | rfl
  · cases a <;> cases b <;> simp [wpY_counted, nq_f, nq_ap, nq_l2, nq_ne2, show nI 71 = 71 from rfl]
  · cases a <;> cases b <;> simp [wpY_counted, nq_f, nq_ap, nq_l2, nq_ne2, show nI 72 = 72 from rfl]
  · cases a <;> cases b <;> simp [wpY_counted, nq_f, nq_ap, nq_l2, nq_ne2, show nI 73 = 73 from rfl]
  · by_cases h : a = none <;> simp [nq_f_n, h, nq_ap, show nI 74 = 74 from rfl]
  · simp only [nq_yEq]
    cases a with
    | none => cases b <;> simp [nq_f, nq_ap, nq_same, nq_l2, show nI 75 = 75 from rfl]
    | some x => cases b with
      | none => simp [nq_f, nq_ap, nq_same, nq_l2, show nI 75 = 75 from rfl]
      | some y => by_cases h : x = y <;> simp [nq_f, nq_ap, nq_same, nq_l2, h, show nI 75 = 75 from rfl]
theorem nq_yExpr76 {post : Int64 → SY → Prop} {a b c : nq_V} {M : List Int64} (hS : nq_St ySk (nq_d a :: nq_f b :: nq_f c :: M)) (hM : M.length < 61) : wpY_expression post (src, dis, opn, sbt, sbr, (nI (M.length + 1 + 1 + 1)), mny, mor, grs, fnd, kpt, yRo, yCe, yTo, yIl, ySz, yTk, yIn, yEn, ySu, yWc, yWi, yHa, ySk, yCo, yLo, yGo, yFi, yRe, ySo, yAn) (nI 76) ↔ post (nq_f (nq_ap 76 a b c)) (src, dis, opn, sbt, sbr, (nI M.length), mny, mor, grs, fnd, kpt, yRo, yCe, yTo, yIl, ySz, yTk, yIn, yEn, ySu, yWc, yWi, yHa, ySk, yCo, yLo, yGo, yFi, yRe, ySo, yAn) := by
  simp only [wpY_expression, nq_yPop (k := M.length + 1 + 1) hS rfl (by omega), nq_yPop (k := M.length + 1) hS.2 rfl (by omega), nq_yPop (k := M.length) hS.2.2 rfl (by omega)]
  rcases Bool.eq_false_or_eq_true (nq_T a) with h | h <;> simp [nq_dT, nq_ap, h, show nI 76 = 76 from rfl]
theorem nq_yCond1 {post : Int64 → SY → Prop} {t : Nat} {a : nq_V} {M : List Int64} (ht : t = 82 ∨ t = 84 ∨ t = 85) (hS : nq_St ySk ((if 84 ≤ t then nq_d a else nq_f a) :: M)) (hM : M.length < 63) : wpY_condition post (src, dis, opn, sbt, sbr, (nI (M.length + 1)), mny, mor, grs, fnd, kpt, yRo, yCe, yTo, yIl, ySz, yTk, yIn, yEn, ySu, yWc, yWi, yHa, ySk, yCo, yLo, yGo, yFi, yRe, ySo, yAn) (nI t) ↔ post (nq_d (nq_ap t a none none)) (src, dis, opn, sbt, sbr, (nI M.length), mny, mor, grs, fnd, kpt, yRo, yCe, yTo, yIl, ySz, yTk, yIn, yEn, ySu, yWc, yWi, yHa, ySk, yCo, yLo, yGo, yFi, yRe, ySo, yAn) := by
  simp only [wpY_condition, nq_yPop (k := M.length) hS rfl (by omega)]
  rcases ht with rfl | rfl | rfl
  · by_cases h : a = none <;> simp [nq_f_n, h, nq_ap, nq_dB, show nI 82 = 82 from rfl]
  · by_cases h : nq_d a = 2 <;> simp [nq_ap, nq_dnot, h, show nI 84 = 84 from rfl]
  · rcases Bool.eq_false_or_eq_true (nq_T a) with h | h <;> simp [nq_dT, nq_ap, nq_dB, h, show nI 85 = 85 from rfl]
theorem nq_yCond2 {post : Int64 → SY → Prop} {t : Nat} {a b : nq_V} {M : List Int64} (ht : t = 80 ∨ t = 81 ∨ t = 83 ∨ t = 86 ∨ t = 87) (hS : nq_St ySk ((if 84 ≤ t then nq_d a else nq_f a) :: (if 84 ≤ t then nq_d b else nq_f b) :: M)) (hM : M.length < 62) : wpY_condition post (src, dis, opn, sbt, sbr, (nI (M.length + 1 + 1)), mny, mor, grs, fnd, kpt, yRo, yCe, yTo, yIl, ySz, yTk, yIn, yEn, ySu, yWc, yWi, yHa, ySk, yCo, yLo, yGo, yFi, yRe, ySo, yAn) (nI t) ↔ post (nq_d (nq_ap t a b none)) (src, dis, opn, sbt, sbr, (nI M.length), mny, mor, grs, fnd, kpt, yRo, yCe, yTo, yIl, ySz, yTk, yIn, yEn, ySu, yWc, yWi, yHa, ySk, yCo, yLo, yGo, yFi, yRe, ySo, yAn) := by
  simp only [wpY_condition, nq_yPop (k := M.length + 1) hS rfl (by omega), nq_yPop (k := M.length) hS.2 rfl (by omega)]
  rcases ht with rfl | rfl | rfl | rfl | rfl
  · simp [nq_yLess, nq_m2 _ (nq_less01 a b), nq_ap, show nI 80 = 80 from rfl]
  · simp [nq_yEq, nq_m2 _ (nq_same01 a b), nq_ap, show nI 81 = 81 from rfl]
  · by_cases h : a = b <;> simp [nq_f_i, h, nq_ap, nq_dB, show nI 83 = 83 from rfl]
  · rcases nq_d01 a with ⟨h1, h2⟩ | ⟨h1, h2⟩ | ⟨h1, h2, h3, h4⟩ <;> rcases nq_d01 b with ⟨g1, g2⟩ | ⟨g1, g2⟩ | ⟨g1, g2, g3, g4⟩ <;> simp [nq_ap, nq_and, *, nq_T0, nq_T1, nq_Tn, nq_ds0, nq_ds1, nq_dsn, show nI 86 = 86 from rfl]
  · rcases nq_d01 a with ⟨h1, h2⟩ | ⟨h1, h2⟩ | ⟨h1, h2, h3, h4⟩ <;> rcases nq_d01 b with ⟨g1, g2⟩ | ⟨g1, g2⟩ | ⟨g1, g2, g3, g4⟩ <;> simp [nq_ap, nq_or, *, nq_T0, nq_T1, nq_Tn, nq_ds0, nq_ds1, nq_dsn, show nI 87 = 87 from rfl]
end
