section
variable {sc od nc tp cc gc ac : Int32} {Ce Sk Va An Ov : Nat → Int64} {Rc St Jl Tk Tn Su Ne Ha Cb Jd Go Fm : Nat → Int32}
variable {src dis opn sbt sbr dep mny mor grs fnd kpt : Int32} {ySk yRe ySo yAn : Nat → Int64} {yRo yCe yTo yIl ySz yTk yIn yEn ySu yWc yWi yHa yCo yLo yGo yFi : Nat → Int32}
variable {n t : Nat → Nat} {p : Nat} {cv : Nat → nq_V} {h hv : Nat → Option Nat} {rw tb : Nat → Nat}
theorem nq_xTake {post : SX → Prop} {c : Nat} (hc : c < 216) (H : ∀ Ha', (∀ s, s < 3 → Ha' s = Cb (3 * c + s)) → (∀ s, 3 ≤ s → Ha' s = Ha s) → post (sc, od, nc, tp, cc, gc, ac, Ce, Rc, St, Jl, Tk, Tn, Su, Ne, Ha', Sk, Cb, Jd, Va, Go, Fm, An, Ov)) : wpX_takeInHand post (sc, od, nc, tp, cc, gc, ac, Ce, Rc, St, Jl, Tk, Tn, Su, Ne, Ha, Sk, Cb, Jd, Va, Go, Fm, An, Ov) (nI c) := by
  have key : ∀ f i Ha', i ≤ 3 → 3 - i < f → (∀ s, s < i → Ha' s = Cb (3 * c + s)) → (∀ s, 3 ≤ s → Ha' s = Ha s) → wX_takeInHand_2 post (nI c) sc od nc tp cc gc ac f (nI i) Ce Rc St Jl Tk Tn Su Ne Ha' Sk Cb Jd Va Go Fm An Ov := by
    intro f
    induction f with
    | zero => intro i _ _ h; omega
    | succ f ih =>
      intro i Ha' hi hf hA hB
      rcases Nat.lt_or_ge i 3 with z | z
      · have z3 : ¬ 3 ≤ nI i := nI_ge (b := 3) z (by decide)
        have e1 : nI c * 3 + nI i = nI (3 * c + i) := by
          simp only [nq_i3, pk_mul, nI_add]
          exact congrArg nI (by omega)
        have i1 : vp_in (nI (3 * c + i)) 648 := vp_in_nI (by omega) (by decide)
        have c1 : (nI (3 * c + i)).toNatClampNeg = 3 * c + i := nI_clamp (by omega)
        have i2 : vp_in (nI i) 4 := vp_in_nI (by omega) (by decide)
        have c2 : (nI i).toNatClampNeg = i := nI_clamp (by omega)
        simp only [wX_takeInHand_2, z3, e1, i1, c1, i2, c2, nI_1, forall_eq, not_true_eq_false, not_false_eq_true, true_implies, false_implies, implies_true, and_true, true_and, and_self]
        refine ih (i + 1) _ (by omega) (by omega) (fun s hs => ?_) (fun s hs => ?_)
        · by_cases e : s = i
          · rw [e, pk_us]
          · rw [pk_un e]
            exact hA s (by omega)
        · rw [pk_un (by omega)]
          exact hB s hs
      · have : i = 3 := by omega
        subst this
        simp only [wX_takeInHand_2, show (3 : Int32) ≤ nI 3 from by decide, forall_eq, not_true_eq_false, not_false_eq_true, true_implies, false_implies, implies_true, and_true, true_and, and_self]
        exact H _ hA hB
  exact ⟨_, key 4 0 Ha (by omega) (by omega) (fun s hs => by omega) (fun s _ => rfl)⟩
theorem nq_xPut {post : SX → Prop} {c : Nat} (hc : c < 216) (H : ∀ Jd', (∀ s, s < 3 → Jd' (3 * c + s) = Ha s) → (∀ j, j < 3 * c → Jd' j = Jd j) → post (sc, od, nc, tp, cc, gc, ac, Ce, Rc, St, Jl, Tk, Tn, Su, Ne, Ha, Sk, Cb, Jd', Va, Go, Fm, An, Ov)) : wpX_putJoined post (sc, od, nc, tp, cc, gc, ac, Ce, Rc, St, Jl, Tk, Tn, Su, Ne, Ha, Sk, Cb, Jd, Va, Go, Fm, An, Ov) (nI c) := by
  have key : ∀ f i Jd', i ≤ 3 → 3 - i < f → (∀ s, s < i → Jd' (3 * c + s) = Ha s) → (∀ j, j < 3 * c → Jd' j = Jd j) → wX_putJoined_2 post (nI c) sc od nc tp cc gc ac f (nI i) Ce Rc St Jl Tk Tn Su Ne Ha Sk Cb Jd' Va Go Fm An Ov := by
    intro f
    induction f with
    | zero => intro i _ _ h; omega
    | succ f ih =>
      intro i Jd' hi hf hA hB
      rcases Nat.lt_or_ge i 3 with z | z
      · have z3 : ¬ 3 ≤ nI i := nI_ge (b := 3) z (by decide)
        have e1 : nI c * 3 + nI i = nI (3 * c + i) := by
          simp only [nq_i3, pk_mul, nI_add]
          exact congrArg nI (by omega)
        have i1 : vp_in (nI (3 * c + i)) 648 := vp_in_nI (by omega) (by decide)
        have c1 : (nI (3 * c + i)).toNatClampNeg = 3 * c + i := nI_clamp (by omega)
        have i2 : vp_in (nI i) 4 := vp_in_nI (by omega) (by decide)
        have c2 : (nI i).toNatClampNeg = i := nI_clamp (by omega)
        simp only [wX_putJoined_2, z3, e1, i1, c1, i2, c2, nI_1, forall_eq, not_true_eq_false, not_false_eq_true, true_implies, false_implies, implies_true, and_true, true_and, and_self]
        refine ih (i + 1) _ (by omega) (by omega) (fun s hs => ?_) (fun s hs => ?_)
        · by_cases e : s = i
          · rw [e, pk_us]
          · rw [pk_un (by omega)]
            exact hA s (by omega)
        · rw [pk_un (by omega)]
          exact hB s hs
      · have : i = 3 := by omega
        subst this
        simp only [wX_putJoined_2, show (3 : Int32) ≤ nI 3 from by decide, forall_eq, not_true_eq_false, not_false_eq_true, true_implies, false_implies, implies_true, and_true, true_and, and_self]
        exact H _ hA hB
  exact ⟨_, key 4 0 Jd (by omega) (by omega) (fun s hs => by omega) (fun s _ => rfl)⟩
theorem nq_xEmpty {post : SX → Prop} (H : ∀ Cb', (∀ s, s < 3 → Cb' s = -1) → post (sc, od, nc, tp, cc, gc, ac, Ce, Rc, St, Jl, Tk, Tn, Su, Ne, Ha, Sk, Cb', Jd, Va, Go, Fm, An, Ov)) : wpX_emptyFirstCombination post (sc, od, nc, tp, cc, gc, ac, Ce, Rc, St, Jl, Tk, Tn, Su, Ne, Ha, Sk, Cb, Jd, Va, Go, Fm, An, Ov) := by
  have key : ∀ f i Cb', i ≤ 3 → 3 - i < f → (∀ s, s < i → Cb' s = -1) → wX_emptyFirstCombination_2 post sc od nc tp cc gc ac f (nI i) Ce Rc St Jl Tk Tn Su Ne Ha Sk Cb' Jd Va Go Fm An Ov := by
    intro f
    induction f with
    | zero => intro i _ _ h; omega
    | succ f ih =>
      intro i Cb' hi hf hA
      rcases Nat.lt_or_ge i 3 with z | z
      · have z3 : ¬ 3 ≤ nI i := nI_ge (b := 3) z (by decide)
        have i2 : vp_in (nI i) 648 := vp_in_nI (by omega) (by decide)
        have c2 : (nI i).toNatClampNeg = i := nI_clamp (by omega)
        simp only [wX_emptyFirstCombination_2, z3, i2, c2, nI_1, forall_eq, not_true_eq_false, not_false_eq_true, true_implies, false_implies, implies_true, and_true, true_and, and_self]
        refine ih (i + 1) _ (by omega) (by omega) (fun s hs => ?_)
        by_cases e : s = i
        · rw [e, pk_us]
        · rw [pk_un e]
          exact hA s (by omega)
      · have : i = 3 := by omega
        subst this
        simp only [wX_emptyFirstCombination_2, show (3 : Int32) ≤ nI 3 from by decide, forall_eq, not_true_eq_false, not_false_eq_true, true_implies, false_implies, implies_true, and_true, true_and, and_self]
        exact H _ hA
  exact ⟨_, key 4 0 Cb (by omega) (by omega) (fun s hs => by omega)⟩
theorem nq_x129 {post : SX → Prop} {m : Nat} (hm : m ≤ 216) (H : ∀ Cb', (∀ j, j < 3 * m → Cb' j = Jd j) → post (sc, od, nc, tp, (nI m), gc, ac, Ce, Rc, St, Jl, Tk, Tn, Su, Ne, Ha, Sk, Cb', Jd, Va, Go, Fm, An, Ov)) : ∀ f i Cb', i ≤ 3 * m → 3 * m - i < f → (∀ j, j < i → Cb' j = Jd j) → wX_join_129 post (nI m) sc od nc tp cc gc ac f (nI i) Ce Rc St Jl Tk Tn Su Ne Ha Sk Cb' Jd Va Go Fm An Ov := by
  have e1 : nI m * 3 = nI (3 * m) := by
    simp only [nq_i3, pk_mul]
    exact congrArg nI (by omega)
  intro f
  induction f with
  | zero => intro i _ _ h; omega
  | succ f ih =>
    intro i Cb' hi hf hA
    rcases Nat.lt_or_ge i (3 * m) with z | z
    · have z3 : ¬ nI (3 * m) ≤ nI i := nI_ge z (by omega)
      have i2 : vp_in (nI i) 648 := vp_in_nI (by omega) (by decide)
      have c2 : (nI i).toNatClampNeg = i := nI_clamp (by omega)
      simp only [wX_join_129, e1, z3, i2, c2, nI_1, forall_eq, not_true_eq_false, not_false_eq_true, true_implies, false_implies, implies_true, and_true, true_and, and_self]
      refine ih (i + 1) _ (by omega) (by omega) (fun s hs => ?_)
      by_cases e : s = i
      · rw [e, pk_us]
      · rw [pk_un e]
        exact hA s (by omega)
    · have : i = 3 * m := by omega
      subst this
      have z3 : nI (3 * m) ≤ nI (3 * m) := nI_le (Nat.le_refl _) (by omega)
      simp only [wX_join_129, e1, z3, forall_eq, not_true_eq_false, not_false_eq_true, true_implies, false_implies, implies_true, and_true, true_and, and_self]
      exact H _ hA
theorem nq_x31 {post : SX → Prop} {J4 : Int32 → Int32 → Int32 → Int32 → Int32 → Int32 → Int32 → Int32 → Int32 → (Nat → Int64) → (Nat → Int32) → (Nat → Int32) → (Nat → Int32) → (Nat → Int32) → (Nat → Int32) → (Nat → Int32) → (Nat → Int32) → (Nat → Int32) → (Nat → Int64) → (Nat → Int32) → (Nat → Int32) → (Nat → Int64) → (Nat → Int32) → (Nat → Int32) → (Nat → Int64) → (Nat → Int64) → Prop} {c : Nat} {x2 : Int32} (hc : c < 216) (H : ∀ Cb', (∀ s, s < 3 → Cb' (3 * c + s) = Ha s) → (∀ j, (j < 3 * c ∨ 3 * c + 3 ≤ j) → Cb' j = Cb j) → J4 (nI (c + 1)) (x2 + 1) sc od nc tp cc gc ac Ce Rc St Jl Tk Tn Su Ne Ha Sk Cb' Jd Va Go Fm An Ov) : ∀ f i Cb', i ≤ 3 → 3 - i < f → (∀ s, s < i → Cb' (3 * c + s) = Ha s) → (∀ j, (j < 3 * c ∨ 3 * c + 3 ≤ j) → Cb' j = Cb j) → wX_keepWhere_31 post J4 (nI c) x2 sc od nc tp cc gc ac f (nI i) Ce Rc St Jl Tk Tn Su Ne Ha Sk Cb' Jd Va Go Fm An Ov := by
  intro f
  induction f with
  | zero => intro i _ _ h; omega
  | succ f ih =>
    intro i Cb' hi hf hA hB
    rcases Nat.lt_or_ge i 3 with z | z
    · have z3 : ¬ 3 ≤ nI i := nI_ge (b := 3) z (by decide)
      have e1 : nI c * 3 + nI i = nI (3 * c + i) := by
        simp only [nq_i3, pk_mul, nI_add]
        exact congrArg nI (by omega)
      have i1 : vp_in (nI (3 * c + i)) 648 := vp_in_nI (by omega) (by decide)
      have c1 : (nI (3 * c + i)).toNatClampNeg = 3 * c + i := nI_clamp (by omega)
      have i2 : vp_in (nI i) 4 := vp_in_nI (by omega) (by decide)
      have c2 : (nI i).toNatClampNeg = i := nI_clamp (by omega)
      simp only [wX_keepWhere_31, z3, e1, i1, c1, i2, c2, nI_1, forall_eq, not_true_eq_false, not_false_eq_true, true_implies, false_implies, implies_true, and_true, true_and, and_self]
      refine ih (i + 1) _ (by omega) (by omega) (fun s hs => ?_) (fun s hs => ?_)
      · by_cases e : s = i
        · rw [e, pk_us]
        · rw [pk_un (by omega)]
          exact hA s (by omega)
      · rw [pk_un (by omega)]
        exact hB s hs
    · have : i = 3 := by omega
      subst this
      simp only [wX_keepWhere_31, show (3 : Int32) ≤ nI 3 from by decide, nI_1, forall_eq, not_true_eq_false, not_false_eq_true, true_implies, false_implies, implies_true, and_true, true_and, and_self]
      exact H _ hA hB
theorem nq_yTake {post : SY → Prop} {c : Nat} (hc : c < 216) (H : ∀ yHa', (∀ s, s < 3 → yHa' s = yCo (3 * c + s)) → post (src, dis, opn, sbt, sbr, dep, mny, mor, grs, fnd, kpt, yRo, yCe, yTo, yIl, ySz, yTk, yIn, yEn, ySu, yWc, yWi, yHa', ySk, yCo, yLo, yGo, yFi, yRe, ySo, yAn)) : wpY_takeUp post (src, dis, opn, sbt, sbr, dep, mny, mor, grs, fnd, kpt, yRo, yCe, yTo, yIl, ySz, yTk, yIn, yEn, ySu, yWc, yWi, yHa, ySk, yCo, yLo, yGo, yFi, yRe, ySo, yAn) (nI c) := by
  have c0 : 0 ≤ nI c := nI_pos' (by omega)
  have key : ∀ f i yHa', i ≤ 3 → 3 - i < f → (∀ s, s < i → yHa' s = yCo (3 * c + s)) → wY_takeUp_2 post (nI c) src dis opn sbt sbr dep mny mor grs fnd kpt f (nI i) yRo yCe yTo yIl ySz yTk yIn yEn ySu yWc yWi yHa' ySk yCo yLo yGo yFi yRe ySo yAn := by
    intro f
    induction f with
    | zero => intro i _ _ h; omega
    | succ f ih =>
      intro i yHa' hi hf hA
      rcases Nat.lt_or_ge i 3 with z | z
      · have z3 : ¬ 3 ≤ nI i := nI_ge (b := 3) z (by decide)
        have e1 : 3 * nI c + nI i = nI (3 * c + i) := by simp only [nq_i3, pk_mul, nI_add]
        have i1 : vp_in (nI (3 * c + i)) 648 := vp_in_nI (by omega) (by decide)
        have c1 : (nI (3 * c + i)).toNatClampNeg = 3 * c + i := nI_clamp (by omega)
        have i2 : vp_in (nI i) 3 := vp_in_nI (by omega) (by decide)
        have c2 : (nI i).toNatClampNeg = i := nI_clamp (by omega)
        simp only [wY_takeUp_2, z3, c0, e1, i1, c1, i2, c2, nI_1, forall_eq, not_true_eq_false, not_false_eq_true, true_implies, false_implies, implies_true, and_true, true_and, and_self]
        refine ih (i + 1) _ (by omega) (by omega) (fun s hs => ?_)
        by_cases e : s = i
        · rw [e, pk_us]
        · rw [pk_un e]
          exact hA s (by omega)
      · have : i = 3 := by omega
        subst this
        simp only [wY_takeUp_2, show (3 : Int32) ≤ nI 3 from by decide, forall_eq, not_true_eq_false, not_false_eq_true, true_implies, false_implies, implies_true, and_true, true_and, and_self]
        exact H _ hA
  exact ⟨_, key 4 0 yHa (by omega) (by omega) (fun s hs => by omega)⟩
theorem nq_yTakeN {post : SY → Prop} (H : ∀ yHa', (∀ s, s < 3 → yHa' s = -1) → post (src, dis, opn, sbt, sbr, dep, mny, mor, grs, fnd, kpt, yRo, yCe, yTo, yIl, ySz, yTk, yIn, yEn, ySu, yWc, yWi, yHa', ySk, yCo, yLo, yGo, yFi, yRe, ySo, yAn)) : wpY_takeUp post (src, dis, opn, sbt, sbr, dep, mny, mor, grs, fnd, kpt, yRo, yCe, yTo, yIl, ySz, yTk, yIn, yEn, ySu, yWc, yWi, yHa, ySk, yCo, yLo, yGo, yFi, yRe, ySo, yAn) (-1) := by
  have c0 : ¬ (0 : Int32) ≤ -1 := by decide
  have key : ∀ f i yHa', i ≤ 3 → 3 - i < f → (∀ s, s < i → yHa' s = -1) → wY_takeUp_2 post (-1) src dis opn sbt sbr dep mny mor grs fnd kpt f (nI i) yRo yCe yTo yIl ySz yTk yIn yEn ySu yWc yWi yHa' ySk yCo yLo yGo yFi yRe ySo yAn := by
    intro f
    induction f with
    | zero => intro i _ _ h; omega
    | succ f ih =>
      intro i yHa' hi hf hA
      rcases Nat.lt_or_ge i 3 with z | z
      · have z3 : ¬ 3 ≤ nI i := nI_ge (b := 3) z (by decide)
        have i2 : vp_in (nI i) 3 := vp_in_nI (by omega) (by decide)
        have c2 : (nI i).toNatClampNeg = i := nI_clamp (by omega)
        simp only [wY_takeUp_2, z3, c0, i2, c2, nI_1, forall_eq, not_true_eq_false, not_false_eq_true, true_implies, false_implies, implies_true, and_true, true_and, and_self]
        refine ih (i + 1) _ (by omega) (by omega) (fun s hs => ?_)
        by_cases e : s = i
        · rw [e, pk_us]
        · rw [pk_un e]
          exact hA s (by omega)
      · have : i = 3 := by omega
        subst this
        simp only [wY_takeUp_2, show (3 : Int32) ≤ nI 3 from by decide, forall_eq, not_true_eq_false, not_false_eq_true, true_implies, false_implies, implies_true, and_true, true_and, and_self]
        exact H _ hA
  exact ⟨_, key 4 0 yHa (by omega) (by omega) (fun s hs => by omega)⟩
theorem nq_yKeep {post : SY → Prop} {c : Nat} (hc : c < 216) (H : ∀ yLo', (∀ s, s < 3 → yLo' (3 * c + s) = yHa s) → (∀ j, j < 3 * c → yLo' j = yLo j) → post (src, dis, opn, sbt, sbr, dep, mny, (nI (c + 1)), grs, fnd, kpt, yRo, yCe, yTo, yIl, ySz, yTk, yIn, yEn, ySu, yWc, yWi, yHa, ySk, yCo, yLo', yGo, yFi, yRe, ySo, yAn)) : wpY_keepHand post (src, dis, opn, sbt, sbr, dep, mny, (nI c), grs, fnd, kpt, yRo, yCe, yTo, yIl, ySz, yTk, yIn, yEn, ySu, yWc, yWi, yHa, ySk, yCo, yLo, yGo, yFi, yRe, ySo, yAn) := by
  have key : ∀ f i yLo', i ≤ 3 → 3 - i < f → (∀ s, s < i → yLo' (3 * c + s) = yHa s) → (∀ j, j < 3 * c → yLo' j = yLo j) → wY_keepHand_2 post src dis opn sbt sbr dep mny (nI c) grs fnd kpt f (nI i) yRo yCe yTo yIl ySz yTk yIn yEn ySu yWc yWi yHa ySk yCo yLo' yGo yFi yRe ySo yAn := by
    intro f
    induction f with
    | zero => intro i _ _ h; omega
    | succ f ih =>
      intro i yLo' hi hf hA hB
      rcases Nat.lt_or_ge i 3 with z | z
      · have z3 : ¬ 3 ≤ nI i := nI_ge (b := 3) z (by decide)
        have e1 : 3 * nI c + nI i = nI (3 * c + i) := by simp only [nq_i3, pk_mul, nI_add]
        have i1 : vp_in (nI (3 * c + i)) 648 := vp_in_nI (by omega) (by decide)
        have c1 : (nI (3 * c + i)).toNatClampNeg = 3 * c + i := nI_clamp (by omega)
        have i2 : vp_in (nI i) 3 := vp_in_nI (by omega) (by decide)
        have c2 : (nI i).toNatClampNeg = i := nI_clamp (by omega)
        simp only [wY_keepHand_2, z3, e1, i1, c1, i2, c2, nI_1, forall_eq, not_true_eq_false, not_false_eq_true, true_implies, false_implies, implies_true, and_true, true_and, and_self]
        refine ih (i + 1) _ (by omega) (by omega) (fun s hs => ?_) (fun s hs => ?_)
        · by_cases e : s = i
          · rw [e, pk_us]
          · rw [pk_un (by omega)]
            exact hA s (by omega)
        · rw [pk_un (by omega)]
          exact hB s hs
      · have : i = 3 := by omega
        subst this
        simp only [wY_keepHand_2, show (3 : Int32) ≤ nI 3 from by decide, nI_1, forall_eq, not_true_eq_false, not_false_eq_true, true_implies, false_implies, implies_true, and_true, true_and, and_self]
        exact H _ hA hB
  exact ⟨_, key 4 0 yLo (by omega) (by omega) (fun s hs => by omega) (fun s _ => rfl)⟩
theorem nq_ySwap {post : SY → Prop} {m : Nat} (hm : m ≤ 216) (H : ∀ yCo', (∀ j, j < 3 * m → yCo' j = yLo j) → post (src, dis, opn, sbt, sbr, dep, (nI m), (nI m), grs, fnd, kpt, yRo, yCe, yTo, yIl, ySz, yTk, yIn, yEn, ySu, yWc, yWi, yHa, ySk, yCo', yLo, yGo, yFi, yRe, ySo, yAn)) : wpY_swap post (src, dis, opn, sbt, sbr, dep, mny, (nI m), grs, fnd, kpt, yRo, yCe, yTo, yIl, ySz, yTk, yIn, yEn, ySu, yWc, yWi, yHa, ySk, yCo, yLo, yGo, yFi, yRe, ySo, yAn) := by
  have e1 : 3 * nI m = nI (3 * m) := by simp only [nq_i3, pk_mul]
  have key : ∀ f i yCo', i ≤ 3 * m → 3 * m - i < f → (∀ j, j < i → yCo' j = yLo j) → wY_swap_2 post src dis opn sbt sbr dep mny (nI m) grs fnd kpt f (nI i) yRo yCe yTo yIl ySz yTk yIn yEn ySu yWc yWi yHa ySk yCo' yLo yGo yFi yRe ySo yAn := by
    intro f
    induction f with
    | zero => intro i _ _ h; omega
    | succ f ih =>
      intro i yCo' hi hf hA
      rcases Nat.lt_or_ge i (3 * m) with z | z
      · have z3 : ¬ nI (3 * m) ≤ nI i := nI_ge z (by omega)
        have i2 : vp_in (nI i) 648 := vp_in_nI (by omega) (by decide)
        have c2 : (nI i).toNatClampNeg = i := nI_clamp (by omega)
        simp only [wY_swap_2, e1, z3, i2, c2, nI_1, forall_eq, not_true_eq_false, not_false_eq_true, true_implies, false_implies, implies_true, and_true, true_and, and_self]
        refine ih (i + 1) _ (by omega) (by omega) (fun s hs => ?_)
        by_cases e : s = i
        · rw [e, pk_us]
        · rw [pk_un e]
          exact hA s (by omega)
      · have : i = 3 * m := by omega
        subst this
        have z3 : nI (3 * m) ≤ nI (3 * m) := nI_le (Nat.le_refl _) (by omega)
        simp only [wY_swap_2, e1, z3, forall_eq, not_true_eq_false, not_false_eq_true, true_implies, false_implies, implies_true, and_true, true_and, and_self]
        exact H _ hA
  exact ⟨_, key (3 * m + 1) 0 yCo (by omega) (by omega) (fun s hs => by omega)⟩
end
