section
variable {sc od nc tp cc gc ac : Int32} {Ce Sk Va An Ov : Nat → Int64} {Rc St Jl Tk Tn Su Ne Ha Cb Jd Go Fm : Nat → Int32}
variable {src dis opn sbt sbr dep mny mor grs fnd kpt : Int32} {ySk yRe ySo yAn : Nat → Int64} {yRo yCe yTo yIl ySz yTk yIn yEn ySu yWc yWi yHa yCo yLo yGo yFi : Nat → Int32}
def nq_sh (cv : Nat → nq_V) (a q : Nat) : Nat → nq_V := fun x => if a ≤ x ∧ x < q then cv (x + 3) else cv x
theorem nq_sh0 {cv : Nat → nq_V} {a : Nat} : nq_sh cv a a = cv := by
  funext x
  simp only [nq_sh]
  rw [if_neg (by omega)]
theorem nq_shs {cv : Nat → nq_V} {a q : Nat} (h : a ≤ q) : nq_u (nq_sh cv a q) q (nq_sh cv a q (q + 3)) = nq_sh cv a (q + 1) := by
  funext x
  simp only [nq_sh, nq_u]
  rw [if_neg (show ¬ (a ≤ q + 3 ∧ q + 3 < q) by omega)]
  by_cases e : x = q
  · rw [if_pos e, if_pos (by omega), e]
  · rw [if_neg e]
    by_cases e2 : a ≤ x ∧ x < q
    · rw [if_pos e2, if_pos (by omega)]
    · rw [if_neg e2, if_neg (by omega)]
theorem nq_sh1 {cv : Nat → nq_V} {a q : Nat} (h : ∀ j, cv j ≠ some 1000) : ∀ j, nq_sh cv a q j ≠ some 1000 := by
  intro j
  simp only [nq_sh]
  split
  · exact h _
  · exact h _
theorem nq_xdrop {post : Int32 → SX → Prop} {cv : Nat → nq_V} {j a e r : Nat} (hj : j < 3) (he : e + 3 ≤ 54) (H : post (nI r) (sc, od, nc, tp, cc, gc, ac, (fun x => nq_e (nq_sh cv a e x)), (upd Rc j (nI r)), St, Jl, Tk, Tn, Su, Ne, Ha, Sk, Cb, Jd, Va, Go, Fm, An, Ov)) : ∀ f q, a ≤ q → q ≤ e → e - q < f → wX_drop_36 post (nI j) (nI r) (nI e) sc od nc tp cc gc ac f (nI q) (fun x => nq_e (nq_sh cv a q x)) Rc St Jl Tk Tn Su Ne Ha Sk Cb Jd Va Go Fm An Ov := by
  have cj : (nI j).toNatClampNeg = j := nI_clamp (by omega)
  have vj : vp_in (nI j) 3 := vp_in_nI hj (by decide)
  intro f
  induction f with
  | zero => intro q _ _ h; omega
  | succ f ih =>
    intro q haq hq hf
    rcases Nat.lt_or_ge q e with z | z
    · have z3 : ¬ nI e ≤ nI q := nI_ge z (by omega)
      have q3 : nI q + 3 = nI (q + 3) := nI_add q 3
      have c0 : (nI q).toNatClampNeg = q := nI_clamp (by omega)
      have c1 : (nI (q + 3)).toNatClampNeg = q + 3 := nI_clamp (by omega)
      have i0 : vp_in (nI q) 54 := vp_in_nI (by omega) (by decide)
      have i1 : vp_in (nI (q + 3)) 54 := vp_in_nI (by omega) (by decide)
      simp only [wX_drop_36, z3, q3, c0, c1, i0, i1, nI_1, forall_eq, not_true_eq_false, not_false_eq_true, true_implies, false_implies, implies_true, and_true, true_and, and_self]
      rw [nq_uX (cv := nq_sh cv a q) (a := nq_sh cv a q (q + 3)) rfl rfl, nq_shs haq]
      exact ih (q + 1) (by omega) (by omega) (by omega)
    · have : q = e := by omega
      subst this
      have z3 : nI q ≤ nI q := nI_le (Nat.le_refl _) (by omega)
      simp only [wX_drop_36, z3, cj, vj, forall_eq, not_true_eq_false, not_false_eq_true, true_implies, false_implies, implies_true, and_true, true_and, and_self]
      exact H
theorem nq_ydrop {post : Int32 → SY → Prop} {cv : Nat → nq_V} {j a e r : Nat} (hj : j < 3) (he : e + 3 ≤ 18) (hr : 1 ≤ r ∧ r ≤ 6) (hR : yRo j = nI r) (hre : e = 3 * r - 3) (H : post (nI (r - 1)) (src, dis, opn, sbt, sbr, dep, mny, mor, grs, fnd, kpt, (upd yRo j (nI (r - 1))), (fun x => nq_k (nq_sh cv a (18 * j + e) x)), yTo, yIl, ySz, yTk, yIn, yEn, ySu, yWc, yWi, yHa, ySk, yCo, yLo, yGo, yFi, yRe, ySo, yAn)) : ∀ f q, a ≤ 18 * j + q → q ≤ e → e - q < f → wY_drop_30 post (nI j) src dis opn sbt sbr dep mny mor grs fnd kpt f (nI q) yRo (fun x => nq_k (nq_sh cv a (18 * j + q) x)) yTo yIl ySz yTk yIn yEn ySu yWc yWi yHa ySk yCo yLo yGo yFi yRe ySo yAn := by
  have cj : (nI j).toNatClampNeg = j := nI_clamp (by omega)
  have vj : vp_in (nI j) 3 := vp_in_nI hj (by decide)
  have e1 : 3 * nI r - 3 = nI e := by
    simp only [nq_i3, pk_mul]
    rw [pk_sub (by omega), hre]
  have e2 : nI r - 1 = nI (r - 1) := pk_sub (b := 1) (by omega)
  intro f
  induction f with
  | zero => intro q _ _ h; omega
  | succ f ih =>
    intro q haq hq hf
    rcases Nat.lt_or_ge q e with z | z
    · have z3 : ¬ nI e ≤ nI q := nI_ge z (by omega)
      have q1 : 18 * nI j + nI q = nI (18 * j + q) := by simp only [nq_i18, pk_mul, nI_add]
      have q3 : nI (18 * j + q) + 3 = nI (18 * j + q + 3) := nI_add _ 3
      have c0 : (nI (18 * j + q)).toNatClampNeg = 18 * j + q := nI_clamp (by omega)
      have c1 : (nI (18 * j + q + 3)).toNatClampNeg = 18 * j + q + 3 := nI_clamp (by omega)
      have i0 : vp_in (nI (18 * j + q)) 54 := vp_in_nI (by omega) (by decide)
      have i1 : vp_in (nI (18 * j + q + 3)) 54 := vp_in_nI (by omega) (by decide)
      simp only [wY_drop_30, cj, vj, hR, e1, z3, q1, q3, c0, c1, i0, i1, nI_1, forall_eq, not_true_eq_false, not_false_eq_true, true_implies, false_implies, implies_true, and_true, true_and, and_self]
      rw [nq_uY (cv := nq_sh cv a (18 * j + q)) (a := nq_sh cv a (18 * j + q) (18 * j + q + 3)) rfl rfl, nq_shs haq]
      exact ih (q + 1) (by omega) (by omega) (by omega)
    · have : q = e := by omega
      subst this
      have z3 : nI q ≤ nI q := nI_le (Nat.le_refl _) (by omega)
      simp only [wY_drop_30, cj, vj, hR, e1, e2, z3, pk_us, forall_eq, not_true_eq_false, not_false_eq_true, true_implies, false_implies, implies_true, and_true, true_and, and_self]
      exact H
theorem nq_3 {v1 : Int32} (h1 : ¬ (v1 < 0 ∨ nI 3 ≤ v1)) : ∃ j : Nat, j < 3 ∧ v1 = nI j := by
  rcases pk_ix v1 (n := 3) (by decide) with h | h | h
  · exact absurd (Or.inl h) h1
  · exact absurd (Or.inr h) h1
  · exact h
theorem nq_10 {v1 : Int32} (h1 : ¬ (v1 < 0 ∨ nI 10 ≤ v1)) : ∃ j : Nat, j < 10 ∧ v1 = nI j := by
  rcases pk_ix v1 (n := 10) (by decide) with h | h | h
  · exact absurd (Or.inl h) h1
  · exact absurd (Or.inr h) h1
  · exact h
theorem nq_10n {v1 : Int32} : ¬ (1 : Int32) = 0 := by decide
theorem nq_rowin {post : Int32 → Prop} {j i r : Nat} (hj : j < 3) (hr : Rc j = nI r) (hr6 : r ≤ 6) (hi : i < r) : wpX_isRow post (sc, od, nc, tp, cc, gc, ac, Ce, Rc, St, Jl, Tk, Tn, Su, Ne, Ha, Sk, Cb, Jd, Va, Go, Fm, An, Ov) (nI j) (nI i) ↔ post 1 := by
  have cj : (nI j).toNatClampNeg = j := nI_clamp (by omega)
  have vj : vp_in (nI j) 3 := vp_in_nI hj (by decide)
  simp only [wpX_isRow, nq_xt1 hj, cj, vj, hr, nI_pos (n := i) (by omega), nI_ge hi (by omega), forall_eq, not_true_eq_false, not_false_eq_true, true_implies, false_implies, implies_true, and_true, true_and, and_self, show ¬ (1 : Int32) = 0 from by decide]
theorem nq_rowout {post : Int32 → Prop} {x y : Int32} (h : x < 0 ∨ nI 3 ≤ x ∨ ∃ j, j < 3 ∧ x = nI j ∧ (y < 0 ∨ Rc j ≤ y)) : wpX_isRow post (sc, od, nc, tp, cc, gc, ac, Ce, Rc, St, Jl, Tk, Tn, Su, Ne, Ha, Sk, Cb, Jd, Va, Go, Fm, An, Ov) x y ↔ post 0 := by
  by_cases e : x < 0 ∨ nI 3 ≤ x
  · simp only [wpX_isRow, nq_xt0 e, forall_eq, not_true_eq_false, not_false_eq_true, true_implies, false_implies, implies_true, and_true, true_and, and_self]
  · obtain ⟨j, hj, rfl, h2⟩ := (h.resolve_left (fun z => e (Or.inl z))).resolve_left (fun z => e (Or.inr z))
    have cj : (nI j).toNatClampNeg = j := nI_clamp (by omega)
    have vj : vp_in (nI j) 3 := vp_in_nI hj (by decide)
    simp only [wpX_isRow, nq_xt1 hj, cj, vj, forall_eq, not_true_eq_false, not_false_eq_true, true_implies, false_implies, implies_true, and_true, true_and, and_self, show ¬ (1 : Int32) = 0 from by decide]
    by_cases z : y < 0
    · simp only [z, forall_eq, not_true_eq_false, not_false_eq_true, true_implies, false_implies, implies_true, and_true, true_and, and_self]
    · simp only [z, h2.resolve_left z, forall_eq, not_true_eq_false, not_false_eq_true, true_implies, false_implies, implies_true, and_true, true_and, and_self]
theorem i_vc_drop {k : Nat} {u : SX} {v : SY} (I : i_Rel k u v) (hk : k + 5 ≤ 2560) (v1 : Int32) (v2 : Int32) : wpX_drop (fun r u' => wpY_drop (fun r' v' => r' = r ∧ i_Rel (k + 5) u' v') v v1 v2) u v1 v2 := by
  obtain ⟨sc, od, nc, tp, cc, gc, ac, Ce, Rc, St, Jl, Tk, Tn, Su, Ne, Ha, Sk, Cb, Jd, Va, Go, Fm, An, Ov⟩ := u
  obtain ⟨src, dis, opn, sbt, sbr, dep, mny, mor, grs, fnd, kpt, yRo, yCe, yTo, yIl, ySz, yTk, yIn, yEn, ySu, yWc, yWi, yHa, ySk, yCo, yLo, yGo, yFi, yRe, ySo, yAn⟩ := v
  have I0 := I
  obtain ⟨s, m, rw, tb, su, n, t, cv, av, hs, hm, ⟨hc1, hc2, hc3⟩, ⟨hr1, hr2⟩, ht, hl, hu, hT, ha⟩ := I
  subst hr1
  by_cases h1 : v1 < 0 ∨ nI 3 ≤ v1
  · simp only [wpX_drop, wpY_drop, nq_rowout (h1.imp_right Or.inl), nq_yt0 h1, forall_eq, not_true_eq_false, not_false_eq_true, true_implies, false_implies, implies_true, and_true, true_and, and_self, show ¬ (1 : Int32) = 0 from by decide]
    exact I0
  obtain ⟨j, hj, rfl⟩ := nq_3 h1
  have cj : (nI j).toNatClampNeg = j := nI_clamp (by omega)
  have vj : vp_in (nI j) 3 := vp_in_nI hj (by decide)
  obtain ⟨hr3, hr4⟩ := hr2 j hj
  by_cases h2 : v2 < 0
  · simp only [wpX_drop, wpY_drop, nq_rowout (Or.inr (Or.inr ⟨j, hj, rfl, Or.inl h2⟩)), nq_yt1 hj, h2, forall_eq, not_true_eq_false, not_false_eq_true, true_implies, false_implies, implies_true, and_true, true_and, and_self]
    exact I0
  obtain ⟨i, hi, rfl⟩ := nI_of h2
  by_cases h3 : i < rw j
  · simp only [wpX_drop, wpY_drop, nq_rowin hj hr4 hr3 h3, nq_yt1 hj, h2, cj, vj, hr4, nI_lt h3 (by omega), wpX_placeOf, forall_eq, not_true_eq_false, not_false_eq_true, true_implies, false_implies, implies_true, and_true, true_and, and_self, show ¬ (1 : Int32) = 0 from by decide]
    generalize hr5 : rw j = r at hr3 hr4 h3
    have e0 : nI r - 1 = nI (r - 1) := pk_sub (b := 1) (by omega)
    have e1 : (nI j * 6 + nI (r - 1)) * 3 = nI (18 * j + (3 * r - 3)) := by
      simp only [nq_i6, nq_i3, pk_mul, nI_add]
      exact congrArg nI (by omega)
    have e2 : (nI j * 6 + nI i) * 3 = nI (18 * j + 3 * i) := by
      simp only [nq_i6, nq_i3, pk_mul, nI_add]
      exact congrArg nI (by omega)
    have e3 : 3 * nI i = nI (3 * i) := by simp only [nq_i3, pk_mul]
    simp only [e0, e1, e2, e3]
    have s0 : Ce = fun x => nq_e (nq_sh cv (18 * j + 3 * i) (18 * j + 3 * i) x) := by rw [nq_sh0]; exact hc1
    have s1 : yCe = fun x => nq_k (nq_sh cv (18 * j + 3 * i) (18 * j + 3 * i) x) := by rw [nq_sh0]; exact hc2
    rw [s0]
    refine ⟨_, nq_xdrop hj (by omega) ?_ (54 + 1) _ (by omega) (by omega) (by omega)⟩
    rw [s1]
    refine ⟨_, nq_ydrop hj (by omega) (by omega) hr4 rfl ?_ (54 + 1) (3 * i) (by omega) (by omega) (by omega)⟩
    refine ⟨rfl, s, m, nq_un rw j (r - 1), tb, su, n, t, _, av, hs, hm, ⟨rfl, rfl, nq_sh1 hc3⟩, ⟨rfl, fun i' hi' => ?_⟩, ht, hl, hu, hT, ha⟩
    simp only [nq_un, upd]
    by_cases e : i' = j
    · simp only [e, if_true]
      exact ⟨by omega, by trivial⟩
    · simp only [e, if_false]
      exact hr2 i' hi'
  · have h4 : nI (rw j) ≤ nI i := nI_le (by omega) hi
    have h5 : ¬ nI i < nI (rw j) := nI_nlt (by omega) hi
    simp only [wpX_drop, wpY_drop, nq_rowout (Or.inr (Or.inr ⟨j, hj, rfl, Or.inr (hr4 ▸ h4)⟩)), nq_yt1 hj, h2, cj, vj, hr4, h5, forall_eq, not_true_eq_false, not_false_eq_true, true_implies, false_implies, implies_true, and_true, true_and, and_self]
    exact I0
theorem nq_xshown {post : Int32 → Prop} {a : nq_V} : wpX_shown post (nq_e a) ↔ post (nq_k a) := by
  cases a with
  | none => simp only [wpX_shown, nq_e, nq_k, forall_eq, not_true_eq_false, not_false_eq_true, true_implies, false_implies, implies_true, and_true, true_and, and_self]
  | some x => simp only [wpX_shown, nq_e, nq_k, nq_ne1, Int32.toInt32_toInt64, forall_eq, not_true_eq_false, not_false_eq_true, true_implies, false_implies, implies_true, and_true, true_and, and_self]
theorem i_vc_value {k : Nat} {u : SX} {v : SY} (I : i_Rel k u v) (hk : k + 5 ≤ 2560) (v1 : Int32) (v2 : Int32) (v3 : Int32) : wpX_value (fun r => wpY_value (fun r' => r' = r ∧ i_Rel (k + 5) u v) v v1 v2 v3) u v1 v2 v3 := by
  obtain ⟨sc, od, nc, tp, cc, gc, ac, Ce, Rc, St, Jl, Tk, Tn, Su, Ne, Ha, Sk, Cb, Jd, Va, Go, Fm, An, Ov⟩ := u
  obtain ⟨src, dis, opn, sbt, sbr, dep, mny, mor, grs, fnd, kpt, yRo, yCe, yTo, yIl, ySz, yTk, yIn, yEn, ySu, yWc, yWi, yHa, ySk, yCo, yLo, yGo, yFi, yRe, ySo, yAn⟩ := v
  have I0 : i_Rel (k + 5) (sc, od, nc, tp, cc, gc, ac, Ce, Rc, St, Jl, Tk, Tn, Su, Ne, Ha, Sk, Cb, Jd, Va, Go, Fm, An, Ov) (src, dis, opn, sbt, sbr, dep, mny, mor, grs, fnd, kpt, yRo, yCe, yTo, yIl, ySz, yTk, yIn, yEn, ySu, yWc, yWi, yHa, ySk, yCo, yLo, yGo, yFi, yRe, ySo, yAn) := I
  generalize i_Rel (k + 5) (sc, od, nc, tp, cc, gc, ac, Ce, Rc, St, Jl, Tk, Tn, Su, Ne, Ha, Sk, Cb, Jd, Va, Go, Fm, An, Ov) (src, dis, opn, sbt, sbr, dep, mny, mor, grs, fnd, kpt, yRo, yCe, yTo, yIl, ySz, yTk, yIn, yEn, ySu, yWc, yWi, yHa, ySk, yCo, yLo, yGo, yFi, yRe, ySo, yAn) = G at I0
  obtain ⟨s, m, rw, tb, su, n, t, cv, av, hs, hm, ⟨hc1, hc2, hc3⟩, ⟨hr1, hr2⟩, ht, hl, hu, hT, ha⟩ := I
  subst hr1 hc1 hc2
  by_cases h1 : v1 < 0 ∨ nI 3 ≤ v1
  · simp only [wpX_value, wpY_value, nq_rowout (h1.imp_right Or.inl), nq_yt0 h1, forall_eq, not_true_eq_false, not_false_eq_true, true_implies, false_implies, implies_true, and_true, true_and, and_self, show ¬ (1 : Int32) = 0 from by decide]
    exact I0
  obtain ⟨j, hj, rfl⟩ := nq_3 h1
  have cj : (nI j).toNatClampNeg = j := nI_clamp (by omega)
  have vj : vp_in (nI j) 3 := vp_in_nI hj (by decide)
  obtain ⟨hr3, hr4⟩ := hr2 j hj
  by_cases h2 : v2 < 0
  · simp only [wpX_value, wpY_value, nq_rowout (Or.inr (Or.inr ⟨j, hj, rfl, Or.inl h2⟩)), nq_yt1 hj, h2, forall_eq, not_true_eq_false, not_false_eq_true, true_implies, false_implies, implies_true, and_true, true_and, and_self]
    exact I0
  obtain ⟨i, hi, rfl⟩ := nI_of h2
  by_cases h3 : i < rw j
  · simp only [wpX_value, wpY_value, nq_rowin hj hr4 hr3 h3, nq_yt1 hj, h2, cj, vj, hr4, nI_ge h3 (by omega), wpX_placeOf, forall_eq, not_true_eq_false, not_false_eq_true, true_implies, false_implies, implies_true, and_true, true_and, and_self, show ¬ (1 : Int32) = 0 from by decide]
    by_cases h4 : v3 < 0
    · simp only [h4, forall_eq, not_true_eq_false, not_false_eq_true, true_implies, false_implies, implies_true, and_true, true_and, and_self]
      exact I0
    obtain ⟨c, hc, rfl⟩ := nI_of h4
    by_cases h5 : c < 3
    · have e1 : (nI j * 6 + nI i) * 3 + nI c = nI (18 * j + 3 * i + c) := by
        simp only [nq_i6, nq_i3, pk_mul, nI_add]
        exact congrArg nI (by omega)
      have e2 : 18 * nI j + 3 * nI i + nI c = nI (18 * j + 3 * i + c) := by
        simp only [nq_i18, nq_i3, pk_mul, nI_add]
      have i0 : vp_in (nI (18 * j + 3 * i + c)) 54 := vp_in_nI (by omega) (by decide)
      have c0 : (nI (18 * j + 3 * i + c)).toNatClampNeg = 18 * j + 3 * i + c := nI_clamp (by omega)
      simp only [h4, nI_lt (b := 3) h5 (by decide), nI_le (b := 2) (show c ≤ 2 by omega) (by decide), show (3 : Int32) = nI 3 from rfl, show (2 : Int32) = nI 2 from rfl, forall_eq, not_true_eq_false, not_false_eq_true, true_implies, false_implies, implies_true, and_true, true_and, and_self]
      simp only [show nI 3 = (3 : Int32) from rfl, e1, e2, i0, c0, nq_xshown, forall_eq, not_true_eq_false, not_false_eq_true, true_implies, false_implies, implies_true, and_true, true_and, and_self]
      exact I0
    · have h6 : ¬ nI c < 3 := nI_nlt (b := 3) (by omega) hc
      have h7 : ¬ nI c ≤ 2 := nI_ge (a := 2) (by omega) hc
      simp only [h4, h6, h7, forall_eq, not_true_eq_false, not_false_eq_true, true_implies, false_implies, implies_true, and_true, true_and, and_self]
      exact I0
  · have h4 : nI (rw j) ≤ nI i := nI_le (by omega) hi
    simp only [wpX_value, wpY_value, nq_rowout (Or.inr (Or.inr ⟨j, hj, rfl, Or.inr (hr4 ▸ h4)⟩)), nq_yt1 hj, h2, cj, vj, hr4, h4, forall_eq, not_true_eq_false, not_false_eq_true, true_implies, false_implies, implies_true, and_true, true_and, and_self]
    exact I0
end
