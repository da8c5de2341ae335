section
variable {sc od nc tp cc gc ac : Int32} {Ce Sk Va An Ov : Nat → Int64} {Rc St Jl Tk Tn Su Ne Ha Cb Jd Go Fm : Nat → Int32}
variable {src dis opn sbt sbr dep mny mor grs fnd kpt : Int32} {ySk yRe ySo yAn : Nat → Int64} {yRo yCe yTo yIl ySz yTk yIn yEn ySu yWc yWi yHa yCo yLo yGo yFi : Nat → Int32}
def nq_u (f : Nat → nq_V) (i : Nat) (a : nq_V) : Nat → nq_V := fun j => if j = i then a else f j
def nq_un (f : Nat → Nat) (i : Nat) (a : Nat) : Nat → Nat := fun j => if j = i then a else f j
theorem nq_uX {cv : Nat → nq_V} {i : Nat} {z : Int64} {a : nq_V} (h : Ce = fun j => nq_e (cv j)) (hz : z = nq_e a) : vp_updL Ce i z = fun j => nq_e (nq_u cv i a j) := by
  subst h hz
  funext j
  simp only [vp_updL, nq_u]
  split <;> rfl
theorem nq_uY {cv : Nat → nq_V} {i : Nat} {z : Int32} {a : nq_V} (h : yCe = fun j => nq_k (cv j)) (hz : z = nq_k a) : upd yCe i z = fun j => nq_k (nq_u cv i a j) := by
  subst h hz
  funext j
  simp only [upd, nq_u]
  split <;> rfl
theorem nq_u1 {cv : Nat → nq_V} {i : Nat} {a : nq_V} (h : ∀ j, cv j ≠ some 1000) (ha : a ≠ some 1000) : ∀ j, nq_u cv i a j ≠ some 1000 := by
  intro j
  simp only [nq_u]
  split
  · exact ha
  · exact h j
def nq_okc (x : Int32) : Prop := x = 1000 ∨ (¬ x < -9 ∧ ¬ 9 < x)
theorem nq_xcell1 {post : Int32 → Prop} {x : Int32} (h : nq_okc x) : wpX_isCellValue post x ↔ post 1 := by
  simp only [wpX_isCellValue]
  rcases h with h | ⟨h, h2⟩
  · simp only [h, forall_eq, not_true_eq_false, not_false_eq_true, true_implies, false_implies, implies_true, and_true, true_and, and_self]
  · by_cases e : x = 1000
    · simp only [e, forall_eq, not_true_eq_false, not_false_eq_true, true_implies, false_implies, implies_true, and_true, true_and, and_self]
    · simp only [e, h, h2, forall_eq, not_true_eq_false, not_false_eq_true, true_implies, false_implies, implies_true, and_true, true_and, and_self]
theorem nq_xcell0 {post : Int32 → Prop} {x : Int32} (h : ¬ nq_okc x) : wpX_isCellValue post x ↔ post 0 := by
  have h1 : ¬ x = 1000 := fun e => h (Or.inl e)
  simp only [wpX_isCellValue, h1, forall_eq, not_true_eq_false, not_false_eq_true, true_implies, false_implies, implies_true, and_true, true_and, and_self]
  by_cases e : x < -9
  · simp only [e, forall_eq, not_true_eq_false, not_false_eq_true, true_implies, false_implies, implies_true, and_true, true_and, and_self]
  · have h2 : 9 < x := Classical.byContradiction fun z => h (Or.inr ⟨e, z⟩)
    simp only [e, h2, forall_eq, not_true_eq_false, not_false_eq_true, true_implies, false_implies, implies_true, and_true, true_and, and_self]
theorem nq_ycell1 {post : Int32 → Prop} {x : Int32} (h : nq_okc x) : wpY_badValue post (src, dis, opn, sbt, sbr, dep, mny, mor, grs, fnd, kpt, yRo, yCe, yTo, yIl, ySz, yTk, yIn, yEn, ySu, yWc, yWi, yHa, ySk, yCo, yLo, yGo, yFi, yRe, ySo, yAn) x ↔ post 0 := by
  simp only [wpY_badValue, wY_badValue_12]
  rcases h with h | ⟨h, h2⟩
  · subst h
    simp only [show ¬ (1000 : Int32) < -9 from by decide, show ¬ (1000 : Int32) ≤ 9 from by decide, forall_eq, not_true_eq_false, not_false_eq_true, true_implies, false_implies, implies_true, and_true, true_and, and_self]
  · have h3 : x ≤ 9 := Int32.not_lt.mp h2
    simp only [h, h3, forall_eq, not_true_eq_false, not_false_eq_true, true_implies, false_implies, implies_true, and_true, true_and, and_self]
theorem nq_ycell0 {post : Int32 → Prop} {x : Int32} (h : ¬ nq_okc x) : wpY_badValue post (src, dis, opn, sbt, sbr, dep, mny, mor, grs, fnd, kpt, yRo, yCe, yTo, yIl, ySz, yTk, yIn, yEn, ySu, yWc, yWi, yHa, ySk, yCo, yLo, yGo, yFi, yRe, ySo, yAn) x ↔ post 1 := by
  have h1 : ¬ x = 1000 := fun e => h (Or.inl e)
  simp only [wpY_badValue, wY_badValue_12, h1, forall_eq, not_true_eq_false, not_false_eq_true, true_implies, false_implies, implies_true, and_true, true_and, and_self]
  by_cases e : x < -9
  · simp only [e, forall_eq, not_true_eq_false, not_false_eq_true, true_implies, false_implies, implies_true, and_true, true_and, and_self]
  · have h2 : ¬ x ≤ 9 := fun z => h (Or.inr ⟨e, Int32.not_lt.mpr z⟩)
    simp only [e, h2, forall_eq, not_true_eq_false, not_false_eq_true, true_implies, false_implies, implies_true, and_true, true_and, and_self]
theorem nq_xt1 {post : Int32 → Prop} {j : Nat} (h : j < 3) : wpX_isTable post (nI j) ↔ post 1 := by
  simp only [wpX_isTable, nI_pos (n := j) (by omega), nI_ge (b := 3) h (by decide), show (3 : Int32) = nI 3 from rfl, forall_eq, not_true_eq_false, not_false_eq_true, true_implies, false_implies, implies_true, and_true, true_and, and_self]
theorem nq_xt0 {post : Int32 → Prop} {x : Int32} (h : x < 0 ∨ nI 3 ≤ x) : wpX_isTable post x ↔ post 0 := by
  simp only [wpX_isTable]
  by_cases e : x < 0
  · simp only [e, forall_eq, not_true_eq_false, not_false_eq_true, true_implies, false_implies, implies_true, and_true, true_and, and_self]
  · have h2 : (3 : Int32) ≤ x := h.resolve_left e
    simp only [e, h2, forall_eq, not_true_eq_false, not_false_eq_true, true_implies, false_implies, implies_true, and_true, true_and, and_self]
theorem nq_xo1 {post : Int32 → Prop} {j : Nat} (h : j < 3) : wpX_isOutput post (nI j) ↔ post 1 := by
  simp only [wpX_isOutput, nI_pos (n := j) (by omega), nI_ge (b := 3) h (by decide), show (3 : Int32) = nI 3 from rfl, forall_eq, not_true_eq_false, not_false_eq_true, true_implies, false_implies, implies_true, and_true, true_and, and_self]
theorem nq_xo0 {post : Int32 → Prop} {x : Int32} (h : x < 0 ∨ nI 3 ≤ x) : wpX_isOutput post x ↔ post 0 := by
  simp only [wpX_isOutput]
  by_cases e : x < 0
  · simp only [e, forall_eq, not_true_eq_false, not_false_eq_true, true_implies, false_implies, implies_true, and_true, true_and, and_self]
  · have h2 : (3 : Int32) ≤ x := h.resolve_left e
    simp only [e, h2, forall_eq, not_true_eq_false, not_false_eq_true, true_implies, false_implies, implies_true, and_true, true_and, and_self]
theorem nq_xp1 {post : Int32 → Prop} {j : Nat} (h : j < 10) : wpX_isPart post (nI j) ↔ post 1 := by
  simp only [wpX_isPart, nI_pos (n := j) (by omega), nI_ge (b := 10) h (by decide), show (10 : Int32) = nI 10 from rfl, forall_eq, not_true_eq_false, not_false_eq_true, true_implies, false_implies, implies_true, and_true, true_and, and_self]
theorem nq_xp0 {post : Int32 → Prop} {x : Int32} (h : x < 0 ∨ nI 10 ≤ x) : wpX_isPart post x ↔ post 0 := by
  simp only [wpX_isPart]
  by_cases e : x < 0
  · simp only [e, forall_eq, not_true_eq_false, not_false_eq_true, true_implies, false_implies, implies_true, and_true, true_and, and_self]
  · have h2 : (10 : Int32) ≤ x := h.resolve_left e
    simp only [e, h2, forall_eq, not_true_eq_false, not_false_eq_true, true_implies, false_implies, implies_true, and_true, true_and, and_self]
theorem nq_nle {x : Int32} {a b : Nat} (h : nI b ≤ x) (hab : a < b) (hb : b < 2 ^ 31) : ¬ x ≤ nI a := fun z => nI_ge hab hb (Int32.le_trans h z)
theorem nq_nlt {x : Int32} {a b : Nat} (h : nI b ≤ x) (hab : a ≤ b) (hb : b < 2 ^ 31) : ¬ x < nI a := fun z => Int32.not_lt.mpr h (Int32.lt_of_lt_of_le z (nI_le hab hb))
theorem nq_ltt {x : Int32} {a b : Nat} (h : nI b ≤ x) (hab : a < b) (hb : b < 2 ^ 31) : nI a < x := Int32.lt_of_lt_of_le (nI_lt hab hb) h
theorem nq_nonneg {x : Int32} {b : Nat} (h : nI b ≤ x) (hb : b < 2 ^ 31) : ¬ x < 0 := fun z => Int32.not_lt.mpr h (Int32.lt_of_lt_of_le z (nI_pos' hb))
theorem nq_yt1 {post : Int32 → Prop} {j : Nat} (h : j < 3) : wpY_badTable post (src, dis, opn, sbt, sbr, dep, mny, mor, grs, fnd, kpt, yRo, yCe, yTo, yIl, ySz, yTk, yIn, yEn, ySu, yWc, yWi, yHa, ySk, yCo, yLo, yGo, yFi, yRe, ySo, yAn) (nI j) ↔ post 0 := by
  simp only [wpY_badTable, nI_pos (n := j) (by omega), show (2 : Int32) = nI 2 from rfl, nI_le (a := j) (b := 2) (by omega) (by decide), forall_eq, not_true_eq_false, not_false_eq_true, true_implies, false_implies, implies_true, and_true, true_and, and_self]
theorem nq_yt0 {post : Int32 → Prop} {x : Int32} (h : x < 0 ∨ nI 3 ≤ x) : wpY_badTable post (src, dis, opn, sbt, sbr, dep, mny, mor, grs, fnd, kpt, yRo, yCe, yTo, yIl, ySz, yTk, yIn, yEn, ySu, yWc, yWi, yHa, ySk, yCo, yLo, yGo, yFi, yRe, ySo, yAn) x ↔ post 1 := by
  simp only [wpY_badTable]
  by_cases e : x < 0
  · simp only [e, forall_eq, not_true_eq_false, not_false_eq_true, true_implies, false_implies, implies_true, and_true, true_and, and_self]
  · have h2 : ¬ x ≤ 2 := nq_nle (b := 3) (h.resolve_left e) (a := 2) (by decide) (by decide)
    simp only [e, h2, forall_eq, not_true_eq_false, not_false_eq_true, true_implies, false_implies, implies_true, and_true, true_and, and_self]
theorem nq_kw (x : Int32) : ∃ w : nq_V, w ≠ some 1000 ∧ nq_k w = x ∧ ∀ P : Int64 → Prop, P (nq_e w) → (x = 1000 → P (-1099511627776)) ∧ (¬ x = 1000 → P x.toInt64) := by
  by_cases h : x = 1000
  · exact ⟨none, (fun e => nomatch e), h.symm, fun P hp => ⟨fun _ => hp, fun z => absurd h z⟩⟩
  · exact ⟨some x, fun e => h (Option.some.inj e), rfl, fun P hp => ⟨fun z => absurd z h, fun _ => hp⟩⟩
theorem i_vc_row {k : Nat} {u : SX} {v : SY} (I : i_Rel k u v) (hk : k + 5 ≤ 2560) (v1 : Int32) (v2 : Int32) (v3 : Int32) (v4 : Int32) : wpX_row (fun r u' => wpY_row (fun r' v' => r' = r ∧ i_Rel (k + 5) u' v') v v1 v2 v3 v4) u v1 v2 v3 v4 := by
  obtain ⟨sc, od, nc, tp, cc, gc, ac, Ce, Rc, St, Jl, Tk, Tn, Su, Ne, Ha, Sk, Cb, Jd, Va, Go, Fm, An, Ov⟩ := u
  obtain ⟨src, dis, opn, sbt, sbr, dep, mny, mor, grs, fnd, kpt, yRo, yCe, yTo, yIl, ySz, yTk, yIn, yEn, ySu, yWc, yWi, yHa, ySk, yCo, yLo, yGo, yFi, yRe, ySo, yAn⟩ := v
  have I0 := I
  obtain ⟨s, m, rw, tb, su, n, t, cv, av, hs, hm, ⟨hc1, hc2, hc3⟩, ⟨hr1, hr2⟩, ht, hl, hu, hT, ha⟩ := I
  subst hr1
  by_cases h1 : v1 < 0 ∨ nI 3 ≤ v1
  · simp only [wpX_row, wpY_row, nq_xt0 h1, nq_yt0 h1, forall_eq, not_true_eq_false, not_false_eq_true, true_implies, false_implies, implies_true, and_true, true_and, and_self, show ¬ (1 : Int32) = 0 from by decide]
    exact I0
  · obtain ⟨j, hj, rfl⟩ : ∃ j : Nat, j < 3 ∧ v1 = nI j := by
      rcases pk_ix v1 (n := 3) (by decide) with h | h | h
      · exact absurd (Or.inl h) h1
      · exact absurd (Or.inr h) h1
      · exact h
    simp only [wpX_row, wpY_row, nq_xt1 hj, nq_yt1 hj, forall_eq, not_true_eq_false, not_false_eq_true, true_implies, false_implies, implies_true, and_true, true_and, and_self, show ¬ (1 : Int32) = 0 from by decide]
    by_cases h2 : nq_okc v2
    · by_cases h3 : nq_okc v3
      · by_cases h4 : nq_okc v4
        · simp only [nq_xcell1 h2, nq_xcell1 h3, nq_xcell1 h4, nq_ycell1 h2, nq_ycell1 h3, nq_ycell1 h4, forall_eq, not_true_eq_false, not_false_eq_true, true_implies, false_implies, implies_true, and_true, true_and, and_self, show ¬ (1 : Int32) = 0 from by decide]
          have cj : (nI j).toNatClampNeg = j := nI_clamp (by omega)
          have vj : vp_in (nI j) 3 := vp_in_nI hj (by decide)
          obtain ⟨hr3, hr4⟩ := hr2 j hj
          generalize hr5 : rw j = r at hr3 hr4
          simp only [cj, vj, hr4, forall_eq, not_true_eq_false, not_false_eq_true, true_implies, false_implies, implies_true, and_true, true_and, and_self]
          by_cases h6 : r = 6
          · subst h6
            simp only [show nI 6 = 6 from rfl, show ¬ (6 : Int32) < 6 from by decide, forall_eq, not_true_eq_false, not_false_eq_true, true_implies, false_implies, implies_true, and_true, true_and, and_self]
            exact I0
          · have x6 : nI r < 6 := nI_lt (b := 6) (by omega) (by decide)
            have y6 : ¬ nI r = 6 := fun e => h6 ((nI_eq (a := r) (b := 6) (by omega) (by decide)).mp e)
            simp only [x6, y6, forall_eq, not_true_eq_false, not_false_eq_true, true_implies, false_implies, implies_true, and_true, true_and, and_self, wpX_placeOf]
            have e1 : (nI j * 6 + nI r) * 3 = nI (18 * j + 3 * r) := by
              simp only [nq_i6, nq_i3, pk_mul, nI_add]
              exact congrArg nI (by omega)
            have e2 : 18 * nI j + 3 * nI r = nI (18 * j + 3 * r) := by
              simp only [nq_i18, nq_i3, pk_mul, nI_add]
            have b1 : nI (18 * j + 3 * r) + 1 = nI (18 * j + 3 * r + 1) := nI_add _ 1
            have b2 : nI (18 * j + 3 * r) + 2 = nI (18 * j + 3 * r + 2) := nI_add _ 2
            generalize hp : 18 * j + 3 * r = p at e1 e2 b1 b2
            have i0 : vp_in (nI p) 54 := vp_in_nI (by omega) (by decide)
            have i1 : vp_in (nI (p + 1)) 54 := vp_in_nI (by omega) (by decide)
            have i2 : vp_in (nI (p + 2)) 54 := vp_in_nI (by omega) (by decide)
            have c0 : (nI p).toNatClampNeg = p := nI_clamp (by omega)
            have c1 : (nI (p + 1)).toNatClampNeg = p + 1 := nI_clamp (by omega)
            have c2 : (nI (p + 2)).toNatClampNeg = p + 2 := nI_clamp (by omega)
            simp only [e1, e2]
            obtain ⟨w1, w1a, w1b, w1c⟩ := nq_kw v2
            obtain ⟨w2, w2a, w2b, w2c⟩ := nq_kw v3
            obtain ⟨w3, w3a, w3b, w3c⟩ := nq_kw v4
            apply w1c (fun z => wX_row_85 _ _ _ _ _ _ z _ sc od nc tp cc gc ac Ce Rc St Jl Tk Tn Su Ne Ha Sk Cb Jd Va Go Fm An Ov)
            simp only [wX_row_85, i0, c0, b1, forall_eq, not_true_eq_false, not_false_eq_true, true_implies, false_implies, implies_true, and_true, true_and, and_self]
            apply w2c (fun z => wX_row_109 _ _ _ _ _ z _ sc od nc tp cc gc ac (vp_updL Ce p (nq_e w1)) Rc St Jl Tk Tn Su Ne Ha Sk Cb Jd Va Go Fm An Ov)
            simp only [wX_row_109, i1, c1, b2, forall_eq, not_true_eq_false, not_false_eq_true, true_implies, false_implies, implies_true, and_true, true_and, and_self]
            apply w3c (fun z => wX_row_135 _ _ _ z _ sc od nc tp cc gc ac (vp_updL (vp_updL Ce p (nq_e w1)) (p + 1) (nq_e w2)) Rc St Jl Tk Tn Su Ne Ha Sk Cb Jd Va Go Fm An Ov)
            simp only [wX_row_135, i2, c2, i1, i0, c0, c1, b1, b2, cj, vj, hr4, pk_us, nI_1, nI_pred, forall_eq, not_true_eq_false, not_false_eq_true, true_implies, false_implies, implies_true, and_true, true_and, and_self]
            have f1 := nq_uX (nq_uX (nq_uX (i := p) (a := w1) hc1 rfl) (i := p + 1) (a := w2) rfl) (i := p + 2) (a := w3) rfl
            have f2 := nq_uY (nq_uY (nq_uY (i := p) hc2 w1b.symm) (i := p + 1) w2b.symm) (i := p + 2) w3b.symm
            refine ⟨s, m, nq_un rw j (r + 1), tb, su, n, t, _, av, hs, hm, ⟨f1, f2, nq_u1 (nq_u1 (nq_u1 hc3 w1a) w2a) w3a⟩, ⟨rfl, fun i hi => ?_⟩, ht, hl, hu, hT, ha⟩
            simp only [nq_un, upd]
            by_cases e : i = j
            · simp only [e, if_true]
              exact ⟨by omega, by trivial⟩
            · simp only [e, if_false]
              exact hr2 i hi
        · simp only [nq_xcell1 h2, nq_xcell1 h3, nq_xcell0 h4, nq_ycell1 h2, nq_ycell1 h3, nq_ycell0 h4, forall_eq, not_true_eq_false, not_false_eq_true, true_implies, false_implies, implies_true, and_true, true_and, and_self, show ¬ (1 : Int32) = 0 from by decide]
          exact I0
      · simp only [nq_xcell1 h2, nq_xcell0 h3, nq_ycell1 h2, nq_ycell0 h3, forall_eq, not_true_eq_false, not_false_eq_true, true_implies, false_implies, implies_true, and_true, true_and, and_self, show ¬ (1 : Int32) = 0 from by decide]
        exact I0
    · simp only [nq_xcell0 h2, nq_ycell0 h2, forall_eq, not_true_eq_false, not_false_eq_true, true_implies, false_implies, implies_true, and_true, true_and, and_self, show ¬ (1 : Int32) = 0 from by decide]
      exact I0
end
