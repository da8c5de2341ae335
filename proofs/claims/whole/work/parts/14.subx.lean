section
variable {sc od nc tp cc gc ac : Int32} {Ce Sk Va An Ov : Nat → Int64} {Rc St Jl Tk Tn Su Ne Ha Cb Jd Go Fm : Nat → Int32}
variable {src dis opn sbt sbr dep mny mor grs fnd kpt : Int32} {ySk yRe ySo yAn : Nat → Int64} {yRo yCe yTo yIl ySz yTk yIn yEn ySu yWc yWi yHa yCo yLo yGo yFi : Nat → Int32}
variable {n t : Nat → Nat} {p s e w0 : Nat} {r : List Nat} {cv : Nat → nq_V} {hv : Nat → Option Nat}
theorem nq_opS (hW : nq_WF n t) (hp : p < 10) {i : Nat} (hi : i < n p) : nq_op p t (i + 1) + 1 = nq_op p t i + nq_ar (t (20 * p + i)) ∧ 1 ≤ nq_op p t i ∧ t (20 * p + i) < 153 := by
  obtain ⟨w, r', f1, f2, ff, w4, t153, kl, es, rl, a3⟩ := nq_wsS hW hp hi
  unfold nq_op
  rw [f1, f2, List.length_append, kl, List.length_cons]
  omega
theorem nq_xEnd {post : Int32 → Prop} (hT : nq_TT n t Tn Tk) (hW : nq_WF n t) (hp : p < 10) (hE : nq_IsE p t s e) (hen : e ≤ n p) (H : post (nI (20 * p + e))) : wpX_endOfTerm post (sc, od, nc, tp, cc, gc, ac, Ce, Rc, St, Jl, Tk, Tn, Su, Ne, Ha, Sk, Cb, Jd, Va, Go, Fm, An, Ov) (nI (20 * p + s)) := by
  have hn := (hW p hp).1
  obtain ⟨h1, h2, h3⟩ := hE
  have key : ∀ f q, s ≤ q → q ≤ e → e - q < f → wX_endOfTerm_4 post sc od nc tp cc gc ac Ce Rc St Jl Tk Tn Su Ne Ha Sk Cb Jd Va Go Fm An Ov f (nI (nq_op p t q - nq_op p t e)) (nI (20 * p + q)) := by
    intro f
    induction f with
    | zero => intro q _ _ h; omega
    | succ f ih =>
      intro q hq1 hq2 hf
      rcases Nat.lt_or_ge q e with z | z
      · have ho : nq_op p t s ≤ nq_op p t q := by
          rcases Nat.eq_or_lt_of_le hq1 with y | y
          · rw [y]; exact Nat.le_refl _
          · exact h3 q y z
        obtain ⟨o1, o2, t153⟩ := nq_opS hW hp (show q < n p by omega)
        obtain ⟨b1, b2⟩ := nq_wsI hW hp q (by omega)
        have b3 : nq_op p t q ≤ 1 + 2 * q := b1
        obtain ⟨k, hk⟩ : ∃ k, nq_op p t q - nq_op p t e = k + 1 := ⟨nq_op p t q - nq_op p t e - 1, by omega⟩
        have g1 : ¬ nI (k + 1) ≤ 0 := nI_nle (by omega) (by omega)
        have g2 : ¬ 200 ≤ nI (20 * p + q) := nI_ge (b := 200) (by omega) (by decide)
        have i1 : vp_in (nI (20 * p + q)) 200 := vp_in_nI (by omega) (by decide)
        have c1 : (nI (20 * p + q)).toNatClampNeg = 20 * p + q := nI_clamp (by omega)
        have := ih (q + 1) (by omega) (by omega) (by omega)
        rw [show nq_op p t (q + 1) - nq_op p t e = nq_ar (t (20 * p + q)) + k by omega] at this
        simp only [wX_endOfTerm_4, hk, g1, g2, i1, c1, (hT p hp).2 q (by omega), nq_xAr (show t (20 * p + q) < 2147483648 by omega), nq_plus, nI_1, forall_eq, not_true_eq_false, not_false_eq_true, true_implies, false_implies, implies_true, and_true, true_and, and_self]
        exact this
      · have : q = e := by omega
        subst this
        rw [Nat.sub_self]
        simp only [wX_endOfTerm_4, nI_0, show (0 : Int32) ≤ 0 from by decide, forall_eq, not_true_eq_false, not_false_eq_true, true_implies, false_implies, implies_true, and_true, true_and, and_self]
        exact H
  have := key (e - s + 1) s (Nat.le_refl _) (by omega) (by omega)
  rw [show nq_op p t s - nq_op p t e = 1 by omega] at this
  exact ⟨_, this⟩
/-! the value of a subquery -/
def nq_tbl (tok : Nat) : Nat := if tok < 100 then tok - 90 else (tok - 100) / 10 % 3
def nq_h3 (hv : Nat → Option Nat) (q : Nat) : Nat → Option Nat := fun s => if s = 3 then some q else hv s
/-- the condition of a subquery at row r of its table -/
def nq_ct (cv : Nat → nq_V) (hv : Nat → Option Nat) (t : Nat → Nat) (tok e d r : Nat) : Bool := nq_T ((nq_is (nq_leaf cv (nq_h3 hv (18 * nq_tbl tok + 3 * r))) t e d).headD none)
def nq_sv (cv : Nat → nq_V) (hv : Nat → Option Nat) (t : Nat → Nat) (tok e d : Nat) (a : nq_V) : Nat → nq_V
  | 0 => if tok < 130 then some 0 else some 1
  | r + 1 => if nq_ct cv hv t tok e d r = true then (if tok < 100 then some 1 else if tok < 130 then nq_or (nq_sv cv hv t tok e d a r) (nq_same a (cv (18 * nq_tbl tok + 3 * r + tok % 10))) else nq_and (nq_sv cv hv t tok e d a r) (nq_less a (cv (18 * nq_tbl tok + 3 * r + tok % 10)))) else nq_sv cv hv t tok e d a r
theorem nq_HX3 {q : Nat} {Ha' : Nat → Int32} (hH : nq_HX Ha hv) (hA : ∀ s, s ≠ 3 → Ha' s = Ha s) (hq : q + 3 ≤ 54) : nq_HX (upd Ha' 3 (nI q)) (nq_h3 hv q) := by
  intro s hs
  unfold nq_h3
  by_cases h : s = 3
  · subst h
    rw [pk_us, if_pos rfl]
    exact ⟨rfl, fun q' e => by cases e; exact hq⟩
  · rw [pk_un h, if_neg h, hA s h]
    exact hH s hs
theorem nq_subT {tok : Nat} (h : nq_sub tok = true) : (90 ≤ tok ∧ tok ≤ 92) ∨ (100 ≤ tok ∧ tok ≤ 152 ∧ tok % 10 < 3) := by
  unfold nq_sub at h
  rwa [decide_eq_true_eq] at h
theorem nq_tbl3 {tok : Nat} (h : nq_sub tok = true) : nq_tbl tok < 3 ∧ tok % 10 < 3 := by
  have := nq_subT h
  unfold nq_tbl
  by_cases h1 : tok < 100
  · rw [if_pos h1]; omega
  · rw [if_neg h1]; omega
theorem nq_x140 {post : SX → Prop} {tok : Nat} {x7 : Int64} {a : nq_V} {rw : Nat → Nat} {M : List Int64} (hT : nq_TT n t Tn Tk) (hW : nq_WF n t) (hp : p < 10) (hc : nq_ws p t (n p) = []) (hs : nq_ws p t s = w0 :: r) (hw0 : 2 ≤ w0) (hw1 : w0 % 2 = 1) (hE : nq_IsE p t s e) (hen : e ≤ n p) (hM : M.length ≤ r.length) (hM2 : M.length < 20) (hH : nq_HX Ha hv) (h3 : Ha 3 = -1) (hR : ∀ i, i < 3 → rw i ≤ 6 ∧ Rc i = nI (rw i)) (hsub : nq_sub tok = true) (hx7 : 100 ≤ tok → x7 = nq_e a)
    (H : ∀ Sk', nq_St Sk' (nq_c (nq_sv cv hv t tok (20 * p + e) (e - s) a (rw (nq_tbl tok))) :: M) → post (sc, od, nc, (nI (M.length + 1)), cc, gc, ac, (fun j => nq_e (cv j)), Rc, St, Jl, Tk, Tn, Su, Ne, Ha, Sk', Cb, Jd, Va, Go, Fm, An, Ov)) :
    ∀ f i, i ≤ rw (nq_tbl tok) → rw (nq_tbl tok) - i < f → ∀ Ha' Sk, (∀ s, s ≠ 3 → Ha' s = Ha s) → nq_St Sk M → wX_applySubquery_140 post (nI tok) (nq_b (decide (tok < 100))) (nq_b (decide (130 ≤ tok))) (nI (20 * p + s)) (nI (20 * p + e)) x7 (nI (nq_tbl tok)) f (nq_c (nq_sv cv hv t tok (20 * p + e) (e - s) a i)) (nI i) sc od nc (nI M.length) cc gc ac (fun j => nq_e (cv j)) Rc St Jl Tk Tn Su Ne Ha' Sk Cb Jd Va Go Fm An Ov := by
  have hn := (hW p hp).1
  obtain ⟨t3, tc⟩ := nq_tbl3 hsub
  have tokr := nq_subT hsub
  have i3 : vp_in (nI (nq_tbl tok)) 3 := vp_in_nI t3 (by decide)
  have c3 : (nI (nq_tbl tok)).toNatClampNeg = nq_tbl tok := nI_clamp (by omega)
  obtain ⟨r6, hr⟩ := hR (nq_tbl tok) t3
  have im : vp_in (nI M.length) 20 := vp_in_nI hM2 (by decide)
  have cm : (nI M.length).toNatClampNeg = M.length := nI_clamp (by omega)
  intro f
  induction f with
  | zero => intro q _ h; omega
  | succ f ih =>
    intro i hi hf Ha' Sk hA hS
    rcases Nat.lt_or_ge i (rw (nq_tbl tok)) with z | z
    · have z3 : ¬ nI (rw (nq_tbl tok)) ≤ nI i := nI_ge z (by omega)
      have e1 : (nI (nq_tbl tok) * 6 + nI i) * 3 = nI (18 * nq_tbl tok + 3 * i) := by
        simp only [nq_i6, nq_i3, pk_mul, nI_add]
        exact congrArg nI (by omega)
      simp only [wX_applySubquery_140, i3, c3, hr, z3, wpX_placeOf, e1, forall_eq, not_true_eq_false, not_false_eq_true, true_implies, false_implies, implies_true, and_true, true_and, and_self]
      have es : s < e := hE.1
      obtain ⟨iw, g1, g2, g3, g4⟩ := nq_seg hW hp hs hw0 hE hen e (by omega) (by omega)
      have gg := nq_x175 (post := post) (J140 := wX_applySubquery_140 post (nI tok) (nq_b (decide (tok < 100))) (nq_b (decide (130 ≤ tok))) (nI (20 * p + s)) (nI (20 * p + e)) x7 (nI (nq_tbl tok)) f) (x2 := nI tok) (x3 := nq_b (decide (tok < 100))) (x4 := nq_b (decide (130 ≤ tok))) (x6 := nI (20 * p + e)) (x9 := nI (nq_tbl tok)) (x12 := nI i) (x13 := nI (18 * nq_tbl tok + 3 * i)) (x7 := x7) (x10 := nq_c (nq_sv cv hv t tok (20 * p + e) (e - s) a i)) (M := M) (cv := cv) (sc := sc) (od := od) (nc := nc) (cc := cc) (gc := gc) (ac := ac) (Rc := Rc) (St := St) (Jl := Jl) (Tk := Tk) (Tn := Tn) (Su := Su) (Ne := Ne) (Cb := Cb) (Jd := Jd) (Va := Va) (Go := Go) (Fm := Fm) (An := An) (Ov := Ov) hT hW hp hc hs hw0 hw1 hE hen hM (nq_HX3 hH hA (show 18 * nq_tbl tok + 3 * i + 3 ≤ 54 by omega)) (by
        intro hTr Sk' hS'
        have hct : nq_ct cv hv t tok (20 * p + e) (e - s) i = true := hTr
        have nxt : ∀ v, v = nq_sv cv hv t tok (20 * p + e) (e - s) a (i + 1) → wX_applySubquery_140 post (nI tok) (nq_b (decide (tok < 100))) (nq_b (decide (130 ≤ tok))) (nI (20 * p + s)) (nI (20 * p + e)) x7 (nI (nq_tbl tok)) f (nq_c v) (nI i + 1) sc od nc (nI M.length) cc gc ac (fun j => nq_e (cv j)) Rc St Jl Tk Tn Su Ne (upd Ha' 3 (nI (18 * nq_tbl tok + 3 * i))) Sk' Cb Jd Va Go Fm An Ov := by
          intro v hv
          subst hv
          rw [nI_1]
          exact ih (i + 1) (by omega) (by omega) _ Sk' (fun s hs => by rw [pk_un hs]; exact hA s hs) hS'
        rcases Nat.lt_or_ge tok 100 with l | l
        · have l2 : ¬ 100 ≤ tok := by omega
          simp only [nq_b0, l, decide_true, reduceCtorEq, forall_eq, not_true_eq_false, not_false_eq_true, true_implies, false_implies, implies_true, and_true, true_and, and_self]
          have := nxt (some 1) (by simp only [nq_sv, hct, l, if_true])
          simp only [l, decide_true] at this
          exact this
        · have l2 : ¬ tok < 100 := by omega
          have i5 : vp_in (nI (18 * nq_tbl tok + 3 * i + tok % 10)) 54 := vp_in_nI (by omega) (by decide)
          have c5 : (nI (18 * nq_tbl tok + 3 * i + tok % 10)).toNatClampNeg = 18 * nq_tbl tok + 3 * i + tok % 10 := nI_clamp (by omega)
          simp only [nq_b0, l2, decide_false, forall_eq, not_true_eq_false, not_false_eq_true, true_implies, false_implies, implies_true, and_true, true_and, and_self]
          rcases Nat.lt_or_ge tok 130 with m | m
          · have m2 : ¬ 130 ≤ tok := by omega
            simp only [m2, decide_false, wX_applySubquery_252, wX_applySubquery_283, nq_tn0, nq_rem (show tok < 2147483648 by omega), nI_add, i5, c5, hx7 l, nq_bf, forall_eq, not_true_eq_false, not_false_eq_true, true_implies, false_implies, implies_true, and_true, true_and, and_self]
            refine (nq_xTr2 (t := 81) (a := a) (b := cv (18 * nq_tbl tok + 3 * i + tok % 10)) (by omega)).mpr ?_
            refine (nq_xTr2 (t := 87) (a := nq_sv cv hv t tok (20 * p + e) (e - s) a i) (b := nq_ap 81 a (cv (18 * nq_tbl tok + 3 * i + tok % 10)) none) (by omega)).mpr ?_
            have := nxt _ (show nq_or (nq_sv cv hv t tok (20 * p + e) (e - s) a i) (nq_same a (cv (18 * nq_tbl tok + 3 * i + tok % 10))) = _ by simp only [nq_sv, hct, l2, m, if_true, if_false])
            simp only [l2, m2, decide_false, nq_bf, hx7 l] at this
            exact this
          · have m2 : ¬ tok < 130 := by omega
            have nt : ¬ nq_b true = 0 := by decide
            simp only [m, decide_true, reduceCtorEq, nt, wX_applySubquery_252, wX_applySubquery_283, nq_tn0, nq_rem (show tok < 2147483648 by omega), nI_add, i5, c5, hx7 l, forall_eq, not_true_eq_false, not_false_eq_true, true_implies, false_implies, implies_true, and_true, true_and, and_self]
            refine (nq_xTr2 (t := 80) (a := a) (b := cv (18 * nq_tbl tok + 3 * i + tok % 10)) (by omega)).mpr ?_
            refine (nq_xTr2 (t := 86) (a := nq_sv cv hv t tok (20 * p + e) (e - s) a i) (b := nq_ap 80 a (cv (18 * nq_tbl tok + 3 * i + tok % 10)) none) (by omega)).mpr ?_
            have := nxt _ (show nq_and (nq_sv cv hv t tok (20 * p + e) (e - s) a i) (nq_less a (cv (18 * nq_tbl tok + 3 * i + tok % 10))) = _ by simp only [nq_sv, hct, l2, m2, if_true, if_false])
            simp only [l2, m, decide_false, decide_true, hx7 l] at this
            exact this) (by
        intro hTr Sk' hS'
        have hct : nq_ct cv hv t tok (20 * p + e) (e - s) i = false := hTr
        have := ih (i + 1) (by omega) (by omega) (upd Ha' 3 (nI (18 * nq_tbl tok + 3 * i))) Sk' (fun s hs => by rw [pk_un hs]; exact hA s hs) hS'
        rw [← nI_1] at this
        have e2 : nq_sv cv hv t tok (20 * p + e) (e - s) a (i + 1) = nq_sv cv hv t tok (20 * p + e) (e - s) a i := by simp only [nq_sv, hct, reduceCtorEq, if_false]
        rw [e2] at this
        exact this) (e - s) (by omega) (e - s + 1) (by omega) [] Sk (by
          rw [show s + (e - s) = e by omega, g1, g4 rfl]
          rfl) (by rw [show e - (s + (e - s)) = 0 by omega]; rfl) hS
      rw [show s + (e - s) = e by omega, List.length_nil, Nat.zero_add] at gg
      exact ⟨_, gg⟩
    · have : i = rw (nq_tbl tok) := by omega
      subst this
      have z3 : nI (rw (nq_tbl tok)) ≤ nI (rw (nq_tbl tok)) := nI_le (Nat.le_refl _) (by omega)
      have eH : upd Ha' 3 (-1) = Ha := by
        funext j
        by_cases h : j = 3
        · rw [h, pk_us, h3]
        · rw [pk_un h, hA j h]
      simp only [wX_applySubquery_140, i3, c3, hr, z3, im, cm, eH, nI_1, forall_eq, not_true_eq_false, not_false_eq_true, true_implies, false_implies, implies_true, and_true, true_and, and_self]
      exact H _ (nq_St_pL hS)
end
