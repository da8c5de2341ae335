section
variable {sc od nc tp cc gc ac : Int32} {Ce Sk Va An Ov : Nat → Int64} {Rc St Jl Tk Tn Su Ne Ha Cb Jd Go Fm : Nat → Int32}
variable {src dis opn sbt sbr dep mny mor grs fnd kpt : Int32} {ySk yRe ySo yAn : Nat → Int64} {yRo yCe yTo yIl ySz yTk yIn yEn ySu yWc yWi yHa yCo yLo yGo yFi : Nat → Int32}
variable {n t : Nat → Nat} {p s e w0 : Nat} {r : List Nat} {cv : Nat → nq_V} {hv : Nat → Option Nat}
/-- one step back within a segment -/
theorem nq_back (hW : nq_WF n t) (hp : p < 10) (hc : nq_ws p t (n p) = []) (hs : nq_ws p t s = w0 :: r) (hw0 : 2 ≤ w0) (hE : nq_IsE p t s e) (hen : e ≤ n p) {d : Nat} (hd : s + (d + 1) ≤ e) {L : List (Nat × nq_V)} (hL : L.map Prod.fst ++ r = nq_ws p t (s + (d + 1))) (lf : Nat → nq_V) :
    ∃ w K R, nq_fit p (t (20 * p + (s + d))) w = true ∧ nq_sub (t (20 * p + (s + d))) = false ∧ L = K ++ R ∧ K.map Prod.fst = nq_kids (t (20 * p + (s + d))) w ∧ nq_st lf (t (20 * p + (s + d))) (L.map Prod.snd) = nq_rs lf (t (20 * p + (s + d))) (K.map Prod.snd) :: R.map Prod.snd ∧ w :: (R.map Prod.fst ++ r) = nq_ws p t (s + d) ∧ L.length + r.length ≤ 20 ∧ R.length + 1 + r.length ≤ 20 ∧ t (20 * p + (s + d)) < 153 := by
  have hn := (hW p hp).1
  obtain ⟨iw, e1, e2, e3, e4⟩ := nq_seg hW hp hs hw0 hE hen (s + d) (by omega) (by omega)
  obtain ⟨w, r', f1, f2, ff, w4, t153, kl, es, rl, a3⟩ := nq_wsS hW hp (show s + d < n p by omega)
  have hne := e3 (by omega)
  match iw, hne with
  | w' :: iw', _ =>
    have e1' := e1
    rw [f1, List.cons_append] at e1'
    obtain ⟨rfl, rfl⟩ := List.cons.inj e1'
    have hw2 := e2 w List.mem_cons_self
    have hL2 : L.map Prod.fst = nq_kids (t (20 * p + (s + d))) w ++ iw' := by
      rw [show s + (d + 1) = s + d + 1 from rfl, f2, ← List.append_assoc] at hL
      exact List.append_cancel_right hL
    obtain ⟨K, R, g1, g2, g3, g4, g5⟩ := nq_step (lf := lf) kl hL2
    have o1 := nq_oplt hW hp hc (n p - (s + (d + 1))) (by omega)
    have o2 := nq_oplt hW hp hc (n p - (s + d)) (by omega)
    unfold nq_op at o1 o2
    rw [show n p - (n p - (s + (d + 1))) = s + (d + 1) by omega, ← hL, List.length_append, List.length_map] at o1
    rw [show n p - (n p - (s + d)) = s + d by omega, f1, List.length_cons, List.length_append, ← g3, List.length_map] at o2
    refine ⟨w, K, R, ff, es.resolve_right (by omega), g1, g2, g5, ?_, by omega, by omega, t153⟩
    rw [g3, f1]
theorem nq_x175 {post : SX → Prop} {J140 : Int64 → Int32 → Int32 → Int32 → Int32 → Int32 → Int32 → Int32 → Int32 → (Nat → Int64) → (Nat → Int32) → (Nat → Int32) → (Nat → Int32) → (Nat → Int32) → (Nat → Int32) → (Nat → Int32) → (Nat → Int32) → (Nat → Int32) → (Nat → Int64) → (Nat → Int32) → (Nat → Int32) → (Nat → Int64) → (Nat → Int32) → (Nat → Int32) → (Nat → Int64) → (Nat → Int64) → Prop} {x2 x3 x4 x6 x9 x12 x13 : Int32} {x7 x10 : Int64} {M : List Int64} (hT : nq_TT n t Tn Tk) (hW : nq_WF n t) (hp : p < 10) (hc : nq_ws p t (n p) = []) (hs : nq_ws p t s = w0 :: r) (hw0 : 2 ≤ w0) (hw1 : w0 % 2 = 1) (hE : nq_IsE p t s e) (hen : e ≤ n p) (hM : M.length ≤ r.length) (hH : nq_HX Ha hv)
    (H1 : nq_T ((nq_is (nq_leaf cv hv) t (20 * p + e) (e - s)).headD none) = true → ∀ Sk', nq_St Sk' M → ((x3 = 0 → ((x4 = 0 → wX_applySubquery_252 post J140 x2 x3 x4 (nI (20 * p + s)) x6 x7 x9 x10 x12 x13 81 sc od nc (nI M.length) cc gc ac (fun j => nq_e (cv j)) Rc St Jl Tk Tn Su Ne Ha Sk' Cb Jd Va Go Fm An Ov) ∧ (¬ x4 = 0 → wX_applySubquery_252 post J140 x2 x3 x4 (nI (20 * p + s)) x6 x7 x9 x10 x12 x13 80 sc od nc (nI M.length) cc gc ac (fun j => nq_e (cv j)) Rc St Jl Tk Tn Su Ne Ha Sk' Cb Jd Va Go Fm An Ov))) ∧ (¬ x3 = 0 → J140 2 (x12 + 1) sc od nc (nI M.length) cc gc ac (fun j => nq_e (cv j)) Rc St Jl Tk Tn Su Ne Ha Sk' Cb Jd Va Go Fm An Ov)))
    (H2 : nq_T ((nq_is (nq_leaf cv hv) t (20 * p + e) (e - s)).headD none) = false → ∀ Sk', nq_St Sk' M → J140 x10 (x12 + 1) sc od nc (nI M.length) cc gc ac (fun j => nq_e (cv j)) Rc St Jl Tk Tn Su Ne Ha Sk' Cb Jd Va Go Fm An Ov) :
    ∀ d, s + d ≤ e → ∀ f, d < f → ∀ (L : List (Nat × nq_V)) Sk, L.map Prod.fst ++ r = nq_ws p t (s + d) → L.map Prod.snd = nq_is (nq_leaf cv hv) t (20 * p + e) (e - (s + d)) → nq_St Sk (L.map nq_mx ++ M) → wX_applySubquery_175 post J140 x2 x3 x4 (nI (20 * p + s)) x6 x7 x9 x10 x12 x13 f (nI (20 * p + (s + d)) - 1) sc od nc (nI (L.length + M.length)) cc gc ac (fun j => nq_e (cv j)) Rc St Jl Tk Tn Su Ne Ha Sk Cb Jd Va Go Fm An Ov := by
  have hn := (hW p hp).1
  intro d
  induction d with
  | zero =>
    intro hd f hf L Sk hL hv2 hS
    obtain ⟨f, rfl⟩ : ∃ g, f = g + 1 := ⟨f - 1, by omega⟩
    have o1 := nq_oplt hW hp hc (n p - s) (by omega)
    unfold nq_op at o1
    rw [show n p - (n p - s) = s by omega, hs, List.length_cons] at o1
    rw [Nat.add_zero, hs] at hL
    have hL2 : L.map Prod.fst = [w0] := List.append_cancel_right hL
    obtain ⟨⟨w, v⟩, rfl, rfl⟩ := nq_1l hL2
    rw [Nat.add_zero, List.map_cons, List.map_nil] at hv2
    have vv : (nq_is (nq_leaf cv hv) t (20 * p + e) (e - s)).headD none = v := by rw [← hv2]; rfl
    rw [vv] at H1 H2
    simp only [List.map_cons, List.map_nil, nq_mx, nq_x, hw1, if_true, List.cons_append, List.nil_append] at hS
    have s1 : Sk M.length = nq_c v := hS.1
    have x1 : nI (20 * p + (s + 0)) - 1 < nI (20 * p + s) := by
      rw [Nat.add_zero]
      rcases Nat.eq_zero_or_pos (20 * p + s) with z | z
      · rw [z]; decide
      · rw [show nI (20 * p + s) - 1 = nI (20 * p + s - 1) from pk_sub (b := 1) z]
        exact nI_lt (by omega) (by omega)
    have l1 : nI ([(w, v)].length + M.length) - 1 = nI M.length := by
      rw [List.length_cons, List.length_nil, show 0 + 1 + M.length = M.length + 1 by omega, nI_pred]
    have i1 : vp_in (nI M.length) 20 := vp_in_nI (by omega) (by decide)
    have c1 : (nI M.length).toNatClampNeg = M.length := nI_clamp (by omega)
    simp only [wX_applySubquery_175, x1, l1, i1, c1, s1, nq_cT, forall_eq, not_true_eq_false, not_false_eq_true, true_implies, false_implies, implies_true, and_true, true_and, and_self]
    rcases Bool.eq_false_or_eq_true (nq_T v) with h | h
    · simp only [h, forall_eq, not_true_eq_false, not_false_eq_true, true_implies, false_implies, implies_true, and_true, true_and, and_self]
      exact H1 h Sk hS.2
    · simp only [h, reduceCtorEq, forall_eq, not_true_eq_false, not_false_eq_true, true_implies, false_implies, implies_true, and_true, true_and, and_self]
      exact H2 h Sk hS.2
  | succ d ih =>
    intro hd f hf L Sk hL hv2 hS
    obtain ⟨f, rfl⟩ : ∃ g, f = g + 1 := ⟨f - 1, by omega⟩
    obtain ⟨w, K, R, ff, fs, rfl, gK, gs, gw, l1, l2, t153⟩ := nq_back hW hp hc hs hw0 hE hen hd hL (nq_leaf cv hv)
    have x0 : nI (20 * p + (s + (d + 1))) - 1 = nI (20 * p + (s + d)) := nI_pred (20 * p + (s + d))
    have x1 : ¬ nI (20 * p + (s + d)) < nI (20 * p + s) := nI_nlt (by omega) (by omega)
    have i1 : vp_in (nI (20 * p + (s + d))) 200 := vp_in_nI (by omega) (by decide)
    have c1 : (nI (20 * p + (s + d))).toNatClampNeg = 20 * p + (s + d) := nI_clamp (by omega)
    have e2 : nI (20 * p + (s + d)) + (-1) = nI (20 * p + (s + d)) - 1 := by grind
    rw [List.length_append] at l1
    have ll : (K ++ R).length + M.length = K.length + (R.map nq_mx ++ M).length := by
      rw [List.length_append, List.length_append, List.length_map]; omega
    have l3 : (R.map nq_mx ++ M).length = R.length + M.length := by rw [List.length_append, List.length_map]
    rw [List.map_append, List.append_assoc] at hS
    rw [ll]
    simp only [wX_applySubquery_175, x0, x1, i1, c1, (hT p hp).2 (s + d) (by omega), e2, forall_eq, not_true_eq_false, not_false_eq_true, true_implies, false_implies, implies_true, and_true, true_and, and_self]
    refine nq_xApply hH ff fs gK (by omega) (by omega) hS fun Sk' hS' => ?_
    have := ih (by omega) f (by omega) ((w, nq_rs (nq_leaf cv hv) (t (20 * p + (s + d))) (K.map Prod.snd)) :: R) Sk' gw (by
      rw [List.map_cons, ← gs, hv2, show e - (s + d) = e - (s + (d + 1)) + 1 by omega]
      show _ = nq_st _ _ _
      rw [show 20 * p + e - 1 - (e - (s + (d + 1))) = 20 * p + (s + d) by omega]) hS'
    rw [l3]
    rw [List.length_cons, show R.length + 1 + M.length = R.length + M.length + 1 by omega] at this
    exact this
theorem nq_yTI {post : Int32 → SY → Prop} {tb : Nat → Nat} {h : Nat → Option Nat} {M : List Int64} (hT : nq_TT n t ySz yTk) (hW : nq_WF n t) (hp : p < 10) (hc : nq_ws p t (n p) = []) (hs : nq_ws p t s = w0 :: r) (hw0 : 2 ≤ w0) (hw1 : w0 % 2 = 1) (hE : nq_IsE p t s e) (hen : e ≤ n p) (hM : M.length ≤ r.length) (hcv : ∀ j, cv j ≠ some 1000) (hH : nq_HY yHa yTo tb h hv) (h3 : nq_H3 sbt sbr hv)
    (H : ∀ ySk', nq_St ySk' M → post (nq_b (nq_T ((nq_is (nq_leaf cv hv) t (20 * p + e) (e - s)).headD none))) (src, dis, opn, sbt, sbr, (nI M.length), mny, mor, grs, fnd, kpt, yRo, (fun j => nq_k (cv j)), yTo, yIl, ySz, yTk, yIn, yEn, ySu, yWc, yWi, yHa, ySk', yCo, yLo, yGo, yFi, yRe, ySo, yAn)) (hS0 : nq_St ySk M) : wpY_isTrueInside post (src, dis, opn, sbt, sbr, (nI M.length), mny, mor, grs, fnd, kpt, yRo, (fun j => nq_k (cv j)), yTo, yIl, ySz, yTk, yIn, yEn, ySu, yWc, yWi, yHa, ySk, yCo, yLo, yGo, yFi, yRe, ySo, yAn) (nI (20 * p + s)) (nI (20 * p + e)) := by
  have hn := (hW p hp).1
  have key : ∀ d, s + d ≤ e → ∀ f, d < f → ∀ (L : List (Nat × nq_V)) ySk, L.map Prod.fst ++ r = nq_ws p t (s + d) → L.map Prod.snd = nq_is (nq_leaf cv hv) t (20 * p + e) (e - (s + d)) → nq_St ySk (L.map nq_my ++ M) → wY_isTrueInside_4 post (nI (20 * p + s)) f (nI (20 * p + (s + d)) - 1) src dis opn sbt sbr (nI (L.length + M.length)) mny mor grs fnd kpt yRo (fun j => nq_k (cv j)) yTo yIl ySz yTk yIn yEn ySu yWc yWi yHa ySk yCo yLo yGo yFi yRe ySo yAn := by
    intro d
    induction d with
    | zero =>
      intro hd f hf L ySk hL hv2 hS
      obtain ⟨f, rfl⟩ : ∃ g, f = g + 1 := ⟨f - 1, by omega⟩
      have o1 := nq_oplt hW hp hc (n p - s) (by omega)
      unfold nq_op at o1
      rw [show n p - (n p - s) = s by omega, hs, List.length_cons] at o1
      rw [Nat.add_zero, hs] at hL
      have hL2 : L.map Prod.fst = [w0] := List.append_cancel_right hL
      obtain ⟨⟨w, v⟩, rfl, rfl⟩ := nq_1l hL2
      rw [Nat.add_zero, List.map_cons, List.map_nil] at hv2
      have vv : (nq_is (nq_leaf cv hv) t (20 * p + e) (e - s)).headD none = v := by rw [← hv2]; rfl
      rw [vv] at H
      simp only [List.map_cons, List.map_nil, nq_my, nq_y, hw1, if_true, List.cons_append, List.nil_append] at hS
      have x1 : nI (20 * p + (s + 0)) - 1 < nI (20 * p + s) := by
        rw [Nat.add_zero]
        rcases Nat.eq_zero_or_pos (20 * p + s) with z | z
        · rw [z]; decide
        · rw [show nI (20 * p + s) - 1 = nI (20 * p + s - 1) from pk_sub (b := 1) z]
          exact nI_lt (by omega) (by omega)
      have l1 : [(w, v)].length + M.length = M.length + 1 := by
        rw [List.length_cons, List.length_nil]; omega
      rw [l1]
      simp only [wY_isTrueInside_4, x1, nq_yPop (k := M.length) hS rfl (by omega), nq_dT, forall_eq, not_true_eq_false, not_false_eq_true, true_implies, false_implies, implies_true, and_true, true_and, and_self]
      rcases Bool.eq_false_or_eq_true (nq_T v) with h | h
      · simp only [h, forall_eq, not_true_eq_false, not_false_eq_true, true_implies, false_implies, implies_true, and_true, true_and, and_self]
        rw [h] at H
        exact H ySk hS.2
      · simp only [h, reduceCtorEq, forall_eq, not_true_eq_false, not_false_eq_true, true_implies, false_implies, implies_true, and_true, true_and, and_self]
        rw [h] at H
        exact H ySk hS.2
    | succ d ih =>
      intro hd f hf L ySk hL hv2 hS
      obtain ⟨f, rfl⟩ : ∃ g, f = g + 1 := ⟨f - 1, by omega⟩
      obtain ⟨w, K, R, ff, fs, rfl, gK, gs, gw, l1, l2, t153⟩ := nq_back hW hp hc hs hw0 hE hen hd hL (nq_leaf cv hv)
      have x0 : nI (20 * p + (s + (d + 1))) - 1 = nI (20 * p + (s + d)) := nI_pred (20 * p + (s + d))
      have x1 : ¬ nI (20 * p + (s + d)) < nI (20 * p + s) := nI_nlt (by omega) (by omega)
      have i1 : vp_in (nI (20 * p + (s + d))) 200 := vp_in_nI (by omega) (by decide)
      have c1 : (nI (20 * p + (s + d))).toNatClampNeg = 20 * p + (s + d) := nI_clamp (by omega)
      have e2 : nI (20 * p + (s + d)) + (-1) = nI (20 * p + (s + d)) - 1 := by grind
      rw [List.length_append] at l1
      have ll : (K ++ R).length + M.length = K.length + (R.map nq_my ++ M).length := by
        rw [List.length_append, List.length_append, List.length_map]; omega
      have l3 : (R.map nq_my ++ M).length = R.length + M.length := by rw [List.length_append, List.length_map]
      rw [List.map_append, List.append_assoc] at hS
      rw [ll]
      simp only [wY_isTrueInside_4, x0, x1, i1, c1, (hT p hp).2 (s + d) (by omega), e2, forall_eq, not_true_eq_false, not_false_eq_true, true_implies, false_implies, implies_true, and_true, true_and, and_self]
      refine nq_ySimple hcv hH (fun _ => h3) ff fs gK (by omega) hS fun ySk' hS' => ?_
      have := ih (by omega) f (by omega) ((w, nq_rs (nq_leaf cv hv) (t (20 * p + (s + d))) (K.map Prod.snd)) :: R) ySk' gw (by
        rw [List.map_cons, ← gs, hv2, show e - (s + d) = e - (s + (d + 1)) + 1 by omega]
        show _ = nq_st _ _ _
        rw [show 20 * p + e - 1 - (e - (s + (d + 1))) = 20 * p + (s + d) by omega]) hS'
      rw [l3]
      rw [List.length_cons, show R.length + 1 + M.length = R.length + M.length + 1 by omega] at this
      exact this
  have es : s < e := hE.1
  have := key (e - s) (by omega) (e - s + 1) (by omega) [] ySk (by
    obtain ⟨iw, e1, e2, e3, e4⟩ := nq_seg hW hp hs hw0 hE hen e (by omega) (by omega)
    rw [show s + (e - s) = e by omega, e1, e4 rfl]
    rfl) (by rw [show e - (s + (e - s)) = 0 by omega]; rfl) hS0
  rw [show s + (e - s) = e by omega, List.length_nil, Nat.zero_add] at this
  simp only [wpY_isTrueInside, forall_eq, not_true_eq_false, not_false_eq_true, true_implies, false_implies, implies_true, and_true, true_and, and_self]
  exact ⟨_, this⟩
end
