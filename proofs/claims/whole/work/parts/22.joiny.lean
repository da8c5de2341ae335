section
variable {sc od nc tp cc gc ac : Int32} {Ce Sk Va An Ov : Nat → Int64} {Rc St Jl Tk Tn Su Ne Ha Cb Jd Go Fm : Nat → Int32}
variable {src dis opn sbt sbr dep mny mor grs fnd kpt : Int32} {ySk yRe ySo yAn : Nat → Int64} {yRo yCe yTo yIl ySz yTk yIn yEn ySu yWc yWi yHa yCo yLo yGo yFi : Nat → Int32}
variable {n t : Nat → Nat} {p : Nat} {cv : Nat → nq_V} {h hv : Nat → Option Nat} {rw tb : Nat → Nat}
def nq_YE (cv : Nat → nq_V) (rw tb n t : Nat → Nat) (yRo yTo ySz yTk yIn yEn : Nat → Int32) : Prop := nq_TT n t ySz yTk ∧ nq_WF n t ∧ nq_Full n t ∧ (∀ j, cv j ≠ some 1000) ∧ nq_RW rw yRo ∧ nq_TB tb yTo ∧ (∀ p, p < 10 → nq_In n t p yIn) ∧ (∀ p, p < 10 → ∀ k, k < n p → yEn (20 * p + k) = nI (nq_en p t k))
theorem nq_yWk {post : Int64 → SY → Prop} (E : nq_YE cv rw tb n t yRo yTo ySz yTk yIn yEn) (hp : p < 10) (h0 : 0 < n p) (hok : nq_Hok h) (hA : ∀ s, s < 3 → yHa s = nq_ey h s) (H : ∀ sbt' sbr' ySk', post (nq_y (if p ≤ 3 then 1 else 0) (nq_val cv rw tb n t p h)) (src, dis, opn, sbt', sbr', 0, mny, mor, grs, fnd, kpt, yRo, (fun j => nq_k (cv j)), yTo, yIl, ySz, yTk, yIn, yEn, ySu, yWc, yWi, yHa, ySk', yCo, yLo, yGo, yFi, yRe, ySo, yAn)) : wpY_work post (src, dis, opn, sbt, sbr, 0, mny, mor, grs, fnd, kpt, yRo, (fun j => nq_k (cv j)), yTo, yIl, ySz, yTk, yIn, yEn, ySu, yWc, yWi, yHa, ySk, yCo, yLo, yGo, yFi, yRe, ySo, yAn) (nI p) := by
  obtain ⟨e1, e2, e3, e4, e5, e6, e7, e8⟩ := E
  exact nq_yWork e1 e2 hp h0 (e3 p hp h0) e4 (nq_HYof e6 hok hA) e5 (e7 p hp) (e8 p hp) H
theorem nq_yTrue {post : Int32 → SY → Prop} (E : nq_YE cv rw tb n t yRo yTo ySz yTk yIn yEn) (hp : p ≤ 3) (hok : nq_Hok h) (hA : ∀ s, s < 3 → yHa s = nq_ey h s) (H : ∀ sbt' sbr' ySk', post (nq_b (nq_T (nq_val cv rw tb n t p h))) (src, dis, opn, sbt', sbr', 0, mny, mor, grs, fnd, kpt, yRo, (fun j => nq_k (cv j)), yTo, yIl, ySz, yTk, yIn, yEn, ySu, yWc, yWi, yHa, ySk', yCo, yLo, yGo, yFi, yRe, ySo, yAn)) : wpY_isTrue post (src, dis, opn, sbt, sbr, 0, mny, mor, grs, fnd, kpt, yRo, (fun j => nq_k (cv j)), yTo, yIl, ySz, yTk, yIn, yEn, ySu, yWc, yWi, yHa, ySk, yCo, yLo, yGo, yFi, yRe, ySo, yAn) (nI p) := by
  have ip : vp_in (nI p) 10 := vp_in_nI (by omega) (by decide)
  have cp : (nI p).toNatClampNeg = p := nI_clamp (by omega)
  have e1 := (E.1 p (by omega)).1
  have hn := (E.2.1 p (by omega)).1
  rcases Nat.eq_zero_or_pos (n p) with h0 | h0
  · have hv : nq_val cv rw tb n t p h = some 1 := by
      unfold nq_val nq_pv
      rw [if_pos h0, if_pos hp]
    rw [hv] at H
    simp only [wpY_isTrue, ip, cp, e1, h0, nI_0, forall_eq, not_true_eq_false, not_false_eq_true, true_implies, false_implies, implies_true, and_true, true_and, and_self]
    exact H _ _ _
  · have n0 : ¬ nI (n p) = 0 := nI_ne0 h0 (by omega)
    simp only [wpY_isTrue, ip, cp, e1, n0, forall_eq, not_true_eq_false, not_false_eq_true, true_implies, false_implies, implies_true, and_true, true_and, and_self]
    refine nq_yWk E (by omega) h0 hok hA fun sbt' sbr' ySk' => ?_
    have HH := H sbt' sbr' ySk'
    simp only [hp, if_true, nq_y, show (1 % 2 = 1) from rfl, nq_dT]
    rcases Bool.eq_false_or_eq_true (nq_T (nq_val cv rw tb n t p h)) with hk | hk
    · rw [hk] at HH
      simp only [hk, forall_eq, not_true_eq_false, not_false_eq_true, true_implies, false_implies, implies_true, and_true, true_and, and_self]
      exact HH
    · rw [hk] at HH
      simp only [hk, reduceCtorEq, forall_eq, not_true_eq_false, not_false_eq_true, true_implies, false_implies, implies_true, and_true, true_and, and_self]
      exact HH
theorem nq_yVal1 {post : Int64 → SY → Prop} (E : nq_YE cv rw tb n t yRo yTo ySz yTk yIn yEn) (hp : 4 ≤ p) (hp2 : p < 10) (hok : nq_Hok h) (hA : ∀ s, s < 3 → yHa s = nq_ey h s) (H : ∀ sbt' sbr' ySk', post (nq_f (nq_val cv rw tb n t p h)) (src, dis, opn, sbt', sbr', 0, mny, mor, grs, fnd, kpt, yRo, (fun j => nq_k (cv j)), yTo, yIl, ySz, yTk, yIn, yEn, ySu, yWc, yWi, yHa, ySk', yCo, yLo, yGo, yFi, yRe, ySo, yAn)) : vp_in (nI p) 10 ∧ ((ySz (nI p).toNatClampNeg = 0 → post 1099511627776 (src, dis, opn, sbt, sbr, 0, mny, mor, grs, fnd, kpt, yRo, (fun j => nq_k (cv j)), yTo, yIl, ySz, yTk, yIn, yEn, ySu, yWc, yWi, yHa, ySk, yCo, yLo, yGo, yFi, yRe, ySo, yAn)) ∧ (¬ ySz (nI p).toNatClampNeg = 0 → wpY_work post (src, dis, opn, sbt, sbr, 0, mny, mor, grs, fnd, kpt, yRo, (fun j => nq_k (cv j)), yTo, yIl, ySz, yTk, yIn, yEn, ySu, yWc, yWi, yHa, ySk, yCo, yLo, yGo, yFi, yRe, ySo, yAn) (nI p))) := by
  have ip : vp_in (nI p) 10 := vp_in_nI (by omega) (by decide)
  have cp : (nI p).toNatClampNeg = p := nI_clamp (by omega)
  have e1 := (E.1 p (by omega)).1
  have hn := (E.2.1 p (by omega)).1
  rw [cp, e1]
  refine ⟨ip, ?_⟩
  rcases Nat.eq_zero_or_pos (n p) with h0 | h0
  · have hv : nq_val cv rw tb n t p h = none := by
      unfold nq_val nq_pv
      rw [if_pos h0, if_neg (by omega)]
    rw [hv] at H
    simp only [h0, nI_0, forall_eq, not_true_eq_false, not_false_eq_true, true_implies, false_implies, implies_true, and_true, true_and, and_self]
    exact H _ _ _
  · have n0 : ¬ nI (n p) = 0 := nI_ne0 h0 (by omega)
    simp only [n0, forall_eq, not_true_eq_false, not_false_eq_true, true_implies, false_implies, implies_true, and_true, true_and, and_self]
    refine nq_yWk E (by omega) h0 hok hA fun sbt' sbr' ySk' => ?_
    have HH := H sbt' sbr' ySk'
    simp only [show ¬ p ≤ 3 by omega, if_false, nq_y, show ¬ (0 % 2 = 1) from by decide]
    exact HH
theorem nq_yVal {post : Int64 → SY → Prop} {c : Nat} {C : List (Nat → Option Nat)} (E : nq_YE cv rw tb n t yRo yTo ySz yTk yIn yEn) (hp : 4 ≤ p) (hp2 : p < 10) (hC : nq_CA nq_ey yCo C) (hCo : nq_Cok C) (hc : C[c]? = some h) (hc2 : c < 216) (H : ∀ yHa' sbt' sbr' ySk', post (nq_f (nq_val cv rw tb n t p h)) (src, dis, opn, sbt', sbr', 0, mny, mor, grs, fnd, kpt, yRo, (fun j => nq_k (cv j)), yTo, yIl, ySz, yTk, yIn, yEn, ySu, yWc, yWi, yHa', ySk', yCo, yLo, yGo, yFi, yRe, ySo, yAn)) : wpY_valueFor post (src, dis, opn, sbt, sbr, 0, mny, mor, grs, fnd, kpt, yRo, (fun j => nq_k (cv j)), yTo, yIl, ySz, yTk, yIn, yEn, ySu, yWc, yWi, yHa, ySk, yCo, yLo, yGo, yFi, yRe, ySo, yAn) (nI p) (nI c) := by
  simp only [wpY_valueFor]
  refine nq_yTake hc2 fun yHa' g1 => ?_
  exact nq_yVal1 E hp hp2 (hCo h (List.mem_of_getElem? hc)) (fun s hs => (g1 s hs).trans (hC c h hc s hs)) fun sbt' sbr' ySk' => H _ _ _ _
theorem nq_yValN {post : Int64 → SY → Prop} (E : nq_YE cv rw tb n t yRo yTo ySz yTk yIn yEn) (hp : 4 ≤ p) (hp2 : p < 10) (H : ∀ yHa' sbt' sbr' ySk', post (nq_f (nq_val cv rw tb n t p (fun _ => none))) (src, dis, opn, sbt', sbr', 0, mny, mor, grs, fnd, kpt, yRo, (fun j => nq_k (cv j)), yTo, yIl, ySz, yTk, yIn, yEn, ySu, yWc, yWi, yHa', ySk', yCo, yLo, yGo, yFi, yRe, ySo, yAn)) : wpY_valueFor post (src, dis, opn, sbt, sbr, 0, mny, mor, grs, fnd, kpt, yRo, (fun j => nq_k (cv j)), yTo, yIl, ySz, yTk, yIn, yEn, ySu, yWc, yWi, yHa, ySk, yCo, yLo, yGo, yFi, yRe, ySo, yAn) (nI p) (-1) := by
  simp only [wpY_valueFor]
  refine nq_yTakeN fun yHa' g1 => ?_
  exact nq_yVal1 (h := fun _ => none) E hp hp2 (fun s _ r hr => by cases hr) (fun s hs => g1 s hs) fun sbt' sbr' ySk' => H _ _ _ _
theorem nq_ey_s {s r : Nat} : nq_ey (nq_hs h s (some r)) s = nI r := by
  unfold nq_ey nq_hs
  simp only [if_true, nq_hx]
theorem nq_ey_o {s s' : Nat} {o : Option Nat} (hs : s' ≠ s) : nq_ey (nq_hs h s o) s' = nq_ey h s' := by
  unfold nq_ey nq_hs
  simp only [if_neg hs]
theorem nq_hs_n {s : Nat} (hn : h s = none) : nq_hs h s none = h := by
  funext s'
  unfold nq_hs
  by_cases e : s' = s
  · rw [if_pos e, e, hn]
  · rw [if_neg e]
theorem nq_y23 {post : SY → Prop} {J7 : Int32 → Int32 → Int32 → Int32 → Int32 → Int32 → Int32 → Int32 → Int32 → Int32 → Int32 → Int32 → (Nat → Int32) → (Nat → Int32) → (Nat → Int32) → (Nat → Int32) → (Nat → Int32) → (Nat → Int32) → (Nat → Int32) → (Nat → Int32) → (Nat → Int32) → (Nat → Int32) → (Nat → Int32) → (Nat → Int32) → (Nat → Int64) → (Nat → Int32) → (Nat → Int32) → (Nat → Int32) → (Nat → Int32) → (Nat → Int64) → (Nat → Int64) → (Nat → Int64) → Prop} {s i : Nat} {ok : (Nat → Option Nat) → Bool} {left : Bool} {C D : List (Nat → Option Nat)} (E : nq_YE cv rw tb n t yRo yTo ySz yTk yIn yEn) (hs : s < 3) (hC : nq_CA nq_ey yCo C) (hCo : nq_Cok C) (hi : C[i]? = some h) (hi2 : i < 36) (hD : D.length ≤ 210) (hns : h s = none)
    (ok1 : ∀ g, ok g = nq_T (nq_val cv rw tb n t s g)) (lf1 : left = decide (yIl s ≠ 0))
    (H : ∀ yHa' sbt' sbr' ySk' yLo', nq_CA nq_ey yLo' (D ++ nq_jo ok s left (rw (tb s)) h) → J7 (nI (i + 1)) src dis opn sbt' sbr' 0 mny (nI (D ++ nq_jo ok s left (rw (tb s)) h).length) grs fnd kpt yRo (fun j => nq_k (cv j)) yTo yIl ySz yTk yIn yEn ySu yWc yWi yHa' ySk' yCo yLo' yGo yFi yRe ySo yAn) :
    ∀ f r, r ≤ rw (tb s) → rw (tb s) - r < f → ∀ yHa sbt sbr ySk yLo, nq_CA nq_ey yLo (D ++ nq_jr ok s h r) → wY_join_23 post J7 (nI s) (nI i) (nI D.length) f (nI r) src dis opn sbt sbr 0 mny (nI (D ++ nq_jr ok s h r).length) grs fnd kpt yRo (fun j => nq_k (cv j)) yTo yIl ySz yTk yIn yEn ySu yWc yWi yHa ySk yCo yLo yGo yFi yRe ySo yAn := by
  have E0 := E
  obtain ⟨e1, e2, e3, e4, e5, e6, e7, e8⟩ := E
  obtain ⟨tb3, hSt⟩ := e6 s hs
  obtain ⟨r6, hr⟩ := e5 (tb s) tb3
  have it : vp_in (nI (tb s)) 3 := vp_in_nI tb3 (by decide)
  have ct : (nI (tb s)).toNatClampNeg = tb s := nI_clamp (by omega)
  have is3 : vp_in (nI s) 3 := vp_in_nI hs (by decide)
  have cs : (nI s).toNatClampNeg = s := nI_clamp (by omega)
  have hok : nq_Hok h := hCo h (List.mem_of_getElem? hi)
  intro f
  induction f with
  | zero => intro r _ h; omega
  | succ f ih =>
    intro r hr1 hf yHa sbt sbr ySk yLo hL
    have jl := nq_jr_l (ok := ok) (s := s) (h := h) r
    have hll : (D ++ nq_jr ok s h r).length = D.length + (nq_jr ok s h r).length := List.length_append
    rcases Nat.lt_or_ge r (rw (tb s)) with z | z
    · have z3 : ¬ nI (rw (tb s)) ≤ nI r := nI_ge z (by omega)
      simp only [wY_join_23, is3, cs, hSt, it, ct, hr, z3, nI_1, forall_eq, not_true_eq_false, not_false_eq_true, true_implies, false_implies, implies_true, and_true, true_and, and_self]
      refine nq_yTake (by omega) fun yHa' g1 => ?_
      have hok' : nq_Hok (nq_hs h s (some r)) := nq_hs_ok hok (fun q hq => by cases hq; omega)
      have hA' : ∀ s', s' < 3 → upd yHa' s (nI r) s' = nq_ey (nq_hs h s (some r)) s' := by
        intro s' hs'
        by_cases e : s' = s
        · rw [e, pk_us, nq_ey_s]
        · rw [pk_un e, nq_ey_o e, g1 s' hs']
          exact hC i h hi s' hs'
      refine nq_yTrue E0 (show s ≤ 3 by omega) hok' hA' fun sbt' sbr' ySk' => ?_
      rw [← ok1]
      rcases Bool.eq_false_or_eq_true (ok (nq_hs h s (some r))) with hk | hk
      · simp only [hk, nq_bt, show ¬ (1 : Int32) = 0 from by decide, forall_eq, not_true_eq_false, not_false_eq_true, true_implies, false_implies, implies_true, and_true, true_and, and_self]
        refine nq_yKeep (by omega) fun yLo' g2 g3 => ?_
        have ee : D ++ nq_jr ok s h (r + 1) = (D ++ nq_jr ok s h r) ++ [nq_hs h s (some r)] := by
          simp only [nq_jr, hk, if_true, List.append_assoc]
        have := ih (r + 1) (by omega) (by omega) (upd yHa' s (nI r)) sbt' sbr' ySk' yLo' (by
          rw [ee]
          exact nq_CA_a hL (fun s' hs' => by rw [g2 s' hs']; exact hA' s' hs') g3)
        rw [ee, List.length_append, List.length_singleton] at this
        exact this
      · simp only [hk, nq_bf, forall_eq, not_true_eq_false, not_false_eq_true, true_implies, false_implies, implies_true, and_true, true_and, and_self]
        have ee : D ++ nq_jr ok s h (r + 1) = D ++ nq_jr ok s h r := by
          simp only [nq_jr, hk, reduceCtorEq, if_false, List.append_nil]
        have := ih (r + 1) (by omega) (by omega) (upd yHa' s (nI r)) sbt' sbr' ySk' yLo (by
          rw [ee]
          exact hL)
        rw [ee] at this
        exact this
    · have : r = rw (tb s) := by omega
      subst this
      have z3 : nI (rw (tb s)) ≤ nI (rw (tb s)) := nI_le (Nat.le_refl _) (by omega)
      simp only [wY_join_23, is3, cs, hSt, it, ct, hr, z3, nI_1, forall_eq, not_true_eq_false, not_false_eq_true, true_implies, false_implies, implies_true, and_true, true_and, and_self]
      refine nq_yTake (by omega) fun yHa' g1 => ?_
      have hA' : ∀ s', s' < 3 → yHa' s' = nq_ey h s' := fun s' hs' => by rw [g1 s' hs']; exact hC i h hi s' hs'
      by_cases q0 : (nq_jr ok s h (rw (tb s))).length = 0
      · have ed : D ++ nq_jr ok s h (rw (tb s)) = D := by rw [List.eq_nil_of_length_eq_zero q0, List.append_nil]
        rw [ed] at hL
        simp only [ed, forall_eq, not_true_eq_false, not_false_eq_true, true_implies, false_implies, implies_true, and_true, true_and, and_self]
        by_cases hl : left = true
        · rw [hl] at lf1
          have hj2 : ¬ yIl s = 0 := of_decide_eq_true lf1.symm
          simp only [hj2, forall_eq, not_true_eq_false, not_false_eq_true, true_implies, false_implies, implies_true, and_true, true_and, and_self]
          have ee : D ++ nq_jo ok s left (rw (tb s)) h = D ++ [h] := by
            unfold nq_jo
            rw [if_pos ⟨q0, hl⟩, nq_hs_n hns]
          refine nq_yKeep (by omega) fun yLo' g2 g3 => ?_
          have := H yHa' sbt sbr ySk yLo' (by
            rw [ee]
            exact nq_CA_a hL (fun s' hs' => by rw [g2 s' hs']; exact hA' s' hs') g3)
          rw [ee, List.length_append, List.length_singleton] at this
          exact this
        · have hj2 : yIl s = 0 := by
            apply Classical.byContradiction
            intro hz
            exact hl (lf1.trans (decide_eq_true hz))
          have ee : D ++ nq_jo ok s left (rw (tb s)) h = D := by
            unfold nq_jo
            rw [if_neg (fun z => hl z.2), ed]
          rw [ee] at H
          simp only [hj2, forall_eq, not_true_eq_false, not_false_eq_true, true_implies, false_implies, implies_true, and_true, true_and, and_self]
          exact H _ _ _ _ _ hL
      · have e5 : ¬ nI (D ++ nq_jr ok s h (rw (tb s))).length = nI D.length := by
          intro e
          have := (nI_eq (by omega) (by omega)).mp e
          omega
        have ee : nq_jo ok s left (rw (tb s)) h = nq_jr ok s h (rw (tb s)) := by
          unfold nq_jo
          rw [if_neg (fun z => q0 z.1)]
        rw [ee] at H
        simp only [e5, forall_eq, not_true_eq_false, not_false_eq_true, true_implies, false_implies, implies_true, and_true, true_and, and_self]
        exact H _ _ _ _ _ hL
theorem nq_yJoin {post : SY → Prop} {s : Nat} {ok : (Nat → Option Nat) → Bool} {left : Bool} {C : List (Nat → Option Nat)} (E : nq_YE cv rw tb n t yRo yTo ySz yTk yIn yEn) (hs : s < 3) (hC : nq_CA nq_ey yCo C) (hCo : nq_Cok C) (hCl : C.length ≤ 36) (hns : ∀ g, g ∈ C → g s = none)
    (ok1 : ∀ g, ok g = nq_T (nq_val cv rw tb n t s g)) (lf1 : left = decide (yIl s ≠ 0))
    (H : ∀ yHa' sbt' sbr' ySk' yLo' yCo', nq_CA nq_ey yCo' (nq_jn ok s left (rw (tb s)) C) → post (src, dis, opn, sbt', sbr', 0, (nI (nq_jn ok s left (rw (tb s)) C).length), (nI (nq_jn ok s left (rw (tb s)) C).length), grs, fnd, kpt, yRo, (fun j => nq_k (cv j)), yTo, yIl, ySz, yTk, yIn, yEn, ySu, yWc, yWi, yHa', ySk', yCo', yLo', yGo, yFi, yRe, ySo, yAn)) : wpY_join post (src, dis, opn, sbt, sbr, 0, (nI C.length), mor, grs, fnd, kpt, yRo, (fun j => nq_k (cv j)), yTo, yIl, ySz, yTk, yIn, yEn, ySu, yWc, yWi, yHa, ySk, yCo, yLo, yGo, yFi, yRe, ySo, yAn) (nI s) := by
  have r6 := (E.2.2.2.2.1 (tb s) (E.2.2.2.2.2.1 s hs).1).1
  simp only [wpY_join]
  have key : ∀ f i, i ≤ C.length → C.length - i < f → ∀ yHa sbt sbr ySk yLo, nq_CA nq_ey yLo (nq_jn ok s left (rw (tb s)) (C.take i)) → wY_join_7 post (nI s) f (nI i) src dis opn sbt sbr 0 (nI C.length) (nI (nq_jn ok s left (rw (tb s)) (C.take i)).length) grs fnd kpt yRo (fun j => nq_k (cv j)) yTo yIl ySz yTk yIn yEn ySu yWc yWi yHa ySk yCo yLo yGo yFi yRe ySo yAn := by
    intro f
    induction f with
    | zero => intro i _ h; omega
    | succ f ih =>
      intro i hi hf yHa sbt sbr ySk yLo hJ
      have l1 := nq_jn_l (ok := ok) (s := s) (left := left) r6 (C.take i)
      rw [List.length_take] at l1
      rcases Nat.lt_or_ge i C.length with z | z
      · have z3 : ¬ nI C.length ≤ nI i := nI_ge z (by omega)
        simp only [wY_join_7, z3, forall_eq, not_true_eq_false, not_false_eq_true, true_implies, false_implies, implies_true, and_true, true_and, and_self]
        have hg : C[i]? = some C[i] := List.getElem?_eq_getElem z
        have gg := nq_y23 (post := post) (J7 := wY_join_7 post (nI s) f) (i := i) (h := C[i]) (cv := cv) (C := C) (D := nq_jn ok s left (rw (tb s)) (C.take i)) (left := left) (ok := ok) (src := src) (dis := dis) (opn := opn) (mny := (nI C.length)) (grs := grs) (fnd := fnd) (kpt := kpt) (yRo := yRo) (yTo := yTo) (yIl := yIl) (ySz := ySz) (yTk := yTk) (yIn := yIn) (yEn := yEn) (ySu := ySu) (yWc := yWc) (yWi := yWi) (yCo := yCo) (yGo := yGo) (yFi := yFi) (yRe := yRe) (ySo := ySo) (yAn := yAn) E hs hC hCo hg (by omega) (by omega) (hns _ (List.getElem_mem z)) ok1 lf1 (by
          intro yHa' sbt' sbr' ySk' yLo' a2
          have et : C.take (i + 1) = C.take i ++ [C[i]] := by rw [List.take_succ, hg]; rfl
          have en : nq_jn ok s left (rw (tb s)) (C.take (i + 1)) = nq_jn ok s left (rw (tb s)) (C.take i) ++ nq_jo ok s left (rw (tb s)) C[i] := by
            rw [et]
            unfold nq_jn
            rw [List.flatMap_append, List.flatMap_cons, List.flatMap_nil, List.append_nil]
          have := ih (i + 1) (by omega) (by omega) yHa' sbt' sbr' ySk' yLo' (by rw [en]; exact a2)
          rw [en] at this
          exact this) (rw (tb s) + 1) 0 (by omega) (by omega) yHa sbt sbr ySk yLo (by
            show nq_CA nq_ey yLo (_ ++ [])
            rw [List.append_nil]
            exact hJ)
        rw [show nq_jn ok s left (rw (tb s)) (C.take i) ++ nq_jr ok s C[i] 0 = nq_jn ok s left (rw (tb s)) (C.take i) from List.append_nil _] at gg
        exact ⟨_, gg⟩
      · have : i = C.length := by omega
        subst this
        have z3 : nI C.length ≤ nI C.length := nI_le (Nat.le_refl _) (by omega)
        rw [List.take_length] at hJ l1 ⊢
        simp only [wY_join_7, z3, forall_eq, not_true_eq_false, not_false_eq_true, true_implies, false_implies, implies_true, and_true, true_and, and_self]
        refine nq_ySwap (by omega) fun yCo' g1 => ?_
        refine H _ _ _ _ _ _ ?_
        intro i' g hg s' hs'
        have hi' : i' < (nq_jn ok s left (rw (tb s)) C).length := by
          rw [List.getElem?_eq_some_iff] at hg
          exact hg.1
        exact (g1 _ (by omega)).trans (hJ i' g hg s' hs')
  exact ⟨_, key (C.length + 1) 0 (by omega) (by omega) yHa sbt sbr ySk yLo (fun i g hg => by cases hg)⟩
end
