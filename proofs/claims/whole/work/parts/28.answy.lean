section
variable {sc od nc tp cc gc ac : Int32} {Ce Sk Va An Ov : Nat → Int64} {Rc St Jl Tk Tn Su Ne Ha Cb Jd Go Fm : Nat → Int32}
variable {src dis opn sbt sbr dep mny mor grs fnd kpt : Int32} {ySk yRe ySo yAn : Nat → Int64} {yRo yCe yTo yIl ySz yTk yIn yEn ySu yWc yWi yHa yCo yLo yGo yFi : Nat → Int32}
variable {n t : Nat → Nat} {p : Nat} {cv : Nat → nq_V} {h hv : Nat → Option Nat} {rw tb su : Nat → Nat} {vf : Nat → (Nat → Option Nat) → nq_V} {ka : Nat → Nat → nq_V} {F G : Nat → Nat} {v : Nat → nq_V}
theorem nq_yTg {post : Int32 → SY → Prop} {C : List (Nat → Option Nat)} {q : Nat} {x : Int32} (E : nq_YE cv rw tb n t yRo yTo ySz yTk yIn yEn) (hC : nq_CA nq_ey yCo C) (hCo : nq_Cok C) (hCl : C.length ≤ 216) (hka : ka = nq_ka (nq_val cv rw tb n t) (nq_c1 C)) (hq : q < (nq_c1 C).length) (hx : x = if C.length = 0 then -1 else nI q) (H : ∀ yHa' sbt' sbr' ySk', post (nq_b (nq_T (ka 3 q))) (src, dis, opn, sbt', sbr', 0, mny, mor, grs, fnd, kpt, yRo, (fun j => nq_k (cv j)), yTo, yIl, ySz, yTk, yIn, yEn, ySu, yWc, yWi, yHa', ySk', yCo, yLo, yGo, yFi, yRe, ySo, yAn)) : wpY_takeUp (fun u => match u with | (src1, dis1, opn1, sbt1, sbr1, dep1, mny1, mor1, grs1, fnd1, kpt1, yRo1, yCe1, yTo1, yIl1, ySz1, yTk1, yIn1, yEn1, ySu1, yWc1, yWi1, yHa1, ySk1, yCo1, yLo1, yGo1, yFi1, yRe1, ySo1, yAn1) => wpY_isTrue post (src1, dis1, opn1, sbt1, sbr1, dep1, mny1, mor1, grs1, fnd1, kpt1, yRo1, yCe1, yTo1, yIl1, ySz1, yTk1, yIn1, yEn1, ySu1, yWc1, yWi1, yHa1, ySk1, yCo1, yLo1, yGo1, yFi1, yRe1, ySo1, yAn1) 3) (src, dis, opn, sbt, sbr, 0, mny, mor, grs, fnd, kpt, yRo, (fun j => nq_k (cv j)), yTo, yIl, ySz, yTk, yIn, yEn, ySu, yWc, yWi, yHa, ySk, yCo, yLo, yGo, yFi, yRe, ySo, yAn) x := by
  by_cases h0 : C.length = 0
  · rw [if_pos h0] at hx
    subst hx
    have hc1 : nq_c1 C = [fun _ => none] := if_pos h0
    have hq0 : q = 0 := by rw [hc1, List.length_singleton] at hq; omega
    have ev : ka 3 q = nq_val cv rw tb n t 3 (fun _ => none) := by
      rw [hka, hc1, hq0, nq_ka_i (h := fun _ => none) rfl]
    refine nq_yTakeN fun yHa' g1 => ?_
    rw [ev] at H
    exact nq_yTrue (p := 3) (h := fun _ => none) E (Nat.le_refl _) (fun s _ r hr => by cases hr) (fun s hs => g1 s hs) (fun a b c => H _ a b c)
  · rw [if_neg h0] at hx
    subst hx
    have hc1 : nq_c1 C = C := if_neg h0
    rw [hc1] at hq
    have hg : C[q]? = some C[q] := List.getElem?_eq_getElem hq
    have ev : ka 3 q = nq_val cv rw tb n t 3 C[q] := by rw [hka, hc1, nq_ka_i hg]
    refine nq_yTake (by omega) fun yHa' g1 => ?_
    rw [ev] at H
    exact nq_yTrue (p := 3) (h := C[q]) E (Nat.le_refl _) (hCo _ (List.getElem_mem hq)) (fun s hs => (g1 s hs).trans (hC q _ hg s hs)) (fun a b c => H _ a b c)
theorem nq_yAg {post : SY → Prop} {C : List (Nat → Option Nat)} {g gN : Nat} (E : nq_YE cv rw tb n t yRo yTo ySz yTk yIn yEn) (hS : nq_SU su ySu) (hC : nq_CA nq_ey yCo C) (hCo : nq_Cok C) (hCl : C.length ≤ 216) (hka : ka = nq_ka (nq_val cv rw tb n t) (nq_c1 C)) (hgN : gN ≤ 216) (hg : g < gN) (hF : ∀ g, g < gN → (yFi g = if C.length = 0 then -1 else nI (F g)) ∧ F g < (nq_c1 C).length) (hG : ∀ j, j < C.length → yGo j = nI (G j) ∧ G j < 216) (hA : nq_RA nq_f (nq_out n su ka F G C.length) (fun g => ka 9 (F g)) yRe ySo (nq_gk ka F g)) (H : ∀ yHa' sbt' sbr' ySk' yRe' ySo', nq_RA nq_f (nq_out n su ka F G C.length) (fun g => ka 9 (F g)) yRe' ySo' (nq_gk ka F (g + 1)) → post (src, dis, opn, sbt', sbr', 0, (nI C.length), mor, grs, (nI (nq_gk ka F (g + 1)).length), kpt, yRo, (fun j => nq_k (cv j)), yTo, yIl, ySz, yTk, yIn, yEn, ySu, yWc, yWi, yHa', ySk', yCo, yLo, yGo, yFi, yRe', ySo', yAn)) : wpY_answerGroup post (src, dis, opn, sbt, sbr, 0, (nI C.length), mor, grs, (nI (nq_gk ka F g).length), kpt, yRo, (fun j => nq_k (cv j)), yTo, yIl, ySz, yTk, yIn, yEn, ySu, yWc, yWi, yHa, ySk, yCo, yLo, yGo, yFi, yRe, ySo, yAn) (nI g) := by
  have gl := nq_gk_l (ka := ka) (F := F) (N := g)
  have ig : vp_in (nI g) 216 := vp_in_nI (by omega) (by decide)
  have cg : (nI g).toNatClampNeg = g := nI_clamp (by omega)
  obtain ⟨f1, f2⟩ := hF g hg
  simp only [wpY_answerGroup, ig, cg, forall_eq, not_true_eq_false, not_false_eq_true, true_implies, false_implies, implies_true, and_true, true_and, and_self]
  refine nq_yTg E hC hCo hCl hka f2 f1 fun yHa sbt sbr ySk => ?_
  simp only [nq_b0]
  rcases Bool.eq_false_or_eq_true (nq_T (ka 3 (F g))) with hk | hk
  · refine br_f (by rw [hk]; decide) ?_
    have il : vp_in (nI (nq_gk ka F g).length) 216 := vp_in_nI (by omega) (by decide)
    have cl : (nI (nq_gk ka F g).length).toNatClampNeg = (nq_gk ka F g).length := nI_clamp (by omega)
    have key2 : ∀ f2 o, o ≤ 3 → 3 - o < f2 → ∀ yHa sbt sbr ySk yRe', (∀ o', o' < o → yRe' (3 * (nq_gk ka F g).length + o') = nq_f (nq_out n su ka F G C.length g o')) → (∀ j, j < 3 * (nq_gk ka F g).length → yRe' j = yRe j) → wY_answerGroup_21 post (nI g) f2 (nI o) src dis opn sbt sbr 0 (nI C.length) mor grs (nI (nq_gk ka F g).length) kpt yRo (fun j => nq_k (cv j)) yTo yIl ySz yTk yIn yEn ySu yWc yWi yHa ySk yCo yLo yGo yFi yRe' ySo yAn := by
      intro f2'
      induction f2' with
      | zero => intro o _ h; omega
      | succ f2' ih2 =>
        intro o ho hf2 yHa sbt sbr ySk yRe' hA1 hA2
        rcases Nat.lt_or_ge o 3 with y | y
        · have y3 : ¬ 3 ≤ nI o := nI_ge (b := 3) y (by decide)
          obtain ⟨s1, s2⟩ := hS o y
          have io : vp_in (nI o) 3 := vp_in_nI y (by decide)
          have co : (nI o).toNatClampNeg = o := nI_clamp (by omega)
          have e4 : 4 + nI o = nI (4 + o) := nI_add 4 o
          have e1 : 3 * nI (nq_gk ka F g).length + nI o = nI (3 * (nq_gk ka F g).length + o) := by simp only [nq_i3, pk_mul, nI_add]
          have ia : vp_in (nI (3 * (nq_gk ka F g).length + o)) 648 := vp_in_nI (by omega) (by decide)
          have ca : (nI (3 * (nq_gk ka F g).length + o)).toNatClampNeg = 3 * (nq_gk ka F g).length + o := nI_clamp (by omega)
          have fin : ∀ yHa sbt sbr ySk x, x = nq_f (nq_out n su ka F G C.length g o) → wY_answerGroup_21 post (nI g) f2' (nI (o + 1)) src dis opn sbt sbr 0 (nI C.length) mor grs (nI (nq_gk ka F g).length) kpt yRo (fun j => nq_k (cv j)) yTo yIl ySz yTk yIn yEn ySu yWc yWi yHa ySk yCo yLo yGo yFi (vp_updL yRe' (3 * (nq_gk ka F g).length + o) x) ySo yAn := by
            intro yHa sbt sbr ySk x hx
            subst hx
            refine ih2 (o + 1) (by omega) (by omega) yHa sbt sbr ySk _ (fun o' ho' => ?_) (fun j hj => ?_)
            · by_cases e : o' = o
              · rw [e, pk_uLs]
              · rw [pk_uLn (by omega)]
                exact hA1 o' (by omega)
            · rw [pk_uLn (by omega)]
              exact hA2 j hj
          simp only [wY_answerGroup_21, y3, io, co, s2, ig, cg, e4, e1, ia, ca, show (nI (su o) < (0 : Int32)) = ((su o) < 0) from propext (nI_ltI (b := 0) (by omega) (by decide)), show ((0 : Int32) < nI (su o)) = (0 < (su o)) from propext (nI_ltI (a := 0) (by decide) (by omega)), show (nI (su o) ≤ (0 : Int32)) = ((su o) ≤ 0) from propext (nI_leI (b := 0) (by omega) (by decide)), show ((0 : Int32) ≤ nI (su o)) = (0 ≤ (su o)) from propext (nI_leI (a := 0) (by decide) (by omega)), show (nI (su o) = (0 : Int32)) = ((su o) = 0) from propext (nI_eq (b := 0) (by omega) (by decide)), nI_1, forall_eq, not_true_eq_false, not_false_eq_true, true_implies, false_implies, implies_true, and_true, true_and, and_self]
          by_cases k0 : su o = 0
          · refine br_t k0 ?_
            refine nq_yVg E hC hCo hCl hka (show 4 ≤ 4 + o by omega) (by omega) f2 f1 fun yHa' sbt' sbr' ySk' => ?_
            exact fin _ _ _ _ _ (by unfold nq_out; rw [if_pos k0])
          · refine br_f k0 ?_
            refine nq_ySum (F := F) E hS hC hCo hCl hka (by omega) y k0 hG fun yHa' sbt' sbr' ySk' => ?_
            exact fin _ _ _ _ _ rfl
        · have : o = 3 := by omega
          subst this
          simp only [wY_answerGroup_21, show (3 : Int32) ≤ nI 3 from by decide, ig, cg, il, cl, nI_1, forall_eq, not_true_eq_false, not_false_eq_true, true_implies, false_implies, implies_true, and_true, true_and, and_self]
          refine nq_yVg (p := 9) E hC hCo hCl hka (by omega) (by omega) f2 f1 fun yHa' sbt' sbr' ySk' => ?_
          rw [nq_gk_t hk] at H
          have := H yHa' sbt' sbr' ySk' yRe' (vp_updL ySo (nq_gk ka F g).length (nq_f (ka 9 (F g)))) (nq_RA_a hA hA1 pk_uLs hA2 (fun j hj => pk_uLn (by omega)))
          rw [List.length_append, List.length_singleton, ← nI_1] at this
          exact this
    exact ⟨_, key2 4 0 (by omega) (by omega) yHa sbt sbr ySk yRe (fun o' ho' => by omega) (fun j _ => rfl)⟩
  · refine br_t hk ?_
    rw [nq_gk_f hk] at H
    exact H _ _ _ _ _ _ hA
theorem nq_y97 {post : Int32 → SY → Prop} {C : List (Nat → Option Nat)} {gN : Nat} (E : nq_YE cv rw tb n t yRo yTo ySz yTk yIn yEn) (hS : nq_SU su ySu) (hC : nq_CA nq_ey yCo C) (hCo : nq_Cok C) (hCl : C.length ≤ 216) (hka : ka = nq_ka (nq_val cv rw tb n t) (nq_c1 C)) (hgN : gN ≤ 216) (hF : ∀ g, g < gN → (yFi g = if C.length = 0 then -1 else nI (F g)) ∧ F g < (nq_c1 C).length) (hG : ∀ j, j < C.length → yGo j = nI (G j) ∧ G j < 216) (H : ∀ yHa' sbt' sbr' ySk' yRe' ySo' (yGo' : Nat → Int32), (∀ j : Nat, j < 216 → yGo' j = 0) → nq_RA nq_f (nq_out n su ka F G C.length) (fun g => ka 9 (F g)) yRe' ySo' (nq_gk ka F gN) → wpY_order (fun u => match u with | (src1, dis1, opn1, sbt1, sbr1, dep1, mny1, mor1, grs1, fnd1, kpt1, yRo1, yCe1, yTo1, yIl1, ySz1, yTk1, yIn1, yEn1, ySu1, yWc1, yWi1, yHa1, ySk1, yCo1, yLo1, yGo1, yFi1, yRe1, ySo1, yAn1) => post kpt1 (src1, dis1, opn1, sbt1, sbr1, dep1, mny1, mor1, grs1, fnd1, kpt1, yRo1, yCe1, yTo1, yIl1, ySz1, yTk1, yIn1, yEn1, ySu1, yWc1, yWi1, yHa1, ySk1, yCo1, yLo1, yGo1, yFi1, yRe1, ySo1, yAn1)) (src, dis, opn, sbt', sbr', 0, (nI C.length), mor, (nI gN), (nI (nq_gk ka F gN).length), kpt, yRo, (fun j => nq_k (cv j)), yTo, yIl, ySz, yTk, yIn, yEn, ySu, yWc, yWi, yHa', ySk', yCo, yLo, yGo', yFi, yRe', ySo', yAn)) : ∃ f, wY_run_97 post f 0 src dis opn sbt sbr 0 (nI C.length) mor (nI gN) 0 kpt yRo (fun j => nq_k (cv j)) yTo yIl ySz yTk yIn yEn ySu yWc yWi yHa ySk yCo yLo yGo yFi yRe ySo yAn := by
  have key : ∀ f g, g ≤ gN → gN - g < f → ∀ yHa sbt sbr ySk yRe ySo, nq_RA nq_f (nq_out n su ka F G C.length) (fun g => ka 9 (F g)) yRe ySo (nq_gk ka F g) → wY_run_97 post f (nI g) src dis opn sbt sbr 0 (nI C.length) mor (nI gN) (nI (nq_gk ka F g).length) kpt yRo (fun j => nq_k (cv j)) yTo yIl ySz yTk yIn yEn ySu yWc yWi yHa ySk yCo yLo yGo yFi yRe ySo yAn := by
    intro f
    induction f with
    | zero => intro g _ h; omega
    | succ f ih =>
      intro g hg hf yHa sbt sbr ySk yRe ySo hA
      rcases Nat.lt_or_ge g gN with z | z
      · have z3 : ¬ nI gN ≤ nI g := nI_ge z (by omega)
        simp only [wY_run_97, z3, nI_1, forall_eq, not_true_eq_false, not_false_eq_true, true_implies, false_implies, implies_true, and_true, true_and, and_self]
        exact nq_yAg E hS hC hCo hCl hka hgN z hF hG hA fun yHa' sbt' sbr' ySk' yRe' ySo' hA' => ih (g + 1) (by omega) (by omega) yHa' sbt' sbr' ySk' yRe' ySo' hA'
      · have : g = gN := by omega
        subst this
        have z3 : nI g ≤ nI g := nI_le (Nat.le_refl _) (by omega)
        simp only [wY_run_97, z3, forall_eq, not_true_eq_false, not_false_eq_true, true_implies, false_implies, implies_true, and_true, true_and, and_self]
        have key2 : ∀ f2 j, j ≤ 216 → 216 - j < f2 → ∀ yGo', (∀ j', j' < j → yGo' j' = 0) → wY_run_118 post src dis opn sbt sbr 0 (nI C.length) mor (nI g) (nI (nq_gk ka F g).length) kpt f2 (nI j) yRo (fun j => nq_k (cv j)) yTo yIl ySz yTk yIn yEn ySu yWc yWi yHa ySk yCo yLo yGo' yFi yRe ySo yAn := by
          intro f2
          induction f2 with
          | zero => intro j _ h; omega
          | succ f2 ih2 =>
            intro j hj hf2 yGo' hZ
            rcases Nat.lt_or_ge j 216 with y | y
            · have y3 : ¬ 216 ≤ nI j := nI_ge (b := 216) y (by decide)
              have ij : vp_in (nI j) 216 := vp_in_nI y (by decide)
              have cj : (nI j).toNatClampNeg = j := nI_clamp (by omega)
              simp only [wY_run_118, y3, ij, cj, nI_1, forall_eq, not_true_eq_false, not_false_eq_true, true_implies, false_implies, implies_true, and_true, true_and, and_self]
              refine ih2 (j + 1) (by omega) (by omega) _ (fun j' hj' => ?_)
              by_cases e : j' = j
              · rw [e, pk_us]
              · rw [pk_un e]
                exact hZ j' (by omega)
            · have : j = 216 := by omega
              subst this
              simp only [wY_run_118, show (216 : Int32) ≤ nI 216 from by decide, forall_eq, not_true_eq_false, not_false_eq_true, true_implies, false_implies, implies_true, and_true, true_and, and_self]
              exact H _ _ _ _ _ _ _ hZ hA
        exact ⟨_, key2 217 0 (by omega) (by omega) yGo (fun j' hj' => by omega)⟩
  exact ⟨_, key (gN + 1) 0 (by omega) (by omega) yHa sbt sbr ySk yRe ySo (fun i g hg => by cases hg)⟩
end
