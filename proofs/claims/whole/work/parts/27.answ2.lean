section
variable {sc od nc tp cc gc ac : Int32} {Ce Sk Va An Ov : Nat → Int64} {Rc St Jl Tk Tn Su Ne Ha Cb Jd Go Fm : Nat → Int32}
variable {src dis opn sbt sbr dep mny mor grs fnd kpt : Int32} {ySk yRe ySo yAn : Nat → Int64} {yRo yCe yTo yIl ySz yTk yIn yEn ySu yWc yWi yHa yCo yLo yGo yFi : Nat → Int32}
variable {n t : Nat → Nat} {p : Nat} {cv : Nat → nq_V} {h hv : Nat → Option Nat} {rw tb su : Nat → Nat} {vf : Nat → (Nat → Option Nat) → nq_V} {ka : Nat → Nat → nq_V} {F G : Nat → Nat} {v : Nat → nq_V}
/-- rows of answers in arrays: the groups L, one row each -/
def nq_RA (enc : nq_V → Int64) (ro : Nat → Nat → nq_V) (og : Nat → nq_V) (A O : Nat → Int64) (L : List Nat) : Prop := ∀ i g, L[i]? = some g → (∀ o, o < 3 → A (3 * i + o) = enc (ro g o)) ∧ O i = enc (og g)
theorem nq_RA_a {enc : nq_V → Int64} {ro : Nat → Nat → nq_V} {og : Nat → nq_V} {A O A' O' : Nat → Int64} {L : List Nat} {g : Nat} (hL : nq_RA enc ro og A O L) (h1 : ∀ o, o < 3 → A' (3 * L.length + o) = enc (ro g o)) (h2 : O' L.length = enc (og g)) (h3 : ∀ j, j < 3 * L.length → A' j = A j) (h4 : ∀ j, j < L.length → O' j = O j) : nq_RA enc ro og A' O' (L ++ [g]) := by
  intro i k hk
  rcases Nat.lt_trichotomy i L.length with z | z | z
  · rw [List.getElem?_append_left z] at hk
    obtain ⟨a, b⟩ := hL i k hk
    exact ⟨fun o ho => by rw [h3 _ (by omega)]; exact a o ho, by rw [h4 _ z]; exact b⟩
  · subst z
    rw [List.getElem?_append_right (Nat.le_refl _), Nat.sub_self] at hk
    cases hk
    exact ⟨h1, h2⟩
  · rw [List.getElem?_append_right (by omega)] at hk
    obtain ⟨m, hm⟩ : ∃ m, i - L.length = m + 1 := ⟨i - L.length - 1, by omega⟩
    rw [hm] at hk
    cases hk
/-- the groups that stay -/
def nq_gk (ka : Nat → Nat → nq_V) (F : Nat → Nat) (N : Nat) : List Nat := (List.range N).filter (fun g => nq_T (ka 3 (F g)))
theorem nq_gk_l {N : Nat} : (nq_gk ka F N).length ≤ N := by
  have := List.length_filter_le (fun g => nq_T (ka 3 (F g))) (List.range N)
  rw [List.length_range] at this
  exact this
theorem nq_gk_t {g : Nat} (h : nq_T (ka 3 (F g)) = true) : nq_gk ka F (g + 1) = nq_gk ka F g ++ [g] := by
  unfold nq_gk
  rw [List.range_succ, List.filter_append, List.filter_cons_of_pos (p := fun g => nq_T (ka 3 (F g))) h, List.filter_nil]
theorem nq_gk_f {g : Nat} (h : nq_T (ka 3 (F g)) = false) : nq_gk ka F (g + 1) = nq_gk ka F g := by
  unfold nq_gk
  rw [List.range_succ, List.filter_append, List.filter_cons_of_neg (by rw [h]; decide), List.filter_nil, List.append_nil]
theorem nq_vp3 {post : Int32 → Prop} {i : Nat} : wpX_valuePlace post 3 (nI i) ↔ post (nI ((3 - 3) * 216 + i)) := nq_vp (p := 3) (Nat.le_refl _)
theorem nq_vp9 {post : Int32 → Prop} {i : Nat} : wpX_valuePlace post 9 (nI i) ↔ post (nI ((9 - 3) * 216 + i)) := nq_vp (p := 9) (by omega)
theorem nq_xAnsw {post : SX → Prop} {m m1 gN : Nat} (hT : nq_TT n t Tn Tk) (hW : nq_WF n t) (hS : nq_SU su Su) (hV : nq_VA ka m1 Va) (hm1 : m1 ≤ 216) (hm : m ≤ m1) (hgN : gN ≤ 216) (hF : ∀ g, g < gN → Fm g = nI (F g) ∧ F g < m1) (hG : ∀ j, j < m → Go j = nI (G j) ∧ G j < 216) (H : ∀ An' Ov', nq_RA nq_e (nq_out n su ka F G m) (fun g => ka 9 (F g)) An' Ov' (nq_gk ka F gN) → post (sc, od, nc, tp, (nI m), (nI gN), (nI (nq_gk ka F gN).length), Ce, Rc, St, Jl, Tk, Tn, Su, Ne, Ha, Sk, Cb, Jd, Va, Go, Fm, An', Ov')) : wpX_answerGroups post (sc, od, nc, tp, (nI m), (nI gN), ac, Ce, Rc, St, Jl, Tk, Tn, Su, Ne, Ha, Sk, Cb, Jd, Va, Go, Fm, An, Ov) := by
  have key : ∀ f g, g ≤ gN → gN - g < f → ∀ An Ov, nq_RA nq_e (nq_out n su ka F G m) (fun g => ka 9 (F g)) An Ov (nq_gk ka F g) → wX_answerGroups_7 post sc od nc tp (nI m) (nI gN) f (nI g) (nI (nq_gk ka F g).length) Ce Rc St Jl Tk Tn Su Ne Ha Sk Cb Jd Va Go Fm An Ov := by
    intro f
    induction f with
    | zero => intro g _ h; omega
    | succ f ih =>
      intro g hg hf An Ov hA
      have gl := nq_gk_l (ka := ka) (F := F) (N := g)
      rcases Nat.lt_or_ge g gN with z | z
      · have z3 : ¬ nI gN ≤ nI g := nI_ge z (by omega)
        have ig : vp_in (nI g) 216 := vp_in_nI (by omega) (by decide)
        have cg : (nI g).toNatClampNeg = g := nI_clamp (by omega)
        obtain ⟨f1, f2⟩ := hF g z
        have i3 : vp_in (nI ((3 - 3) * 216 + F g)) 1512 := vp_in_nI (by omega) (by decide)
        have c3 : (nI ((3 - 3) * 216 + F g)).toNatClampNeg = (3 - 3) * 216 + F g := nI_clamp (by omega)
        have i9 : vp_in (nI ((9 - 3) * 216 + F g)) 1512 := vp_in_nI (by omega) (by decide)
        have c9 : (nI ((9 - 3) * 216 + F g)).toNatClampNeg = (9 - 3) * 216 + F g := nI_clamp (by omega)
        have v9 := nq_VAe hV f2 (p := 9) (by omega) (by omega)
        have v3 : Va ((3 - 3) * 216 + F g) = nq_c (ka 3 (F g)) := by
          rw [hV (F g) f2 3 (by omega) (by omega), if_pos (Nat.le_refl _)]
          exact if_pos rfl
        simp only [wX_answerGroups_7, z3, ig, cg, f1, nq_vp3, i3, c3, v3, nq_cT, nI_1, forall_eq, not_true_eq_false, not_false_eq_true, true_implies, false_implies, implies_true, and_true, true_and, and_self]
        rcases Bool.eq_false_or_eq_true (nq_T (ka 3 (F g))) with hk | hk
        · refine br_t hk ?_
          have il : vp_in (nI (nq_gk ka F g).length) 216 := vp_in_nI (by omega) (by decide)
          have cl : (nI (nq_gk ka F g).length).toNatClampNeg = (nq_gk ka F g).length := nI_clamp (by omega)
          have key2 : ∀ f2 o, o ≤ 3 → 3 - o < f2 → ∀ An', (∀ o', o' < o → An' (3 * (nq_gk ka F g).length + o') = nq_e (nq_out n su ka F G m g o')) → (∀ j, j < 3 * (nq_gk ka F g).length → An' j = An j) → wX_answerGroups_44 post (wX_answerGroups_7 post sc od nc tp (nI m) (nI gN) f) (nI g) sc od nc tp (nI m) (nI gN) (nI (nq_gk ka F g).length) f2 (nI o) Ce Rc St Jl Tk Tn Su Ne Ha Sk Cb Jd Va Go Fm An' Ov := by
            intro f2
            induction f2 with
            | zero => intro o _ h; omega
            | succ f2 ih2 =>
              intro o ho hf2 An' hA1 hA2
              rcases Nat.lt_or_ge o 3 with y | y
              · have y3 : ¬ 3 ≤ nI o := nI_ge (b := 3) y (by decide)
                have e1 : nI (nq_gk ka F g).length * 3 + nI o = nI (3 * (nq_gk ka F g).length + o) := by
                  simp only [nq_i3, pk_mul, nI_add]
                  exact congrArg nI (by omega)
                have ia : vp_in (nI (3 * (nq_gk ka F g).length + o)) 648 := vp_in_nI (by omega) (by decide)
                have ca : (nI (3 * (nq_gk ka F g).length + o)).toNatClampNeg = 3 * (nq_gk ka F g).length + o := nI_clamp (by omega)
                simp only [wX_answerGroups_44, y3, forall_eq, not_true_eq_false, not_false_eq_true, true_implies, false_implies, implies_true, and_true, true_and, and_self]
                refine nq_xOut (F := F) (G := G) (gN := gN) hT hW hS hV hm1 hm hgN z y hF hG ?_
                simp only [e1, ia, ca, nI_1, forall_eq, not_true_eq_false, not_false_eq_true, true_implies, false_implies, implies_true, and_true, true_and, and_self]
                refine ih2 (o + 1) (by omega) (by omega) _ (fun o' ho' => ?_) (fun j hj => ?_)
                · by_cases e : o' = o
                  · rw [e, pk_uLs]
                  · rw [pk_uLn (by omega)]
                    exact hA1 o' (by omega)
                · rw [pk_uLn (by omega)]
                  exact hA2 j hj
              · have : o = 3 := by omega
                subst this
                simp only [wX_answerGroups_44, show (3 : Int32) ≤ nI 3 from by decide, ig, cg, f1, nq_vp9, i9, c9, v9, il, cl, nI_1, forall_eq, not_true_eq_false, not_false_eq_true, true_implies, false_implies, implies_true, and_true, true_and, and_self]
                have nn := ih (g + 1) (by omega) (by omega) An' (vp_updL Ov (nq_gk ka F g).length (nq_e (ka 9 (F g)))) (by
                  rw [nq_gk_t hk]
                  exact nq_RA_a hA hA1 pk_uLs hA2 (fun j hj => pk_uLn (by omega)))
                rw [nq_gk_t hk, List.length_append, List.length_singleton] at nn
                exact nn
          exact ⟨_, key2 4 0 (by omega) (by omega) An (fun o' ho' => by omega) (fun j _ => rfl)⟩
        · refine br_f (by rw [hk]; decide) ?_
          have nn := ih (g + 1) (by omega) (by omega) An Ov (by rw [nq_gk_f hk]; exact hA)
          rw [nq_gk_f hk] at nn
          exact nn
      · have : g = gN := by omega
        subst this
        have z3 : nI g ≤ nI g := nI_le (Nat.le_refl _) (by omega)
        simp only [wX_answerGroups_7, z3, forall_eq, not_true_eq_false, not_false_eq_true, true_implies, false_implies, implies_true, and_true, true_and, and_self]
        exact H _ _ hA
  exact ⟨_, key (gN + 1) 0 (by omega) (by omega) An Ov (fun i g hg => by cases hg)⟩
/-! the reference -/
theorem nq_yVg {post : Int64 → SY → Prop} {C : List (Nat → Option Nat)} {q : Nat} {x : Int32} (E : nq_YE cv rw tb n t yRo yTo ySz yTk yIn yEn) (hC : nq_CA nq_ey yCo C) (hCo : nq_Cok C) (hCl : C.length ≤ 216) (hka : ka = nq_ka (nq_val cv rw tb n t) (nq_c1 C)) (hp1 : 4 ≤ p) (hp2 : p < 10) (hq : q < (nq_c1 C).length) (hx : x = if C.length = 0 then -1 else nI q) (H : ∀ yHa' sbt' sbr' ySk', post (nq_f (ka p q)) (src, dis, opn, sbt', sbr', 0, mny, mor, grs, fnd, kpt, yRo, (fun j => nq_k (cv j)), yTo, yIl, ySz, yTk, yIn, yEn, ySu, yWc, yWi, yHa', ySk', yCo, yLo, yGo, yFi, yRe, ySo, yAn)) : wpY_valueFor post (src, dis, opn, sbt, sbr, 0, mny, mor, grs, fnd, kpt, yRo, (fun j => nq_k (cv j)), yTo, yIl, ySz, yTk, yIn, yEn, ySu, yWc, yWi, yHa, ySk, yCo, yLo, yGo, yFi, yRe, ySo, yAn) (nI p) x := by
  by_cases h0 : C.length = 0
  · rw [if_pos h0] at hx
    subst hx
    have hc1 : nq_c1 C = [fun _ => none] := if_pos h0
    have hq0 : q = 0 := by rw [hc1, List.length_singleton] at hq; omega
    have ev : ka p q = nq_val cv rw tb n t p (fun _ => none) := by
      rw [hka, hc1, hq0, nq_ka_i (h := fun _ => none) rfl]
    refine nq_yValN E hp1 hp2 ?_
    rw [← ev]
    exact H
  · rw [if_neg h0] at hx
    subst hx
    have hc1 : nq_c1 C = C := if_neg h0
    rw [hc1] at hq
    have hg : C[q]? = some C[q] := List.getElem?_eq_getElem hq
    have ev : ka p q = nq_val cv rw tb n t p C[q] := by rw [hka, hc1, nq_ka_i hg]
    refine nq_yVal E hp1 hp2 hC hCo hg (by omega) ?_
    rw [← ev]
    exact H
theorem nq_ySum {post : Int64 → SY → Prop} {C : List (Nat → Option Nat)} {g o : Nat} (E : nq_YE cv rw tb n t yRo yTo ySz yTk yIn yEn) (hS : nq_SU su ySu) (hC : nq_CA nq_ey yCo C) (hCo : nq_Cok C) (hCl : C.length ≤ 216) (hka : ka = nq_ka (nq_val cv rw tb n t) (nq_c1 C)) (hg : g < 216) (ho : o < 3) (k0 : su o ≠ 0) (hG : ∀ j, j < C.length → yGo j = nI (G j) ∧ G j < 216) (H : ∀ yHa' sbt' sbr' ySk', post (nq_f (nq_out n su ka F G C.length g o)) (src, dis, opn, sbt', sbr', 0, (nI C.length), mor, grs, fnd, kpt, yRo, (fun j => nq_k (cv j)), yTo, yIl, ySz, yTk, yIn, yEn, ySu, yWc, yWi, yHa', ySk', yCo, yLo, yGo, yFi, yRe, ySo, yAn)) : wpY_summed post (src, dis, opn, sbt, sbr, 0, (nI C.length), mor, grs, fnd, kpt, yRo, (fun j => nq_k (cv j)), yTo, yIl, ySz, yTk, yIn, yEn, ySu, yWc, yWi, yHa, ySk, yCo, yLo, yGo, yFi, yRe, ySo, yAn) (nI o) (nI g) := by
  obtain ⟨s1, s2⟩ := hS o ho
  have io : vp_in (nI o) 3 := vp_in_nI ho (by decide)
  have co : (nI o).toNatClampNeg = o := nI_clamp (by omega)
  have e4 : 4 + nI o = nI (4 + o) := nI_add 4 o
  have i4 : vp_in (nI (4 + o)) 10 := vp_in_nI (by omega) (by decide)
  have c4 : (nI (4 + o)).toNatClampNeg = 4 + o := nI_clamp (by omega)
  have hn := (E.1 (4 + o) (by omega)).1
  have ln := (E.2.1 (4 + o) (by omega)).1
  simp only [wpY_summed, io, co, s2, forall_eq, not_true_eq_false, not_false_eq_true, true_implies, false_implies, implies_true, and_true, true_and, and_self]
  have key : ∀ f i, i ≤ C.length → C.length - i < f → ∀ yHa sbt sbr ySk, wY_summed_21 post (nI o) (nI g) (nI (su o)) f (nI (nq_mc G g i)) (nI (nq_kc G (ka (4 + o)) g i)) (nq_f (nq_bs (nq_fk (su o)) G (ka (4 + o)) g i)) (nI i) src dis opn sbt sbr 0 (nI C.length) mor grs fnd kpt yRo (fun j => nq_k (cv j)) yTo yIl ySz yTk yIn yEn ySu yWc yWi yHa ySk yCo yLo yGo yFi yRe ySo yAn := by
    intro f
    induction f with
    | zero => intro i _ h; omega
    | succ f ih =>
      intro i hi hf yHa sbt sbr ySk
      have kl := nq_kc_l (G := G) (v := ka (4 + o)) (g := g) i
      rcases Nat.lt_or_ge i C.length with z | z
      · have z3 : ¬ nI C.length ≤ nI i := nI_ge z (by omega)
        have ii : vp_in (nI i) 216 := vp_in_nI (by omega) (by decide)
        have ci : (nI i).toNatClampNeg = i := nI_clamp (by omega)
        obtain ⟨g1, g2⟩ := hG i z
        have nn := ih (i + 1) (by omega) (by omega)
        simp only [nq_mc, nq_kc, nq_bs] at nn
        simp only [wY_summed_21, z3, ii, ci, e4, g1, show (nI (G i) = nI g) = (G i = g) from propext (nI_eq (by omega) (by omega)), nI_1, forall_eq, not_true_eq_false, not_false_eq_true, true_implies, false_implies, implies_true, and_true, true_and, and_self]
        by_cases e : G i = g
        · simp only [e, if_true, true_and] at nn
          refine br_t e ?_
          have c1l : i < (nq_c1 C).length := by
            unfold nq_c1
            rw [if_neg (by omega)]
            exact z
          refine nq_yVg E hC hCo hCl hka (show 4 ≤ 4 + o by omega) (by omega) c1l (by rw [if_neg (by omega)]) fun yHa' sbt' sbr' ySk' => ?_
          have nn2 := nn yHa' sbt' sbr' ySk'
          cases hq : ka (4 + o) i with
          | none =>
            simp only [hq, nq_b2f, ne_eq, not_true_eq_false, if_false] at nn2
            simp only [nq_f, forall_eq, not_true_eq_false, not_false_eq_true, true_implies, false_implies, implies_true, and_true, true_and, and_self]
            exact nn2
          | some x =>
            simp only [hq, ne_eq, reduceCtorEq, not_false_eq_true, if_true, nq_b2f] at nn2
            simp only [nq_f_n, reduceCtorEq, forall_eq, not_true_eq_false, not_false_eq_true, true_implies, false_implies, implies_true, and_true, true_and, and_self]
            cases hb : nq_bs (nq_fk (su o)) G (ka (4 + o)) g i with
            | none =>
              simp only [hb] at nn2
              simp only [forall_eq, not_true_eq_false, not_false_eq_true, true_implies, false_implies, implies_true, and_true, true_and, and_self]
              exact nn2
            | some y =>
              simp only [hb] at nn2
              simp only [reduceCtorEq, nq_f_s, show (nI (su o) < (3 : Int32)) = ((su o) < 3) from propext (nI_ltI (b := 3) (by omega) (by decide)), show ((3 : Int32) < nI (su o)) = (3 < (su o)) from propext (nI_ltI (a := 3) (by decide) (by omega)), show (nI (su o) ≤ (3 : Int32)) = ((su o) ≤ 3) from propext (nI_leI (b := 3) (by omega) (by decide)), show ((3 : Int32) ≤ nI (su o)) = (3 ≤ (su o)) from propext (nI_leI (a := 3) (by decide) (by omega)), show (nI (su o) = (3 : Int32)) = ((su o) = 3) from propext (nI_eq (b := 3) (by omega) (by decide)), show (nI (su o) < (4 : Int32)) = ((su o) < 4) from propext (nI_ltI (b := 4) (by omega) (by decide)), show ((4 : Int32) < nI (su o)) = (4 < (su o)) from propext (nI_ltI (a := 4) (by decide) (by omega)), show (nI (su o) ≤ (4 : Int32)) = ((su o) ≤ 4) from propext (nI_leI (b := 4) (by omega) (by decide)), show ((4 : Int32) ≤ nI (su o)) = (4 ≤ (su o)) from propext (nI_leI (a := 4) (by decide) (by omega)), show (nI (su o) = (4 : Int32)) = ((su o) = 4) from propext (nI_eq (b := 4) (by omega) (by decide)), show (nq_f (some y) ≤ nq_f (some x)) = (y ≤ x) from propext Int32.toInt64_le, show (nq_f (some x) ≤ nq_f (some y)) = (x ≤ y) from propext Int32.toInt64_le, forall_eq, not_true_eq_false, not_false_eq_true, true_implies, false_implies, implies_true, and_true, true_and, and_self]
              unfold nq_fk at nn2
              by_cases k3 : su o = 3
              · rw [if_pos k3] at nn2
                exact br_t k3 nn2
              · rw [if_neg k3] at nn2
                refine br_f k3 ?_
                by_cases k4 : su o = 4
                · rw [if_pos k4] at nn2
                  refine br_t k4 ?_
                  unfold nq_f4 at nn2
                  by_cases q : y ≤ x
                  · rw [if_pos q] at nn2
                    exact br_t q nn2
                  · rw [if_neg q] at nn2
                    exact br_f q nn2
                · rw [if_neg k4] at nn2
                  refine br_f k4 ?_
                  unfold nq_f5 at nn2
                  by_cases q : x ≤ y
                  · rw [if_pos q] at nn2
                    exact br_t q nn2
                  · rw [if_neg q] at nn2
                    exact br_f q nn2
        · simp only [e, if_false, false_and] at nn
          exact br_f e (nn _ _ _ _)
      · have : i = C.length := by omega
        subst this
        have z3 : nI C.length ≤ nI C.length := nI_le (Nat.le_refl _) (by omega)
        unfold nq_out at H
        rw [if_neg k0] at H
        simp only [wY_summed_21, z3, e4, i4, c4, hn, show (nI (su o) < (1 : Int32)) = ((su o) < 1) from propext (nI_ltI (b := 1) (by omega) (by decide)), show ((1 : Int32) < nI (su o)) = (1 < (su o)) from propext (nI_ltI (a := 1) (by decide) (by omega)), show (nI (su o) ≤ (1 : Int32)) = ((su o) ≤ 1) from propext (nI_leI (b := 1) (by omega) (by decide)), show ((1 : Int32) ≤ nI (su o)) = (1 ≤ (su o)) from propext (nI_leI (a := 1) (by decide) (by omega)), show (nI (su o) = (1 : Int32)) = ((su o) = 1) from propext (nI_eq (b := 1) (by omega) (by decide)), show (nI (su o) < (2 : Int32)) = ((su o) < 2) from propext (nI_ltI (b := 2) (by omega) (by decide)), show ((2 : Int32) < nI (su o)) = (2 < (su o)) from propext (nI_ltI (a := 2) (by decide) (by omega)), show (nI (su o) ≤ (2 : Int32)) = ((su o) ≤ 2) from propext (nI_leI (b := 2) (by omega) (by decide)), show ((2 : Int32) ≤ nI (su o)) = (2 ≤ (su o)) from propext (nI_leI (a := 2) (by decide) (by omega)), show (nI (su o) = (2 : Int32)) = ((su o) = 2) from propext (nI_eq (b := 2) (by omega) (by decide)), show (nI (n (4 + o)) < (0 : Int32)) = ((n (4 + o)) < 0) from propext (nI_ltI (b := 0) (by omega) (by decide)), show ((0 : Int32) < nI (n (4 + o))) = (0 < (n (4 + o))) from propext (nI_ltI (a := 0) (by decide) (by omega)), show (nI (n (4 + o)) ≤ (0 : Int32)) = ((n (4 + o)) ≤ 0) from propext (nI_leI (b := 0) (by omega) (by decide)), show ((0 : Int32) ≤ nI (n (4 + o))) = (0 ≤ (n (4 + o))) from propext (nI_leI (a := 0) (by decide) (by omega)), show (nI (n (4 + o)) = (0 : Int32)) = ((n (4 + o)) = 0) from propext (nI_eq (b := 0) (by omega) (by decide)), forall_eq, not_true_eq_false, not_false_eq_true, true_implies, false_implies, implies_true, and_true, true_and, and_self]
        by_cases k1 : su o = 1
        · rw [if_pos k1] at H
          exact br_t k1 (H _ _ _ _)
        · rw [if_neg k1] at H
          refine br_f k1 ?_
          by_cases kn : n (4 + o) = 0
          · rw [if_pos kn] at H
            exact br_t kn (H _ _ _ _)
          · rw [if_neg kn] at H
            refine br_f kn ?_
            by_cases k2 : su o = 2
            · rw [if_pos k2] at H
              exact br_t k2 (H _ _ _ _)
            · rw [if_neg k2] at H
              exact br_f k2 (H _ _ _ _)
  exact ⟨_, key (C.length + 1) 0 (by omega) (by omega) yHa sbt sbr ySk⟩
end
