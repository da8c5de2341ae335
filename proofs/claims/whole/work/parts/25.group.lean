section
variable {sc od nc tp cc gc ac : Int32} {Ce Sk Va An Ov : Nat → Int64} {Rc St Jl Tk Tn Su Ne Ha Cb Jd Go Fm : Nat → Int32}
variable {src dis opn sbt sbr dep mny mor grs fnd kpt : Int32} {ySk yRe ySo yAn : Nat → Int64} {yRo yCe yTo yIl ySz yTk yIn yEn ySu yWc yWi yHa yCo yLo yGo yFi : Nat → Int32}
variable {n t : Nat → Nat} {p : Nat} {cv : Nat → nq_V} {h hv : Nat → Option Nat} {rw tb su : Nat → Nat} {vf : Nat → (Nat → Option Nat) → nq_V} {ka : Nat → Nat → nq_V}
theorem nq_VAe {m i p : Nat} (hV : nq_VA ka m Va) (hi : i < m) (hp1 : 4 ≤ p) (hp2 : p < 10) : Va ((p - 3) * 216 + i) = nq_e (ka p i) := by
  rw [hV i hi p (by omega) hp2, if_neg (by omega)]
  exact if_neg (by decide)
theorem nq_xGL {post : Int32 → Prop} {c i m : Nat} {F : Nat → Nat} (hV : nq_VA ka m Va) (hm : m ≤ 216) (hi : i < m) (hc : c ≤ 216) (hF : ∀ g, g < c → Fm g = nI (F g) ∧ F g < m) (H : post (nI (nq_gl (fun g => nq_eq ka (F g) i) c c 0))) : wpX_groupLike post (sc, od, nc, tp, cc, (nI c), ac, Ce, Rc, St, Jl, Tk, Tn, Su, Ne, Ha, Sk, Cb, Jd, Va, Go, Fm, An, Ov) (nI i) := by
  have j7 : vp_in (nI ((7 - 3) * 216 + i)) 1512 := vp_in_nI (by omega) (by decide)
  have d7 : (nI ((7 - 3) * 216 + i)).toNatClampNeg = (7 - 3) * 216 + i := nI_clamp (by omega)
  have j8 : vp_in (nI ((8 - 3) * 216 + i)) 1512 := vp_in_nI (by omega) (by decide)
  have d8 : (nI ((8 - 3) * 216 + i)).toNatClampNeg = (8 - 3) * 216 + i := nI_clamp (by omega)
  have v7 := nq_VAe hV hi (p := 7) (by omega) (by omega)
  have v8 := nq_VAe hV hi (p := 8) (by omega) (by omega)
  have key : ∀ f g, g ≤ c → c - g < f → post (nI (nq_gl (fun g => nq_eq ka (F g) i) c (c - g) g)) → wX_groupLike_17 post (nI ((7 - 3) * 216 + i)) (nI ((8 - 3) * 216 + i)) sc od nc tp cc (nI c) ac Ce Rc St Jl Tk Tn Su Ne Ha Sk Cb Jd Va Go Fm An Ov f (nI g) := by
    intro f
    induction f with
    | zero => intro g _ h; omega
    | succ f ih =>
      intro g hg hf HH
      rcases Nat.lt_or_ge g c with z | z
      · have z3 : ¬ nI c ≤ nI g := nI_ge z (by omega)
        obtain ⟨f1, f2⟩ := hF g z
        have ig : vp_in (nI g) 216 := vp_in_nI (by omega) (by decide)
        have cg : (nI g).toNatClampNeg = g := nI_clamp (by omega)
        have k7 : vp_in (nI ((7 - 3) * 216 + F g)) 1512 := vp_in_nI (by omega) (by decide)
        have e7 : (nI ((7 - 3) * 216 + F g)).toNatClampNeg = (7 - 3) * 216 + F g := nI_clamp (by omega)
        have k8 : vp_in (nI ((8 - 3) * 216 + F g)) 1512 := vp_in_nI (by omega) (by decide)
        have e8 : (nI ((8 - 3) * 216 + F g)).toNatClampNeg = (8 - 3) * 216 + F g := nI_clamp (by omega)
        have w7 := nq_VAe hV f2 (p := 7) (by omega) (by omega)
        have w8 := nq_VAe hV f2 (p := 8) (by omega) (by omega)
        rw [show c - g = c - (g + 1) + 1 by omega] at HH
        simp only [nq_gl] at HH
        simp only [wX_groupLike_17, z3, ig, cg, f1, nq_i7, nq_i8, nq_vp (show 3 ≤ 7 by omega), nq_vp (show 3 ≤ 8 by omega), j7, d7, j8, d8, k7, e7, k8, e8, v7, v8, w7, w8, nq_e_i, nI_1, forall_eq, not_true_eq_false, not_false_eq_true, true_implies, false_implies, implies_true, and_true, true_and, and_self]
        by_cases q7 : ka 7 (F g) = ka 7 i
        · by_cases q8 : ka 8 (F g) = ka 8 i
          · have qq : nq_eq ka (F g) i = true := by unfold nq_eq; rw [decide_eq_true q7, decide_eq_true q8]; rfl
            simp only [qq, if_true] at HH
            simp only [q7.symm, q8.symm, forall_eq, not_true_eq_false, not_false_eq_true, true_implies, false_implies, implies_true, and_true, true_and, and_self]
            exact HH
          · have q8' : ¬ ka 8 i = ka 8 (F g) := fun e => q8 e.symm
            have qq : nq_eq ka (F g) i = false := by unfold nq_eq; rw [decide_eq_false q8, Bool.and_false]
            simp only [qq, reduceCtorEq, if_false] at HH
            simp only [q7.symm, q8', forall_eq, not_true_eq_false, not_false_eq_true, true_implies, false_implies, implies_true, and_true, true_and, and_self]
            exact ih (g + 1) (by omega) (by omega) HH
        · have q7' : ¬ ka 7 i = ka 7 (F g) := fun e => q7 e.symm
          have qq : nq_eq ka (F g) i = false := by unfold nq_eq; rw [decide_eq_false q7, Bool.false_and]
          simp only [qq, reduceCtorEq, if_false] at HH
          simp only [q7', forall_eq, not_true_eq_false, not_false_eq_true, true_implies, false_implies, implies_true, and_true, true_and, and_self]
          exact ih (g + 1) (by omega) (by omega) HH
      · have : g = c := by omega
        subst this
        have z3 : nI g ≤ nI g := nI_le (Nat.le_refl _) (by omega)
        rw [Nat.sub_self] at HH
        simp only [wX_groupLike_17, z3, forall_eq, not_true_eq_false, not_false_eq_true, true_implies, false_implies, implies_true, and_true, true_and, and_self]
        exact HH
  simp only [wpX_groupLike, nq_i7, nq_i8, nq_vp (show 3 ≤ 7 by omega), nq_vp (show 3 ≤ 8 by omega)]
  exact ⟨_, key (c + 1) 0 (by omega) (by omega) (by rw [Nat.sub_zero]; exact H)⟩
/-- is there a group without members? -/
def nq_e0 (n su : Nat → Nat) (m : Nat) : Bool := decide (m = 0 ∧ nq_gr n su = true ∧ n 7 = 0 ∧ n 8 = 0)
def nq_gN (n su : Nat → Nat) (ka : Nat → Nat → nq_V) (m : Nat) : Nat := if nq_e0 n su m = true then 1 else (nq_gs (nq_gr n su) ka m).1
theorem nq_xForm {post : SX → Prop} {m m1 : Nat} (hT : nq_TT n t Tn Tk) (hW : nq_WF n t) (hS : nq_SU su Su) (hV : nq_VA ka m1 Va) (hm1 : m1 ≤ 216) (hm : m ≤ m1) (H : ∀ Go' Fm', (∀ g, g < nq_gN n su ka m → Fm' g = nI ((nq_gs (nq_gr n su) ka m).2.1 g)) → (∀ j, j < m → Go' j = nI ((nq_gs (nq_gr n su) ka m).2.2 j)) → post (sc, od, nc, tp, (nI m), (nI (nq_gN n su ka m)), ac, Ce, Rc, St, Jl, Tk, Tn, Su, Ne, Ha, Sk, Cb, Jd, Va, Go', Fm', An, Ov)) : wpX_formGroups post (sc, od, nc, tp, (nI m), gc, ac, Ce, Rc, St, Jl, Tk, Tn, Su, Ne, Ha, Sk, Cb, Jd, Va, Go, Fm, An, Ov) := by
  simp only [wpX_formGroups, nq_xGr hT hW hS]
  have key : ∀ f i, i ≤ m → m - i < f → ∀ Go Fm, (∀ g, g < (nq_gs (nq_gr n su) ka i).1 → Fm g = nI ((nq_gs (nq_gr n su) ka i).2.1 g)) → (∀ j, j < i → Go j = nI ((nq_gs (nq_gr n su) ka i).2.2 j)) → wX_formGroups_12 post (nq_b (nq_gr n su)) sc od nc tp (nI m) ac f (nI i) (nI (nq_gs (nq_gr n su) ka i).1) Ce Rc St Jl Tk Tn Su Ne Ha Sk Cb Jd Va Go Fm An Ov := by
    intro f
    induction f with
    | zero => intro i _ h; omega
    | succ f ih =>
      intro i hi hf Go Fm hF hG
      obtain ⟨b1, b2, b3⟩ := nq_gsI (gr := nq_gr n su) (ka := ka) i
      rcases Nat.lt_or_ge i m with z | z
      · have z3 : ¬ nI m ≤ nI i := nI_ge z (by omega)
        have ii : vp_in (nI i) 216 := vp_in_nI (by omega) (by decide)
        have ci : (nI i).toNatClampNeg = i := nI_clamp (by omega)
        have nxt : ∀ g0, g0 = (if nq_gr n su = true then nq_gl (fun g => nq_eq ka ((nq_gs (nq_gr n su) ka i).2.1 g) i) (nq_gs (nq_gr n su) ka i).1 (nq_gs (nq_gr n su) ka i).1 0 else (nq_gs (nq_gr n su) ka i).1) → g0 ≤ (nq_gs (nq_gr n su) ka i).1 → wX_formGroups_36 post (wX_formGroups_12 post (nq_b (nq_gr n su)) sc od nc tp (nI m) ac f) (nq_b (nq_gr n su)) (nI i) (nI g0) sc od nc tp (nI m) (nI (nq_gs (nq_gr n su) ka i).1) ac Ce Rc St Jl Tk Tn Su Ne Ha Sk Cb Jd Va Go Fm An Ov := by
          intro g0 eg lg
          have ig : vp_in (nI g0) 216 := vp_in_nI (by omega) (by decide)
          have cg : (nI g0).toNatClampNeg = g0 := nI_clamp (by omega)
          have nn := ih (i + 1) (by omega) (by omega)
          simp only [nq_gs] at nn
          rw [← eg] at nn
          by_cases e : g0 = (nq_gs (nq_gr n su) ka i).1
          · have e' : nI g0 = nI (nq_gs (nq_gr n su) ka i).1 := by rw [e]
            simp only [e, if_true] at nn
            simp only [wX_formGroups_36, e', ii, ci, nI_1, forall_eq, not_true_eq_false, not_false_eq_true, true_implies, false_implies, implies_true, and_true, true_and, and_self]
            rw [e] at ig cg
            simp only [ig, cg, forall_eq, not_true_eq_false, not_false_eq_true, true_implies, false_implies, implies_true, and_true, true_and, and_self]
            refine nn _ _ (fun g hg => ?_) (fun j hj => ?_)
            · unfold nq_un
              by_cases y : g = (nq_gs (nq_gr n su) ka i).1
              · rw [if_pos y, y, pk_us]
              · rw [if_neg y, pk_un y]
                exact hF g (by omega)
            · unfold nq_un
              by_cases y : j = i
              · rw [if_pos y, y, pk_us]
              · rw [if_neg y, pk_un y]
                exact hG j (by omega)
          · have e' : ¬ nI g0 = nI (nq_gs (nq_gr n su) ka i).1 := fun y => e ((nI_eq (by omega) (by omega)).mp y)
            simp only [e, if_false] at nn
            simp only [wX_formGroups_36, e', ii, ci, nI_1, forall_eq, not_true_eq_false, not_false_eq_true, true_implies, false_implies, implies_true, and_true, true_and, and_self]
            refine nn _ _ hF (fun j hj => ?_)
            unfold nq_un
            by_cases y : j = i
            · rw [if_pos y, y, pk_us]
            · rw [if_neg y, pk_un y]
              exact hG j (by omega)
        rcases Bool.eq_false_or_eq_true (nq_gr n su) with hg | hg
        · simp only [wX_formGroups_12, z3, nq_b0, forall_eq, not_true_eq_false, not_false_eq_true, true_implies, false_implies, implies_true, and_true, true_and, and_self]
          refine br_f (by rw [hg]; decide) ?_
          refine nq_xGL (c := (nq_gs (nq_gr n su) ka i).1) hV hm1 (by omega) (by omega) (fun g hg => ⟨hF g hg, by have := b2 g hg; omega⟩) ?_
          exact nxt _ (by rw [if_pos hg]) (nq_gl_l _ 0 (by omega)).2
        · simp only [wX_formGroups_12, z3, nq_b0, forall_eq, not_true_eq_false, not_false_eq_true, true_implies, false_implies, implies_true, and_true, true_and, and_self]
          refine br_t hg ?_
          exact nxt _ (by rw [if_neg (by rw [hg]; decide)]) (Nat.le_refl _)
      · have : i = m := by omega
        subst this
        have z3 : nI i ≤ nI i := nI_le (Nat.le_refl _) (by omega)
        simp only [wX_formGroups_12, z3, nq_b0, nq_xHasKey hT hW, show (nI (i) < (0 : Int32)) = ((i) < 0) from propext (nI_ltI (b := 0) (by omega) (by decide)), show ((0 : Int32) < nI (i)) = (0 < (i)) from propext (nI_ltI (a := 0) (by decide) (by omega)), show (nI (i) ≤ (0 : Int32)) = ((i) ≤ 0) from propext (nI_leI (b := 0) (by omega) (by decide)), show ((0 : Int32) ≤ nI (i)) = (0 ≤ (i)) from propext (nI_leI (a := 0) (by decide) (by omega)), show (nI (i) = (0 : Int32)) = ((i) = 0) from propext (nI_eq (b := 0) (by omega) (by decide)), decide_eq_false_iff_not, forall_eq, not_true_eq_false, not_false_eq_true, true_implies, false_implies, implies_true, and_true, true_and, and_self]
        unfold nq_gN at H
        have fin : nq_e0 n su i = false → post (sc, od, nc, tp, (nI i), (nI (nq_gs (nq_gr n su) ka i).1), ac, Ce, Rc, St, Jl, Tk, Tn, Su, Ne, Ha, Sk, Cb, Jd, Va, Go, Fm, An, Ov) := by
          intro e
          rw [e] at H
          exact H Go Fm hF hG
        have nn : ∀ {P : Prop}, ¬ P → (m1 = m1 ∧ ¬ P) := fun h => ⟨rfl, h⟩
        refine ⟨fun y => ⟨fun hg => ?_, fun hg => ⟨fun hk => ?_, fun hk => ?_⟩⟩, fun y => ?_⟩
        · exact fin (by unfold nq_e0; rw [decide_eq_false_iff_not, hg]; exact fun a => absurd a.2.1 (by decide))
        · have ee : nq_e0 n su i = true := by
            unfold nq_e0
            rw [decide_eq_true_eq]
            refine ⟨y, ?_, by omega, by omega⟩
            rcases Bool.eq_false_or_eq_true (nq_gr n su) with q | q
            · exact q
            · exact absurd q hg
          rw [ee] at H
          refine H Go (upd Fm 0 0) (fun g hgg => ?_) hG
          have : g = 0 := by
            rw [if_pos rfl] at hgg
            omega
          subst this
          rw [pk_us]
          rw [y]
          rfl
        · exact fin (by unfold nq_e0; rw [decide_eq_false_iff_not]; omega)
        · exact fin (by unfold nq_e0; rw [decide_eq_false_iff_not]; omega)
  exact ⟨_, key (m + 1) 0 (by omega) (by omega) Go Fm (fun g hg => absurd hg (Nat.not_lt_zero _)) (fun j hj => absurd hj (Nat.not_lt_zero _))⟩
theorem nq_yForm {post : SY → Prop} {C : List (Nat → Option Nat)} (E : nq_YE cv rw tb n t yRo yTo ySz yTk yIn yEn) (hS : nq_SU su ySu) (hC : nq_CA nq_ey yCo C) (hCo : nq_Cok C) (hCl : C.length ≤ 216) (hka : ka = nq_ka (nq_val cv rw tb n t) (nq_c1 C)) (H : ∀ yHa' sbt' sbr' ySk' yGo' yFi', (∀ g, g < nq_gN n su ka C.length → yFi' g = if C.length = 0 then -1 else nI ((nq_gs (nq_gr n su) ka C.length).2.1 g)) → (∀ j, j < C.length → yGo' j = nI ((nq_gs (nq_gr n su) ka C.length).2.2 j)) → post (src, dis, opn, sbt', sbr', 0, (nI C.length), mor, (nI (nq_gN n su ka C.length)), fnd, kpt, yRo, (fun j => nq_k (cv j)), yTo, yIl, ySz, yTk, yIn, yEn, ySu, yWc, yWi, yHa', ySk', yCo, yLo, yGo', yFi', yRe, ySo, yAn)) : wpY_group post (src, dis, opn, sbt, sbr, 0, (nI C.length), mor, grs, fnd, kpt, yRo, (fun j => nq_k (cv j)), yTo, yIl, ySz, yTk, yIn, yEn, ySu, yWc, yWi, yHa, ySk, yCo, yLo, yGo, yFi, yRe, ySo, yAn) := by
  have hT := E.1
  have hW := E.2.1
  simp only [wpY_group, nq_yGr hT hW hS]
  have kav : ∀ i, i < C.length → ∀ p, ∃ g, C[i]? = some g ∧ nq_val cv rw tb n t p g = ka p i := by
    intro i hi p
    have hg : C[i]? = some C[i] := List.getElem?_eq_getElem hi
    refine ⟨C[i], hg, ?_⟩
    have hc1 : nq_c1 C = C := if_neg (by omega)
    rw [hka, hc1, nq_ka_i hg]
  have yv : ∀ (post : Int64 → SY → Prop) i p, i < C.length → 4 ≤ p → p < 10 → ∀ yHa sbt sbr ySk grs yGo yFi, (∀ yHa' sbt' sbr' ySk', post (nq_f (ka p i)) (src, dis, opn, sbt', sbr', 0, (nI C.length), mor, grs, fnd, kpt, yRo, (fun j => nq_k (cv j)), yTo, yIl, ySz, yTk, yIn, yEn, ySu, yWc, yWi, yHa', ySk', yCo, yLo, yGo, yFi, yRe, ySo, yAn)) → wpY_valueFor post (src, dis, opn, sbt, sbr, 0, (nI C.length), mor, grs, fnd, kpt, yRo, (fun j => nq_k (cv j)), yTo, yIl, ySz, yTk, yIn, yEn, ySu, yWc, yWi, yHa, ySk, yCo, yLo, yGo, yFi, yRe, ySo, yAn) (nI p) (nI i) := by
    intro post i p hi hp1 hp2 yHa sbt sbr ySk grs yGo yFi HH
    obtain ⟨g, a1, a2⟩ := kav i hi p
    refine nq_yVal E hp1 hp2 hC hCo a1 (by omega) ?_
    rw [a2]
    exact HH
  have key : ∀ f i, i ≤ C.length → C.length - i < f → ∀ yHa sbt sbr ySk yGo yFi, (∀ g, g < (nq_gs (nq_gr n su) ka i).1 → yFi g = nI ((nq_gs (nq_gr n su) ka i).2.1 g)) → (∀ j, j < i → yGo j = nI ((nq_gs (nq_gr n su) ka i).2.2 j)) → wY_group_12 post (nq_b (nq_gr n su)) f (nI i) src dis opn sbt sbr 0 (nI C.length) mor (nI (nq_gs (nq_gr n su) ka i).1) fnd kpt yRo (fun j => nq_k (cv j)) yTo yIl ySz yTk yIn yEn ySu yWc yWi yHa ySk yCo yLo yGo yFi yRe ySo yAn := by
    intro f
    induction f with
    | zero => intro i _ h; omega
    | succ f ih =>
      intro i hi hf yHa sbt sbr ySk yGo yFi hF hG
      obtain ⟨b1, b2, b3⟩ := nq_gsI (gr := nq_gr n su) (ka := ka) i
      rcases Nat.lt_or_ge i C.length with z | z
      · have z3 : ¬ nI C.length ≤ nI i := nI_ge z (by omega)
        have ii : vp_in (nI i) 216 := vp_in_nI (by omega) (by decide)
        have ci : (nI i).toNatClampNeg = i := nI_clamp (by omega)
        have nxt : ∀ g0, g0 = (if nq_gr n su = true then nq_gl (fun g => nq_eq ka ((nq_gs (nq_gr n su) ka i).2.1 g) i) (nq_gs (nq_gr n su) ka i).1 (nq_gs (nq_gr n su) ka i).1 0 else (nq_gs (nq_gr n su) ka i).1) → g0 ≤ (nq_gs (nq_gr n su) ka i).1 → ∀ yHa sbt sbr ySk, wY_group_93 post (wY_group_12 post (nq_b (nq_gr n su)) f) (nq_b (nq_gr n su)) (nI i) (nI g0) src dis opn sbt sbr 0 (nI C.length) mor (nI (nq_gs (nq_gr n su) ka i).1) fnd kpt yRo (fun j => nq_k (cv j)) yTo yIl ySz yTk yIn yEn ySu yWc yWi yHa ySk yCo yLo yGo yFi yRe ySo yAn := by
          intro g0 eg lg yHa sbt sbr ySk
          have ig : vp_in (nI g0) 216 := vp_in_nI (by omega) (by decide)
          have cg : (nI g0).toNatClampNeg = g0 := nI_clamp (by omega)
          have nn := ih (i + 1) (by omega) (by omega) yHa sbt sbr ySk
          simp only [nq_gs] at nn
          rw [← eg] at nn
          by_cases e : g0 = (nq_gs (nq_gr n su) ka i).1
          · have e' : nI g0 = nI (nq_gs (nq_gr n su) ka i).1 := by rw [e]
            simp only [e, if_true] at nn
            simp only [wY_group_93, e', ii, ci, nI_1, forall_eq, not_true_eq_false, not_false_eq_true, true_implies, false_implies, implies_true, and_true, true_and, and_self]
            rw [e] at ig cg
            simp only [ig, cg, forall_eq, not_true_eq_false, not_false_eq_true, true_implies, false_implies, implies_true, and_true, true_and, and_self]
            refine nn _ _ (fun g hg => ?_) (fun j hj => ?_)
            · unfold nq_un
              by_cases y : g = (nq_gs (nq_gr n su) ka i).1
              · rw [if_pos y, y, pk_us]
              · rw [if_neg y, pk_un y]
                exact hF g (by omega)
            · unfold nq_un
              by_cases y : j = i
              · rw [if_pos y, y, pk_us]
              · rw [if_neg y, pk_un y]
                exact hG j (by omega)
          · have e' : ¬ nI g0 = nI (nq_gs (nq_gr n su) ka i).1 := fun y => e ((nI_eq (by omega) (by omega)).mp y)
            simp only [e, if_false] at nn
            simp only [wY_group_93, e', ii, ci, nI_1, forall_eq, not_true_eq_false, not_false_eq_true, true_implies, false_implies, implies_true, and_true, true_and, and_self]
            refine nn _ _ hF (fun j hj => ?_)
            unfold nq_un
            by_cases y : j = i
            · rw [if_pos y, y, pk_us]
            · rw [if_neg y, pk_un y]
              exact hG j (by omega)
        rcases Bool.eq_false_or_eq_true (nq_gr n su) with hg | hg
        · simp only [wY_group_12, z3, nq_b0, forall_eq, not_true_eq_false, not_false_eq_true, true_implies, false_implies, implies_true, and_true, true_and, and_self]
          refine br_f (by rw [hg]; decide) ?_
          have key2 : ∀ f2 g, g ≤ (nq_gs (nq_gr n su) ka i).1 → (nq_gs (nq_gr n su) ka i).1 - g < f2 → nq_gl (fun g => nq_eq ka ((nq_gs (nq_gr n su) ka i).2.1 g) i) (nq_gs (nq_gr n su) ka i).1 (nq_gs (nq_gr n su) ka i).1 0 = nq_gl (fun g => nq_eq ka ((nq_gs (nq_gr n su) ka i).2.1 g) i) (nq_gs (nq_gr n su) ka i).1 ((nq_gs (nq_gr n su) ka i).1 - g) g → ∀ yHa sbt sbr ySk, wY_group_33 post (wY_group_12 post (nq_b (nq_gr n su)) f) (nq_b (nq_gr n su)) (nI i) f2 (nI g) src dis opn sbt sbr 0 (nI C.length) mor (nI (nq_gs (nq_gr n su) ka i).1) fnd kpt yRo (fun j => nq_k (cv j)) yTo yIl ySz yTk yIn yEn ySu yWc yWi yHa ySk yCo yLo yGo yFi yRe ySo yAn := by
            intro f2
            induction f2 with
            | zero => intro g _ h; omega
            | succ f2 ih2 =>
              intro g hg1 hf2 hgl yHa sbt sbr ySk
              rcases Nat.lt_or_ge g (nq_gs (nq_gr n su) ka i).1 with y | y
              · have y3 : ¬ nI (nq_gs (nq_gr n su) ka i).1 ≤ nI g := nI_ge y (by omega)
                have ig : vp_in (nI g) 216 := vp_in_nI (by omega) (by decide)
                have cg : (nI g).toNatClampNeg = g := nI_clamp (by omega)
                have f1 := hF g y
                have f2' := b2 g y
                rw [show (nq_gs (nq_gr n su) ka i).1 - g = (nq_gs (nq_gr n su) ka i).1 - (g + 1) + 1 by omega] at hgl
                simp only [nq_gl] at hgl
                simp only [wY_group_33, y3, ig, cg, f1, nI_1, forall_eq, not_true_eq_false, not_false_eq_true, true_implies, false_implies, implies_true, and_true, true_and, and_self]
                refine yv _ _ 7 (by omega) (by omega) (by omega) _ _ _ _ _ _ _ fun yHa1 sbt1 sbr1 ySk1 => ?_
                refine yv _ _ 7 (by omega) (by omega) (by omega) _ _ _ _ _ _ _ fun yHa2 sbt2 sbr2 ySk2 => ?_
                simp only [nq_f_i, f1]
                by_cases q7 : ka 7 ((nq_gs (nq_gr n su) ka i).2.1 g) = ka 7 i
                · refine br_t q7 ?_
                  refine yv _ _ 8 (by omega) (by omega) (by omega) _ _ _ _ _ _ _ fun yHa3 sbt3 sbr3 ySk3 => ?_
                  refine yv _ _ 8 (by omega) (by omega) (by omega) _ _ _ _ _ _ _ fun yHa4 sbt4 sbr4 ySk4 => ?_
                  simp only [nq_f_i]
                  by_cases q8 : ka 8 ((nq_gs (nq_gr n su) ka i).2.1 g) = ka 8 i
                  · have qq : nq_eq ka ((nq_gs (nq_gr n su) ka i).2.1 g) i = true := by unfold nq_eq; rw [decide_eq_true q7, decide_eq_true q8]; rfl
                    simp only [qq, if_true] at hgl
                    refine br_t q8 ?_
                    exact nxt g (by rw [if_pos hg, hgl]) (by omega) _ _ _ _
                  · have qq : nq_eq ka ((nq_gs (nq_gr n su) ka i).2.1 g) i = false := by unfold nq_eq; rw [decide_eq_false q8, Bool.and_false]
                    simp only [qq, reduceCtorEq, if_false] at hgl
                    refine br_f q8 ?_
                    exact ih2 (g + 1) (by omega) (by omega) hgl _ _ _ _
                · have qq : nq_eq ka ((nq_gs (nq_gr n su) ka i).2.1 g) i = false := by unfold nq_eq; rw [decide_eq_false q7, Bool.false_and]
                  simp only [qq, reduceCtorEq, if_false] at hgl
                  refine br_f q7 ?_
                  exact ih2 (g + 1) (by omega) (by omega) hgl _ _ _ _
              · have : g = (nq_gs (nq_gr n su) ka i).1 := by omega
                have y3 : nI (nq_gs (nq_gr n su) ka i).1 ≤ nI g := by rw [this]; exact nI_le (Nat.le_refl _) (by omega)
                rw [this, Nat.sub_self] at hgl
                simp only [nq_gl] at hgl
                simp only [wY_group_33, y3, forall_eq, not_true_eq_false, not_false_eq_true, true_implies, false_implies, implies_true, and_true, true_and, and_self]
                exact nxt g (by rw [if_pos hg, hgl, this]) (by omega) _ _ _ _
          exact ⟨_, key2 ((nq_gs (nq_gr n su) ka i).1 + 1) 0 (by omega) (by omega) (by rw [Nat.sub_zero]) yHa sbt sbr ySk⟩
        · simp only [wY_group_12, z3, nq_b0, forall_eq, not_true_eq_false, not_false_eq_true, true_implies, false_implies, implies_true, and_true, true_and, and_self]
          refine br_t hg ⟨1, ?_⟩
          have y3 : nI (nq_gs (nq_gr n su) ka i).1 ≤ nI (nq_gs (nq_gr n su) ka i).1 := nI_le (Nat.le_refl _) (by omega)
          simp only [wY_group_33, y3, forall_eq, not_true_eq_false, not_false_eq_true, true_implies, false_implies, implies_true, and_true, true_and, and_self]
          exact nxt _ (by rw [if_neg (by rw [hg]; decide)]) (Nat.le_refl _) _ _ _ _
      · have : i = C.length := by omega
        subst this
        have z3 : nI C.length ≤ nI C.length := nI_le (Nat.le_refl _) (by omega)
        have h7 := (hT 7 (by omega)).1
        have h8 := (hT 8 (by omega)).1
        have l7 := (hW 7 (by omega)).1
        have l8 := (hW 8 (by omega)).1
        simp only [wY_group_12, z3, nq_b0, h7, h8, show (nI (C.length) < (0 : Int32)) = ((C.length) < 0) from propext (nI_ltI (b := 0) (by omega) (by decide)), show ((0 : Int32) < nI (C.length)) = (0 < (C.length)) from propext (nI_ltI (a := 0) (by decide) (by omega)), show (nI (C.length) ≤ (0 : Int32)) = ((C.length) ≤ 0) from propext (nI_leI (b := 0) (by omega) (by decide)), show ((0 : Int32) ≤ nI (C.length)) = (0 ≤ (C.length)) from propext (nI_leI (a := 0) (by decide) (by omega)), show (nI (C.length) = (0 : Int32)) = ((C.length) = 0) from propext (nI_eq (b := 0) (by omega) (by decide)), show (nI (n 7) < (0 : Int32)) = ((n 7) < 0) from propext (nI_ltI (b := 0) (by omega) (by decide)), show ((0 : Int32) < nI (n 7)) = (0 < (n 7)) from propext (nI_ltI (a := 0) (by decide) (by omega)), show (nI (n 7) ≤ (0 : Int32)) = ((n 7) ≤ 0) from propext (nI_leI (b := 0) (by omega) (by decide)), show ((0 : Int32) ≤ nI (n 7)) = (0 ≤ (n 7)) from propext (nI_leI (a := 0) (by decide) (by omega)), show (nI (n 7) = (0 : Int32)) = ((n 7) = 0) from propext (nI_eq (b := 0) (by omega) (by decide)), show (nI (n 8) < (0 : Int32)) = ((n 8) < 0) from propext (nI_ltI (b := 0) (by omega) (by decide)), show ((0 : Int32) < nI (n 8)) = (0 < (n 8)) from propext (nI_ltI (a := 0) (by decide) (by omega)), show (nI (n 8) ≤ (0 : Int32)) = ((n 8) ≤ 0) from propext (nI_leI (b := 0) (by omega) (by decide)), show ((0 : Int32) ≤ nI (n 8)) = (0 ≤ (n 8)) from propext (nI_leI (a := 0) (by decide) (by omega)), show (nI (n 8) = (0 : Int32)) = ((n 8) = 0) from propext (nI_eq (b := 0) (by omega) (by decide)), forall_eq, not_true_eq_false, not_false_eq_true, true_implies, false_implies, implies_true, and_true, true_and, and_self]
        unfold nq_gN at H
        have fin : nq_e0 n su C.length = false → post (src, dis, opn, sbt, sbr, 0, (nI C.length), mor, (nI (nq_gs (nq_gr n su) ka C.length).1), fnd, kpt, yRo, (fun j => nq_k (cv j)), yTo, yIl, ySz, yTk, yIn, yEn, ySu, yWc, yWi, yHa, ySk, yCo, yLo, yGo, yFi, yRe, ySo, yAn) := by
          intro e
          rw [e] at H
          refine H yHa sbt sbr ySk yGo yFi (fun g hg => ?_) hG
          have hg' : g < (nq_gs (nq_gr n su) ka C.length).1 := hg
          rw [if_neg (by omega)]
          exact hF g hg'
        refine ⟨fun hg => ?_, fun hg => ⟨fun y => ⟨fun k7 => ⟨fun k8 => ?_, fun k8 => ?_⟩, fun k7 => ?_⟩, fun y => ?_⟩⟩
        · exact fin (by unfold nq_e0; rw [decide_eq_false_iff_not, hg]; exact fun a => absurd a.2.1 (by decide))
        · have ee : nq_e0 n su C.length = true := by
            unfold nq_e0
            rw [decide_eq_true_eq]
            refine ⟨y, ?_, k7, k8⟩
            rcases Bool.eq_false_or_eq_true (nq_gr n su) with q | q
            · exact q
            · exact absurd q hg
          rw [ee] at H
          refine H yHa sbt sbr ySk yGo (upd yFi 0 (-1)) (fun g hgg => ?_) hG
          have : g = 0 := by
            rw [if_pos rfl] at hgg
            omega
          subst this
          rw [pk_us, if_pos y]
        · exact fin (by unfold nq_e0; rw [decide_eq_false_iff_not]; omega)
        · exact fin (by unfold nq_e0; rw [decide_eq_false_iff_not]; omega)
        · exact fin (by unfold nq_e0; rw [decide_eq_false_iff_not]; omega)
  exact ⟨_, key (C.length + 1) 0 (by omega) (by omega) yHa sbt sbr ySk yGo yFi (fun g hg => absurd hg (Nat.not_lt_zero _)) (fun j hj => absurd hj (Nat.not_lt_zero _))⟩
end
