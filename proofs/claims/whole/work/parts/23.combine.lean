section
variable {sc od nc tp cc gc ac : Int32} {Ce Sk Va An Ov : Nat → Int64} {Rc St Jl Tk Tn Su Ne Ha Cb Jd Go Fm : Nat → Int32}
variable {src dis opn sbt sbr dep mny mor grs fnd kpt : Int32} {ySk yRe ySo yAn : Nat → Int64} {yRo yCe yTo yIl ySz yTk yIn yEn ySu yWc yWi yHa yCo yLo yGo yFi : Nat → Int32}
variable {n t : Nat → Nat} {p : Nat} {cv : Nat → nq_V} {h hv : Nat → Option Nat} {rw tb : Nat → Nat} {vf : Nat → (Nat → Option Nat) → nq_V} {lf : Nat → Bool}
/-- the combinations of the first sources -/
def nq_okf (vf : Nat → (Nat → Option Nat) → nq_V) (s : Nat) (h : Nat → Option Nat) : Bool := if s = 0 then true else nq_T (vf s h)
def nq_lff (lf : Nat → Bool) (s : Nat) : Bool := if s = 0 then false else lf s
def nq_cmb (vf : Nat → (Nat → Option Nat) → nq_V) (lf : Nat → Bool) (rw tb : Nat → Nat) : Nat → List (Nat → Option Nat)
  | 0 => [fun _ => none]
  | s + 1 => nq_jn (nq_okf vf s) s (nq_lff lf s) (rw (tb s)) (nq_cmb vf lf rw tb s)
def nq_cwh (vf : Nat → (Nat → Option Nat) → nq_V) (lf : Nat → Bool) (rw tb : Nat → Nat) (s : Nat) : List (Nat → Option Nat) := (nq_cmb vf lf rw tb s).filter (fun h => nq_T (vf 0 h))
theorem nq_cmb_ok (hR : ∀ s, s < 3 → rw (tb s) ≤ 6) : ∀ s, s ≤ 3 → nq_Cok (nq_cmb vf lf rw tb s) ∧ (nq_cmb vf lf rw tb s).length ≤ 6 ^ s ∧ ∀ g, g ∈ nq_cmb vf lf rw tb s → ∀ s', s ≤ s' → g s' = none := by
  intro s
  induction s with
  | zero =>
    intro _
    refine ⟨fun g hg => ?_, Nat.le_refl _, fun g hg s' _ => ?_⟩
    · rw [List.mem_singleton.mp hg]
      intro s _ r hr
      cases hr
    · rw [List.mem_singleton.mp hg]
  | succ s ih =>
    intro hs
    obtain ⟨a, b, c⟩ := ih (by omega)
    refine ⟨nq_jn_ok (hR s (by omega)) a, ?_, fun g hg s' hs' => ?_⟩
    · have := nq_jn_l (ok := nq_okf vf s) (s := s) (left := nq_lff lf s) (hR s (by omega)) (nq_cmb vf lf rw tb s)
      simp only [nq_cmb]
      rw [Nat.pow_succ]
      omega
    · simp only [nq_cmb, nq_jn] at hg
      rw [List.mem_flatMap] at hg
      obtain ⟨h, h1, h2⟩ := hg
      have hn := c h h1 s' (by omega)
      have hj : ∀ r g, g ∈ nq_jr (nq_okf vf s) s h r → g s' = none := by
        intro r
        induction r with
        | zero => intro g hg; cases hg
        | succ r ihr =>
          intro g hg
          simp only [nq_jr] at hg
          rcases List.mem_append.mp hg with z | z
          · exact ihr g z
          · split at z
            · rw [List.mem_singleton.mp z]
              unfold nq_hs
              rw [if_neg (by omega)]
              exact hn
            · cases z
      unfold nq_jo at h2
      split at h2
      · rw [List.mem_singleton.mp h2]
        unfold nq_hs
        rw [if_neg (by omega)]
        exact hn
      · exact hj _ g h2
theorem nq_cmb_216 (hR : ∀ s, s < 3 → rw (tb s) ≤ 6) {s : Nat} (hs : s ≤ 3) : (nq_cmb vf lf rw tb s).length ≤ 216 := by
  have h1 := (nq_cmb_ok (vf := vf) (lf := lf) hR s hs).2.1
  have h2 : 6 ^ s ≤ 6 ^ 3 := Nat.pow_le_pow_right (by decide) hs
  omega
theorem nq_cmb_36 (hR : ∀ s, s < 3 → rw (tb s) ≤ 6) {s : Nat} (hs : s ≤ 2) : (nq_cmb vf lf rw tb s).length ≤ 36 := by
  have h1 := (nq_cmb_ok (vf := vf) (lf := lf) hR s (by omega)).2.1
  have h2 : 6 ^ s ≤ 6 ^ 2 := Nat.pow_le_pow_right (by decide) hs
  omega
theorem nq_xKeepW {post : SX → Prop} {C : List (Nat → Option Nat)} (hT : nq_TT n t Tn Tk) (hW : nq_WF n t) (hF : nq_Full n t) (hRw : nq_RW rw Rc) (hTb : nq_TB tb St) (hC : nq_CA (nq_ex tb) Cb C) (hCo : nq_Cok C) (hCl : C.length ≤ 216) (h3 : Ha 3 = -1)
    (H : ∀ tp' Ha' Sk' Cb', Ha' 3 = -1 → nq_CA (nq_ex tb) Cb' (C.filter (fun h => nq_T (nq_val cv rw tb n t 0 h))) → post (sc, od, nc, tp', (nI (C.filter (fun h => nq_T (nq_val cv rw tb n t 0 h))).length), gc, ac, (fun j => nq_e (cv j)), Rc, St, Jl, Tk, Tn, Su, Ne, Ha', Sk', Cb', Jd, Va, Go, Fm, An, Ov)) : wpX_keepWhere post (sc, od, nc, tp, (nI C.length), gc, ac, (fun j => nq_e (cv j)), Rc, St, Jl, Tk, Tn, Su, Ne, Ha, Sk, Cb, Jd, Va, Go, Fm, An, Ov) := by
  simp only [wpX_keepWhere]
  have key : ∀ f i, i ≤ C.length → C.length - i < f → ∀ tp Ha Sk Cb, Ha 3 = -1 → nq_CA (nq_ex tb) Cb ((C.take i).filter (fun h => nq_T (nq_val cv rw tb n t 0 h))) → (∀ i' g, i ≤ i' → C[i']? = some g → ∀ s, s < 3 → Cb (3 * i' + s) = nq_ex tb g s) → wX_keepWhere_4 post f (nI ((C.take i).filter (fun h => nq_T (nq_val cv rw tb n t 0 h))).length) (nI i) sc od nc tp (nI C.length) gc ac (fun j => nq_e (cv j)) Rc St Jl Tk Tn Su Ne Ha Sk Cb Jd Va Go Fm An Ov := by
    intro f
    induction f with
    | zero => intro i _ h; omega
    | succ f ih =>
      intro i hi hf tp Ha Sk Cb h3 hJ hB
      have l1 : ((C.take i).filter (fun h => nq_T (nq_val cv rw tb n t 0 h))).length ≤ i := by
        have a := List.length_filter_le (fun h => nq_T (nq_val cv rw tb n t 0 h)) (C.take i)
        rw [List.length_take] at a
        omega
      rcases Nat.lt_or_ge i C.length with z | z
      · have z3 : ¬ nI C.length ≤ nI i := nI_ge z (by omega)
        simp only [wX_keepWhere_4, z3, forall_eq, not_true_eq_false, not_false_eq_true, true_implies, false_implies, implies_true, and_true, true_and, and_self]
        have hg : C[i]? = some C[i] := List.getElem?_eq_getElem z
        have et : C.take (i + 1) = C.take i ++ [C[i]] := by rw [List.take_succ, hg]; rfl
        refine nq_xTake (by omega) fun Ha' g1 g2 => ?_
        have hA' : ∀ s', s' < 3 → Ha' s' = nq_ex tb C[i] s' := fun s' hs' => (g1 s' hs').trans (hB i _ (Nat.le_refl _) hg s' hs')
        have h3' : Ha' 3 = -1 := (g2 3 (by omega)).trans h3
        refine nq_xEv (p := 0) hT hW hF hRw hTb (by decide) (hCo _ (List.getElem_mem z)) hA' h3' fun tp' Sk' => ?_
        simp only [show 0 ≤ 3 from by decide, if_true, nq_x, show (1 % 2 = 1) from rfl, nq_cT]
        rcases Bool.eq_false_or_eq_true (nq_T (nq_val cv rw tb n t 0 C[i])) with hk | hk
        · simp only [hk, forall_eq, not_true_eq_false, not_false_eq_true, true_implies, false_implies, implies_true, and_true, true_and, and_self]
          have en : (C.take (i + 1)).filter (fun h => nq_T (nq_val cv rw tb n t 0 h)) = (C.take i).filter (fun h => nq_T (nq_val cv rw tb n t 0 h)) ++ [C[i]] := by
            rw [et, List.filter_append, List.filter_cons_of_pos (p := fun h => nq_T (nq_val cv rw tb n t 0 h)) hk, List.filter_nil]
          refine ⟨4, nq_x31 (by omega) (fun Cb' a1 a2 => ?_) 4 0 Cb (by omega) (by omega) (fun s hs => by omega) (fun j _ => rfl)⟩
          have := ih (i + 1) (by omega) (by omega) tp' Ha' Sk' Cb' h3' (by
            rw [en]
            exact nq_CA_a hJ (fun s' hs' => (a1 s' hs').trans (hA' s' hs')) (fun j hj => a2 j (Or.inl hj))) (fun i' g b1 b2 s hs => by
            rw [a2 _ (Or.inr (by omega))]
            exact hB i' g (by omega) b2 s hs)
          rw [en, List.length_append, List.length_singleton, ← nI_1 i] at this
          exact this
        · simp only [hk, reduceCtorEq, nI_1, forall_eq, not_true_eq_false, not_false_eq_true, true_implies, false_implies, implies_true, and_true, true_and, and_self]
          have en : (C.take (i + 1)).filter (fun h => nq_T (nq_val cv rw tb n t 0 h)) = (C.take i).filter (fun h => nq_T (nq_val cv rw tb n t 0 h)) := by
            rw [et, List.filter_append, List.filter_cons_of_neg (by rw [hk]; decide), List.filter_nil, List.append_nil]
          have := ih (i + 1) (by omega) (by omega) tp' Ha' Sk' Cb h3' (by
            rw [en]
            exact hJ) (fun i' g b1 b2 s hs => hB i' g (by omega) b2 s hs)
          rw [en] at this
          exact this
      · have : i = C.length := by omega
        subst this
        have z3 : nI C.length ≤ nI C.length := nI_le (Nat.le_refl _) (by omega)
        rw [List.take_length] at hJ ⊢
        simp only [wX_keepWhere_4, z3, forall_eq, not_true_eq_false, not_false_eq_true, true_implies, false_implies, implies_true, and_true, true_and, and_self]
        exact H _ _ _ _ h3 hJ
  exact ⟨_, key (C.length + 1) 0 (by omega) (by omega) tp Ha Sk Cb h3 (fun i g hg => by cases hg) (fun i' g _ hg s hs => hC i' g hg s hs)⟩
theorem nq_y85 {post : SY → Prop} {C : List (Nat → Option Nat)} (E : nq_YE cv rw tb n t yRo yTo ySz yTk yIn yEn) (hC : nq_CA nq_ey yCo C) (hCo : nq_Cok C) (hCl : C.length ≤ 216)
    (H : ∀ yHa' sbt' sbr' ySk' yLo' yCo', nq_CA nq_ey yCo' (C.filter (fun h => nq_T (nq_val cv rw tb n t 0 h))) → post (src, dis, opn, sbt', sbr', 0, (nI (C.filter (fun h => nq_T (nq_val cv rw tb n t 0 h))).length), (nI (C.filter (fun h => nq_T (nq_val cv rw tb n t 0 h))).length), grs, fnd, kpt, yRo, (fun j => nq_k (cv j)), yTo, yIl, ySz, yTk, yIn, yEn, ySu, yWc, yWi, yHa', ySk', yCo', yLo', yGo, yFi, yRe, ySo, yAn)) :
    ∀ f i, i ≤ C.length → C.length - i < f → ∀ yHa sbt sbr ySk yLo, nq_CA nq_ey yLo ((C.take i).filter (fun h => nq_T (nq_val cv rw tb n t 0 h))) → wY_combine_85 post f (nI i) src dis opn sbt sbr 0 (nI C.length) (nI ((C.take i).filter (fun h => nq_T (nq_val cv rw tb n t 0 h))).length) grs fnd kpt yRo (fun j => nq_k (cv j)) yTo yIl ySz yTk yIn yEn ySu yWc yWi yHa ySk yCo yLo yGo yFi yRe ySo yAn := by
  intro f
  induction f with
  | zero => intro i _ h; omega
  | succ f ih =>
    intro i hi hf yHa sbt sbr ySk yLo hJ
    have l1 : ((C.take i).filter (fun h => nq_T (nq_val cv rw tb n t 0 h))).length ≤ i := by
      have a := List.length_filter_le (fun h => nq_T (nq_val cv rw tb n t 0 h)) (C.take i)
      rw [List.length_take] at a
      omega
    rcases Nat.lt_or_ge i C.length with z | z
    · have z3 : ¬ nI C.length ≤ nI i := nI_ge z (by omega)
      simp only [wY_combine_85, z3, nI_1, forall_eq, not_true_eq_false, not_false_eq_true, true_implies, false_implies, implies_true, and_true, true_and, and_self]
      have hg : C[i]? = some C[i] := List.getElem?_eq_getElem z
      have et : C.take (i + 1) = C.take i ++ [C[i]] := by rw [List.take_succ, hg]; rfl
      refine nq_yTake (by omega) fun yHa' g1 => ?_
      have hA' : ∀ s', s' < 3 → yHa' s' = nq_ey C[i] s' := fun s' hs' => (g1 s' hs').trans (hC i _ hg s' hs')
      refine nq_yTrue (p := 0) E (by decide) (hCo _ (List.getElem_mem z)) hA' fun sbt' sbr' ySk' => ?_
      rcases Bool.eq_false_or_eq_true (nq_T (nq_val cv rw tb n t 0 C[i])) with hk | hk
      · simp only [hk, nq_bt, show ¬ (1 : Int32) = 0 from by decide, forall_eq, not_true_eq_false, not_false_eq_true, true_implies, false_implies, implies_true, and_true, true_and, and_self]
        have en : (C.take (i + 1)).filter (fun h => nq_T (nq_val cv rw tb n t 0 h)) = (C.take i).filter (fun h => nq_T (nq_val cv rw tb n t 0 h)) ++ [C[i]] := by
          rw [et, List.filter_append, List.filter_cons_of_pos (p := fun h => nq_T (nq_val cv rw tb n t 0 h)) hk, List.filter_nil]
        refine nq_yKeep (by omega) fun yLo' a1 a2 => ?_
        have := ih (i + 1) (by omega) (by omega) yHa' sbt' sbr' ySk' yLo' (by
          rw [en]
          exact nq_CA_a hJ (fun s' hs' => (a1 s' hs').trans (hA' s' hs')) a2)
        rw [en, List.length_append, List.length_singleton] at this
        exact this
      · simp only [hk, nq_bf, forall_eq, not_true_eq_false, not_false_eq_true, true_implies, false_implies, implies_true, and_true, true_and, and_self]
        have en : (C.take (i + 1)).filter (fun h => nq_T (nq_val cv rw tb n t 0 h)) = (C.take i).filter (fun h => nq_T (nq_val cv rw tb n t 0 h)) := by
          rw [et, List.filter_append, List.filter_cons_of_neg (by rw [hk]; decide), List.filter_nil, List.append_nil]
        have := ih (i + 1) (by omega) (by omega) yHa' sbt' sbr' ySk' yLo (by
          rw [en]
          exact hJ)
        rw [en] at this
        exact this
    · have : i = C.length := by omega
      subst this
      have z3 : nI C.length ≤ nI C.length := nI_le (Nat.le_refl _) (by omega)
      rw [List.take_length] at hJ l1 ⊢
      simp only [wY_combine_85, z3, forall_eq, not_true_eq_false, not_false_eq_true, true_implies, false_implies, implies_true, and_true, true_and, and_self]
      refine nq_ySwap (by omega) fun yCo' g1 => ?_
      refine H _ _ _ _ _ _ ?_
      intro i' g hg s' hs'
      have hi' : i' < (C.filter (fun h => nq_T (nq_val cv rw tb n t 0 h))).length := by
        rw [List.getElem?_eq_some_iff] at hg
        exact hg.1
      exact (g1 _ (by omega)).trans (hJ i' g hg s' hs')
theorem nq_yComb {post : SY → Prop} {S : Nat} (E : nq_YE cv rw tb n t yRo yTo ySz yTk yIn yEn) (hS : S ≤ 3) (hS1 : 1 ≤ S) (hlf : ∀ s, lf s = decide (yIl s ≠ 0)) (hvf : vf = nq_val cv rw tb n t)
    (H : ∀ yHa' sbt' sbr' ySk' yLo' yCo' mor', nq_CA nq_ey yCo' (nq_cwh vf lf rw tb S) → post ((nI S), dis, opn, sbt', sbr', 0, (nI (nq_cwh vf lf rw tb S).length), mor', grs, fnd, kpt, yRo, (fun j => nq_k (cv j)), yTo, yIl, ySz, yTk, yIn, yEn, ySu, yWc, yWi, yHa', ySk', yCo', yLo', yGo, yFi, yRe, ySo, yAn)) : wpY_combine post ((nI S), dis, opn, sbt, sbr, 0, mny, mor, grs, fnd, kpt, yRo, (fun j => nq_k (cv j)), yTo, yIl, ySz, yTk, yIn, yEn, ySu, yWc, yWi, yHa, ySk, yCo, yLo, yGo, yFi, yRe, ySo, yAn) := by
  have E0 := E
  obtain ⟨e1, e2, e3, e4, e5, e6, e7, e8⟩ := E
  have hR : ∀ s, s < 3 → rw (tb s) ≤ 6 := fun s hs => (e5 (tb s) (e6 s hs).1).1
  have key59 : ∀ f s, 1 ≤ s → s ≤ S → S - s < f → ∀ yHa sbt sbr ySk yLo yCo mor, nq_CA nq_ey yCo (nq_cmb vf lf rw tb s) → wY_combine_59 post f (nI s) (nI S) dis opn sbt sbr 0 (nI (nq_cmb vf lf rw tb s).length) mor grs fnd kpt yRo (fun j => nq_k (cv j)) yTo yIl ySz yTk yIn yEn ySu yWc yWi yHa ySk yCo yLo yGo yFi yRe ySo yAn := by
    intro f
    induction f with
    | zero => intro s _ _ h; omega
    | succ f ih =>
      intro s hs1 hs2 hf yHa sbt sbr ySk yLo yCo mor hC
      obtain ⟨k1, k2, k3⟩ := nq_cmb_ok (vf := vf) (lf := lf) hR s (by omega)
      rcases Nat.lt_or_ge s S with z | z
      · have z3 : ¬ nI S ≤ nI s := nI_ge z (by omega)
        simp only [wY_combine_59, z3, nI_1, forall_eq, not_true_eq_false, not_false_eq_true, true_implies, false_implies, implies_true, and_true, true_and, and_self]
        refine nq_yJoin (ok := nq_okf vf s) (left := nq_lff lf s) E0 (by omega) hC k1 (nq_cmb_36 hR (by omega)) (fun g hg => k3 g hg s (Nat.le_refl _)) (fun g => ?_) ?_ fun yHa' sbt' sbr' ySk' yLo' yCo' hC' => ?_
        · unfold nq_okf
          rw [if_neg (by omega), hvf]
        · unfold nq_lff
          rw [if_neg (by omega), hlf]
        · exact ih (s + 1) (by omega) (by omega) (by omega) yHa' sbt' sbr' ySk' yLo' yCo' _ hC'
      · have : s = S := by omega
        subst this
        have z3 : nI s ≤ nI s := nI_le (Nat.le_refl _) (by omega)
        simp only [wY_combine_59, z3, forall_eq, not_true_eq_false, not_false_eq_true, true_implies, false_implies, implies_true, and_true, true_and, and_self]
        unfold nq_cwh at H
        rw [hvf] at H hC k1 ⊢
        exact ⟨_, nq_y85 E0 hC k1 (nq_cmb_216 hR (by omega)) (fun a b c d e' f' g => H a b c d e' f' _ g) ((nq_cmb (nq_val cv rw tb n t) lf rw tb s).length + 1) 0 (by omega) (by omega) yHa sbt sbr ySk yLo (fun i g hg => by cases hg)⟩
  obtain ⟨tb3, hSt⟩ := e6 0 (by omega)
  obtain ⟨r6, hr⟩ := e5 (tb 0) tb3
  have it : vp_in (nI (tb 0)) 3 := vp_in_nI tb3 (by decide)
  have ct : (nI (tb 0)).toNatClampNeg = tb 0 := nI_clamp (by omega)
  have jall : ∀ r, (nq_jr (nq_okf vf 0) 0 (fun _ => none) r).length = r := by
    intro r
    induction r with
    | zero => rfl
    | succ r ih =>
      simp only [nq_jr, nq_okf, if_true, List.length_append, List.length_singleton]
      rw [ih]
  have ec1 : nq_cmb vf lf rw tb 1 = nq_jr (nq_okf vf 0) 0 (fun _ => none) (rw (tb 0)) := by
    show nq_jn _ _ _ _ [fun _ => none] = _
    unfold nq_jn nq_jo nq_lff
    simp only [List.flatMap_cons, List.flatMap_nil, List.append_nil, if_true, reduceCtorEq, and_false, if_false]
  have key7 : ∀ f r, r ≤ rw (tb 0) → rw (tb 0) - r < f → ∀ yHa yLo, nq_CA nq_ey yLo (nq_jr (nq_okf vf 0) 0 (fun _ => none) r) → wY_combine_7 post f (nI r) (nI S) dis opn sbt sbr 0 mny (nI r) grs fnd kpt yRo (fun j => nq_k (cv j)) yTo yIl ySz yTk yIn yEn ySu yWc yWi yHa ySk yCo yLo yGo yFi yRe ySo yAn := by
    intro f
    induction f with
    | zero => intro r _ h; omega
    | succ f ih =>
      intro r hr1 hf yHa yLo hJ
      rcases Nat.lt_or_ge r (rw (tb 0)) with z | z
      · have z3 : ¬ nI (rw (tb 0)) ≤ nI r := nI_ge z (by omega)
        simp only [wY_combine_7, hSt, it, ct, hr, z3, nI_1, forall_eq, not_true_eq_false, not_false_eq_true, true_implies, false_implies, implies_true, and_true, true_and, and_self]
        refine nq_yKeep (by omega) fun yLo' a1 a2 => ?_
        have en : nq_jr (nq_okf vf 0) 0 (fun _ => none) (r + 1) = nq_jr (nq_okf vf 0) 0 (fun _ => none) r ++ [nq_hs (fun _ => none) 0 (some r)] := by
          simp only [nq_jr, nq_okf, if_true]
        refine ih (r + 1) (by omega) (by omega) _ yLo' ?_
        rw [en]
        refine nq_CA_a hJ (fun s' hs' => ?_) (fun j hj => a2 j (by rw [jall] at hj; exact hj))
        rw [jall]
        refine (a1 s' hs').trans ?_
        match s', hs' with
        | 0, _ => rfl
        | 1, _ => rfl
        | 2, _ => rfl
      · have : r = rw (tb 0) := by omega
        subst this
        have z3 : nI (rw (tb 0)) ≤ nI (rw (tb 0)) := nI_le (Nat.le_refl _) (by omega)
        simp only [wY_combine_7, hSt, it, ct, hr, z3, forall_eq, not_true_eq_false, not_false_eq_true, true_implies, false_implies, implies_true, and_true, true_and, and_self]
        refine nq_ySwap (by omega) fun yCo' g1 => ?_
        have hC1 : nq_CA nq_ey yCo' (nq_cmb vf lf rw tb 1) := by
          rw [ec1]
          intro i' g hg s' hs'
          have hi' : i' < (nq_jr (nq_okf vf 0) 0 (fun _ => none) (rw (tb 0))).length := by
            rw [List.getElem?_eq_some_iff] at hg
            exact hg.1
          rw [jall] at hi'
          exact (g1 _ (by omega)).trans (hJ i' g hg s' hs')
        have := key59 S 1 (by omega) hS1 (by omega) yHa sbt sbr ySk yLo yCo' (nI (rw (tb 0))) hC1
        rw [ec1, jall] at this
        exact ⟨_, this⟩
  simp only [wpY_combine]
  exact ⟨_, key7 (rw (tb 0) + 1) 0 (by omega) (by omega) yHa yLo (fun i g hg => by cases hg)⟩
end
