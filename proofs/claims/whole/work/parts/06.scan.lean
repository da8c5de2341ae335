section
variable {sc od nc tp cc gc ac : Int32} {Ce Sk Va An Ov : Nat → Int64} {Rc St Jl Tk Tn Su Ne Ha Cb Jd Go Fm : Nat → Int32}
variable {src dis opn sbt sbr dep mny mor grs fnd kpt : Int32} {ySk yRe ySo yAn : Nat → Int64} {yRo yCe yTo yIl ySz yTk yIn yEn ySu yWc yWi yHa yCo yLo yGo yFi : Nat → Int32}
variable {n t : Nat → Nat} {p : Nat}
theorem nq_wsI (h : nq_WF n t) (hp : p < 10) : ∀ i, i ≤ n p → (nq_ws p t i).length ≤ 1 + 2 * i ∧ ∀ x, x ∈ nq_ws p t i → x < 4 := by
  intro i
  induction i with
  | zero =>
    intro _
    refine ⟨Nat.le_refl _, fun x hx => ?_⟩
    simp only [nq_ws, List.mem_singleton] at hx
    rw [hx]
    split <;> decide
  | succ i ih =>
    intro hi
    obtain ⟨l1, l2⟩ := ih (by omega)
    obtain ⟨w, r, e, hf⟩ := (h p hp).2 i (by omega)
    rw [e] at l1 l2
    obtain ⟨k1, k2, k3⟩ := nq_kidsL _ (nq_fit153 hf).1 w (l2 w List.mem_cons_self)
    simp only [nq_ws, e]
    refine ⟨?_, fun x hx => ?_⟩
    · rw [List.length_append, k1]
      rw [List.length_cons] at l1
      omega
    · rcases List.mem_append.mp hx with z | z
      · exact k3 x z
      · exact l2 x (List.mem_cons_of_mem _ z)
theorem nq_wsS (h : nq_WF n t) (hp : p < 10) {i : Nat} (hi : i < n p) : ∃ w r, nq_ws p t i = w :: r ∧ nq_ws p t (i + 1) = nq_kids (t (20 * p + i)) w ++ r ∧ nq_fit p (t (20 * p + i)) w = true ∧ w < 4 ∧ t (20 * p + i) < 153 ∧ (nq_kids (t (20 * p + i)) w).length = nq_ar (t (20 * p + i)) ∧ (nq_sub (t (20 * p + i)) = false ∨ w < 2) ∧ r.length ≤ 2 * i ∧ nq_ar (t (20 * p + i)) ≤ 3 := by
  obtain ⟨l1, l2⟩ := nq_wsI h hp i (by omega)
  obtain ⟨w, r, e, hf⟩ := (h p hp).2 i hi
  rw [e] at l1 l2
  have w4 := l2 w List.mem_cons_self
  obtain ⟨k1, k2, k3⟩ := nq_kidsL _ (nq_fit153 hf).1 w w4
  refine ⟨w, r, e, ?_, hf, w4, (nq_fit153 hf).1, k1, (nq_fit153 hf).2, ?_, k2⟩
  · simp only [nq_ws, e]
  · rw [List.length_cons] at l1
    omega
theorem nq_plus (L a : Nat) : nI (L + 1) + (nI a - 1) = nI (a + L) := by
  rw [← nI_1, ← nI_add]
  grind
theorem nq_xOpen {post : Int32 → Prop} (hT : nq_TT n t Tn Tk) (hW : nq_WF n t) (hp : p < 10) (H : post (nI (nq_ws p t (n p)).length)) : wpX_openTerms post (sc, od, nc, tp, cc, gc, ac, Ce, Rc, St, Jl, Tk, Tn, Su, Ne, Ha, Sk, Cb, Jd, Va, Go, Fm, An, Ov) (nI p) := by
  have cp : (nI p).toNatClampNeg = p := nI_clamp (by omega)
  have vp : vp_in (nI p) 10 := vp_in_nI hp (by decide)
  have hn := (hW p hp).1
  have key : ∀ f i, i ≤ n p → n p - i < f → wX_openTerms_4 post (nI p) sc od nc tp cc gc ac Ce Rc St Jl Tk Tn Su Ne Ha Sk Cb Jd Va Go Fm An Ov f (nI (nq_ws p t i).length) (nI i) := by
    intro f
    induction f with
    | zero => intro q _ h; omega
    | succ f ih =>
      intro i hi hf
      rcases Nat.lt_or_ge i (n p) with z | z
      · have z3 : ¬ nI (n p) ≤ nI i := nI_ge z (by omega)
        obtain ⟨w, r, e1, e2, ef, w4, t153, kl, es, rl, a3⟩ := nq_wsS hW hp z
        have x0 : nI p * 20 + nI i = nI (20 * p + i) := by
          simp only [nq_i20, pk_mul, nI_add]
          exact congrArg nI (by omega)
        have i0 : vp_in (nI (20 * p + i)) 200 := vp_in_nI (by omega) (by decide)
        have c0 : (nI (20 * p + i)).toNatClampNeg = 20 * p + i := nI_clamp (by omega)
        simp only [wX_openTerms_4, cp, vp, (hT p hp).1, z3, x0, i0, c0, (hT p hp).2 i z, nq_xAr (show t (20 * p + i) < 2147483648 by omega), nI_1, e1, List.length_cons, nq_plus, forall_eq, not_true_eq_false, not_false_eq_true, true_implies, false_implies, implies_true, and_true, true_and, and_self]
        have := ih (i + 1) (by omega) (by omega)
        rw [e2, List.length_append, kl] at this
        exact this
      · have : i = n p := by omega
        subst this
        have z3 : nI (n p) ≤ nI (n p) := nI_le (Nat.le_refl _) (by omega)
        simp only [wX_openTerms_4, cp, vp, (hT p hp).1, z3, forall_eq, not_true_eq_false, not_false_eq_true, true_implies, false_implies, implies_true, and_true, true_and, and_self]
        exact H
  exact ⟨n p + 1, key _ 0 (by omega) (by omega)⟩
/-! the component's needs -/
theorem nq_and2 : ∀ w, w < 4 → nI w &&& 2 = nI (w / 2 * 2) := by decide
theorem nq_and1 : ∀ w, w < 4 → nI w &&& 1 = nI (w % 2) := by decide
theorem nq_or0 : ∀ w, w < 4 → (0 : Int32) ||| nI (w / 2 * 2) = nI (0 + w / 2 * 2) := by decide
theorem nq_or1 : ∀ w, w < 4 → (1 : Int32) ||| nI (w / 2 * 2) = nI (1 + w / 2 * 2) := by decide
theorem nq_xPush {post : SX → Prop} {L : List Nat} {x : Nat} (hL : L.length < 41) (hS : nq_St Ne (L.map nI)) (H : ∀ Ne', nq_St Ne' ((x :: L).map nI) → post (sc, od, (nI (L.length + 1)), tp, cc, gc, ac, Ce, Rc, St, Jl, Tk, Tn, Su, Ne', Ha, Sk, Cb, Jd, Va, Go, Fm, An, Ov)) : wpX_pushNeed post (sc, od, (nI L.length), tp, cc, gc, ac, Ce, Rc, St, Jl, Tk, Tn, Su, Ne, Ha, Sk, Cb, Jd, Va, Go, Fm, An, Ov) (nI x) := by
  have i0 : vp_in (nI L.length) 41 := vp_in_nI hL (by decide)
  have c0 : (nI L.length).toNatClampNeg = L.length := nI_clamp (by omega)
  simp only [wpX_pushNeed, i0, c0, nI_1, forall_eq, not_true_eq_false, not_false_eq_true, true_implies, false_implies, implies_true, and_true, true_and, and_self]
  have := nq_St_p (x := nI x) hS
  rw [List.length_map] at this
  exact H _ this
theorem nq_xP55 {post : SX → Prop} {t w b a : Nat} {r : List Nat} (ht : t < 153) (hw : w < 4) (hb : b < 2) (ha : a ≤ 3) (hr : r.length + a ≤ 41 ∧ (t = 76 → r.length + a + 1 ≤ 41)) (H : ∀ Ne', nq_St Ne' ((((if t = 76 then [1 + w / 2 * 2] else []) ++ List.replicate a (b + w / 2 * 2)) ++ r).map nI) → post (sc, od, (nI (((if t = 76 then [1 + w / 2 * 2] else []) ++ List.replicate a (b + w / 2 * 2)) ++ r).length), tp, cc, gc, ac, Ce, Rc, St, Jl, Tk, Tn, Su, Ne', Ha, Sk, Cb, Jd, Va, Go, Fm, An, Ov)) : ∀ f i, i ≤ a → a - i < f → ∀ Ne, nq_St Ne ((List.replicate i (b + w / 2 * 2) ++ r).map nI) → wX_pushNeeds_55 post (nI t) (nI (w / 2 * 2)) (nI b) (nI a) f (nI i) sc od (nI (List.replicate i (b + w / 2 * 2) ++ r).length) tp cc gc ac Ce Rc St Jl Tk Tn Su Ne Ha Sk Cb Jd Va Go Fm An Ov := by
  intro f
  induction f with
  | zero => intro q _ h; omega
  | succ f ih =>
    intro i hi hf Ne hS
    have ll : (List.replicate i (b + w / 2 * 2) ++ r).length = i + r.length := by simp
    rcases Nat.lt_or_ge i a with z | z
    · have z3 : ¬ nI a ≤ nI i := nI_ge z (by omega)
      have step : wpX_pushNeed (fun u => match u with | (sc1, od1, nc1, tp1, cc1, gc1, ac1, Ce1, Rc1, St1, Jl1, Tk1, Tn1, Su1, Ne1, Ha1, Sk1, Cb1, Jd1, Va1, Go1, Fm1, An1, Ov1) => wX_pushNeeds_55 post (nI t) (nI (w / 2 * 2)) (nI b) (nI a) f (nI (i + 1)) sc1 od1 nc1 tp1 cc1 gc1 ac1 Ce1 Rc1 St1 Jl1 Tk1 Tn1 Su1 Ne1 Ha1 Sk1 Cb1 Jd1 Va1 Go1 Fm1 An1 Ov1) (sc, od, (nI (List.replicate i (b + w / 2 * 2) ++ r).length), tp, cc, gc, ac, Ce, Rc, St, Jl, Tk, Tn, Su, Ne, Ha, Sk, Cb, Jd, Va, Go, Fm, An, Ov) (nI (b + w / 2 * 2)) := by
        refine nq_xPush (by omega) hS fun Ne' hS' => ?_
        have := ih (i + 1) (by omega) (by omega) Ne' (by rw [List.replicate_succ]; exact hS')
        rw [List.replicate_succ, List.cons_append, List.length_cons] at this
        exact this
      match b, hb with
      | 0, _ =>
        simp only [wX_pushNeeds_55, wX_pushNeeds_72, z3, show nI 0 = (0 : Int32) from rfl, nq_or0 w hw, nI_1, forall_eq, not_true_eq_false, not_false_eq_true, true_implies, false_implies, implies_true, and_true, true_and, and_self]
        exact step
      | 1, _ =>
        simp only [wX_pushNeeds_55, wX_pushNeeds_72, z3, show ¬ nI 1 = (0 : Int32) from by decide, nq_or1 w hw, nI_1, forall_eq, not_true_eq_false, not_false_eq_true, true_implies, false_implies, implies_true, and_true, true_and, and_self]
        exact step
    · have : i = a := by omega
      subst this
      have z3 : nI i ≤ nI i := nI_le (Nat.le_refl _) (by omega)
      by_cases h76 : t = 76
      · subst h76
        simp only [wX_pushNeeds_55, z3, show nI 76 = (76 : Int32) from rfl, nq_or1 w hw, forall_eq, not_true_eq_false, not_false_eq_true, true_implies, false_implies, implies_true, and_true, true_and, and_self]
        refine nq_xPush (by have := hr.2 rfl; omega) hS fun Ne' hS' => ?_
        exact H Ne' hS'
      · have e76 : ¬ nI t = 76 := fun e => h76 ((nI_eq (a := t) (b := 76) (by omega) (by decide)).mp e)
        simp only [wX_pushNeeds_55, z3, e76, forall_eq, not_true_eq_false, not_false_eq_true, true_implies, false_implies, implies_true, and_true, true_and, and_self]
        simp only [h76, if_false, List.nil_append] at H
        exact H _ hS
theorem nq_xPn {post : SX → Prop} {t w : Nat} {r : List Nat} (ht : t < 153) (hw : w < 4) (hr : r.length + 3 ≤ 41) (hS : nq_St Ne (r.map nI)) (H : ∀ Ne', nq_St Ne' ((nq_kids t w ++ r).map nI) → post (sc, od, (nI (nq_kids t w ++ r).length), tp, cc, gc, ac, Ce, Rc, St, Jl, Tk, Tn, Su, Ne', Ha, Sk, Cb, Jd, Va, Go, Fm, An, Ov)) : wpX_pushNeeds post (sc, od, (nI r.length), tp, cc, gc, ac, Ce, Rc, St, Jl, Tk, Tn, Su, Ne, Ha, Sk, Cb, Jd, Va, Go, Fm, An, Ov) (nI t) (nI (w / 2 * 2)) := by
  have ht2 : t < 2147483648 := by omega
  have nt : ¬ (1 : Int32) = 0 := by decide
  unfold nq_kids at H
  cases hs : nq_sub t with
  | true =>
    simp only [hs, if_true] at H
    simp only [wpX_pushNeeds, nq_xSub ht2, hs, nq_bt, nt, forall_eq, not_true_eq_false, not_false_eq_true, true_implies, false_implies, implies_true, and_true, true_and, and_self]
    refine nq_xPush (x := 3) (by omega) hS fun Ne' hS' => ?_
    by_cases h1 : t < 100
    · simp only [show (nI (t) < (100 : Int32)) = ((t) < 100) from propext (nI_ltI (b := 100) (ht2) (by decide)), show ((100 : Int32) < nI (t)) = (100 < (t)) from propext (nI_ltI (a := 100) (by decide) (ht2)), show (nI (t) ≤ (100 : Int32)) = ((t) ≤ 100) from propext (nI_leI (b := 100) (ht2) (by decide)), show ((100 : Int32) ≤ nI (t)) = (100 ≤ (t)) from propext (nI_leI (a := 100) (by decide) (ht2)), show (nI (t) = (100 : Int32)) = ((t) = 100) from propext (nI_eq (b := 100) (ht2) (by decide)), h1, forall_eq, not_true_eq_false, not_false_eq_true, true_implies, false_implies, implies_true, and_true, true_and, and_self]
      simp only [h1, if_true] at H
      exact H _ hS'
    · simp only [show (nI (t) < (100 : Int32)) = ((t) < 100) from propext (nI_ltI (b := 100) (ht2) (by decide)), show ((100 : Int32) < nI (t)) = (100 < (t)) from propext (nI_ltI (a := 100) (by decide) (ht2)), show (nI (t) ≤ (100 : Int32)) = ((t) ≤ 100) from propext (nI_leI (b := 100) (ht2) (by decide)), show ((100 : Int32) ≤ nI (t)) = (100 ≤ (t)) from propext (nI_leI (a := 100) (by decide) (ht2)), show (nI (t) = (100 : Int32)) = ((t) = 100) from propext (nI_eq (b := 100) (ht2) (by decide)), h1, forall_eq, not_true_eq_false, not_false_eq_true, true_implies, false_implies, implies_true, and_true, true_and, and_self]
      simp only [h1, if_false] at H
      refine nq_xPush (x := 0) (L := 3 :: r) (by rw [List.length_cons]; omega) hS' fun Ne'' hS'' => ?_
      exact H _ hS''
  | false =>
    simp only [hs, reduceCtorEq, if_false] at H
    simp only [wpX_pushNeeds, nq_xSub ht2, hs, nq_bf, forall_eq, not_true_eq_false, not_false_eq_true, true_implies, false_implies, implies_true, and_true, true_and, and_self]
    have main : ∀ b, b < 2 → (b = if 84 ≤ t then 1 else 0) → wX_pushNeeds_35 post (nI t) (nI (w / 2 * 2)) (nI b) sc od (nI r.length) tp cc gc ac Ce Rc St Jl Tk Tn Su Ne Ha Sk Cb Jd Va Go Fm An Ov := by
      intro b hb eb
      by_cases h76 : t = 76
      · subst h76
        simp only [show ¬ 84 ≤ 76 from by decide, if_false] at eb
        subst eb
        simp only [wX_pushNeeds_35, show nI 76 = (76 : Int32) from rfl, forall_eq, not_true_eq_false, not_false_eq_true, true_implies, false_implies, implies_true, and_true, true_and, and_self]
        exact ⟨3, nq_xP55 (t := 76) (a := 2) (by omega) hw hb (by omega) (by omega) (fun Ne' hS' => by
          simp only [if_true] at H
          have e : ([1 + w / 2 * 2] ++ List.replicate 2 (0 + w / 2 * 2)) ++ r = [1 + w / 2 * 2, w / 2 * 2, w / 2 * 2] ++ r := by simp [List.replicate]
          simp only [if_true] at hS' ⊢
          rw [e] at hS' ⊢
          exact H Ne' hS') 3 0 (by omega) (by omega) Ne hS⟩
      · have e76 : ¬ nI t = 76 := fun e => h76 ((nI_eq (b := 76) ht2 (by decide)).mp e)
        have a3 := (nq_kidsL t ht w hw).2.1
        simp only [wX_pushNeeds_35, e76, nq_xAr ht2, forall_eq, not_true_eq_false, not_false_eq_true, true_implies, false_implies, implies_true, and_true, true_and, and_self]
        exact ⟨4, nq_xP55 (t := t) (a := nq_ar t) ht hw hb a3 (by omega) (fun Ne' hS' => by
          simp only [h76, if_false, List.nil_append] at hS' H ⊢
          rw [← eb] at H
          exact H Ne' hS') 4 0 (by omega) (by omega) Ne hS⟩
    by_cases h84 : t < 84
    · simp only [show (nI (t) < (84 : Int32)) = ((t) < 84) from propext (nI_ltI (b := 84) (ht2) (by decide)), show ((84 : Int32) < nI (t)) = (84 < (t)) from propext (nI_ltI (a := 84) (by decide) (ht2)), show (nI (t) ≤ (84 : Int32)) = ((t) ≤ 84) from propext (nI_leI (b := 84) (ht2) (by decide)), show ((84 : Int32) ≤ nI (t)) = (84 ≤ (t)) from propext (nI_leI (a := 84) (by decide) (ht2)), show (nI (t) = (84 : Int32)) = ((t) = 84) from propext (nI_eq (b := 84) (ht2) (by decide)), h84, forall_eq, not_true_eq_false, not_false_eq_true, true_implies, false_implies, implies_true, and_true, true_and, and_self]
      exact main 0 (by omega) (by rw [if_neg (by omega)])
    · simp only [show (nI (t) < (84 : Int32)) = ((t) < 84) from propext (nI_ltI (b := 84) (ht2) (by decide)), show ((84 : Int32) < nI (t)) = (84 < (t)) from propext (nI_ltI (a := 84) (by decide) (ht2)), show (nI (t) ≤ (84 : Int32)) = ((t) ≤ 84) from propext (nI_leI (b := 84) (ht2) (by decide)), show ((84 : Int32) ≤ nI (t)) = (84 ≤ (t)) from propext (nI_leI (a := 84) (by decide) (ht2)), show (nI (t) = (84 : Int32)) = ((t) = 84) from propext (nI_eq (b := 84) (ht2) (by decide)), h84, forall_eq, not_true_eq_false, not_false_eq_true, true_implies, false_implies, implies_true, and_true, true_and, and_self]
      exact main 1 (by omega) (by rw [if_pos (by omega)])
theorem nq_xNeed {post : Int32 → SX → Prop} {w : Nat} {r : List Nat} (hT : nq_TT n t Tn Tk) (hW : nq_WF n t) (hp : p < 10) (hwr : nq_ws p t (n p) = w :: r) (H : ∀ nc' Ne', post (nI w) (sc, od, nc', tp, cc, gc, ac, Ce, Rc, St, Jl, Tk, Tn, Su, Ne', Ha, Sk, Cb, Jd, Va, Go, Fm, An, Ov)) : wpX_nextNeed post (sc, od, nc, tp, cc, gc, ac, Ce, Rc, St, Jl, Tk, Tn, Su, Ne, Ha, Sk, Cb, Jd, Va, Go, Fm, An, Ov) (nI p) := by
  have cp : (nI p).toNatClampNeg = p := nI_clamp (by omega)
  have vp : vp_in (nI p) 10 := vp_in_nI hp (by decide)
  have hn := (hW p hp).1
  have key : ∀ f i, i ≤ n p → n p - i < f → ∀ Ne, nq_St Ne ((nq_ws p t i).map nI) → wX_nextNeed_25 post (nI p) f (nI i) sc od (nI (nq_ws p t i).length) tp cc gc ac Ce Rc St Jl Tk Tn Su Ne Ha Sk Cb Jd Va Go Fm An Ov := by
    intro f
    induction f with
    | zero => intro q _ h; omega
    | succ f ih =>
      intro i hi hf Ne hS
      rcases Nat.lt_or_ge i (n p) with z | z
      · have z3 : ¬ nI (n p) ≤ nI i := nI_ge z (by omega)
        obtain ⟨w, r, e1, e2, ef, w4, t153, kl, es, rl, a3⟩ := nq_wsS hW hp z
        have x0 : nI p * 20 + nI i = nI (20 * p + i) := by
          simp only [nq_i20, pk_mul, nI_add]
          exact congrArg nI (by omega)
        have i0 : vp_in (nI (20 * p + i)) 200 := vp_in_nI (by omega) (by decide)
        have c0 : (nI (20 * p + i)).toNatClampNeg = 20 * p + i := nI_clamp (by omega)
        rw [e1] at hS
        have i1 : vp_in (nI r.length) 41 := vp_in_nI (by omega) (by decide)
        have c1 : (nI r.length).toNatClampNeg = r.length := nI_clamp (by omega)
        have hN : Ne r.length = nI w := by
          have := hS.1
          rw [List.length_map] at this
          exact this
        simp only [wX_nextNeed_25, cp, vp, (hT p hp).1, z3, x0, i0, c0, (hT p hp).2 i z, nI_1, e1, List.length_cons, nI_pred, i1, c1, hN, nq_and2 w w4, forall_eq, not_true_eq_false, not_false_eq_true, true_implies, false_implies, implies_true, and_true, true_and, and_self]
        refine nq_xPn t153 w4 (by omega) hS.2 fun Ne' hS' => ?_
        have := ih (i + 1) (by omega) (by omega) Ne' (by rw [e2]; exact hS')
        rw [e2] at this
        exact this
      · have : i = n p := by omega
        subst this
        have z3 : nI (n p) ≤ nI (n p) := nI_le (Nat.le_refl _) (by omega)
        have l1 := (nq_wsI hW hp (n p) (Nat.le_refl _)).1
        rw [hwr] at hS l1
        rw [List.length_cons] at l1
        have i1 : vp_in (nI r.length) 41 := vp_in_nI (by omega) (by decide)
        have c1 : (nI r.length).toNatClampNeg = r.length := nI_clamp (by omega)
        have hN : Ne r.length = nI w := by
          have := hS.1
          rw [List.length_map] at this
          exact this
        simp only [wX_nextNeed_25, cp, vp, (hT p hp).1, z3, hwr, List.length_cons, nI_pred, i1, c1, hN, forall_eq, not_true_eq_false, not_false_eq_true, true_implies, false_implies, implies_true, and_true, true_and, and_self]
        exact H _ _
  have nt : ¬ (1 : Int32) = 0 := by decide
  by_cases h3 : p ≤ 3
  · simp only [wpX_nextNeed, nq_xCp hp, h3, decide_true, nq_bt, nt, forall_eq, not_true_eq_false, not_false_eq_true, true_implies, false_implies, implies_true, and_true, true_and, and_self]
    refine ⟨n p + 1, key _ 0 (by omega) (by omega) _ ?_⟩
    simp only [nq_ws, h3, if_true, List.map_cons, List.map_nil]
    exact ⟨pk_us, trivial⟩
  · simp only [wpX_nextNeed, nq_xCp hp, h3, decide_false, nq_bf, forall_eq, not_true_eq_false, not_false_eq_true, true_implies, false_implies, implies_true, and_true, true_and, and_self]
    refine ⟨n p + 1, key _ 0 (by omega) (by omega) _ ?_⟩
    simp only [nq_ws, h3, if_false, List.map_cons, List.map_nil]
    exact ⟨pk_us, trivial⟩
end
