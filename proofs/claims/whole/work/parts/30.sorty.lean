section
variable {sc od nc tp cc gc ac : Int32} {Ce Sk Va An Ov : Nat → Int64} {Rc St Jl Tk Tn Su Ne Ha Cb Jd Go Fm : Nat → Int32}
variable {src dis opn sbt sbr dep mny mor grs fnd kpt : Int32} {ySk yRe ySo yAn : Nat → Int64} {yRo yCe yTo yIl ySz yTk yIn yEn ySu yWc yWi yHa yCo yLo yGo yFi : Nat → Int32}
variable {ro : Nat → Nat → nq_V} {og : Nat → nq_V}
def nq_sm (ro : Nat → Nat → nq_V) (k x : Nat) : Bool := decide (ro k 0 = ro x 0) && (decide (ro k 1 = ro x 1) && decide (ro k 2 = ro x 2))
/-- what stays of a list of rows -/
def nq_ddf (ds : Bool) (ro : Nat → Nat → nq_V) (K : List Nat) (x : Nat) : List Nat := if ds = true ∧ K.any (fun k => nq_sm ro k x) = true then K else K ++ [x]
def nq_dd (ds : Bool) (ro : Nat → Nat → nq_V) (Q : List Nat) : List Nat := Q.foldl (nq_ddf ds ro) []
theorem nq_dd_s {ds : Bool} {Q : List Nat} {x : Nat} : nq_dd ds ro (Q ++ [x]) = nq_ddf ds ro (nq_dd ds ro Q) x := by
  unfold nq_dd
  rw [List.foldl_append]
  rfl
theorem nq_dd_f {Q : List Nat} : nq_dd false ro Q = Q := by
  unfold nq_dd
  suffices h : ∀ (Q K : List Nat), Q.foldl (nq_ddf false ro) K = K ++ Q by exact h Q []
  intro Q
  induction Q with
  | nil => intro K; simp
  | cons a Q ih =>
    intro K
    rw [List.foldl_cons, ih]
    unfold nq_ddf
    simp
theorem nq_dd_l {ds : Bool} : ∀ Q : List Nat, (nq_dd ds ro Q).length ≤ Q.length := by
  suffices h : ∀ (Q K : List Nat), (Q.foldl (nq_ddf ds ro) K).length ≤ K.length + Q.length by
    intro Q
    have := h Q []
    unfold nq_dd
    simpa using this
  intro Q
  induction Q with
  | nil => intro K; simp
  | cons a Q ih =>
    intro K
    rw [List.foldl_cons]
    have := ih (nq_ddf ds ro K a)
    have h2 : (nq_ddf ds ro K a).length ≤ K.length + 1 := by
      unfold nq_ddf
      split
      · omega
      · rw [List.length_append, List.length_singleton]; omega
    rw [List.length_cons]
    omega
/-- answers in an array -/
def nq_AA (enc : nq_V → Int64) (ro : Nat → Nat → nq_V) (A : Nat → Int64) (L : List Nat) : Prop := ∀ i g, L[i]? = some g → ∀ o, o < 3 → A (3 * i + o) = enc (ro g o)
theorem nq_AA_a {enc : nq_V → Int64} {A A' : Nat → Int64} {L : List Nat} {g : Nat} (hL : nq_AA enc ro A L) (h1 : ∀ o, o < 3 → A' (3 * L.length + o) = enc (ro g o)) (h3 : ∀ j, j < 3 * L.length → A' j = A j) : nq_AA enc ro A' (L ++ [g]) := by
  intro i k hk o ho
  rcases Nat.lt_trichotomy i L.length with z | z | z
  · rw [List.getElem?_append_left z] at hk
    rw [h3 _ (by omega)]
    exact hL i k hk o ho
  · subst z
    rw [List.getElem?_append_right (Nat.le_refl _), Nat.sub_self] at hk
    cases hk
    exact h1 o ho
  · rw [List.getElem?_append_right (by omega)] at hk
    obtain ⟨m, hm⟩ : ∃ m, i - L.length = m + 1 := ⟨i - L.length - 1, by omega⟩
    rw [hm] at hk
    cases hk
theorem nq_xAmong {post : Int32 → Prop} {K : List Nat} {i x : Nat} (hi : i < 216) (hKl : K.length ≤ i) (hK : nq_AA nq_e ro An K) (hx : ∀ o, o < 3 → An (3 * i + o) = nq_e (ro x o)) (H : post (nq_b (K.any (fun k => nq_sm ro k x)))) : wpX_isAmongFirst post (sc, od, nc, tp, cc, gc, ac, Ce, Rc, St, Jl, Tk, Tn, Su, Ne, Ha, Sk, Cb, Jd, Va, Go, Fm, An, Ov) (nI K.length) (nI i) := by
  have e5 : nI i * 3 = nI (3 * i) := by
    simp only [nq_i3, pk_mul]
    exact congrArg nI (by omega)
  have q0 : vp_in (nI (3 * i)) 648 := vp_in_nI (by omega) (by decide)
  have q1 : vp_in (nI (3 * i + 1)) 648 := vp_in_nI (by omega) (by decide)
  have q2 : vp_in (nI (3 * i + 2)) 648 := vp_in_nI (by omega) (by decide)
  have r0 : (nI (3 * i)).toNatClampNeg = 3 * i := nI_clamp (by omega)
  have r1 : (nI (3 * i + 1)).toNatClampNeg = 3 * i + 1 := nI_clamp (by omega)
  have r2 : (nI (3 * i + 2)).toNatClampNeg = 3 * i + 2 := nI_clamp (by omega)
  have x0 := hx 0 (by omega)
  have x1 := hx 1 (by omega)
  have x2 := hx 2 (by omega)
  rw [Nat.add_zero] at x0
  have key : ∀ f j, j ≤ K.length → K.length - j < f → post (nq_b ((K.drop j).any (fun k => nq_sm ro k x))) → wX_isAmongFirst_2 post (nI K.length) (nI i) sc od nc tp cc gc ac Ce Rc St Jl Tk Tn Su Ne Ha Sk Cb Jd Va Go Fm An Ov f (nI j) := by
    intro f
    induction f with
    | zero => intro j _ h; omega
    | succ f ih =>
      intro j hj hf HH
      rcases Nat.lt_or_ge j K.length with z | z
      · have z3 : ¬ nI K.length ≤ nI j := nI_ge z (by omega)
        have e4 : nI j * 3 = nI (3 * j) := by
          simp only [nq_i3, pk_mul]
          exact congrArg nI (by omega)
        have i0 : vp_in (nI (3 * j)) 648 := vp_in_nI (by omega) (by decide)
        have i1 : vp_in (nI (3 * j + 1)) 648 := vp_in_nI (by omega) (by decide)
        have i2 : vp_in (nI (3 * j + 2)) 648 := vp_in_nI (by omega) (by decide)
        have c0 : (nI (3 * j)).toNatClampNeg = 3 * j := nI_clamp (by omega)
        have c1 : (nI (3 * j + 1)).toNatClampNeg = 3 * j + 1 := nI_clamp (by omega)
        have c2 : (nI (3 * j + 2)).toNatClampNeg = 3 * j + 2 := nI_clamp (by omega)
        have hg : K[j]? = some K[j] := List.getElem?_eq_getElem z
        have k0 := hK j _ hg 0 (by omega)
        have k1 := hK j _ hg 1 (by omega)
        have k2 := hK j _ hg 2 (by omega)
        rw [Nat.add_zero] at k0
        have p1 : nI (3 * j) + 1 = nI (3 * j + 1) := nI_add _ 1
        have p2 : nI (3 * j) + 2 = nI (3 * j + 2) := nI_add _ 2
        have p3 : nI (3 * i) + 1 = nI (3 * i + 1) := nI_add _ 1
        have p4 : nI (3 * i) + 2 = nI (3 * i + 2) := nI_add _ 2
        have ed : K.drop j = K[j] :: K.drop (j + 1) := List.drop_eq_getElem_cons z
        rw [ed, List.any_cons] at HH
        simp only [wX_isAmongFirst_2, z3, e4, e5, i0, c0, q0, r0, p1, p2, p3, p4, i1, c1, i2, c2, q1, q2, r1, r2, k0, k1, k2, x0, x1, x2, nq_e_i, nI_1, forall_eq, not_true_eq_false, not_false_eq_true, true_implies, false_implies, implies_true, and_true, true_and, and_self]
        have nn := ih (j + 1) (by omega) (by omega)
        unfold nq_sm at HH
        by_cases d0 : ro K[j] 0 = ro x 0
        · refine br_t d0 ?_
          by_cases d1 : ro K[j] 1 = ro x 1
          · refine br_t d1 ?_
            by_cases d2 : ro K[j] 2 = ro x 2
            · refine br_t d2 ?_
              rw [decide_eq_true d0, decide_eq_true d1, decide_eq_true d2, Bool.true_and, Bool.true_and, Bool.true_or] at HH
              exact HH
            · refine br_f d2 ?_
              rw [decide_eq_false d2, Bool.and_false, Bool.and_false, Bool.false_or] at HH
              exact nn HH
          · refine br_f d1 ?_
            rw [decide_eq_false d1, Bool.false_and, Bool.and_false, Bool.false_or] at HH
            exact nn HH
        · refine br_f d0 ?_
          rw [decide_eq_false d0, Bool.false_and, Bool.false_or] at HH
          exact nn HH
      · have : j = K.length := by omega
        subst this
        have z3 : nI K.length ≤ nI K.length := nI_le (Nat.le_refl _) (by omega)
        rw [List.drop_length] at HH
        simp only [wX_isAmongFirst_2, z3, forall_eq, not_true_eq_false, not_false_eq_true, true_implies, false_implies, implies_true, and_true, true_and, and_self]
        exact HH
  exact ⟨_, key (K.length + 1) 0 (by omega) (by omega) (by rw [List.drop_zero]; exact H)⟩
theorem nq_xDrop {post : SX → Prop} {P : List Nat} (hN : P.length ≤ 216) (hA : nq_AA nq_e ro An P) (H : ∀ An', nq_AA nq_e ro An' (nq_dd true ro P) → post (sc, od, nc, tp, cc, gc, (nI (nq_dd true ro P).length), Ce, Rc, St, Jl, Tk, Tn, Su, Ne, Ha, Sk, Cb, Jd, Va, Go, Fm, An', Ov)) : wpX_dropRepeats post (sc, od, nc, tp, cc, gc, (nI P.length), Ce, Rc, St, Jl, Tk, Tn, Su, Ne, Ha, Sk, Cb, Jd, Va, Go, Fm, An, Ov) := by
  have key : ∀ f i, i ≤ P.length → P.length - i < f → ∀ An, nq_AA nq_e ro An (nq_dd true ro (P.take i)) → (∀ j g, i ≤ j → P[j]? = some g → ∀ o, o < 3 → An (3 * j + o) = nq_e (ro g o)) → wX_dropRepeats_4 post sc od nc tp cc gc (nI P.length) f (nI (nq_dd true ro (P.take i)).length) (nI i) Ce Rc St Jl Tk Tn Su Ne Ha Sk Cb Jd Va Go Fm An Ov := by
    intro f
    induction f with
    | zero => intro i _ h; omega
    | succ f ih =>
      intro i hi hf An hK hB
      have kl := nq_dd_l (ds := true) (ro := ro) (P.take i)
      rw [List.length_take] at kl
      rcases Nat.lt_or_ge i P.length with z | z
      · have z3 : ¬ nI P.length ≤ nI i := nI_ge z (by omega)
        have hg : P[i]? = some P[i] := List.getElem?_eq_getElem z
        have et : P.take (i + 1) = P.take i ++ [P[i]] := by rw [List.take_succ, hg]; rfl
        have hx := hB i _ (Nat.le_refl _) hg
        simp only [wX_dropRepeats_4, z3, forall_eq, not_true_eq_false, not_false_eq_true, true_implies, false_implies, implies_true, and_true, true_and, and_self]
        refine nq_xAmong (x := P[i]) (by omega) (by omega) hK hx ?_
        simp only [nq_b0, nI_1]
        have nn := ih (i + 1) (by omega) (by omega)
        rw [et, nq_dd_s] at nn
        unfold nq_ddf at nn
        rcases Bool.eq_false_or_eq_true ((nq_dd true ro (P.take i)).any (fun k => nq_sm ro k P[i])) with ha | ha
        · refine br_f (by rw [ha]; decide) ?_
          rw [if_pos ⟨rfl, ha⟩] at nn
          exact nn An hK (fun j g h1 h2 => hB j g (by omega) h2)
        · refine br_t ha ?_
          rw [if_neg (fun y => by rw [ha] at y; exact absurd y.2 (by decide))] at nn
          have key2 : ∀ f2 o, o ≤ 3 → 3 - o < f2 → ∀ An', (∀ o', o' < o → An' (3 * (nq_dd true ro (P.take i)).length + o') = An (3 * i + o')) → (∀ j, (j < 3 * (nq_dd true ro (P.take i)).length ∨ 3 * (nq_dd true ro (P.take i)).length + o ≤ j) → An' j = An j) → wX_dropRepeats_23 post (wX_dropRepeats_4 post sc od nc tp cc gc (nI P.length) f) (nI (nq_dd true ro (P.take i)).length) (nI i) sc od nc tp cc gc (nI P.length) f2 (nI o) Ce Rc St Jl Tk Tn Su Ne Ha Sk Cb Jd Va Go Fm An' Ov := by
            intro f2
            induction f2 with
            | zero => intro o _ h; omega
            | succ f2 ih2 =>
              intro o ho hf2 An' h1 h2
              rcases Nat.lt_or_ge o 3 with y | y
              · have y3 : ¬ 3 ≤ nI o := nI_ge (b := 3) y (by decide)
                have e1 : nI i * 3 + nI o = nI (3 * i + o) := by
                  simp only [nq_i3, pk_mul, nI_add]
                  exact congrArg nI (by omega)
                have e2 : nI (nq_dd true ro (P.take i)).length * 3 + nI o = nI (3 * (nq_dd true ro (P.take i)).length + o) := by
                  simp only [nq_i3, pk_mul, nI_add]
                  exact congrArg nI (by omega)
                have i1 : vp_in (nI (3 * i + o)) 648 := vp_in_nI (by omega) (by decide)
                have c1 : (nI (3 * i + o)).toNatClampNeg = 3 * i + o := nI_clamp (by omega)
                have i2 : vp_in (nI (3 * (nq_dd true ro (P.take i)).length + o)) 648 := vp_in_nI (by omega) (by decide)
                have c2 : (nI (3 * (nq_dd true ro (P.take i)).length + o)).toNatClampNeg = 3 * (nq_dd true ro (P.take i)).length + o := nI_clamp (by omega)
                simp only [wX_dropRepeats_23, y3, e1, e2, i1, c1, i2, c2, nI_1, forall_eq, not_true_eq_false, not_false_eq_true, true_implies, false_implies, implies_true, and_true, true_and, and_self]
                refine ih2 (o + 1) (by omega) (by omega) _ (fun o' ho' => ?_) (fun j hj => ?_)
                · by_cases e : o' = o
                  · rw [e, pk_uLs]
                    exact h2 _ (Or.inr (by omega))
                  · rw [pk_uLn (by omega)]
                    exact h1 o' (by omega)
                · rw [pk_uLn (by omega)]
                  exact h2 j (by omega)
              · have : o = 3 := by omega
                subst this
                simp only [wX_dropRepeats_23, show (3 : Int32) ≤ nI 3 from by decide, nI_1, forall_eq, not_true_eq_false, not_false_eq_true, true_implies, false_implies, implies_true, and_true, true_and, and_self]
                have := nn An' (nq_AA_a hK (fun o ho => (h1 o ho).trans (hx o ho)) (fun j hj => h2 j (Or.inl hj))) (fun j g a b o ho => by
                  rw [h2 _ (Or.inr (by omega))]
                  exact hB j g (by omega) b o ho)
                rw [List.length_append, List.length_singleton] at this
                exact this
          exact ⟨_, key2 4 0 (by omega) (by omega) An (fun o' ho' => by omega) (fun j _ => rfl)⟩
      · have : i = P.length := by omega
        subst this
        have z3 : nI P.length ≤ nI P.length := nI_le (Nat.le_refl _) (by omega)
        rw [List.take_length] at hK ⊢
        simp only [wX_dropRepeats_4, z3, forall_eq, not_true_eq_false, not_false_eq_true, true_implies, false_implies, implies_true, and_true, true_and, and_self]
        exact H An hK
  exact ⟨_, key (P.length + 1) 0 (by omega) (by omega) An (fun i g hg => by cases hg) (fun j g _ hg o ho => hA j g hg o ho)⟩
end
