section
variable {sc od nc tp cc gc ac : Int32} {Ce Sk Va An Ov : Nat → Int64} {Rc St Jl Tk Tn Su Ne Ha Cb Jd Go Fm : Nat → Int32}
variable {src dis opn sbt sbr dep mny mor grs fnd kpt : Int32} {ySk yRe ySo yAn : Nat → Int64} {yRo yCe yTo yIl ySz yTk yIn yEn ySu yWc yWi yHa yCo yLo yGo yFi : Nat → Int32}
variable {ro : Nat → Nat → nq_V} {og : Nat → nq_V}
/-! the order, pure -/
def nq_kv (v : nq_V) : Int := (nq_e v).toInt
theorem nq_kv_l {a b : nq_V} : nq_lt a b = true ↔ nq_kv a < nq_kv b := by rw [← nq_e_l, Int64.lt_iff_toInt_lt]; rfl
theorem nq_kv_e {a b : nq_V} : a = b ↔ nq_kv a = nq_kv b := by rw [← nq_e_i]; exact Int64.toInt_inj.symm
def nq_l2o (og : Nat → nq_V) (a b : Nat) : Prop := nq_kv (og a) < nq_kv (og b) ∨ (nq_kv (og a) = nq_kv (og b) ∧ a < b)
theorem nq_l2u {P Q : List Nat} (hP : P.Pairwise (nq_l2o og)) (hQ : Q.Pairwise (nq_l2o og)) (h : P.Perm Q) : P = Q :=
  List.Perm.eq_of_pairwise (fun a b _ _ h1 h2 => by unfold nq_l2o at h1 h2; omega) hP hQ h
theorem nq_ele {a b : nq_V} : (nq_e a ≤ nq_e b) ↔ nq_kv a ≤ nq_kv b := Int64.le_iff_toInt_le
theorem nq_xSwap {post : SX → Prop} {k : Nat} (hk1 : 1 ≤ k) (hk : k < 216) (H : ∀ An' Ov', (∀ o, o < 3 → An' (3 * k + o) = An (3 * (k - 1) + o) ∧ An' (3 * (k - 1) + o) = An (3 * k + o)) → (∀ j, (j < 3 * (k - 1) ∨ 3 * k + 3 ≤ j) → An' j = An j) → Ov' k = Ov (k - 1) → Ov' (k - 1) = Ov k → (∀ j, j ≠ k → j ≠ k - 1 → Ov' j = Ov j) → post (sc, od, nc, tp, cc, gc, ac, Ce, Rc, St, Jl, Tk, Tn, Su, Ne, Ha, Sk, Cb, Jd, Va, Go, Fm, An', Ov')) : wpX_swapWithBefore post (sc, od, nc, tp, cc, gc, ac, Ce, Rc, St, Jl, Tk, Tn, Su, Ne, Ha, Sk, Cb, Jd, Va, Go, Fm, An, Ov) (nI k) := by
  have ik : vp_in (nI k) 216 := vp_in_nI hk (by decide)
  have ck : (nI k).toNatClampNeg = k := nI_clamp (by omega)
  have e1 : nI k - 1 = nI (k - 1) := pk_sub (b := 1) hk1
  have ik1 : vp_in (nI (k - 1)) 216 := vp_in_nI (by omega) (by decide)
  have ck1 : (nI (k - 1)).toNatClampNeg = k - 1 := nI_clamp (by omega)
  have e3 : nI k * 3 = nI (3 * k) := by
    simp only [nq_i3, pk_mul]
    exact congrArg nI (by omega)
  have e4 : (nI k + 1) * 3 = nI (3 * k + 3) := by
    rw [nI_1]
    simp only [nq_i3, pk_mul]
    exact congrArg nI (by omega)
  simp only [wpX_swapWithBefore, ik, ck, e1, ik1, ck1, e3, forall_eq, not_true_eq_false, not_false_eq_true, true_implies, false_implies, implies_true, and_true, true_and, and_self]
  have key : ∀ f o, o ≤ 3 → 3 - o < f → ∀ An', (∀ o', o' < o → An' (3 * k + o') = An (3 * (k - 1) + o') ∧ An' (3 * (k - 1) + o') = An (3 * k + o')) → (∀ j, (∀ o', o' < o → j ≠ 3 * k + o' ∧ j ≠ 3 * (k - 1) + o') → An' j = An j) → wX_swapWithBefore_35 post (nI k) sc od nc tp cc gc ac f (nI (3 * k + o)) Ce Rc St Jl Tk Tn Su Ne Ha Sk Cb Jd Va Go Fm An' (vp_updL (vp_updL Ov k (Ov (k - 1))) (k - 1) (Ov k)) := by
    intro f
    induction f with
    | zero => intro o _ h; omega
    | succ f ih =>
      intro o ho hf An' h1 h2
      rcases Nat.lt_or_ge o 3 with z | z
      · have z3 : ¬ nI (3 * k + 3) ≤ nI (3 * k + o) := nI_ge (by omega) (by omega)
        have i1 : vp_in (nI (3 * k + o)) 648 := vp_in_nI (by omega) (by decide)
        have c1 : (nI (3 * k + o)).toNatClampNeg = 3 * k + o := nI_clamp (by omega)
        have e5 : nI (3 * k + o) - 3 = nI (3 * (k - 1) + o) := (pk_sub (b := 3) (by omega)).trans (congrArg nI (by omega))
        have i2 : vp_in (nI (3 * (k - 1) + o)) 648 := vp_in_nI (by omega) (by decide)
        have c2 : (nI (3 * (k - 1) + o)).toNatClampNeg = 3 * (k - 1) + o := nI_clamp (by omega)
        have a1 : An' (3 * k + o) = An (3 * k + o) := h2 _ (fun o' ho' => by omega)
        have a2 : An' (3 * (k - 1) + o) = An (3 * (k - 1) + o) := h2 _ (fun o' ho' => by omega)
        have e6 : nI (3 * k + o) + 1 = nI (3 * k + (o + 1)) := nI_1 _
        simp only [wX_swapWithBefore_35, e4, z3, i1, c1, e5, i2, c2, a1, a2, e6, forall_eq, not_true_eq_false, not_false_eq_true, true_implies, false_implies, implies_true, and_true, true_and, and_self]
        refine ih (o + 1) (by omega) (by omega) _ (fun o' ho' => ?_) (fun j hj => ?_)
        · by_cases e : o' = o
          · subst e
            refine ⟨?_, pk_uLs⟩
            rw [pk_uLn (by omega), pk_uLs]
          · obtain ⟨b1, b2⟩ := h1 o' (by omega)
            refine ⟨?_, ?_⟩
            · rw [pk_uLn (by omega), pk_uLn (by omega)]; exact b1
            · rw [pk_uLn (by omega), pk_uLn (by omega)]; exact b2
        · have := hj o (by omega)
          rw [pk_uLn this.2, pk_uLn this.1]
          exact h2 j (fun o' ho' => hj o' (by omega))
      · have : o = 3 := by omega
        subst this
        have z3 : nI (3 * k + 3) ≤ nI (3 * k + 3) := nI_le (Nat.le_refl _) (by omega)
        simp only [wX_swapWithBefore_35, e4, z3, forall_eq, not_true_eq_false, not_false_eq_true, true_implies, false_implies, implies_true, and_true, true_and, and_self]
        refine H _ _ h1 (fun j hj => h2 j (fun o' ho' => by omega)) ?_ pk_uLs (fun j j1 j2 => ?_)
        · rw [pk_uLn (by omega), pk_uLs]
        · rw [pk_uLn j2, pk_uLn j1]
  exact ⟨_, key 4 0 (by omega) (by omega) An (fun o' ho' => by omega) (fun j _ => rfl)⟩
theorem nq_RA_s {enc : nq_V → Int64} {A B A' B' : Nat → Int64} {T R : List Nat} {a x : Nat} (hT : nq_RA enc ro og A B (T ++ a :: x :: R)) (h1 : ∀ o, o < 3 → A' (3 * (T.length + 1) + o) = A (3 * T.length + o) ∧ A' (3 * T.length + o) = A (3 * (T.length + 1) + o)) (h2 : ∀ j, (j < 3 * T.length ∨ 3 * (T.length + 1) + 3 ≤ j) → A' j = A j) (h3 : B' (T.length + 1) = B T.length) (h4 : B' T.length = B (T.length + 1)) (h5 : ∀ j, j ≠ T.length + 1 → j ≠ T.length → B' j = B j) : nq_RA enc ro og A' B' (T ++ x :: a :: R) := by
  have ta : (T ++ a :: x :: R)[T.length]? = some a := by
    rw [List.getElem?_append_right (Nat.le_refl _), Nat.sub_self]; rfl
  have tx : (T ++ a :: x :: R)[T.length + 1]? = some x := by
    rw [List.getElem?_append_right (by omega), show T.length + 1 - T.length = 1 by omega]; rfl
  obtain ⟨a1, a2⟩ := hT _ _ ta
  obtain ⟨x1, x2⟩ := hT _ _ tx
  intro i g hg
  by_cases e1 : i = T.length
  · subst e1
    rw [List.getElem?_append_right (Nat.le_refl _), Nat.sub_self] at hg
    cases hg
    exact ⟨fun o ho => (h1 o ho).2.trans (x1 o ho), h4.trans x2⟩
  · by_cases e2 : i = T.length + 1
    · subst e2
      rw [List.getElem?_append_right (by omega), show T.length + 1 - T.length = 1 by omega] at hg
      cases hg
      exact ⟨fun o ho => (h1 o ho).1.trans (a1 o ho), h3.trans a2⟩
    · have hg' : (T ++ a :: x :: R)[i]? = some g := by
        rcases Nat.lt_or_ge i T.length with z | z
        · rw [List.getElem?_append_left z] at hg ⊢
          exact hg
        · rw [List.getElem?_append_right z] at hg ⊢
          obtain ⟨m, hm⟩ : ∃ m, i - T.length = m + 2 := ⟨i - T.length - 2, by omega⟩
          rw [hm] at hg ⊢
          exact hg
      obtain ⟨b1, b2⟩ := hT i g hg'
      exact ⟨fun o ho => (h2 _ (by omega)).trans (b1 o ho), (h5 i e2 e1).trans b2⟩
theorem nq_xIns {post : SX → Prop} {J2 : Int32 → Int32 → Int32 → Int32 → Int32 → Int32 → Int32 → Int32 → (Nat → Int64) → (Nat → Int32) → (Nat → Int32) → (Nat → Int32) → (Nat → Int32) → (Nat → Int32) → (Nat → Int32) → (Nat → Int32) → (Nat → Int32) → (Nat → Int64) → (Nat → Int32) → (Nat → Int32) → (Nat → Int64) → (Nat → Int32) → (Nat → Int32) → (Nat → Int64) → (Nat → Int64) → Prop} {i N : Nat} {R : List Nat} (hi : i < N) (hN : N ≤ 216) (H : ∀ An' Ov' S, S.Pairwise (nq_l2o og) → S.Perm (List.range (i + 1)) → nq_RA nq_e ro og An' Ov' (S ++ R) → J2 (nI (i + 1)) sc od nc tp cc gc (nI N) Ce Rc St Jl Tk Tn Su Ne Ha Sk Cb Jd Va Go Fm An' Ov') : ∀ k A, A.length = k → k ≤ i → ∀ f, k < f → ∀ B An Ov, (A ++ B).Pairwise (nq_l2o og) → (A ++ B).Perm (List.range i) → (∀ b, b ∈ B → nq_kv (og i) < nq_kv (og b)) → nq_RA nq_e ro og An Ov (A ++ i :: (B ++ R)) → wX_putInOrder_12 post J2 (nI i) f (nI k) sc od nc tp cc gc (nI N) Ce Rc St Jl Tk Tn Su Ne Ha Sk Cb Jd Va Go Fm An Ov := by
  have stop : ∀ A B An Ov, (A ++ B).Pairwise (nq_l2o og) → (A ++ B).Perm (List.range i) → (∀ b, b ∈ B → nq_kv (og i) < nq_kv (og b)) → (∀ a, a ∈ A → nq_kv (og a) ≤ nq_kv (og i)) → nq_RA nq_e ro og An Ov (A ++ i :: (B ++ R)) → J2 (nI (i + 1)) sc od nc tp cc gc (nI N) Ce Rc St Jl Tk Tn Su Ne Ha Sk Cb Jd Va Go Fm An Ov := by
    intro A B An Ov hP hQ hB hA hR
    refine H An Ov (A ++ i :: B) ?_ ?_ ?_
    · rw [List.pairwise_append] at hP ⊢
      obtain ⟨p1, p2, p3⟩ := hP
      refine ⟨p1, List.pairwise_cons.mpr ⟨fun b hb => Or.inl (hB b hb), p2⟩, fun a ha b hb => ?_⟩
      rcases List.mem_cons.mp hb with e | e
      · subst e
        have la : a < b := by
          have := hQ.subset (List.mem_append_left B ha)
          rw [List.mem_range] at this
          exact this
        have := hA a ha
        unfold nq_l2o
        omega
      · exact p3 a ha b e
    · rw [List.range_succ]
      refine List.perm_middle.trans ?_
      refine (List.Perm.cons i hQ).trans ?_
      exact (List.perm_append_comm (l₁ := [i]) (l₂ := List.range i))
    · rw [List.append_assoc, List.cons_append]
      exact hR
  intro k
  induction k with
  | zero =>
    intro A hA _ f hf B An Ov hP hQ hB hR
    obtain ⟨f, rfl⟩ : ∃ g, f = g + 1 := ⟨f - 1, by omega⟩
    have eA := List.eq_nil_of_length_eq_zero hA
    subst eA
    simp only [wX_putInOrder_12, nI_0, show (0 : Int32) ≤ 0 from by decide, nI_1, forall_eq, not_true_eq_false, not_false_eq_true, true_implies, false_implies, implies_true, and_true, true_and, and_self]
    exact stop [] B An Ov hP hQ hB (fun a ha => by cases ha) hR
  | succ k ih =>
    intro A hA hki f hf B An Ov hP hQ hB hR
    obtain ⟨f, rfl⟩ : ∃ g, f = g + 1 := ⟨f - 1, by omega⟩
    obtain ⟨A', a, rfl⟩ : ∃ A' a, A = A' ++ [a] := by
      have hne : A ≠ [] := by intro e; rw [e] at hA; cases hA
      exact ⟨A.dropLast, A.getLast hne, (List.dropLast_concat_getLast hne).symm⟩
    have hA' : A'.length = k := by rw [List.length_append, List.length_singleton] at hA; omega
    have z3 : ¬ nI (k + 1) ≤ 0 := nI_nle (by omega) (by omega)
    have i1 : vp_in (nI (k + 1)) 216 := vp_in_nI (by omega) (by decide)
    have c1 : (nI (k + 1)).toNatClampNeg = k + 1 := nI_clamp (by omega)
    have i2 : vp_in (nI k) 216 := vp_in_nI (by omega) (by decide)
    have c2 : (nI k).toNatClampNeg = k := nI_clamp (by omega)
    have e2 : nI (k + 1) + (-1) = nI k := pk_m1 k
    have hR' : nq_RA nq_e ro og An Ov (A' ++ a :: i :: (B ++ R)) := by
      rw [List.append_assoc] at hR
      exact hR
    have oa : Ov k = nq_e (og a) := by
      refine (hR' k a ?_).2
      rw [← hA', List.getElem?_append_right (Nat.le_refl _), Nat.sub_self]; rfl
    have oi : Ov (k + 1) = nq_e (og i) := by
      refine (hR' (k + 1) i ?_).2
      rw [← hA', List.getElem?_append_right (by omega), show A'.length + 1 - A'.length = 1 by omega]; rfl
    simp only [wX_putInOrder_12, z3, i1, nI_pred, i2, c1, c2, oa, oi, nq_ele, nI_1, e2, forall_eq, not_true_eq_false, not_false_eq_true, true_implies, false_implies, implies_true, and_true, true_and, and_self]
    by_cases q : nq_kv (og a) ≤ nq_kv (og i)
    · refine br_t q ?_
      refine stop (A' ++ [a]) B An Ov hP hQ hB (fun a' ha' => ?_) hR
      rcases List.mem_append.mp ha' with y | y
      · rw [List.append_assoc, List.pairwise_append] at hP
        have := hP.2.2 a' y a (by simp)
        unfold nq_l2o at this
        omega
      · rw [List.mem_singleton.mp y]
        exact q
    · refine br_f q ?_
      refine nq_xSwap (by omega) (by omega) fun An' Ov' s1 s2 s3 s4 s5 => ?_
      rw [Nat.add_sub_cancel] at s1 s2 s3 s4 s5
      refine ih A' hA' (by omega) f (by omega) (a :: B) An' Ov' ?_ ?_ ?_ ?_
      · rw [List.append_assoc] at hP; exact hP
      · rw [List.append_assoc] at hQ; exact hQ
      · intro b hb
        rcases List.mem_cons.mp hb with e | e
        · subst e; omega
        · exact hB b e
      · rw [List.cons_append]
        exact nq_RA_s hR' (by rw [hA']; exact s1) (by rw [hA']; exact s2) (by rw [hA']; exact s3) (by rw [hA']; exact s4) (by rw [hA']; exact s5)
theorem nq_xOrd {post : SX → Prop} {N : Nat} (hN : N ≤ 216) (hR : nq_RA nq_e ro og An Ov (List.range N)) (H : ∀ An' Ov' P, P.Pairwise (nq_l2o og) → P.Perm (List.range N) → nq_RA nq_e ro og An' Ov' P → post (sc, od, nc, tp, cc, gc, (nI N), Ce, Rc, St, Jl, Tk, Tn, Su, Ne, Ha, Sk, Cb, Jd, Va, Go, Fm, An', Ov')) : wpX_putInOrder post (sc, od, nc, tp, cc, gc, (nI N), Ce, Rc, St, Jl, Tk, Tn, Su, Ne, Ha, Sk, Cb, Jd, Va, Go, Fm, An, Ov) := by
  have key : ∀ f i, 1 ≤ i → i ≤ N → N - i < f → ∀ S An Ov, S.Pairwise (nq_l2o og) → S.Perm (List.range i) → nq_RA nq_e ro og An Ov (S ++ List.range' i (N - i)) → wX_putInOrder_2 post f (nI i) sc od nc tp cc gc (nI N) Ce Rc St Jl Tk Tn Su Ne Ha Sk Cb Jd Va Go Fm An Ov := by
    intro f
    induction f with
    | zero => intro i _ _ h; omega
    | succ f ih =>
      intro i hi1 hi hf S An Ov hP hQ hA
      rcases Nat.lt_or_ge i N with z | z
      · have z3 : ¬ nI N ≤ nI i := nI_ge z (by omega)
        simp only [wX_putInOrder_2, z3, forall_eq, not_true_eq_false, not_false_eq_true, true_implies, false_implies, implies_true, and_true, true_and, and_self]
        have er : List.range' i (N - i) = i :: List.range' (i + 1) (N - (i + 1)) := by
          rw [show N - i = N - (i + 1) + 1 by omega, List.range'_succ]
        rw [er] at hA
        have sl : S.length = i := by rw [hQ.length_eq, List.length_range]
        refine ⟨i + 1, nq_xIns z hN (R := List.range' (i + 1) (N - (i + 1))) (fun An' Ov' S' a1 a2 a3 => ?_) i S sl (Nat.le_refl _) (i + 1) (by omega) [] An Ov (by rw [List.append_nil]; exact hP) (by rw [List.append_nil]; exact hQ) (fun b hb => by cases hb) hA⟩
        exact ih (i + 1) (by omega) (by omega) (by omega) S' An' Ov' a1 a2 a3
      · have : i = N := by omega
        subst this
        have z3 : nI i ≤ nI i := nI_le (Nat.le_refl _) (by omega)
        simp only [wX_putInOrder_2, z3, forall_eq, not_true_eq_false, not_false_eq_true, true_implies, false_implies, implies_true, and_true, true_and, and_self]
        rw [Nat.sub_self, List.range'_zero, List.append_nil] at hA
        exact H An Ov S hP hQ hA
  rcases Nat.eq_zero_or_pos N with h0 | h0
  · subst h0
    refine ⟨1, ?_⟩
    simp only [wX_putInOrder_2, show nI 0 ≤ 1 from by decide, forall_eq, not_true_eq_false, not_false_eq_true, true_implies, false_implies, implies_true, and_true, true_and, and_self]
    exact H An Ov [] List.Pairwise.nil (List.Perm.refl _) hR
  · have := key N 1 (by omega) (by omega) (by omega) [0] An Ov (List.pairwise_singleton _ _) (List.Perm.refl _) (by
      have e : [0] ++ List.range' 1 (N - 1) = List.range N := by
        rw [List.range_eq_range', show N = N - 1 + 1 by omega, List.range'_succ]
        rfl
      rw [e]
      exact hR)
    exact ⟨_, this⟩
end
