section
variable {sc od nc tp cc gc ac : Int32} {Ce Sk Va An Ov : Nat → Int64} {Rc St Jl Tk Tn Su Ne Ha Cb Jd Go Fm : Nat → Int32}
variable {src dis opn sbt sbr dep mny mor grs fnd kpt : Int32} {ySk yRe ySo yAn : Nat → Int64} {yRo yCe yTo yIl ySz yTk yIn yEn ySu yWc yWi yHa yCo yLo yGo yFi : Nat → Int32}
variable {n t : Nat → Nat} {p : Nat}
def nq_Sw (A B : Nat → Int32) (L : List Nat) : Prop := nq_St A (L.map (fun w => nI (w % 2))) ∧ nq_St B (L.map (fun w => nI (w / 2)))
theorem nq_Sw_p {A B : Nat → Int32} {L : List Nat} {x : Nat} {a b : Int32} (h : nq_Sw A B L) (ha : a = nI (x % 2)) (hb : b = nI (x / 2)) : nq_Sw (upd A L.length a) (upd B L.length b) (x :: L) := by
  subst ha hb
  have h1 := nq_St_p (x := nI (x % 2)) h.1
  have h2 := nq_St_p (x := nI (x / 2)) h.2
  rw [List.length_map] at h1 h2
  exact ⟨h1, h2⟩
theorem nq_Sw_t {A B : Nat → Int32} {L : List Nat} {x : Nat} (h : nq_Sw A B (x :: L)) : A L.length = nI (x % 2) ∧ B L.length = nI (x / 2) ∧ nq_Sw A B L := by
  have h1 := h.1.1
  have h2 := h.2.1
  rw [List.length_map] at h1 h2
  exact ⟨h1, h2, h.1.2, h.2.2⟩
theorem nq_b2 : ∀ w, w < 4 → nI (w / 2) = nq_b (decide (2 ≤ w)) := by decide
theorem nq_b1 : ∀ w, w < 4 → nI (w % 2) = nq_b (decide (w % 2 = 1)) := by decide
theorem nq_arle (t : Nat) : nq_ar t ≤ 3 := by
  unfold nq_ar
  repeat' split
  all_goals omega
theorem nq_y89 {post : SY → Prop} {J33 : Int32 → Int32 → (Nat → Int32) → (Nat → Int32) → (Nat → Int32) → (Nat → Int32) → (Nat → Int32) → (Nat → Int32) → (Nat → Int32) → (Nat → Int32) → (Nat → Int32) → (Nat → Int32) → (Nat → Int32) → (Nat → Int32) → (Nat → Int64) → (Nat → Int32) → (Nat → Int32) → (Nat → Int32) → (Nat → Int32) → (Nat → Int64) → (Nat → Int64) → (Nat → Int64) → Prop} {x1 : Int32} {x t w : Nat} {r : List Nat} (hx : x < 200) (hk : yTk x = nI t) (ht : t < 153) (hw : w < 4) (hs : nq_sub t = false ∨ w < 2) (ho : nq_isE t = true ∨ nq_isC t = true) (hr : r.length + 3 ≤ 64) (H : ∀ yWc' yWi', nq_Sw yWc' yWi' (nq_kids t w ++ r) → J33 (nI (x + 1)) (nI (nq_kids t w ++ r).length) yRo yCe yTo yIl ySz yTk yIn yEn ySu yWc' yWi' yHa ySk yCo yLo yGo yFi yRe ySo yAn) : ∀ c, c ≤ nq_ar t → ∀ f, c < f → ∀ yWc yWi, nq_Sw yWc yWi ((nq_kids t w).drop c ++ r) → wY_scan_89 post J33 x1 (nI x) (nq_b (decide (2 ≤ w))) src dis sbt sbr dep mny mor grs fnd kpt f (nI c - 1) (nI ((nq_kids t w).drop c ++ r).length) yRo yCe yTo yIl ySz yTk yIn yEn ySu yWc yWi yHa ySk yCo yLo yGo yFi yRe ySo yAn := by
  have ht2 : t < 2147483648 := by omega
  have i0 : vp_in (nI x) 200 := vp_in_nI hx (by decide)
  have c0 : (nI x).toNatClampNeg = x := nI_clamp (by omega)
  have nt : ¬ (1 : Int32) = 0 := by decide
  have kY := nq_kidsY t ht w hw ⟨hs, ho⟩
  have kL := (nq_kidsL t ht w hw).1
  have a3 := nq_arle t
  intro c
  induction c with
  | zero =>
    intro _ f hf yWc yWi hS
    obtain ⟨f, rfl⟩ : ∃ g, f = g + 1 := ⟨f - 1, by omega⟩
    have e1 : nI 0 - 1 < 0 := by decide
    simp only [wY_scan_89, e1, nI_1, forall_eq, not_true_eq_false, not_false_eq_true, true_implies, false_implies, implies_true, and_true, true_and, and_self]
    rw [List.drop_zero] at hS ⊢
    exact H _ _ hS
  | succ c ih =>
    intro hc f hf yWc yWi hS
    obtain ⟨f, rfl⟩ : ∃ g, f = g + 1 := ⟨f - 1, by omega⟩
    have hcl : c < (nq_kids t w).length := by omega
    have ed : (nq_kids t w).drop c = (nq_kids t w)[c] :: (nq_kids t w).drop (c + 1) := List.drop_eq_getElem_cons hcl
    have ev : (nq_kids t w)[c] = (if nq_tc t c = true then 1 else 0) + 2 * (if 2 ≤ w ∨ (nq_sub t = true ∧ nq_tc t c = true) then 1 else 0) := by
      simp only [kY, List.getElem_map, List.getElem_range]
    generalize (nq_kids t w)[c] = y at ed ev
    have y1 : nq_b (nq_tc t c) = nI (y % 2) := by
      rw [ev]
      unfold nq_b
      repeat' split
      all_goals rfl
    have y2 : nq_b (decide (2 ≤ w ∨ (nq_sub t = true ∧ nq_tc t c = true))) = nI (y / 2) := by
      rw [ev]
      unfold nq_b
      simp only [decide_eq_true_eq]
      repeat' split
      all_goals rfl
    have dl : ((nq_kids t w).drop (c + 1) ++ r).length ≤ 2 + r.length := by
      rw [List.length_append, List.length_drop]
      omega
    have ep : nI (c + 1) - 1 = nI c := nI_pred c
    have e1 : ¬ nI c < 0 := nI_pos (by omega)
    have e2 : nI c + (-1) = nI c - 1 := by grind
    have i1 : vp_in (nI ((nq_kids t w).drop (c + 1) ++ r).length) 64 := vp_in_nI (by omega) (by decide)
    have c1 : (nI ((nq_kids t w).drop (c + 1) ++ r).length).toNatClampNeg = ((nq_kids t w).drop (c + 1) ++ r).length := nI_clamp (by omega)
    have hS2 := nq_Sw_p hS y1 y2
    have fin := ih (by omega) f (by omega) _ _ (by rw [ed]; exact hS2)
    rw [ed, List.cons_append, List.length_cons] at fin
    simp only [wY_scan_89, ep, e1, i0, c0, hk, nq_yTc ht2 (show c < 3 by omega), i1, c1, nq_bnar, nq_ySub ht2, nq_b0, wY_scan_155, wY_scan_159, wY_scan_160, nI_1, e2, decide_eq_false_iff_not, forall_eq, not_true_eq_false, not_false_eq_true, true_implies, false_implies, implies_true, and_true, true_and, and_self]
    by_cases hw2 : 2 ≤ w
    · simp only [hw2, true_or, decide_true] at fin
      simp only [hw2, forall_eq, not_true_eq_false, not_false_eq_true, true_implies, false_implies, implies_true, and_true, true_and, and_self, show vp_nar .boolean 1 = nq_b true from rfl]
      simp only [hw2, decide_true]
      exact fin
    · simp only [hw2, false_or, decide_false] at fin
      simp only [hw2, decide_false, forall_eq, not_true_eq_false, not_false_eq_true, true_implies, false_implies, implies_true, and_true, true_and, and_self]
      rcases Bool.eq_false_or_eq_true (nq_sub t) with hs1 | hs1
      · rcases Bool.eq_false_or_eq_true (nq_tc t c) with hc1 | hc1
        · simp only [hs1, hc1, and_self, decide_true] at fin
          simp only [hs1, hc1, reduceCtorEq, forall_eq, not_true_eq_false, not_false_eq_true, true_implies, false_implies, implies_true, and_true, true_and, and_self, show vp_nar .boolean 1 = nq_b true from rfl]
          exact fin
        · simp only [hs1, hc1, reduceCtorEq, and_false, decide_false] at fin
          simp only [hs1, hc1, reduceCtorEq, forall_eq, not_true_eq_false, not_false_eq_true, true_implies, false_implies, implies_true, and_true, true_and, and_self, show vp_nar .boolean 0 = nq_b false from rfl]
          exact fin
      · simp only [hs1, reduceCtorEq, false_and, decide_false] at fin
        simp only [hs1, reduceCtorEq, forall_eq, not_true_eq_false, not_false_eq_true, true_implies, false_implies, implies_true, and_true, true_and, and_self, show vp_nar .boolean 0 = nq_b false from rfl]
        exact fin
/-- the flags inside, as the scan leaves them -/
def nq_In (n t : Nat → Nat) (p : Nat) (yIn : Nat → Int32) : Prop := ∀ i, i < n p → ∀ w r, nq_ws p t i = w :: r → yIn (20 * p + i) = nI (w / 2)
theorem nq_yScan {post : SY → Prop} (hT : nq_TT n t ySz yTk) (hW : nq_WF n t) (hp : p < 10) (H : ∀ yIn' yWc' yWi', nq_Sw yWc' yWi' (nq_ws p t (n p)) → nq_In n t p yIn' → (∀ j, (j < 20 * p ∨ 20 * p + 20 ≤ j) → yIn' j = yIn j) → post (src, dis, (nI (nq_ws p t (n p)).length), sbt, sbr, dep, mny, mor, grs, fnd, kpt, yRo, yCe, yTo, yIl, ySz, yTk, yIn', yEn, ySu, yWc', yWi', yHa, ySk, yCo, yLo, yGo, yFi, yRe, ySo, yAn)) : wpY_scan post (src, dis, opn, sbt, sbr, dep, mny, mor, grs, fnd, kpt, yRo, yCe, yTo, yIl, ySz, yTk, yIn, yEn, ySu, yWc, yWi, yHa, ySk, yCo, yLo, yGo, yFi, yRe, ySo, yAn) (nI p) := by
  have cp : (nI p).toNatClampNeg = p := nI_clamp (by omega)
  have vp : vp_in (nI p) 10 := vp_in_nI hp (by decide)
  have hn := (hW p hp).1
  have e20 : 20 * nI p = nI (20 * p) := by simp only [nq_i20, pk_mul]
  have key : ∀ f i, i ≤ n p → n p - i < f → ∀ yIn' yWc yWi, nq_Sw yWc yWi (nq_ws p t i) → (∀ k, k < i → ∀ w r, nq_ws p t k = w :: r → yIn' (20 * p + k) = nI (w / 2)) → (∀ j, (j < 20 * p ∨ 20 * p + 20 ≤ j) → yIn' j = yIn j) → wY_scan_33 post (nI p) src dis sbt sbr dep mny mor grs fnd kpt f (nI (20 * p + i)) (nI (nq_ws p t i).length) yRo yCe yTo yIl ySz yTk yIn' yEn ySu yWc yWi yHa ySk yCo yLo yGo yFi yRe ySo yAn := by
    intro f
    induction f with
    | zero => intro q _ h; omega
    | succ f ih =>
      intro i hi hf yIn' yWc yWi hS hI hO
      rcases Nat.lt_or_ge i (n p) with z | z
      · have z3 : ¬ nI (20 * p + n p) ≤ nI (20 * p + i) := nI_ge (by omega) (by omega)
        obtain ⟨w, r, e1, e2, ef, w4, t153, kl, es, rl, a3⟩ := nq_wsS hW hp z
        have i0 : vp_in (nI (20 * p + i)) 200 := vp_in_nI (by omega) (by decide)
        have c0 : (nI (20 * p + i)).toNatClampNeg = 20 * p + i := nI_clamp (by omega)
        rw [e1] at hS
        obtain ⟨s1, s2, s3⟩ := nq_Sw_t hS
        have i1 : vp_in (nI r.length) 64 := vp_in_nI (by omega) (by decide)
        have c1 : (nI r.length).toNatClampNeg = r.length := nI_clamp (by omega)
        simp only [wY_scan_33, cp, vp, (hT p hp).1, e20, nI_add, z3, i0, c0, (hT p hp).2 i z, e1, List.length_cons, nI_pred, i1, c1, s2, nq_b2 w w4, nq_bnar, nq_yAr (show t (20 * p + i) < 2147483648 by omega), forall_eq, not_true_eq_false, not_false_eq_true, true_implies, false_implies, implies_true, and_true, true_and, and_self]
        have dr : ((nq_kids (t (20 * p + i)) w).drop (nq_ar (t (20 * p + i))) ++ r) = r := by rw [List.drop_of_length_le (by omega), List.nil_append]
        have s3' : nq_Sw yWc yWi ((nq_kids (t (20 * p + i)) w).drop (nq_ar (t (20 * p + i))) ++ r) := by rw [dr]; exact s3
        have gg := nq_y89 (post := post) (J33 := wY_scan_33 post (nI p) src dis sbt sbr dep mny mor grs fnd kpt f) (x1 := nI p) (x := 20 * p + i) (t := t (20 * p + i)) (w := w) (r := r) (src := src) (dis := dis) (sbt := sbt) (sbr := sbr) (dep := dep) (mny := mny) (mor := mor) (grs := grs) (fnd := fnd) (kpt := kpt) (yIn := (upd yIn' (20 * p + i) (nq_b (decide (2 ≤ w))))) (by omega) ((hT p hp).2 i z) t153 w4 es (nq_fitOr ef) (by omega) (fun yWc' yWi' hS' => by
          have := ih (i + 1) (by omega) (by omega) (upd yIn' (20 * p + i) (nq_b (decide (2 ≤ w)))) yWc' yWi' (by rw [e2]; exact hS') (by
            intro k hk w' r' e'
            by_cases ek : k = i
            · subst ek
              rw [pk_us]
              rw [e1] at e'
              cases e'
              exact (nq_b2 w w4).symm
            · rw [pk_un (by omega)]
              exact hI k (by omega) w' r' e') (by
            intro j hj
            rw [pk_un (by omega)]
            exact hO j hj)
          rw [e2] at this
          exact this) _ (Nat.le_refl _) 4 (by omega) yWc yWi s3'
        rw [dr] at gg
        exact ⟨4, gg⟩
      · have : i = n p := by omega
        subst this
        have z3 : nI (20 * p + n p) ≤ nI (20 * p + n p) := nI_le (Nat.le_refl _) (by omega)
        simp only [wY_scan_33, cp, vp, (hT p hp).1, e20, nI_add, z3, forall_eq, not_true_eq_false, not_false_eq_true, true_implies, false_implies, implies_true, and_true, true_and, and_self]
        exact H _ _ _ hS hI hO
  have i0 : vp_in 0 64 := vp_in_nI (n := 0) (by decide) (by decide)
  have c0 : (0 : Int32).toNatClampNeg = 0 := by decide
  by_cases h3 : p ≤ 3
  · have e3 : ¬ 3 < nI p := nI_nlt (a := 3) (b := p) (by omega) (by decide)
    simp only [wpY_scan, wY_scan_20, e3, e20, i0, c0, forall_eq, not_true_eq_false, not_false_eq_true, true_implies, false_implies, implies_true, and_true, true_and, and_self]
    have := key (n p + 1) 0 (by omega) (by omega) yIn (upd yWc 0 (vp_nar .boolean 1)) (upd yWi 0 (vp_nar .boolean 0)) (by
      simp only [nq_ws, h3, if_true]
      exact ⟨⟨pk_us, trivial⟩, ⟨pk_us, trivial⟩⟩) (fun k hk => by omega) (fun j _ => rfl)
    exact ⟨_, this⟩
  · have e3 : 3 < nI p := nI_lt (a := 3) (b := p) (by omega) (by omega)
    simp only [wpY_scan, wY_scan_20, e3, e20, i0, c0, forall_eq, not_true_eq_false, not_false_eq_true, true_implies, false_implies, implies_true, and_true, true_and, and_self]
    have := key (n p + 1) 0 (by omega) (by omega) yIn (upd yWc 0 (vp_nar .boolean 0)) (upd yWi 0 (vp_nar .boolean 0)) (by
      simp only [nq_ws, h3, if_false]
      exact ⟨⟨pk_us, trivial⟩, ⟨pk_us, trivial⟩⟩) (fun k hk => by omega) (fun j _ => rfl)
    exact ⟨_, this⟩
end
