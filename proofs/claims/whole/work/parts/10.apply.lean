section
variable {sc od nc tp cc gc ac : Int32} {Ce Sk Va An Ov : Nat → Int64} {Rc St Jl Tk Tn Su Ne Ha Cb Jd Go Fm : Nat → Int32}
variable {src dis opn sbt sbr dep mny mor grs fnd kpt : Int32} {ySk yRe ySo yAn : Nat → Int64} {yRo yCe yTo yIl ySz yTk yIn yEn ySu yWc yWi yHa yCo yLo yGo yFi : Nat → Int32}
def nq_x (w : Nat) (v : nq_V) : Int64 := if w % 2 = 1 then nq_c v else nq_e v
def nq_y (w : Nat) (v : nq_V) : Int64 := if w % 2 = 1 then nq_d v else nq_f v
def nq_leaf (cv : Nat → nq_V) (hv : Nat → Option Nat) (t : Nat) : nq_V :=
  if t = 70 then none else if 40 < t then some (nI t - 50) else match hv (t / 10) with
    | none => none
    | some q => cv (q + t % 10)
def nq_rs (lf : Nat → nq_V) (t : Nat) (vs : List nq_V) : nq_V := if nq_ar t = 0 then lf t else nq_ap t (vs.getD 0 none) (vs.getD 1 none) (vs.getD 2 none)
def nq_hx : Option Nat → Int32
  | none => -1
  | some q => nI q
def nq_HX (Ha : Nat → Int32) (hv : Nat → Option Nat) : Prop := ∀ s, s < 4 → Ha s = nq_hx (hv s) ∧ ∀ q, hv s = some q → q + 3 ≤ 54
theorem nq_nm1 {q : Nat} (h : q < 2147483648) : ¬ nI q = -1 := fun e => nI_pos h (by rw [e]; decide)
theorem nq_xLeaf {post : Int64 → Prop} {cv : Nat → nq_V} {hv : Nat → Option Nat} {t : Nat} (hH : nq_HX Ha hv) (h70 : t ≤ 70) (hc : nq_col t = true ∨ 41 ≤ t) : wpX_leaf post (sc, od, nc, tp, cc, gc, ac, (fun j => nq_e (cv j)), Rc, St, Jl, Tk, Tn, Su, Ne, Ha, Sk, Cb, Jd, Va, Go, Fm, An, Ov) (nI t) ↔ post (nq_e (nq_leaf cv hv t)) := by
  have ht : t < 2147483648 := by omega
  by_cases h1 : t = 70
  · subst h1
    simp only [wpX_leaf, nq_leaf, show nI 70 = 70 from rfl, if_true, nq_e, forall_eq, not_true_eq_false, not_false_eq_true, true_implies, false_implies, implies_true, and_true, true_and, and_self]
  · by_cases h2 : t ≤ 40
    · have hcol : t ≤ 32 ∧ t % 10 < 3 := by
        have := hc.resolve_right (by omega)
        unfold nq_col at this
        rwa [decide_eq_true_eq] at this
      have i4 : vp_in (nI (t / 10)) 4 := vp_in_nI (by omega) (by decide)
      have c4 : (nI (t / 10)).toNatClampNeg = t / 10 := nI_clamp (by omega)
      obtain ⟨e1, e2⟩ := hH (t / 10) (by omega)
      simp only [wpX_leaf, nq_leaf, show (nI (t) < (70 : Int32)) = ((t) < 70) from propext (nI_ltI (b := 70) (ht) (by decide)), show ((70 : Int32) < nI (t)) = (70 < (t)) from propext (nI_ltI (a := 70) (by decide) (ht)), show (nI (t) ≤ (70 : Int32)) = ((t) ≤ 70) from propext (nI_leI (b := 70) (ht) (by decide)), show ((70 : Int32) ≤ nI (t)) = (70 ≤ (t)) from propext (nI_leI (a := 70) (by decide) (ht)), show (nI (t) = (70 : Int32)) = ((t) = 70) from propext (nI_eq (b := 70) (ht) (by decide)), show (nI (t) < (40 : Int32)) = ((t) < 40) from propext (nI_ltI (b := 40) (ht) (by decide)), show ((40 : Int32) < nI (t)) = (40 < (t)) from propext (nI_ltI (a := 40) (by decide) (ht)), show (nI (t) ≤ (40 : Int32)) = ((t) ≤ 40) from propext (nI_leI (b := 40) (ht) (by decide)), show ((40 : Int32) ≤ nI (t)) = (40 ≤ (t)) from propext (nI_leI (a := 40) (by decide) (ht)), show (nI (t) = (40 : Int32)) = ((t) = 40) from propext (nI_eq (b := 40) (ht) (by decide)), h1, h2, nq_tn0, nq_div ht, i4, c4, e1, if_false, show ¬ 40 < t by omega, forall_eq, not_true_eq_false, not_false_eq_true, true_implies, false_implies, implies_true, and_true, true_and, and_self]
      cases hq : hv (t / 10) with
      | none => simp only [nq_hx, nq_e, forall_eq, not_true_eq_false, not_false_eq_true, true_implies, false_implies, implies_true, and_true, true_and, and_self]
      | some q =>
        have := e2 q hq
        have i5 : vp_in (nI (q + t % 10)) 54 := vp_in_nI (by omega) (by decide)
        have c5 : (nI (q + t % 10)).toNatClampNeg = q + t % 10 := nI_clamp (by omega)
        have e3 : nI t - nI (t / 10) * 10 = nI (t % 10) := by rw [← nq_div ht]; exact nq_rem ht
        simp only [nq_hx, nq_nm1 (show q < 2147483648 by omega), e3, nI_add, i5, c5, forall_eq, not_true_eq_false, not_false_eq_true, true_implies, false_implies, implies_true, and_true, true_and, and_self]
    · simp only [wpX_leaf, nq_leaf, show (nI (t) < (70 : Int32)) = ((t) < 70) from propext (nI_ltI (b := 70) (ht) (by decide)), show ((70 : Int32) < nI (t)) = (70 < (t)) from propext (nI_ltI (a := 70) (by decide) (ht)), show (nI (t) ≤ (70 : Int32)) = ((t) ≤ 70) from propext (nI_leI (b := 70) (ht) (by decide)), show ((70 : Int32) ≤ nI (t)) = (70 ≤ (t)) from propext (nI_leI (a := 70) (by decide) (ht)), show (nI (t) = (70 : Int32)) = ((t) = 70) from propext (nI_eq (b := 70) (ht) (by decide)), show (nI (t) < (40 : Int32)) = ((t) < 40) from propext (nI_ltI (b := 40) (ht) (by decide)), show ((40 : Int32) < nI (t)) = (40 < (t)) from propext (nI_ltI (a := 40) (by decide) (ht)), show (nI (t) ≤ (40 : Int32)) = ((t) ≤ 40) from propext (nI_leI (b := 40) (ht) (by decide)), show ((40 : Int32) ≤ nI (t)) = (40 ≤ (t)) from propext (nI_leI (a := 40) (by decide) (ht)), show (nI (t) = (40 : Int32)) = ((t) = 40) from propext (nI_eq (b := 40) (ht) (by decide)), h1, h2, if_false, show 40 < t by omega, if_true, nq_e, forall_eq, not_true_eq_false, not_false_eq_true, true_implies, false_implies, implies_true, and_true, true_and, and_self]
/-! the component's stack machine -/
theorem nq_x142 {post : SX → Prop} {L M : List Int64} {x : Int64} {a : Nat} (ha : a = L.length) (hM : M.length < 20) (hL : L.length ≤ 3) (hS : nq_St Sk (L ++ M)) (H : ∀ Sk', nq_St Sk' (x :: M) → post (sc, od, nc, (nI (M.length + 1)), cc, gc, ac, Ce, Rc, St, Jl, Tk, Tn, Su, Ne, Ha, Sk', Cb, Jd, Va, Go, Fm, An, Ov)) : wX_apply_142 post (nI a) x sc od nc (nI (a + M.length)) cc gc ac Ce Rc St Jl Tk Tn Su Ne Ha Sk Cb Jd Va Go Fm An Ov := by
  have e1 : nI (a + M.length) - nI a = nI M.length := by rw [pk_sub (by omega)]; exact congrArg nI (by omega)
  have i1 : vp_in (nI M.length) 20 := vp_in_nI hM (by decide)
  have c1 : (nI M.length).toNatClampNeg = M.length := nI_clamp (by omega)
  simp only [wX_apply_142, e1, i1, c1, nI_1, forall_eq, not_true_eq_false, not_false_eq_true, true_implies, false_implies, implies_true, and_true, true_and, and_self]
  exact H _ (nq_St_pL (nq_St_a hS))
theorem nq_xe {w : Nat} {v : nq_V} : nq_x (w / 2 * 2) v = nq_e v := if_neg (by omega)
theorem nq_xe0 {w : Nat} {v : nq_V} : nq_x (0 + w / 2 * 2) v = nq_e v := if_neg (by omega)
theorem nq_xc {w : Nat} {v : nq_V} : nq_x (1 + w / 2 * 2) v = nq_c v := if_pos (by omega)
theorem nq_ye {w : Nat} {v : nq_V} : nq_y (w / 2 * 2) v = nq_f v := if_neg (by omega)
theorem nq_ye0 {w : Nat} {v : nq_V} : nq_y (0 + w / 2 * 2) v = nq_f v := if_neg (by omega)
theorem nq_yc {w : Nat} {v : nq_V} : nq_y (1 + w / 2 * 2) v = nq_d v := if_pos (by omega)
theorem nq_sub86 {t : Nat} (h : 33 ≤ t ∧ t ≤ 89) : nq_sub t = false := by
  unfold nq_sub
  rw [decide_eq_false_iff_not]
  omega
theorem nq_cases {p t w : Nat} (hf : nq_fit p t w = true) (hs : nq_sub t = false) :
    (w % 2 = 0 ∧ t ≤ 70 ∧ (nq_col t = true ∨ 41 ≤ t) ∧ nq_ar t = 0 ∧ nq_kids t w = []) ∨
    (w % 2 = 0 ∧ (t = 71 ∨ t = 72 ∨ t = 73 ∨ t = 74 ∨ t = 75) ∧ nq_ar t = 2 ∧ nq_kids t w = [0 + w / 2 * 2, 0 + w / 2 * 2]) ∨
    (w % 2 = 0 ∧ t = 76) ∨
    (w % 2 = 1 ∧ (t = 82 ∨ t = 84 ∨ t = 85) ∧ nq_ar t = 1 ∧ nq_kids t w = [(if 84 ≤ t then 1 else 0) + w / 2 * 2]) ∨
    (w % 2 = 1 ∧ (t = 80 ∨ t = 81 ∨ t = 83 ∨ t = 86 ∨ t = 87) ∧ nq_ar t = 2 ∧ nq_kids t w = [(if 84 ≤ t then 1 else 0) + w / 2 * 2, (if 84 ≤ t then 1 else 0) + w / 2 * 2]) := by
  by_cases hw : w % 2 = 1
  · have h := (nq_fitEC hf).1 hw
    unfold nq_isC at h
    rw [hs, Bool.or_false, decide_eq_true_eq] at h
    have ht : t = 80 ∨ t = 81 ∨ t = 82 ∨ t = 83 ∨ t = 84 ∨ t = 85 ∨ t = 86 ∨ t = 87 := by omega
    rcases ht with rfl | rfl | rfl | rfl | rfl | rfl | rfl | rfl <;> simp [hw, nq_kids, hs, nq_ar, List.replicate]
  · have hw0 : w % 2 = 0 := by omega
    have h := (nq_fitEC hf).2 hw
    unfold nq_isE at h
    rw [Bool.or_eq_true, decide_eq_true_eq] at h
    have hc : nq_col t = true → t ≤ 32 := fun z => by
      unfold nq_col at z
      rw [decide_eq_true_eq] at z
      exact z.1
    by_cases h70 : t ≤ 70
    · have a0 : nq_ar t = 0 := if_pos h70
      refine Or.inl ⟨hw0, h70, h.imp_right (by omega), a0, ?_⟩
      unfold nq_kids
      rw [hs, a0, if_neg (by decide), if_neg (by omega)]
      rfl
    · have ht : t = 71 ∨ t = 72 ∨ t = 73 ∨ t = 74 ∨ t = 75 ∨ t = 76 := by
        rcases h with h | h
        · have := hc h; omega
        · omega
      rcases ht with rfl | rfl | rfl | rfl | rfl | rfl <;> simp [hw0, nq_kids, hs, nq_ar, List.replicate]
theorem nq_2l {α β : Type} {f : α → β} {L : List α} {a b : β} (h : L.map f = [a, b]) : ∃ x y, L = [x, y] ∧ f x = a ∧ f y = b := by
  match L, h with
  | [x, y], h => simp at h; exact ⟨x, y, rfl, h⟩
theorem nq_1l {α β : Type} {f : α → β} {L : List α} {a : β} (h : L.map f = [a]) : ∃ x, L = [x] ∧ f x = a := by
  match L, h with
  | [x], h => simp at h; exact ⟨x, rfl, h⟩
theorem nq_3l {α β : Type} {f : α → β} {L : List α} {a b c : β} (h : L.map f = [a, b, c]) : ∃ x y z, L = [x, y, z] ∧ f x = a ∧ f y = b ∧ f z = c := by
  match L, h with
  | [x, y, z], h => simp at h; exact ⟨x, y, z, rfl, h⟩
def nq_mx (q : Nat × nq_V) : Int64 := nq_x q.1 q.2
def nq_my (q : Nat × nq_V) : Int64 := nq_y q.1 q.2
theorem nq_xApply {post : SX → Prop} {cv : Nat → nq_V} {hv : Nat → Option Nat} {p t w : Nat} {K : List (Nat × nq_V)} {M : List Int64} (hH : nq_HX Ha hv) (hf : nq_fit p t w = true) (hs : nq_sub t = false) (hK : K.map Prod.fst = nq_kids t w) (hM : K.length + M.length ≤ 20) (hM2 : M.length < 20) (hS : nq_St Sk (K.map nq_mx ++ M)) (H : ∀ Sk', nq_St Sk' (nq_x w (nq_rs (nq_leaf cv hv) t (K.map Prod.snd)) :: M) → post (sc, od, nc, (nI (M.length + 1)), cc, gc, ac, (fun j => nq_e (cv j)), Rc, St, Jl, Tk, Tn, Su, Ne, Ha, Sk', Cb, Jd, Va, Go, Fm, An, Ov)) : wpX_apply post (sc, od, nc, (nI (K.length + M.length)), cc, gc, ac, (fun j => nq_e (cv j)), Rc, St, Jl, Tk, Tn, Su, Ne, Ha, Sk, Cb, Jd, Va, Go, Fm, An, Ov) (nI t) := by
  rcases nq_cases hf hs with ⟨hw, h70, hc, a0, kk⟩ | ⟨hw, ht, a2, kk⟩ | ⟨hw, rfl⟩ | ⟨hw, ht, a1, kk⟩ | ⟨hw, ht, a2, kk⟩
  · rw [kk, List.map_eq_nil_iff] at hK
    subst hK
    have ht : t < 2147483648 := by omega
    simp only [nq_x, hw, show ¬ (0 = 1) from by decide, if_false, nq_rs, a0, if_true] at H
    have y0 : (0 : Int32) ≤ 0 := by decide
    have y1 : (0 : Int32) ≤ 1 := by decide
    have y2 : (0 : Int32) ≤ 2 := by decide
    simp only [wpX_apply, nq_xAr ht, a0, nI_0, wX_apply_26, wX_apply_49, wX_apply_73, y0, y1, y2, nq_xLeaf hH h70 hc, List.length_nil, forall_eq, not_true_eq_false, not_false_eq_true, true_implies, false_implies, implies_true, and_true, true_and, and_self]
    exact nq_x142 (L := []) (a := 0) rfl hM2 (by simp) hS H
  · rw [kk] at hK
    obtain ⟨⟨w1, a⟩, ⟨w2, b⟩, rfl, rfl, rfl⟩ := nq_2l hK
    have ht2 : t < 2147483648 := by omega
    have n76 : ¬ t = 76 := by omega
    have n80 : ¬ 80 ≤ t := by omega
    simp only [nq_x, hw, show ¬ (0 = 1) from by decide, if_false, nq_rs, a2, show ¬ (2 = 0) from by decide, List.map_cons, List.map_nil, List.getD_cons_zero, List.getD_cons_succ, List.getD_nil] at H
    simp only [List.map_cons, List.map_nil, nq_mx, nq_xe0, List.cons_append, List.nil_append] at hS
    have s1 : Sk (M.length + 1) = nq_e a := hS.1
    have s2 : Sk M.length = nq_e b := hS.2.1
    simp only [List.length_cons, List.length_nil] at hM
    have e1 : nI (2 + M.length) - 1 = nI (M.length + 1) := by rw [show (1 : Int32) = nI 1 from rfl, pk_sub (by omega)]; exact congrArg nI (by omega)
    have e2 : nI (2 + M.length) - 2 = nI M.length := by rw [show (2 : Int32) = nI 2 from rfl, pk_sub (by omega)]; exact congrArg nI (by omega)
    have i1 : vp_in (nI (M.length + 1)) 20 := vp_in_nI (by omega) (by decide)
    have i2 : vp_in (nI M.length) 20 := vp_in_nI (by omega) (by decide)
    have c1 : (nI (M.length + 1)).toNatClampNeg = M.length + 1 := nI_clamp (by omega)
    have c2 : (nI M.length).toNatClampNeg = M.length := nI_clamp (by omega)
    simp only [wpX_apply, nq_xAr ht2, a2, List.length_cons, List.length_nil, Nat.zero_add, Nat.reduceAdd, show ¬ nI 2 ≤ 0 from by decide, show ¬ nI 2 ≤ 1 from by decide, show nI 2 ≤ 2 from by decide, show ¬ nI 2 = 0 from by decide, wX_apply_26, wX_apply_49, wX_apply_73, e1, e2, i1, i2, c1, c2, s1, s2, show (nI (t) < (76 : Int32)) = ((t) < 76) from propext (nI_ltI (b := 76) (ht2) (by decide)), show ((76 : Int32) < nI (t)) = (76 < (t)) from propext (nI_ltI (a := 76) (by decide) (ht2)), show (nI (t) ≤ (76 : Int32)) = ((t) ≤ 76) from propext (nI_leI (b := 76) (ht2) (by decide)), show ((76 : Int32) ≤ nI (t)) = (76 ≤ (t)) from propext (nI_leI (a := 76) (by decide) (ht2)), show (nI (t) = (76 : Int32)) = ((t) = 76) from propext (nI_eq (b := 76) (ht2) (by decide)), show (nI (t) < (80 : Int32)) = ((t) < 80) from propext (nI_ltI (b := 80) (ht2) (by decide)), show ((80 : Int32) < nI (t)) = (80 < (t)) from propext (nI_ltI (a := 80) (by decide) (ht2)), show (nI (t) ≤ (80 : Int32)) = ((t) ≤ 80) from propext (nI_leI (b := 80) (ht2) (by decide)), show ((80 : Int32) ≤ nI (t)) = (80 ≤ (t)) from propext (nI_leI (a := 80) (by decide) (ht2)), show (nI (t) = (80 : Int32)) = ((t) = 80) from propext (nI_eq (b := 80) (ht2) (by decide)), n76, n80, nq_xNum ht, forall_eq, not_true_eq_false, not_false_eq_true, true_implies, false_implies, implies_true, and_true, true_and, and_self]
    exact nq_x142 (L := [nq_e a, nq_e b]) (a := 2) rfl hM2 (by simp) hS H
  · have kk : nq_kids 76 w = [1 + w / 2 * 2, w / 2 * 2, w / 2 * 2] := by simp [nq_kids, hs]
    rw [kk] at hK
    obtain ⟨⟨w1, a⟩, ⟨w2, b⟩, ⟨w3, c⟩, rfl, rfl, rfl, rfl⟩ := nq_3l hK
    have a3 : nq_ar 76 = 3 := rfl
    simp only [nq_x, hw, show ¬ (0 = 1) from by decide, if_false, nq_rs, a3, show ¬ (3 = 0) from by decide, List.map_cons, List.map_nil, List.getD_cons_zero, List.getD_cons_succ, List.getD_nil] at H
    simp only [List.map_cons, List.map_nil, nq_mx, nq_xe, nq_xc, List.cons_append, List.nil_append] at hS
    have s1 : Sk (M.length + 2) = nq_c a := hS.1
    have s2 : Sk (M.length + 1) = nq_e b := hS.2.1
    have s3 : Sk M.length = nq_e c := hS.2.2.1
    simp only [List.length_cons, List.length_nil] at hM
    have e1 : nI (3 + M.length) - 1 = nI (M.length + 2) := by rw [show (1 : Int32) = nI 1 from rfl, pk_sub (by omega)]; exact congrArg nI (by omega)
    have e2 : nI (3 + M.length) - 2 = nI (M.length + 1) := by rw [show (2 : Int32) = nI 2 from rfl, pk_sub (by omega)]; exact congrArg nI (by omega)
    have e3 : nI (3 + M.length) - 3 = nI M.length := by rw [show (3 : Int32) = nI 3 from rfl, pk_sub (by omega)]; exact congrArg nI (by omega)
    have i1 : vp_in (nI (M.length + 2)) 20 := vp_in_nI (by omega) (by decide)
    have i2 : vp_in (nI (M.length + 1)) 20 := vp_in_nI (by omega) (by decide)
    have i3 : vp_in (nI M.length) 20 := vp_in_nI (by omega) (by decide)
    have c1 : (nI (M.length + 2)).toNatClampNeg = M.length + 2 := nI_clamp (by omega)
    have c2 : (nI (M.length + 1)).toNatClampNeg = M.length + 1 := nI_clamp (by omega)
    have c3 : (nI M.length).toNatClampNeg = M.length := nI_clamp (by omega)
    simp only [wpX_apply, nq_xAr (show 76 < 2147483648 from by decide), a3, List.length_cons, List.length_nil, Nat.zero_add, Nat.reduceAdd, show ¬ nI 3 ≤ 0 from by decide, show ¬ nI 3 ≤ 1 from by decide, show ¬ nI 3 ≤ 2 from by decide, show ¬ nI 3 = 0 from by decide, wX_apply_26, wX_apply_49, wX_apply_73, wX_apply_110, e1, e2, e3, i1, i2, i3, c1, c2, c3, s1, s2, s3, show (nI (76) < (76 : Int32)) = ((76) < 76) from propext (nI_ltI (b := 76) (by decide) (by decide)), show ((76 : Int32) < nI (76)) = (76 < (76)) from propext (nI_ltI (a := 76) (by decide) (by decide)), show (nI (76) ≤ (76 : Int32)) = ((76) ≤ 76) from propext (nI_leI (b := 76) (by decide) (by decide)), show ((76 : Int32) ≤ nI (76)) = (76 ≤ (76)) from propext (nI_leI (a := 76) (by decide) (by decide)), show (nI (76) = (76 : Int32)) = ((76) = 76) from propext (nI_eq (b := 76) (by decide) (by decide)), nq_cT, forall_eq, not_true_eq_false, not_false_eq_true, true_implies, false_implies, implies_true, and_true, true_and, and_self]
    rcases Bool.eq_false_or_eq_true (nq_T a) with h | h
    · simp only [nq_ap, h, if_true, show ¬ (76 = 71) from by decide, show ¬ (76 = 72) from by decide, show ¬ (76 = 73) from by decide, show ¬ (76 = 74) from by decide, show ¬ (76 = 75) from by decide, if_false] at H
      simp only [h, forall_eq, not_true_eq_false, not_false_eq_true, true_implies, false_implies, implies_true, and_true, true_and, and_self]
      exact nq_x142 (L := [nq_c a, nq_e b, nq_e c]) (a := 3) rfl hM2 (by simp) hS H
    · simp only [nq_ap, h, if_true, reduceCtorEq, show ¬ (76 = 71) from by decide, show ¬ (76 = 72) from by decide, show ¬ (76 = 73) from by decide, show ¬ (76 = 74) from by decide, show ¬ (76 = 75) from by decide, if_false] at H
      simp only [h, reduceCtorEq, forall_eq, not_true_eq_false, not_false_eq_true, true_implies, false_implies, implies_true, and_true, true_and, and_self]
      exact nq_x142 (L := [nq_c a, nq_e b, nq_e c]) (a := 3) rfl hM2 (by simp) hS H
  · rw [kk] at hK
    obtain ⟨⟨w1, a⟩, rfl, rfl⟩ := nq_1l hK
    have ht2 : t < 2147483648 := by omega
    have n76 : ¬ t = 76 := by omega
    have n80 : 80 ≤ t := by omega
    have ee : nq_x ((if 84 ≤ t then 1 else 0) + w / 2 * 2) a = if 84 ≤ t then nq_c a else nq_e a := by
      by_cases h : 84 ≤ t
      · simp only [h, if_true, nq_xc]
      · simp only [h, if_false, nq_xe0]
    simp only [nq_x, hw, if_true, nq_rs, a1, show ¬ (1 = 0) from by decide, if_false, List.map_cons, List.map_nil, List.getD_cons_zero, List.getD_cons_succ, List.getD_nil] at H
    simp only [List.map_cons, List.map_nil, nq_mx, ee, List.cons_append, List.nil_append] at hS
    have s1 : Sk M.length = if 84 ≤ t then nq_c a else nq_e a := hS.1
    simp only [List.length_cons, List.length_nil] at hM
    have e1 : nI (1 + M.length) - 1 = nI M.length := by rw [show (1 : Int32) = nI 1 from rfl, pk_sub (by omega)]; exact congrArg nI (by omega)
    have i1 : vp_in (nI M.length) 20 := vp_in_nI (by omega) (by decide)
    have c1 : (nI M.length).toNatClampNeg = M.length := nI_clamp (by omega)
    simp only [wpX_apply, nq_xAr ht2, a1, List.length_cons, List.length_nil, Nat.zero_add, show ¬ nI 1 ≤ 0 from by decide, show nI 1 ≤ 1 from by decide, show nI 1 ≤ 2 from by decide, show ¬ nI 1 = 0 from by decide, wX_apply_26, wX_apply_49, wX_apply_73, e1, i1, c1, s1, show (nI (t) < (76 : Int32)) = ((t) < 76) from propext (nI_ltI (b := 76) (ht2) (by decide)), show ((76 : Int32) < nI (t)) = (76 < (t)) from propext (nI_ltI (a := 76) (by decide) (ht2)), show (nI (t) ≤ (76 : Int32)) = ((t) ≤ 76) from propext (nI_leI (b := 76) (ht2) (by decide)), show ((76 : Int32) ≤ nI (t)) = (76 ≤ (t)) from propext (nI_leI (a := 76) (by decide) (ht2)), show (nI (t) = (76 : Int32)) = ((t) = 76) from propext (nI_eq (b := 76) (ht2) (by decide)), show (nI (t) < (80 : Int32)) = ((t) < 80) from propext (nI_ltI (b := 80) (ht2) (by decide)), show ((80 : Int32) < nI (t)) = (80 < (t)) from propext (nI_ltI (a := 80) (by decide) (ht2)), show (nI (t) ≤ (80 : Int32)) = ((t) ≤ 80) from propext (nI_leI (b := 80) (ht2) (by decide)), show ((80 : Int32) ≤ nI (t)) = (80 ≤ (t)) from propext (nI_leI (a := 80) (by decide) (ht2)), show (nI (t) = (80 : Int32)) = ((t) = 80) from propext (nI_eq (b := 80) (ht2) (by decide)), n76, n80, nq_xTr1 ht, forall_eq, not_true_eq_false, not_false_eq_true, true_implies, false_implies, implies_true, and_true, true_and, and_self]
    exact nq_x142 (L := [if 84 ≤ t then nq_c a else nq_e a]) (a := 1) rfl hM2 (by simp) hS H
  · rw [kk] at hK
    obtain ⟨⟨w1, a⟩, ⟨w2, b⟩, rfl, rfl, rfl⟩ := nq_2l hK
    have ht2 : t < 2147483648 := by omega
    have n76 : ¬ t = 76 := by omega
    have n80 : 80 ≤ t := by omega
    have ee : ∀ a, nq_x ((if 84 ≤ t then 1 else 0) + w / 2 * 2) a = if 84 ≤ t then nq_c a else nq_e a := by
      intro a
      by_cases h : 84 ≤ t
      · simp only [h, if_true, nq_xc]
      · simp only [h, if_false, nq_xe0]
    simp only [nq_x, hw, if_true, nq_rs, a2, show ¬ (2 = 0) from by decide, if_false, List.map_cons, List.map_nil, List.getD_cons_zero, List.getD_cons_succ, List.getD_nil] at H
    simp only [List.map_cons, List.map_nil, nq_mx, ee, List.cons_append, List.nil_append] at hS
    have s1 : Sk (M.length + 1) = if 84 ≤ t then nq_c a else nq_e a := hS.1
    have s2 : Sk M.length = if 84 ≤ t then nq_c b else nq_e b := hS.2.1
    simp only [List.length_cons, List.length_nil] at hM
    have e1 : nI (2 + M.length) - 1 = nI (M.length + 1) := by rw [show (1 : Int32) = nI 1 from rfl, pk_sub (by omega)]; exact congrArg nI (by omega)
    have e2 : nI (2 + M.length) - 2 = nI M.length := by rw [show (2 : Int32) = nI 2 from rfl, pk_sub (by omega)]; exact congrArg nI (by omega)
    have i1 : vp_in (nI (M.length + 1)) 20 := vp_in_nI (by omega) (by decide)
    have i2 : vp_in (nI M.length) 20 := vp_in_nI (by omega) (by decide)
    have c1 : (nI (M.length + 1)).toNatClampNeg = M.length + 1 := nI_clamp (by omega)
    have c2 : (nI M.length).toNatClampNeg = M.length := nI_clamp (by omega)
    simp only [wpX_apply, nq_xAr ht2, a2, List.length_cons, List.length_nil, Nat.zero_add, Nat.reduceAdd, show ¬ nI 2 ≤ 0 from by decide, show ¬ nI 2 ≤ 1 from by decide, show nI 2 ≤ 2 from by decide, show ¬ nI 2 = 0 from by decide, wX_apply_26, wX_apply_49, wX_apply_73, e1, e2, i1, i2, c1, c2, s1, s2, show (nI (t) < (76 : Int32)) = ((t) < 76) from propext (nI_ltI (b := 76) (ht2) (by decide)), show ((76 : Int32) < nI (t)) = (76 < (t)) from propext (nI_ltI (a := 76) (by decide) (ht2)), show (nI (t) ≤ (76 : Int32)) = ((t) ≤ 76) from propext (nI_leI (b := 76) (ht2) (by decide)), show ((76 : Int32) ≤ nI (t)) = (76 ≤ (t)) from propext (nI_leI (a := 76) (by decide) (ht2)), show (nI (t) = (76 : Int32)) = ((t) = 76) from propext (nI_eq (b := 76) (ht2) (by decide)), show (nI (t) < (80 : Int32)) = ((t) < 80) from propext (nI_ltI (b := 80) (ht2) (by decide)), show ((80 : Int32) < nI (t)) = (80 < (t)) from propext (nI_ltI (a := 80) (by decide) (ht2)), show (nI (t) ≤ (80 : Int32)) = ((t) ≤ 80) from propext (nI_leI (b := 80) (ht2) (by decide)), show ((80 : Int32) ≤ nI (t)) = (80 ≤ (t)) from propext (nI_leI (a := 80) (by decide) (ht2)), show (nI (t) = (80 : Int32)) = ((t) = 80) from propext (nI_eq (b := 80) (ht2) (by decide)), n76, n80, nq_xTr2 ht, forall_eq, not_true_eq_false, not_false_eq_true, true_implies, false_implies, implies_true, and_true, true_and, and_self]
    exact nq_x142 (L := [if 84 ≤ t then nq_c a else nq_e a, if 84 ≤ t then nq_c b else nq_e b]) (a := 2) rfl hM2 (by simp) hS H
end
