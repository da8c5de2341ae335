section
variable {sc od nc tp cc gc ac : Int32} {Ce Sk Va An Ov : Nat → Int64} {Rc St Jl Tk Tn Su Ne Ha Cb Jd Go Fm : Nat → Int32}
variable {src dis opn sbt sbr dep mny mor grs fnd kpt : Int32} {ySk yRe ySo yAn : Nat → Int64} {yRo yCe yTo yIl ySz yTk yIn yEn ySu yWc yWi yHa yCo yLo yGo yFi : Nat → Int32}
variable {n t : Nat → Nat} {p : Nat} {cv : Nat → nq_V} {h hv : Nat → Option Nat} {rw tb su : Nat → Nat} {vf : Nat → (Nat → Option Nat) → nq_V} {ka : Nat → Nat → nq_V}
/-- without a combination there is one without rows -/
def nq_c1 (C : List (Nat → Option Nat)) : List (Nat → Option Nat) := if C.length = 0 then [fun _ => none] else C
def nq_ka (vf : Nat → (Nat → Option Nat) → nq_V) (C : List (Nat → Option Nat)) (p i : Nat) : nq_V := vf p (C.getD i (fun _ => none))
theorem nq_ka_i {C : List (Nat → Option Nat)} {i : Nat} (hi : C[i]? = some h) : nq_ka vf C p i = vf p h := by
  unfold nq_ka
  rw [List.getD_eq_getElem?_getD, hi]
  rfl
def nq_VA (ka : Nat → Nat → nq_V) (m : Nat) (Va : Nat → Int64) : Prop := ∀ i, i < m → ∀ p, 3 ≤ p → p < 10 → Va ((p - 3) * 216 + i) = nq_x (if p ≤ 3 then 1 else 0) (ka p i)
theorem nq_vp {post : Int32 → Prop} {p i : Nat} (hp : 3 ≤ p) : wpX_valuePlace post (nI p) (nI i) ↔ post (nI ((p - 3) * 216 + i)) := by
  unfold wpX_valuePlace
  rw [show nI p - 3 = nI (p - 3) from pk_sub (b := 3) hp, show (216 : Int32) = nI 216 from rfl, pk_mul, nI_add]
theorem nq_xEvC1 {post : SX → Prop} {C : List (Nat → Option Nat)} (hT : nq_TT n t Tn Tk) (hW : nq_WF n t) (hF : nq_Full n t) (hRw : nq_RW rw Rc) (hTb : nq_TB tb St) (hC : nq_CA (nq_ex tb) Cb C) (hCo : nq_Cok C) (hCl : C.length ≤ 216)
    (H : ∀ tp' Ha' Sk' Va', Ha' 3 = -1 → nq_VA (nq_ka (nq_val cv rw tb n t) C) C.length Va' → post (sc, od, nc, tp', cc, gc, ac, (fun j => nq_e (cv j)), Rc, St, Jl, Tk, Tn, Su, Ne, Ha', Sk', Cb, Jd, Va', Go, Fm, An, Ov)) :
    ∀ f i, i ≤ C.length → C.length - i < f → ∀ tp Ha Sk Va, Ha 3 = -1 → nq_VA (nq_ka (nq_val cv rw tb n t) C) i Va → wX_evaluateCombinations_17 post (nI C.length) f (nI i) sc od nc tp cc gc ac (fun j => nq_e (cv j)) Rc St Jl Tk Tn Su Ne Ha Sk Cb Jd Va Go Fm An Ov := by
  intro f
  induction f with
  | zero => intro i _ h; omega
  | succ f ih =>
    intro i hi hf tp Ha Sk Va h3 hV
    rcases Nat.lt_or_ge i C.length with z | z
    · have z3 : ¬ nI C.length ≤ nI i := nI_ge z (by omega)
      simp only [wX_evaluateCombinations_17, z3, forall_eq, not_true_eq_false, not_false_eq_true, true_implies, false_implies, implies_true, and_true, true_and, and_self]
      have hg : C[i]? = some C[i] := List.getElem?_eq_getElem z
      refine nq_xTake (by omega) fun Ha' g1 g2 => ?_
      have hA' : ∀ s', s' < 3 → Ha' s' = nq_ex tb C[i] s' := fun s' hs' => (g1 s' hs').trans (hC i _ hg s' hs')
      have h3' : Ha' 3 = -1 := (g2 3 (by omega)).trans h3
      have key : ∀ f2 p, 3 ≤ p → p ≤ 10 → 10 - p < f2 → ∀ tp Sk Va, nq_VA (nq_ka (nq_val cv rw tb n t) C) i Va → (∀ q, 3 ≤ q → q < p → Va ((q - 3) * 216 + i) = nq_x (if q ≤ 3 then 1 else 0) (nq_ka (nq_val cv rw tb n t) C q i)) → wX_evaluateCombinations_29 post (wX_evaluateCombinations_17 post (nI C.length) f) (nI C.length) (nI i) f2 (nI p) sc od nc tp cc gc ac (fun j => nq_e (cv j)) Rc St Jl Tk Tn Su Ne Ha' Sk Cb Jd Va Go Fm An Ov := by
        intro f2
        induction f2 with
        | zero => intro p _ _ h; omega
        | succ f2 ih2 =>
          intro p hp1 hp2 hf2 tp Sk Va hV2 hP
          rcases Nat.lt_or_ge p 10 with y | y
          · have y3 : ¬ 10 ≤ nI p := nI_ge (b := 10) y (by decide)
            have i1 : vp_in (nI ((p - 3) * 216 + i)) 1512 := vp_in_nI (by omega) (by decide)
            have c1 : (nI ((p - 3) * 216 + i)).toNatClampNeg = (p - 3) * 216 + i := nI_clamp (by omega)
            simp only [wX_evaluateCombinations_29, y3, nq_vp hp1, forall_eq, not_true_eq_false, not_false_eq_true, true_implies, false_implies, implies_true, and_true, true_and, and_self]
            refine nq_xEv hT hW hF hRw hTb (show p < 10 by omega) (hCo _ (List.getElem_mem z)) hA' h3' fun tp' Sk' => ?_
            simp only [i1, c1, nI_1, forall_eq, not_true_eq_false, not_false_eq_true, true_implies, false_implies, implies_true, and_true, true_and, and_self]
            refine ih2 (p + 1) (by omega) (by omega) (by omega) tp' Sk' _ (fun i' hi' q hq1 hq2 => ?_) (fun q hq1 hq2 => ?_)
            · rw [pk_uLn (by omega)]
              exact hV2 i' hi' q hq1 hq2
            · by_cases e : q = p
              · rw [e, pk_uLs, nq_ka_i hg]
              · rw [pk_uLn (by omega)]
                exact hP q hq1 (by omega)
          · have : p = 10 := by omega
            subst this
            have y3 : (10 : Int32) ≤ nI 10 := by decide
            simp only [wX_evaluateCombinations_29, y3, nI_1, forall_eq, not_true_eq_false, not_false_eq_true, true_implies, false_implies, implies_true, and_true, true_and, and_self]
            refine ih (i + 1) (by omega) (by omega) tp Ha' Sk Va h3' (fun i' hi' q hq1 hq2 => ?_)
            by_cases e : i' = i
            · rw [e]
              exact hP q hq1 hq2
            · exact hV2 i' (by omega) q hq1 hq2
      exact ⟨_, key 8 3 (by omega) (by omega) (by omega) tp Sk Va hV (fun q hq1 hq2 => by omega)⟩
    · have : i = C.length := by omega
      subst this
      have z3 : nI C.length ≤ nI C.length := nI_le (Nat.le_refl _) (by omega)
      simp only [wX_evaluateCombinations_17, z3, forall_eq, not_true_eq_false, not_false_eq_true, true_implies, false_implies, implies_true, and_true, true_and, and_self]
      exact H _ _ _ _ h3 hV
theorem nq_xEvC {post : SX → Prop} {C : List (Nat → Option Nat)} (hT : nq_TT n t Tn Tk) (hW : nq_WF n t) (hF : nq_Full n t) (hRw : nq_RW rw Rc) (hTb : nq_TB tb St) (hC : nq_CA (nq_ex tb) Cb C) (hCo : nq_Cok C) (hCl : C.length ≤ 216) (h3 : Ha 3 = -1)
    (H : ∀ tp' Ha' Sk' Cb' Va', nq_VA (nq_ka (nq_val cv rw tb n t) (nq_c1 C)) (nq_c1 C).length Va' → post (sc, od, nc, tp', (nI C.length), gc, ac, (fun j => nq_e (cv j)), Rc, St, Jl, Tk, Tn, Su, Ne, Ha', Sk', Cb', Jd, Va', Go, Fm, An, Ov)) : wpX_evaluateCombinations post (sc, od, nc, tp, (nI C.length), gc, ac, (fun j => nq_e (cv j)), Rc, St, Jl, Tk, Tn, Su, Ne, Ha, Sk, Cb, Jd, Va, Go, Fm, An, Ov) := by
  unfold nq_c1 at H
  by_cases h0 : C.length = 0
  · have e0 : nI C.length = 0 := by rw [h0]; rfl
    simp only [h0, if_true] at H
    simp only [wpX_evaluateCombinations, e0, forall_eq, not_true_eq_false, not_false_eq_true, true_implies, false_implies, implies_true, and_true, true_and, and_self]
    refine nq_xEmpty fun Cb' g1 => ?_
    exact ⟨_, nq_xEvC1 (C := [fun _ => none]) hT hW hF hRw hTb (fun i g hg s hs => by
      match i, hg with
      | 0, hg =>
        cases hg
        have := g1 s hs
        rw [show 3 * 0 + s = s by omega, this]
        unfold nq_ex nq_hv
        rw [if_neg (by omega)]
        rfl) (fun g hg s _ r hr => by rw [List.mem_singleton.mp hg] at hr; cases hr) (by decide) (fun tp' Ha' Sk' Va' a b => H tp' Ha' Sk' Cb' Va' b) 2 0 (by decide) (by decide) tp Ha Sk Va h3 (fun i hi => by omega)⟩
  · have e0 : ¬ nI C.length = 0 := nI_ne0 (by omega) (by omega)
    simp only [h0, if_false] at H
    simp only [wpX_evaluateCombinations, e0, forall_eq, not_true_eq_false, not_false_eq_true, true_implies, false_implies, implies_true, and_true, true_and, and_self]
    exact ⟨_, nq_xEvC1 hT hW hF hRw hTb hC hCo hCl (fun tp' Ha' Sk' Va' a b => H tp' Ha' Sk' Cb Va' b) (C.length + 1) 0 (by omega) (by omega) tp Ha Sk Va h3 (fun i hi => by omega)⟩
/-! groups, pure -/
def nq_gl (eq : Nat → Bool) (c : Nat) : Nat → Nat → Nat
  | 0, g => g
  | f + 1, g => if eq g = true then g else nq_gl eq c f (g + 1)
theorem nq_gl_l {eq : Nat → Bool} {c : Nat} : ∀ f g, g + f = c → g ≤ nq_gl eq c f g ∧ nq_gl eq c f g ≤ c := by
  intro f
  induction f with
  | zero => intro g h; exact ⟨Nat.le_refl _, by simp only [nq_gl]; omega⟩
  | succ f ih =>
    intro g h
    simp only [nq_gl]
    split
    · exact ⟨Nat.le_refl _, by omega⟩
    · have := ih (g + 1) (by omega)
      omega
def nq_eq (ka : Nat → Nat → nq_V) (a b : Nat) : Bool := decide (ka 7 a = ka 7 b) && decide (ka 8 a = ka 8 b)
/-- groups after i combinations: how many, their first members, whose group -/
def nq_gs (gr : Bool) (ka : Nat → Nat → nq_V) : Nat → Nat × (Nat → Nat) × (Nat → Nat)
  | 0 => (0, fun _ => 0, fun _ => 0)
  | i + 1 =>
    let q := nq_gs gr ka i
    let g := if gr = true then nq_gl (fun g => nq_eq ka (q.2.1 g) i) q.1 q.1 0 else q.1
    (if g = q.1 then q.1 + 1 else q.1, if g = q.1 then nq_un q.2.1 g i else q.2.1, nq_un q.2.2 i g)
theorem nq_gsI {gr : Bool} : ∀ i, (nq_gs gr ka i).1 ≤ i ∧ (∀ g, g < (nq_gs gr ka i).1 → (nq_gs gr ka i).2.1 g < i) ∧ (∀ j, j < i → (nq_gs gr ka i).2.2 j < (nq_gs gr ka i).1) := by
  intro i
  induction i with
  | zero => exact ⟨Nat.le_refl _, fun g hg => absurd hg (Nat.not_lt_zero _), fun j hj => absurd hj (Nat.not_lt_zero _)⟩
  | succ i ih =>
    obtain ⟨h1, h2, h3⟩ := ih
    have gle : (if gr = true then nq_gl (fun g => nq_eq ka ((nq_gs gr ka i).2.1 g) i) (nq_gs gr ka i).1 (nq_gs gr ka i).1 0 else (nq_gs gr ka i).1) ≤ (nq_gs gr ka i).1 := by
      split
      · exact (nq_gl_l _ 0 (by omega)).2
      · exact Nat.le_refl _
    simp only [nq_gs]
    generalize (if gr = true then nq_gl (fun g => nq_eq ka ((nq_gs gr ka i).2.1 g) i) (nq_gs gr ka i).1 (nq_gs gr ka i).1 0 else (nq_gs gr ka i).1) = g0 at gle
    by_cases e : g0 = (nq_gs gr ka i).1
    · simp only [e, if_true]
      refine ⟨by omega, fun g hg => ?_, fun j hj => ?_⟩
      · unfold nq_un
        by_cases z : g = (nq_gs gr ka i).1
        · rw [if_pos z]; omega
        · rw [if_neg z]
          have := h2 g (by omega)
          omega
      · unfold nq_un
        by_cases z : j = i
        · rw [if_pos z]; omega
        · rw [if_neg z]
          have := h3 j (by omega)
          omega
    · simp only [e, if_false]
      refine ⟨by omega, fun g hg => ?_, fun j hj => ?_⟩
      · have := h2 g hg
        omega
      · unfold nq_un
        by_cases z : j = i
        · rw [if_pos z]; omega
        · rw [if_neg z]
          exact h3 j (by omega)
def nq_gr (n su : Nat → Nat) : Bool := decide (0 < n 3 ∨ 0 < n 7 ∨ 0 < n 8 ∨ 0 < su 0 ∨ 0 < su 1 ∨ 0 < su 2)
def nq_SU (su : Nat → Nat) (Su : Nat → Int32) : Prop := ∀ i, i < 3 → su i ≤ 5 ∧ Su i = nI (su i)
theorem nq_xHasKey {post : Int32 → Prop} (hT : nq_TT n t Tn Tk) (hW : nq_WF n t) : wpX_hasKey post (sc, od, nc, tp, cc, gc, ac, Ce, Rc, St, Jl, Tk, Tn, Su, Ne, Ha, Sk, Cb, Jd, Va, Go, Fm, An, Ov) ↔ post (nq_b (decide (0 < n 7 ∨ 0 < n 8))) := by
  have h7 := (hT 7 (by omega)).1
  have h8 := (hT 8 (by omega)).1
  have l7 := (hW 7 (by omega)).1
  have l8 := (hW 8 (by omega)).1
  simp only [wpX_hasKey, h7, h8, show (nI (n 7) < (0 : Int32)) = ((n 7) < 0) from propext (nI_ltI (b := 0) (by omega) (by decide)), show ((0 : Int32) < nI (n 7)) = (0 < (n 7)) from propext (nI_ltI (a := 0) (by decide) (by omega)), show (nI (n 7) ≤ (0 : Int32)) = ((n 7) ≤ 0) from propext (nI_leI (b := 0) (by omega) (by decide)), show ((0 : Int32) ≤ nI (n 7)) = (0 ≤ (n 7)) from propext (nI_leI (a := 0) (by decide) (by omega)), show (nI (n 7) = (0 : Int32)) = ((n 7) = 0) from propext (nI_eq (b := 0) (by omega) (by decide)), show (nI (n 8) < (0 : Int32)) = ((n 8) < 0) from propext (nI_ltI (b := 0) (by omega) (by decide)), show ((0 : Int32) < nI (n 8)) = (0 < (n 8)) from propext (nI_ltI (a := 0) (by decide) (by omega)), show (nI (n 8) ≤ (0 : Int32)) = ((n 8) ≤ 0) from propext (nI_leI (b := 0) (by omega) (by decide)), show ((0 : Int32) ≤ nI (n 8)) = (0 ≤ (n 8)) from propext (nI_leI (a := 0) (by decide) (by omega)), show (nI (n 8) = (0 : Int32)) = ((n 8) = 0) from propext (nI_eq (b := 0) (by omega) (by decide)), nq_ite post]
  refine iff_of_eq (congrArg post ?_)
  simp only [nq_b, decide_eq_true_eq]
  repeat' split
  all_goals first | rfl | (exfalso; omega)
theorem nq_xGr {post : Int32 → Prop} (hT : nq_TT n t Tn Tk) (hW : nq_WF n t) (hS : nq_SU su Su) : wpX_isGrouped post (sc, od, nc, tp, cc, gc, ac, Ce, Rc, St, Jl, Tk, Tn, Su, Ne, Ha, Sk, Cb, Jd, Va, Go, Fm, An, Ov) ↔ post (nq_b (nq_gr n su)) := by
  have h3 := (hT 3 (by omega)).1
  have l3 := (hW 3 (by omega)).1
  obtain ⟨a0, b0⟩ := hS 0 (by omega)
  obtain ⟨a1, b1⟩ := hS 1 (by omega)
  obtain ⟨a2, b2⟩ := hS 2 (by omega)
  simp only [wpX_isGrouped, wX_isGrouped_27, wX_isGrouped_32, nq_xHasKey hT hW, nq_b0, h3, b0, b1, b2, show ¬ (1 : Int32) = 0 from by decide, show (nI (n 3) < (0 : Int32)) = ((n 3) < 0) from propext (nI_ltI (b := 0) (by omega) (by decide)), show ((0 : Int32) < nI (n 3)) = (0 < (n 3)) from propext (nI_ltI (a := 0) (by decide) (by omega)), show (nI (n 3) ≤ (0 : Int32)) = ((n 3) ≤ 0) from propext (nI_leI (b := 0) (by omega) (by decide)), show ((0 : Int32) ≤ nI (n 3)) = (0 ≤ (n 3)) from propext (nI_leI (a := 0) (by decide) (by omega)), show (nI (n 3) = (0 : Int32)) = ((n 3) = 0) from propext (nI_eq (b := 0) (by omega) (by decide)), show (nI (su 0) < (0 : Int32)) = ((su 0) < 0) from propext (nI_ltI (b := 0) (by omega) (by decide)), show ((0 : Int32) < nI (su 0)) = (0 < (su 0)) from propext (nI_ltI (a := 0) (by decide) (by omega)), show (nI (su 0) ≤ (0 : Int32)) = ((su 0) ≤ 0) from propext (nI_leI (b := 0) (by omega) (by decide)), show ((0 : Int32) ≤ nI (su 0)) = (0 ≤ (su 0)) from propext (nI_leI (a := 0) (by decide) (by omega)), show (nI (su 0) = (0 : Int32)) = ((su 0) = 0) from propext (nI_eq (b := 0) (by omega) (by decide)), show (nI (su 1) < (0 : Int32)) = ((su 1) < 0) from propext (nI_ltI (b := 0) (by omega) (by decide)), show ((0 : Int32) < nI (su 1)) = (0 < (su 1)) from propext (nI_ltI (a := 0) (by decide) (by omega)), show (nI (su 1) ≤ (0 : Int32)) = ((su 1) ≤ 0) from propext (nI_leI (b := 0) (by omega) (by decide)), show ((0 : Int32) ≤ nI (su 1)) = (0 ≤ (su 1)) from propext (nI_leI (a := 0) (by decide) (by omega)), show (nI (su 1) = (0 : Int32)) = ((su 1) = 0) from propext (nI_eq (b := 0) (by omega) (by decide)), show (nI (su 2) < (0 : Int32)) = ((su 2) < 0) from propext (nI_ltI (b := 0) (by omega) (by decide)), show ((0 : Int32) < nI (su 2)) = (0 < (su 2)) from propext (nI_ltI (a := 0) (by decide) (by omega)), show (nI (su 2) ≤ (0 : Int32)) = ((su 2) ≤ 0) from propext (nI_leI (b := 0) (by omega) (by decide)), show ((0 : Int32) ≤ nI (su 2)) = (0 ≤ (su 2)) from propext (nI_leI (a := 0) (by decide) (by omega)), show (nI (su 2) = (0 : Int32)) = ((su 2) = 0) from propext (nI_eq (b := 0) (by omega) (by decide)), decide_eq_false_iff_not, nq_ite post, forall_eq, not_true_eq_false, not_false_eq_true, true_implies, false_implies, implies_true, and_true, true_and, and_self]
  refine iff_of_eq (congrArg post ?_)
  simp only [nq_b, nq_gr, decide_eq_true_eq]
  repeat' split
  all_goals first | rfl | (exfalso; omega)
theorem nq_yGr {post : Int32 → Prop} (hT : nq_TT n t ySz yTk) (hW : nq_WF n t) (hS : nq_SU su ySu) : wpY_isGrouped post (src, dis, opn, sbt, sbr, dep, mny, mor, grs, fnd, kpt, yRo, yCe, yTo, yIl, ySz, yTk, yIn, yEn, ySu, yWc, yWi, yHa, ySk, yCo, yLo, yGo, yFi, yRe, ySo, yAn) ↔ post (nq_b (nq_gr n su)) := by
  have h3 := (hT 3 (by omega)).1
  have l3 := (hW 3 (by omega)).1
  have h7 := (hT 7 (by omega)).1
  have h8 := (hT 8 (by omega)).1
  have l7 := (hW 7 (by omega)).1
  have l8 := (hW 8 (by omega)).1
  obtain ⟨a0, b0⟩ := hS 0 (by omega)
  obtain ⟨a1, b1⟩ := hS 1 (by omega)
  obtain ⟨a2, b2⟩ := hS 2 (by omega)
  simp only [wpY_isGrouped, wY_isGrouped_29, wY_isGrouped_34, h3, h7, h8, b0, b1, b2, show ¬ (1 : Int32) = 0 from by decide, show (nI (n 3) < (0 : Int32)) = ((n 3) < 0) from propext (nI_ltI (b := 0) (by omega) (by decide)), show ((0 : Int32) < nI (n 3)) = (0 < (n 3)) from propext (nI_ltI (a := 0) (by decide) (by omega)), show (nI (n 3) ≤ (0 : Int32)) = ((n 3) ≤ 0) from propext (nI_leI (b := 0) (by omega) (by decide)), show ((0 : Int32) ≤ nI (n 3)) = (0 ≤ (n 3)) from propext (nI_leI (a := 0) (by decide) (by omega)), show (nI (n 3) = (0 : Int32)) = ((n 3) = 0) from propext (nI_eq (b := 0) (by omega) (by decide)), show (nI (n 7) < (0 : Int32)) = ((n 7) < 0) from propext (nI_ltI (b := 0) (by omega) (by decide)), show ((0 : Int32) < nI (n 7)) = (0 < (n 7)) from propext (nI_ltI (a := 0) (by decide) (by omega)), show (nI (n 7) ≤ (0 : Int32)) = ((n 7) ≤ 0) from propext (nI_leI (b := 0) (by omega) (by decide)), show ((0 : Int32) ≤ nI (n 7)) = (0 ≤ (n 7)) from propext (nI_leI (a := 0) (by decide) (by omega)), show (nI (n 7) = (0 : Int32)) = ((n 7) = 0) from propext (nI_eq (b := 0) (by omega) (by decide)), show (nI (n 8) < (0 : Int32)) = ((n 8) < 0) from propext (nI_ltI (b := 0) (by omega) (by decide)), show ((0 : Int32) < nI (n 8)) = (0 < (n 8)) from propext (nI_ltI (a := 0) (by decide) (by omega)), show (nI (n 8) ≤ (0 : Int32)) = ((n 8) ≤ 0) from propext (nI_leI (b := 0) (by omega) (by decide)), show ((0 : Int32) ≤ nI (n 8)) = (0 ≤ (n 8)) from propext (nI_leI (a := 0) (by decide) (by omega)), show (nI (n 8) = (0 : Int32)) = ((n 8) = 0) from propext (nI_eq (b := 0) (by omega) (by decide)), show (nI (su 0) < (0 : Int32)) = ((su 0) < 0) from propext (nI_ltI (b := 0) (by omega) (by decide)), show ((0 : Int32) < nI (su 0)) = (0 < (su 0)) from propext (nI_ltI (a := 0) (by decide) (by omega)), show (nI (su 0) ≤ (0 : Int32)) = ((su 0) ≤ 0) from propext (nI_leI (b := 0) (by omega) (by decide)), show ((0 : Int32) ≤ nI (su 0)) = (0 ≤ (su 0)) from propext (nI_leI (a := 0) (by decide) (by omega)), show (nI (su 0) = (0 : Int32)) = ((su 0) = 0) from propext (nI_eq (b := 0) (by omega) (by decide)), show (nI (su 1) < (0 : Int32)) = ((su 1) < 0) from propext (nI_ltI (b := 0) (by omega) (by decide)), show ((0 : Int32) < nI (su 1)) = (0 < (su 1)) from propext (nI_ltI (a := 0) (by decide) (by omega)), show (nI (su 1) ≤ (0 : Int32)) = ((su 1) ≤ 0) from propext (nI_leI (b := 0) (by omega) (by decide)), show ((0 : Int32) ≤ nI (su 1)) = (0 ≤ (su 1)) from propext (nI_leI (a := 0) (by decide) (by omega)), show (nI (su 1) = (0 : Int32)) = ((su 1) = 0) from propext (nI_eq (b := 0) (by omega) (by decide)), show (nI (su 2) < (0 : Int32)) = ((su 2) < 0) from propext (nI_ltI (b := 0) (by omega) (by decide)), show ((0 : Int32) < nI (su 2)) = (0 < (su 2)) from propext (nI_ltI (a := 0) (by decide) (by omega)), show (nI (su 2) ≤ (0 : Int32)) = ((su 2) ≤ 0) from propext (nI_leI (b := 0) (by omega) (by decide)), show ((0 : Int32) ≤ nI (su 2)) = (0 ≤ (su 2)) from propext (nI_leI (a := 0) (by decide) (by omega)), show (nI (su 2) = (0 : Int32)) = ((su 2) = 0) from propext (nI_eq (b := 0) (by omega) (by decide)), nq_ite post, forall_eq, not_true_eq_false, not_false_eq_true, true_implies, false_implies, implies_true, and_true, true_and, and_self]
  refine iff_of_eq (congrArg post ?_)
  simp only [nq_b, nq_gr, decide_eq_true_eq]
  repeat' split
  all_goals first | rfl | (exfalso; omega)
end
