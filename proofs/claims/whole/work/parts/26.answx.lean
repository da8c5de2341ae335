section
variable {sc od nc tp cc gc ac : Int32} {Ce Sk Va An Ov : Nat → Int64} {Rc St Jl Tk Tn Su Ne Ha Cb Jd Go Fm : Nat → Int32}
variable {src dis opn sbt sbr dep mny mor grs fnd kpt : Int32} {ySk yRe ySo yAn : Nat → Int64} {yRo yCe yTo yIl ySz yTk yIn yEn ySu yWc yWi yHa yCo yLo yGo yFi : Nat → Int32}
variable {n t : Nat → Nat} {p : Nat} {cv : Nat → nq_V} {h hv : Nat → Option Nat} {rw tb su : Nat → Nat} {vf : Nat → (Nat → Option Nat) → nq_V} {ka : Nat → Nat → nq_V} {F G : Nat → Nat} {v : Nat → nq_V}
/-! summaries, pure -/
def nq_mc (G : Nat → Nat) (g : Nat) : Nat → Nat
  | 0 => 0
  | i + 1 => if G i = g then nq_mc G g i + 1 else nq_mc G g i
def nq_kc (G : Nat → Nat) (v : Nat → nq_V) (g : Nat) : Nat → Nat
  | 0 => 0
  | i + 1 => if G i = g ∧ v i ≠ none then nq_kc G v g i + 1 else nq_kc G v g i
def nq_b2f (f : Int32 → Int32 → Int32) (b a : nq_V) : nq_V := match a with
  | none => b
  | some x => match b with
    | none => some x
    | some y => some (f y x)
def nq_bs (f : Int32 → Int32 → Int32) (G : Nat → Nat) (v : Nat → nq_V) (g : Nat) : Nat → nq_V
  | 0 => none
  | i + 1 => if G i = g then nq_b2f f (nq_bs f G v g i) (v i) else nq_bs f G v g i
def nq_f3 (y x : Int32) : Int32 := y + x
def nq_f4 (y x : Int32) : Int32 := if y ≤ x then y else x
def nq_f5 (y x : Int32) : Int32 := if x ≤ y then y else x
def nq_fk (k : Nat) : Int32 → Int32 → Int32 := if k = 3 then nq_f3 else if k = 4 then nq_f4 else nq_f5
theorem nq_mc_l {g : Nat} : ∀ i, nq_mc G g i ≤ i := by
  intro i
  induction i with
  | zero => exact Nat.le_refl _
  | succ i ih => simp only [nq_mc]; split <;> omega
theorem nq_kc_l {g : Nat} : ∀ i, nq_kc G v g i ≤ i := by
  intro i
  induction i with
  | zero => exact Nat.le_refl _
  | succ i ih => simp only [nq_kc]; split <;> omega
theorem nq_kc_0 {f : Int32 → Int32 → Int32} {g : Nat} : ∀ i, nq_kc G v g i = 0 ↔ nq_bs f G v g i = none := by
  intro i
  induction i with
  | zero => exact ⟨fun _ => rfl, fun _ => rfl⟩
  | succ i ih =>
    simp only [nq_kc, nq_bs]
    by_cases e : G i = g
    · cases hv : v i with
      | none => simp only [e, nq_b2f, ne_eq, not_true_eq_false, and_false, if_false, if_true]; exact ih
      | some x =>
        simp only [e, ne_eq, reduceCtorEq, not_false_eq_true, and_self, if_true, nq_b2f]
        cases nq_bs f G v g i with
        | none => exact ⟨fun h => h.elim, fun h => nomatch h⟩
        | some y => exact ⟨fun h => h.elim, fun h => nomatch h⟩
    · simp only [e, false_and, if_false]; exact ih
/-- an output of a group -/
def nq_out (n su : Nat → Nat) (ka : Nat → Nat → nq_V) (F G : Nat → Nat) (m g o : Nat) : nq_V :=
  if su o = 0 then ka (4 + o) (F g) else if su o = 1 then some (nI (nq_mc G g m)) else if n (4 + o) = 0 then none else if su o = 2 then some (nI (nq_kc G (ka (4 + o)) g m)) else nq_bs (nq_fk (su o)) G (ka (4 + o)) g m
theorem nq_xMem {post : Int32 → Prop} {m g : Nat} (hm : m ≤ 216) (hg : g < 216) (hG : ∀ j, j < m → Go j = nI (G j) ∧ G j < 216) (H : post (nI (nq_mc G g m))) : wpX_membersOf post (sc, od, nc, tp, (nI m), gc, ac, Ce, Rc, St, Jl, Tk, Tn, Su, Ne, Ha, Sk, Cb, Jd, Va, Go, Fm, An, Ov) (nI g) := by
  have key : ∀ f i, i ≤ m → m - i < f → wX_membersOf_4 post (nI g) sc od nc tp (nI m) gc ac Ce Rc St Jl Tk Tn Su Ne Ha Sk Cb Jd Va Go Fm An Ov f (nI (nq_mc G g i)) (nI i) := by
    intro f
    induction f with
    | zero => intro i _ h; omega
    | succ f ih =>
      intro i hi hf
      rcases Nat.lt_or_ge i m with z | z
      · have z3 : ¬ nI m ≤ nI i := nI_ge z (by omega)
        have ii : vp_in (nI i) 216 := vp_in_nI (by omega) (by decide)
        have ci : (nI i).toNatClampNeg = i := nI_clamp (by omega)
        obtain ⟨g1, g2⟩ := hG i z
        have nn := ih (i + 1) (by omega) (by omega)
        simp only [nq_mc] at nn
        simp only [wX_membersOf_4, z3, ii, ci, g1, show (nI (G i) = nI g) = (G i = g) from propext (nI_eq (by omega) (by omega)), nI_1, forall_eq, not_true_eq_false, not_false_eq_true, true_implies, false_implies, implies_true, and_true, true_and, and_self]
        by_cases e : G i = g
        · rw [if_pos e] at nn
          exact br_t e nn
        · rw [if_neg e] at nn
          exact br_f e nn
      · have : i = m := by omega
        subst this
        have z3 : nI i ≤ nI i := nI_le (Nat.le_refl _) (by omega)
        simp only [wX_membersOf_4, z3, forall_eq, not_true_eq_false, not_false_eq_true, true_implies, false_implies, implies_true, and_true, true_and, and_self]
        exact H
  exact ⟨_, key (m + 1) 0 (by omega) (by omega)⟩
theorem nq_xle {x y : Int32} : (nq_e (some x) ≤ nq_e (some y)) = (x ≤ y) := propext Int32.toInt64_le
theorem nq_xSum {post : Int64 → Prop} {m m1 g o k : Nat} (hV : nq_VA ka m1 Va) (hm1 : m1 ≤ 216) (hm : m ≤ m1) (hg : g < 216) (ho : o < 3) (hk : k ≤ 5) (hG : ∀ j, j < m → Go j = nI (G j) ∧ G j < 216) (H : post (nq_e (if k = 2 then some (nI (nq_kc G (ka (4 + o)) g m)) else nq_bs (nq_fk k) G (ka (4 + o)) g m))) : wpX_summaryOf post (sc, od, nc, tp, (nI m), gc, ac, Ce, Rc, St, Jl, Tk, Tn, Su, Ne, Ha, Sk, Cb, Jd, Va, Go, Fm, An, Ov) (nI g) (nI o) (nI k) := by
  have e4 : 4 + nI o = nI (4 + o) := nI_add 4 o
  have key : ∀ f i, i ≤ m → m - i < f → wX_summaryOf_19 post (nI g) (nI o) (nI k) sc od nc tp (nI m) gc ac Ce Rc St Jl Tk Tn Su Ne Ha Sk Cb Jd Va Go Fm An Ov f (nI (nq_kc G (ka (4 + o)) g i)) (nq_0 (nq_bs nq_f3 G (ka (4 + o)) g i)) (nq_e (nq_bs nq_f4 G (ka (4 + o)) g i)) (nq_e (nq_bs nq_f5 G (ka (4 + o)) g i)) (nI i) := by
    intro f
    induction f with
    | zero => intro i _ h; omega
    | succ f ih =>
      intro i hi hf
      have kl := nq_kc_l (G := G) (v := ka (4 + o)) (g := g) i
      rcases Nat.lt_or_ge i m with z | z
      · have z3 : ¬ nI m ≤ nI i := nI_ge z (by omega)
        have ii : vp_in (nI i) 216 := vp_in_nI (by omega) (by decide)
        have ci : (nI i).toNatClampNeg = i := nI_clamp (by omega)
        have ip : vp_in (nI ((4 + o - 3) * 216 + i)) 1512 := vp_in_nI (by omega) (by decide)
        have cp : (nI ((4 + o - 3) * 216 + i)).toNatClampNeg = (4 + o - 3) * 216 + i := nI_clamp (by omega)
        have vv := nq_VAe hV (show i < m1 by omega) (p := 4 + o) (by omega) (by omega)
        obtain ⟨g1, g2⟩ := hG i z
        have nn := ih (i + 1) (by omega) (by omega)
        simp only [nq_kc, nq_bs] at nn
        simp only [wX_summaryOf_19, z3, e4, nq_vp (show 3 ≤ 4 + o by omega), ii, ci, ip, cp, vv, nq_e_n, g1, show (nI (G i) = nI g) = (G i = g) from propext (nI_eq (by omega) (by omega)), nI_1, forall_eq, not_true_eq_false, not_false_eq_true, true_implies, false_implies, implies_true, and_true, true_and, and_self]
        by_cases e : G i = g
        · simp only [e, if_true, true_and] at nn
          refine br_t e ?_
          cases hq : ka (4 + o) i with
          | none =>
            simp only [hq, nq_b2f, ne_eq, not_true_eq_false, if_false] at nn
            simp only [forall_eq, not_true_eq_false, not_false_eq_true, true_implies, false_implies, implies_true, and_true, true_and, and_self]
            exact nn
          | some x =>
            simp only [hq, ne_eq, reduceCtorEq, not_false_eq_true, if_true, nq_b2f] at nn
            simp only [reduceCtorEq, forall_eq, not_true_eq_false, not_false_eq_true, true_implies, false_implies, implies_true, and_true, true_and, and_self]
            by_cases k0 : nq_kc G (ka (4 + o)) g i = 0
            · have b3 := (nq_kc_0 (f := nq_f3) (G := G) (v := ka (4 + o)) (g := g) i).mp k0
              have b4 := (nq_kc_0 (f := nq_f4) (G := G) (v := ka (4 + o)) (g := g) i).mp k0
              have b5 := (nq_kc_0 (f := nq_f5) (G := G) (v := ka (4 + o)) (g := g) i).mp k0
              simp only [k0, b3, b4, b5] at nn
              simp only [k0, b3, b4, b5, nI_0, wX_summaryOf_80, wX_summaryOf_87, wX_summaryOf_102, wX_summaryOf_109, nI_1, nq_e_s, nq_0, Int32.zero_add, forall_eq, not_true_eq_false, not_false_eq_true, true_implies, false_implies, implies_true, and_true, true_and, and_self]
              exact nn
            · have kn : ¬ nI (nq_kc G (ka (4 + o)) g i) = 0 := nI_ne0 (by omega) (by omega)
              have b3 : nq_bs nq_f3 G (ka (4 + o)) g i ≠ none := fun z => k0 ((nq_kc_0 i).mpr z)
              have b4 : nq_bs nq_f4 G (ka (4 + o)) g i ≠ none := fun z => k0 ((nq_kc_0 i).mpr z)
              have b5 : nq_bs nq_f5 G (ka (4 + o)) g i ≠ none := fun z => k0 ((nq_kc_0 i).mpr z)
              obtain ⟨y3, hy3⟩ := Option.ne_none_iff_exists'.mp b3
              obtain ⟨y4, hy4⟩ := Option.ne_none_iff_exists'.mp b4
              obtain ⟨y5, hy5⟩ := Option.ne_none_iff_exists'.mp b5
              simp only [hy3, hy4, hy5, nq_0, nq_f3, nq_f4, nq_f5] at nn
              simp only [kn, hy3, hy4, hy5, wX_summaryOf_80, wX_summaryOf_87, wX_summaryOf_102, wX_summaryOf_109, nI_1, nq_e_s, nq_0, nq_xle, forall_eq, not_true_eq_false, not_false_eq_true, true_implies, false_implies, implies_true, and_true, true_and, and_self]
              by_cases q4 : y4 ≤ x
              · rw [if_pos q4] at nn
                refine br_t q4 ?_
                by_cases q5 : x ≤ y5
                · rw [if_pos q5] at nn
                  exact br_t q5 nn
                · rw [if_neg q5] at nn
                  exact br_f q5 nn
              · rw [if_neg q4] at nn
                refine br_f q4 ?_
                by_cases q5 : x ≤ y5
                · rw [if_pos q5] at nn
                  exact br_t q5 nn
                · rw [if_neg q5] at nn
                  exact br_f q5 nn
        · simp only [e, if_false, false_and] at nn
          exact br_f e nn
      · have : i = m := by omega
        subst this
        have z3 : nI i ≤ nI i := nI_le (Nat.le_refl _) (by omega)
        simp only [wX_summaryOf_19, z3, show (nI (k) < (2 : Int32)) = ((k) < 2) from propext (nI_ltI (b := 2) (by omega) (by decide)), show ((2 : Int32) < nI (k)) = (2 < (k)) from propext (nI_ltI (a := 2) (by decide) (by omega)), show (nI (k) ≤ (2 : Int32)) = ((k) ≤ 2) from propext (nI_leI (b := 2) (by omega) (by decide)), show ((2 : Int32) ≤ nI (k)) = (2 ≤ (k)) from propext (nI_leI (a := 2) (by decide) (by omega)), show (nI (k) = (2 : Int32)) = ((k) = 2) from propext (nI_eq (b := 2) (by omega) (by decide)), show (nI (k) < (3 : Int32)) = ((k) < 3) from propext (nI_ltI (b := 3) (by omega) (by decide)), show ((3 : Int32) < nI (k)) = (3 < (k)) from propext (nI_ltI (a := 3) (by decide) (by omega)), show (nI (k) ≤ (3 : Int32)) = ((k) ≤ 3) from propext (nI_leI (b := 3) (by omega) (by decide)), show ((3 : Int32) ≤ nI (k)) = (3 ≤ (k)) from propext (nI_leI (a := 3) (by decide) (by omega)), show (nI (k) = (3 : Int32)) = ((k) = 3) from propext (nI_eq (b := 3) (by omega) (by decide)), show (nI (k) < (4 : Int32)) = ((k) < 4) from propext (nI_ltI (b := 4) (by omega) (by decide)), show ((4 : Int32) < nI (k)) = (4 < (k)) from propext (nI_ltI (a := 4) (by decide) (by omega)), show (nI (k) ≤ (4 : Int32)) = ((k) ≤ 4) from propext (nI_leI (b := 4) (by omega) (by decide)), show ((4 : Int32) ≤ nI (k)) = (4 ≤ (k)) from propext (nI_leI (a := 4) (by decide) (by omega)), show (nI (k) = (4 : Int32)) = ((k) = 4) from propext (nI_eq (b := 4) (by omega) (by decide)), show (nI (nq_kc G (ka (4 + o)) g i) < (0 : Int32)) = ((nq_kc G (ka (4 + o)) g i) < 0) from propext (nI_ltI (b := 0) (by omega) (by decide)), show ((0 : Int32) < nI (nq_kc G (ka (4 + o)) g i)) = (0 < (nq_kc G (ka (4 + o)) g i)) from propext (nI_ltI (a := 0) (by decide) (by omega)), show (nI (nq_kc G (ka (4 + o)) g i) ≤ (0 : Int32)) = ((nq_kc G (ka (4 + o)) g i) ≤ 0) from propext (nI_leI (b := 0) (by omega) (by decide)), show ((0 : Int32) ≤ nI (nq_kc G (ka (4 + o)) g i)) = (0 ≤ (nq_kc G (ka (4 + o)) g i)) from propext (nI_leI (a := 0) (by decide) (by omega)), show (nI (nq_kc G (ka (4 + o)) g i) = (0 : Int32)) = ((nq_kc G (ka (4 + o)) g i) = 0) from propext (nI_eq (b := 0) (by omega) (by decide)), forall_eq, not_true_eq_false, not_false_eq_true, true_implies, false_implies, implies_true, and_true, true_and, and_self]
        by_cases k2 : k = 2
        · rw [if_pos k2] at H
          exact br_t k2 H
        · rw [if_neg k2] at H
          refine br_f k2 ?_
          by_cases k0 : nq_kc G (ka (4 + o)) g i = 0
          · have bb := (nq_kc_0 (f := nq_fk k) (G := G) (v := ka (4 + o)) (g := g) i).mp k0
            rw [bb] at H
            exact br_t k0 H
          · refine br_f k0 ?_
            unfold nq_fk at H
            by_cases k3 : k = 3
            · rw [if_pos k3] at H
              refine br_t k3 ?_
              have b3 : nq_bs nq_f3 G (ka (4 + o)) g i ≠ none := fun z => k0 ((nq_kc_0 i).mpr z)
              obtain ⟨y3, hy3⟩ := Option.ne_none_iff_exists'.mp b3
              rw [hy3] at H ⊢
              exact H
            · rw [if_neg k3] at H
              refine br_f k3 ?_
              by_cases k4 : k = 4
              · rw [if_pos k4] at H
                exact br_t k4 H
              · rw [if_neg k4] at H
                exact br_f k4 H
  exact ⟨_, key (m + 1) 0 (by omega) (by omega)⟩
theorem nq_xOut {post : Int64 → Prop} {m m1 gN g o : Nat} (hT : nq_TT n t Tn Tk) (hW : nq_WF n t) (hS : nq_SU su Su) (hV : nq_VA ka m1 Va) (hm1 : m1 ≤ 216) (hm : m ≤ m1) (hgN : gN ≤ 216) (hg : g < gN) (ho : o < 3) (hF : ∀ g, g < gN → Fm g = nI (F g) ∧ F g < m1) (hG : ∀ j, j < m → Go j = nI (G j) ∧ G j < 216) (H : post (nq_e (nq_out n su ka F G m g o))) : wpX_outputOf post (sc, od, nc, tp, (nI m), gc, ac, Ce, Rc, St, Jl, Tk, Tn, Su, Ne, Ha, Sk, Cb, Jd, Va, Go, Fm, An, Ov) (nI g) (nI o) := by
  obtain ⟨s1, s2⟩ := hS o ho
  obtain ⟨f1, f2⟩ := hF g hg
  have io : vp_in (nI o) 3 := vp_in_nI ho (by decide)
  have co : (nI o).toNatClampNeg = o := nI_clamp (by omega)
  have ig : vp_in (nI g) 216 := vp_in_nI (by omega) (by decide)
  have cg : (nI g).toNatClampNeg = g := nI_clamp (by omega)
  have e4 : 4 + nI o = nI (4 + o) := nI_add 4 o
  have i4 : vp_in (nI (4 + o)) 10 := vp_in_nI (by omega) (by decide)
  have c4 : (nI (4 + o)).toNatClampNeg = 4 + o := nI_clamp (by omega)
  have ip : vp_in (nI ((4 + o - 3) * 216 + F g)) 1512 := vp_in_nI (by omega) (by decide)
  have cp : (nI ((4 + o - 3) * 216 + F g)).toNatClampNeg = (4 + o - 3) * 216 + F g := nI_clamp (by omega)
  have vv := nq_VAe hV f2 (p := 4 + o) (by omega) (by omega)
  have hn := (hT (4 + o) (by omega)).1
  have ln := (hW (4 + o) (by omega)).1
  unfold nq_out at H
  simp only [wpX_outputOf, io, co, s2, e4, i4, c4, ig, cg, f1, nq_vp (show 3 ≤ 4 + o by omega), ip, cp, vv, hn, show (nI (su o) < (0 : Int32)) = ((su o) < 0) from propext (nI_ltI (b := 0) (by omega) (by decide)), show ((0 : Int32) < nI (su o)) = (0 < (su o)) from propext (nI_ltI (a := 0) (by decide) (by omega)), show (nI (su o) ≤ (0 : Int32)) = ((su o) ≤ 0) from propext (nI_leI (b := 0) (by omega) (by decide)), show ((0 : Int32) ≤ nI (su o)) = (0 ≤ (su o)) from propext (nI_leI (a := 0) (by decide) (by omega)), show (nI (su o) = (0 : Int32)) = ((su o) = 0) from propext (nI_eq (b := 0) (by omega) (by decide)), show (nI (su o) < (1 : Int32)) = ((su o) < 1) from propext (nI_ltI (b := 1) (by omega) (by decide)), show ((1 : Int32) < nI (su o)) = (1 < (su o)) from propext (nI_ltI (a := 1) (by decide) (by omega)), show (nI (su o) ≤ (1 : Int32)) = ((su o) ≤ 1) from propext (nI_leI (b := 1) (by omega) (by decide)), show ((1 : Int32) ≤ nI (su o)) = (1 ≤ (su o)) from propext (nI_leI (a := 1) (by decide) (by omega)), show (nI (su o) = (1 : Int32)) = ((su o) = 1) from propext (nI_eq (b := 1) (by omega) (by decide)), show (nI (n (4 + o)) < (0 : Int32)) = ((n (4 + o)) < 0) from propext (nI_ltI (b := 0) (by omega) (by decide)), show ((0 : Int32) < nI (n (4 + o))) = (0 < (n (4 + o))) from propext (nI_ltI (a := 0) (by decide) (by omega)), show (nI (n (4 + o)) ≤ (0 : Int32)) = ((n (4 + o)) ≤ 0) from propext (nI_leI (b := 0) (by omega) (by decide)), show ((0 : Int32) ≤ nI (n (4 + o))) = (0 ≤ (n (4 + o))) from propext (nI_leI (a := 0) (by decide) (by omega)), show (nI (n (4 + o)) = (0 : Int32)) = ((n (4 + o)) = 0) from propext (nI_eq (b := 0) (by omega) (by decide)), forall_eq, not_true_eq_false, not_false_eq_true, true_implies, false_implies, implies_true, and_true, true_and, and_self]
  by_cases k0 : su o = 0
  · rw [if_pos k0] at H
    exact br_t k0 H
  · rw [if_neg k0] at H
    refine br_f k0 ?_
    by_cases k1 : su o = 1
    · rw [if_pos k1] at H
      exact br_t k1 (nq_xMem (by omega) (by omega) hG H)
    · rw [if_neg k1] at H
      refine br_f k1 ?_
      by_cases kn : n (4 + o) = 0
      · rw [if_pos kn] at H
        exact br_t kn H
      · rw [if_neg kn] at H
        exact br_f kn (nq_xSum hV hm1 hm (by omega) ho s1 hG H)
end
