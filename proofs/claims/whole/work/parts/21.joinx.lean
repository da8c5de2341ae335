section
variable {sc od nc tp cc gc ac : Int32} {Ce Sk Va An Ov : Nat → Int64} {Rc St Jl Tk Tn Su Ne Ha Cb Jd Go Fm : Nat → Int32}
variable {src dis opn sbt sbr dep mny mor grs fnd kpt : Int32} {ySk yRe ySo yAn : Nat → Int64} {yRo yCe yTo yIl ySz yTk yIn yEn ySu yWc yWi yHa yCo yLo yGo yFi : Nat → Int32}
variable {n t : Nat → Nat} {p : Nat} {cv : Nat → nq_V} {h hv : Nat → Option Nat} {rw tb : Nat → Nat}
def nq_hv (tb : Nat → Nat) (h : Nat → Option Nat) : Nat → Option Nat := fun s => if s = 3 then none else (h s).map (fun r => 18 * tb s + 3 * r)
def nq_Hok (h : Nat → Option Nat) : Prop := ∀ s, s < 3 → ∀ r, h s = some r → r < 6
def nq_ex (tb : Nat → Nat) (h : Nat → Option Nat) (s : Nat) : Int32 := nq_hx (nq_hv tb h s)
def nq_ey (h : Nat → Option Nat) (s : Nat) : Int32 := nq_hx (h s)
/-- combinations in an array -/
def nq_CA (enc : (Nat → Option Nat) → Nat → Int32) (A : Nat → Int32) (C : List (Nat → Option Nat)) : Prop := ∀ i h, C[i]? = some h → ∀ s, s < 3 → A (3 * i + s) = enc h s
def nq_Cok (C : List (Nat → Option Nat)) : Prop := ∀ h, h ∈ C → nq_Hok h
def nq_TB (tb : Nat → Nat) (St : Nat → Int32) : Prop := ∀ s, s < 3 → tb s < 3 ∧ St s = nI (tb s)
def nq_RW (rw : Nat → Nat) (Rc : Nat → Int32) : Prop := ∀ i, i < 3 → rw i ≤ 6 ∧ Rc i = nI (rw i)
def nq_Full (n t : Nat → Nat) : Prop := ∀ p, p < 10 → 0 < n p → nq_ws p t (n p) = []
/-- a part's value at a combination -/
def nq_val (cv : Nat → nq_V) (rw tb n t : Nat → Nat) (p : Nat) (h : Nat → Option Nat) : nq_V := nq_pv cv rw n t p (nq_hv tb h)
theorem nq_HXof (hTb : nq_TB tb St) (hok : nq_Hok h) (hA : ∀ s, s < 3 → Ha s = nq_ex tb h s) (h3 : Ha 3 = -1) : nq_HX Ha (nq_hv tb h) := by
  intro s hs
  by_cases e : s = 3
  · subst e
    refine ⟨by rw [h3]; rfl, fun q hq => ?_⟩
    have : nq_hv tb h 3 = none := rfl
    rw [this] at hq
    cases hq
  · refine ⟨hA s (by omega), fun q hq => ?_⟩
    unfold nq_hv at hq
    rw [if_neg e] at hq
    cases hh : h s with
    | none => rw [hh] at hq; cases hq
    | some r =>
      rw [hh] at hq
      have hq2 : 18 * tb s + 3 * r = q := Option.some.inj hq
      have := hok s (by omega) r hh
      have := (hTb s (by omega)).1
      omega
theorem nq_HYof (hTb : nq_TB tb yTo) (hok : nq_Hok h) (hA : ∀ s, s < 3 → yHa s = nq_ey h s) : nq_HY yHa yTo tb h (nq_hv tb h) := by
  intro s hs
  refine ⟨hA s hs, (hTb s hs).2, (hTb s hs).1, hok s hs, ?_⟩
  unfold nq_hv
  rw [if_neg (by omega)]
def nq_hs (h : Nat → Option Nat) (s : Nat) (o : Option Nat) : Nat → Option Nat := fun s' => if s' = s then o else h s'
theorem nq_hs_ok {s : Nat} {o : Option Nat} (hok : nq_Hok h) (ho : ∀ r, o = some r → r < 6) : nq_Hok (nq_hs h s o) := by
  intro s' hs' r hr
  unfold nq_hs at hr
  by_cases e : s' = s
  · rw [if_pos e] at hr
    exact ho r hr
  · rw [if_neg e] at hr
    exact hok s' hs' r hr
theorem nq_ex_s {s r : Nat} (hs : s < 3) : nq_ex tb (nq_hs h s (some r)) s = nI (18 * tb s + 3 * r) := by
  unfold nq_ex nq_hv nq_hs
  rw [if_neg (by omega)]
  simp only [if_true, Option.map_some, nq_hx]
theorem nq_ex_n {s : Nat} (hs : s < 3) : nq_ex tb (nq_hs h s none) s = -1 := by
  unfold nq_ex nq_hv nq_hs
  rw [if_neg (by omega)]
  simp only [if_true, Option.map_none, nq_hx]
theorem nq_ex_o {s s' : Nat} {o : Option Nat} (hs : s' ≠ s) : nq_ex tb (nq_hs h s o) s' = nq_ex tb h s' := by
  unfold nq_ex nq_hv nq_hs
  simp only [if_neg hs]
/-- the rows 0 .. r - 1 of a source joined to h -/
def nq_jr (ok : (Nat → Option Nat) → Bool) (s : Nat) (h : Nat → Option Nat) : Nat → List (Nat → Option Nat)
  | 0 => []
  | r + 1 => nq_jr ok s h r ++ (if ok (nq_hs h s (some r)) = true then [nq_hs h s (some r)] else [])
def nq_jo (ok : (Nat → Option Nat) → Bool) (s : Nat) (left : Bool) (R : Nat) (h : Nat → Option Nat) : List (Nat → Option Nat) :=
  if ((nq_jr ok s h R).length = 0 ∧ left = true) then [nq_hs h s none] else nq_jr ok s h R
def nq_jn (ok : (Nat → Option Nat) → Bool) (s : Nat) (left : Bool) (R : Nat) (C : List (Nat → Option Nat)) : List (Nat → Option Nat) := C.flatMap (nq_jo ok s left R)
theorem nq_jr_l {ok : (Nat → Option Nat) → Bool} {s : Nat} : ∀ r, (nq_jr ok s h r).length ≤ r := by
  intro r
  induction r with
  | zero => exact Nat.le_refl _
  | succ r ih =>
    simp only [nq_jr, List.length_append]
    split
    · rw [List.length_singleton]; omega
    · rw [List.length_nil]; omega
theorem nq_jo_l {ok : (Nat → Option Nat) → Bool} {s R : Nat} {left : Bool} (hR : R ≤ 6) : (nq_jo ok s left R h).length ≤ 6 := by
  unfold nq_jo
  split
  · rw [List.length_singleton]; omega
  · have := nq_jr_l (ok := ok) (s := s) (h := h) R
    omega
theorem nq_jn_l {ok : (Nat → Option Nat) → Bool} {s R : Nat} {left : Bool} (hR : R ≤ 6) : ∀ C, (nq_jn ok s left R C).length ≤ 6 * C.length := by
  intro C
  induction C with
  | nil => exact Nat.le_refl _
  | cons h C ih =>
    unfold nq_jn at ih ⊢
    rw [List.flatMap_cons, List.length_append, List.length_cons]
    have := nq_jo_l (ok := ok) (s := s) (left := left) (h := h) hR
    omega
theorem nq_jr_ok {ok : (Nat → Option Nat) → Bool} {s : Nat} (hok : nq_Hok h) : ∀ r, r ≤ 6 → nq_Cok (nq_jr ok s h r) := by
  intro r
  induction r with
  | zero => intro _ g hg; cases hg
  | succ r ih =>
    intro hr g hg
    simp only [nq_jr] at hg
    rcases List.mem_append.mp hg with z | z
    · exact ih (by omega) g z
    · split at z
      · rw [List.mem_singleton] at z
        rw [z]
        exact nq_hs_ok hok (fun q hq => by cases hq; omega)
      · cases z
theorem nq_jn_ok {ok : (Nat → Option Nat) → Bool} {s R : Nat} {left : Bool} {C : List (Nat → Option Nat)} (hR : R ≤ 6) (hC : nq_Cok C) : nq_Cok (nq_jn ok s left R C) := by
  intro g hg
  unfold nq_jn at hg
  rw [List.mem_flatMap] at hg
  obtain ⟨h, h1, h2⟩ := hg
  unfold nq_jo at h2
  split at h2
  · rw [List.mem_singleton] at h2
    rw [h2]
    exact nq_hs_ok (hC h h1) (fun q hq => by cases hq)
  · exact nq_jr_ok (hC h h1) R hR g h2
theorem nq_CA_a {enc : (Nat → Option Nat) → Nat → Int32} {A A' : Nat → Int32} {D : List (Nat → Option Nat)} (hD : nq_CA enc A D) (h1 : ∀ s, s < 3 → A' (3 * D.length + s) = enc h s) (h2 : ∀ j, j < 3 * D.length → A' j = A j) : nq_CA enc A' (D ++ [h]) := by
  intro i g hg s hs
  rcases Nat.lt_trichotomy i D.length with z | z | z
  · rw [List.getElem?_append_left z] at hg
    rw [h2 _ (by omega)]
    exact hD i g hg s hs
  · subst z
    rw [List.getElem?_append_right (Nat.le_refl _), Nat.sub_self] at hg
    cases hg
    exact h1 s hs
  · rw [List.getElem?_append_right (by omega)] at hg
    obtain ⟨k, hk⟩ : ∃ k, i - D.length = k + 1 := ⟨i - D.length - 1, by omega⟩
    rw [hk] at hg
    cases hg
theorem nq_xEv {post : Int64 → SX → Prop} (hT : nq_TT n t Tn Tk) (hW : nq_WF n t) (hF : nq_Full n t) (hRw : nq_RW rw Rc) (hTb : nq_TB tb St) (hp : p < 10) (hok : nq_Hok h) (hA : ∀ s, s < 3 → Ha s = nq_ex tb h s) (h3 : Ha 3 = -1) (H : ∀ tp' Sk', post (nq_x (if p ≤ 3 then 1 else 0) (nq_val cv rw tb n t p h)) (sc, od, nc, tp', cc, gc, ac, (fun j => nq_e (cv j)), Rc, St, Jl, Tk, Tn, Su, Ne, Ha, Sk', Cb, Jd, Va, Go, Fm, An, Ov)) : wpX_evaluate post (sc, od, nc, tp, cc, gc, ac, (fun j => nq_e (cv j)), Rc, St, Jl, Tk, Tn, Su, Ne, Ha, Sk, Cb, Jd, Va, Go, Fm, An, Ov) (nI p) :=
  nq_xEval hT hW hp (hF p hp) (nq_HXof hTb hok hA h3) h3 hRw H
theorem nq_x33 {post : SX → Prop} {J12 : Int32 → Int32 → Int32 → Int32 → Int32 → Int32 → Int32 → Int32 → Int32 → (Nat → Int64) → (Nat → Int32) → (Nat → Int32) → (Nat → Int32) → (Nat → Int32) → (Nat → Int32) → (Nat → Int32) → (Nat → Int32) → (Nat → Int32) → (Nat → Int64) → (Nat → Int32) → (Nat → Int32) → (Nat → Int64) → (Nat → Int32) → (Nat → Int32) → (Nat → Int64) → (Nat → Int64) → Prop} {s i : Nat} {ok : (Nat → Option Nat) → Bool} {left : Bool} {D : List (Nat → Option Nat)} (hT : nq_TT n t Tn Tk) (hW : nq_WF n t) (hF : nq_Full n t) (hRw : nq_RW rw Rc) (hTb : nq_TB tb St) (hs : s < 3) (hok : nq_Hok h) (hD : D.length ≤ 210)
    (ok0 : s = 0 → ∀ g, ok g = true) (ok1 : s ≠ 0 → ∀ g, ok g = nq_T (nq_val cv rw tb n t s g)) (lf0 : s = 0 → left = false) (lf1 : s ≠ 0 → left = decide (Jl s ≠ 0))
    (H : ∀ tp' Ha' Sk' Jd', Ha' 3 = -1 → nq_CA (nq_ex tb) Jd' (D ++ nq_jo ok s left (rw (tb s)) h) → J12 (nI (D ++ nq_jo ok s left (rw (tb s)) h).length) (nI (i + 1)) sc od nc tp' cc gc ac (fun j => nq_e (cv j)) Rc St Jl Tk Tn Su Ne Ha' Sk' Cb Jd' Va Go Fm An Ov) :
    ∀ f r, r ≤ rw (tb s) → rw (tb s) - r < f → ∀ tp Ha Sk Jd, (∀ s', s' < 3 → s' ≠ s → Ha s' = nq_ex tb h s') → Ha 3 = -1 → nq_CA (nq_ex tb) Jd (D ++ nq_jr ok s h r) → wX_join_33 post J12 (nI s) (nI (tb s)) (nI i) (nI D.length) f (nI (D ++ nq_jr ok s h r).length) (nI r) sc od nc tp cc gc ac (fun j => nq_e (cv j)) Rc St Jl Tk Tn Su Ne Ha Sk Cb Jd Va Go Fm An Ov := by
  obtain ⟨tb3, hSt⟩ := hTb s hs
  obtain ⟨r6, hr⟩ := hRw (tb s) tb3
  have it : vp_in (nI (tb s)) 3 := vp_in_nI tb3 (by decide)
  have ct : (nI (tb s)).toNatClampNeg = tb s := nI_clamp (by omega)
  have is3 : vp_in (nI s) 3 := vp_in_nI hs (by decide)
  have is4 : vp_in (nI s) 4 := vp_in_nI (by omega) (by decide)
  have cs : (nI s).toNatClampNeg = s := nI_clamp (by omega)
  intro f
  induction f with
  | zero => intro r _ h; omega
  | succ f ih =>
    intro r hr1 hf tp Ha Sk Jd hA h3 hC
    have jl := nq_jr_l (ok := ok) (s := s) (h := h) r
    rcases Nat.lt_or_ge r (rw (tb s)) with z | z
    · have z3 : ¬ nI (rw (tb s)) ≤ nI r := nI_ge z (by omega)
      have e1 : (nI (tb s) * 6 + nI r) * 3 = nI (18 * tb s + 3 * r) := by
        simp only [nq_i6, nq_i3, pk_mul, nI_add]
        exact congrArg nI (by omega)
      have hA' : ∀ s', s' < 3 → upd Ha s (nI (18 * tb s + 3 * r)) s' = nq_ex tb (nq_hs h s (some r)) s' := by
        intro s' hs'
        by_cases e : s' = s
        · rw [e, pk_us, nq_ex_s hs]
        · rw [pk_un e, nq_ex_o e]
          exact hA s' hs' e
      have h3' : upd Ha s (nI (18 * tb s + 3 * r)) 3 = -1 := by rw [pk_un (by omega)]; exact h3
      have hok' : nq_Hok (nq_hs h s (some r)) := nq_hs_ok hok (fun q hq => by cases hq; omega)
      have hlen : (D ++ nq_jr ok s h r).length < 216 := by rw [List.length_append]; omega
      have put : ok (nq_hs h s (some r)) = true → ∀ tp' Sk', wX_join_72 post J12 (wX_join_33 post J12 (nI s) (nI (tb s)) (nI i) (nI D.length) f) (nI s) (nI (tb s)) (nI (D ++ nq_jr ok s h r).length) (nI i) (nI D.length) (nI r) sc od nc tp' cc gc ac (fun j => nq_e (cv j)) Rc St Jl Tk Tn Su Ne (upd Ha s (nI (18 * tb s + 3 * r))) Sk' Cb Jd Va Go Fm An Ov := by
        intro hk tp' Sk'
        simp only [wX_join_72, nI_1, forall_eq, not_true_eq_false, not_false_eq_true, true_implies, false_implies, implies_true, and_true, true_and, and_self]
        refine nq_xPut hlen fun Jd' g1 g2 => ?_
        have ee : D ++ nq_jr ok s h (r + 1) = (D ++ nq_jr ok s h r) ++ [nq_hs h s (some r)] := by
          simp only [nq_jr, hk, if_true, List.append_assoc]
        have := ih (r + 1) (by omega) (by omega) tp' (upd Ha s (nI (18 * tb s + 3 * r))) Sk' Jd' (fun s' a b => by rw [pk_un b]; exact hA s' a b) h3' (by
          rw [ee]
          exact nq_CA_a hC (fun s' hs' => by rw [g1 s' hs']; exact hA' s' hs') g2)
        rw [ee, List.length_append, List.length_singleton] at this
        exact this
      have skip : ok (nq_hs h s (some r)) = false → ∀ tp' Sk', wX_join_33 post J12 (nI s) (nI (tb s)) (nI i) (nI D.length) f (nI (D ++ nq_jr ok s h r).length) (nI (r + 1)) sc od nc tp' cc gc ac (fun j => nq_e (cv j)) Rc St Jl Tk Tn Su Ne (upd Ha s (nI (18 * tb s + 3 * r))) Sk' Cb Jd Va Go Fm An Ov := by
        intro hk tp' Sk'
        have ee : D ++ nq_jr ok s h (r + 1) = D ++ nq_jr ok s h r := by
          simp only [nq_jr, hk, reduceCtorEq, if_false, List.append_nil]
        have := ih (r + 1) (by omega) (by omega) tp' (upd Ha s (nI (18 * tb s + 3 * r))) Sk' Jd (fun s' a b => by rw [pk_un b]; exact hA s' a b) h3' (by
          rw [ee]
          exact hC)
        rw [ee] at this
        exact this
      by_cases s0 : s = 0
      · simp only [wX_join_33, it, ct, hr, z3, wpX_placeOf, e1, is4, cs, show (nI (s) < (0 : Int32)) = ((s) < 0) from propext (nI_ltI (b := 0) (by omega) (by decide)), show ((0 : Int32) < nI (s)) = (0 < (s)) from propext (nI_ltI (a := 0) (by decide) (by omega)), show (nI (s) ≤ (0 : Int32)) = ((s) ≤ 0) from propext (nI_leI (b := 0) (by omega) (by decide)), show ((0 : Int32) ≤ nI (s)) = (0 ≤ (s)) from propext (nI_leI (a := 0) (by decide) (by omega)), show (nI (s) = (0 : Int32)) = ((s) = 0) from propext (nI_eq (b := 0) (by omega) (by decide)), forall_eq, not_true_eq_false, not_false_eq_true, true_implies, false_implies, implies_true, and_true, true_and, and_self]
        exact br_t s0 (put (ok0 s0 _) tp Sk)
      · have es0 : ¬ nI s = 0 := nI_ne0 (by omega) (by omega)
        simp only [wX_join_33, it, ct, hr, z3, wpX_placeOf, e1, is4, cs, es0, nI_1, forall_eq, not_true_eq_false, not_false_eq_true, true_implies, false_implies, implies_true, and_true, true_and, and_self]
        refine nq_xEv hT hW hF hRw hTb (show s < 10 by omega) hok' hA' h3' fun tp' Sk' => ?_
        have s3 : s ≤ 3 := by omega
        simp only [s3, if_true, nq_x, show (1 % 2 = 1) from rfl, nq_cT]
        rw [← ok1 s0]
        rcases Bool.eq_false_or_eq_true (ok (nq_hs h s (some r))) with hk | hk
        · simp only [hk, forall_eq, not_true_eq_false, not_false_eq_true, true_implies, false_implies, implies_true, and_true, true_and, and_self]
          exact put hk tp' Sk'
        · simp only [hk, reduceCtorEq, forall_eq, not_true_eq_false, not_false_eq_true, true_implies, false_implies, implies_true, and_true, true_and, and_self]
          exact skip hk tp' Sk'
    · have : r = rw (tb s) := by omega
      subst this
      have z3 : nI (rw (tb s)) ≤ nI (rw (tb s)) := nI_le (Nat.le_refl _) (by omega)
      simp only [wX_join_33, it, ct, hr, z3, nI_1, forall_eq, not_true_eq_false, not_false_eq_true, true_implies, false_implies, implies_true, and_true, true_and, and_self]
      have hll : (D ++ nq_jr ok s h (rw (tb s))).length = D.length + (nq_jr ok s h (rw (tb s))).length := List.length_append
      by_cases q0 : (nq_jr ok s h (rw (tb s))).length = 0
      · have e5 : nI (D ++ nq_jr ok s h (rw (tb s))).length = nI D.length := by rw [hll, q0, Nat.add_zero]
        by_cases hl : left = true
        · have s0 : ¬ s = 0 := fun e => by rw [lf0 e] at hl; cases hl
          have hj := lf1 s0
          rw [hl] at hj
          have hj2 : ¬ Jl s = 0 := of_decide_eq_true hj.symm
          have es0 : ¬ nI s ≤ 0 := nI_nle (by omega) (by omega)
          simp only [e5, es0, is3, is4, cs, hj2, forall_eq, not_true_eq_false, not_false_eq_true, true_implies, false_implies, implies_true, and_true, true_and, and_self]
          have ee : D ++ nq_jo ok s left (rw (tb s)) h = D ++ [nq_hs h s none] := by
            unfold nq_jo
            rw [if_pos ⟨q0, hl⟩]
          have ed : D ++ nq_jr ok s h (rw (tb s)) = D := by rw [List.eq_nil_of_length_eq_zero q0, List.append_nil]
          rw [ed] at hC ⊢
          refine nq_xPut (by omega) fun Jd' g1 g2 => ?_
          have := H tp (upd Ha s (-1)) Sk Jd' (by rw [pk_un (by omega)]; exact h3) (by
            rw [ee]
            refine nq_CA_a hC (fun s' hs' => ?_) g2
            rw [g1 s' hs']
            by_cases e : s' = s
            · rw [e, pk_us, nq_ex_n hs]
            · rw [pk_un e, nq_ex_o e]
              exact hA s' hs' e)
          rw [ee, List.length_append, List.length_singleton] at this
          exact this
        · have ee : nq_jo ok s left (rw (tb s)) h = nq_jr ok s h (rw (tb s)) := by
            unfold nq_jo
            rw [if_neg (fun z => hl z.2)]
          rw [ee] at H
          have HH := H tp Ha Sk Jd h3 hC
          rw [e5] at HH ⊢
          by_cases s0 : s = 0
          · have es0 : nI s ≤ 0 := by rw [s0]; decide
            simp only [es0, forall_eq, not_true_eq_false, not_false_eq_true, true_implies, false_implies, implies_true, and_true, true_and, and_self]
            exact HH
          · have es0 : ¬ nI s ≤ 0 := nI_nle (by omega) (by omega)
            have hj2 : Jl s = 0 := by
              apply Classical.byContradiction
              intro hz
              exact hl ((lf1 s0).trans (decide_eq_true hz))
            simp only [es0, is3, cs, hj2, forall_eq, not_true_eq_false, not_false_eq_true, true_implies, false_implies, implies_true, and_true, true_and, and_self]
            exact HH
      · have e5 : ¬ nI (D ++ nq_jr ok s h (rw (tb s))).length = nI D.length := by
          intro e
          have := (nI_eq (by omega) (by omega)).mp e
          omega
        have ee : nq_jo ok s left (rw (tb s)) h = nq_jr ok s h (rw (tb s)) := by
          unfold nq_jo
          rw [if_neg (fun z => q0 z.1)]
        rw [ee] at H
        simp only [e5, forall_eq, not_true_eq_false, not_false_eq_true, true_implies, false_implies, implies_true, and_true, true_and, and_self]
        exact H tp Ha Sk Jd h3 hC
theorem nq_xJoin {post : SX → Prop} {s : Nat} {ok : (Nat → Option Nat) → Bool} {left : Bool} {C : List (Nat → Option Nat)} (hT : nq_TT n t Tn Tk) (hW : nq_WF n t) (hF : nq_Full n t) (hRw : nq_RW rw Rc) (hTb : nq_TB tb St) (hs : s < 3) (hC : nq_CA (nq_ex tb) Cb C) (hCo : nq_Cok C) (hCl : C.length ≤ 36) (h3 : Ha 3 = -1)
    (ok0 : s = 0 → ∀ g, ok g = true) (ok1 : s ≠ 0 → ∀ g, ok g = nq_T (nq_val cv rw tb n t s g)) (lf0 : s = 0 → left = false) (lf1 : s ≠ 0 → left = decide (Jl s ≠ 0))
    (H : ∀ tp' Ha' Sk' Cb' Jd', Ha' 3 = -1 → nq_CA (nq_ex tb) Cb' (nq_jn ok s left (rw (tb s)) C) → post (sc, od, nc, tp', (nI (nq_jn ok s left (rw (tb s)) C).length), gc, ac, (fun j => nq_e (cv j)), Rc, St, Jl, Tk, Tn, Su, Ne, Ha', Sk', Cb', Jd', Va, Go, Fm, An, Ov)) : wpX_join post (sc, od, nc, tp, (nI C.length), gc, ac, (fun j => nq_e (cv j)), Rc, St, Jl, Tk, Tn, Su, Ne, Ha, Sk, Cb, Jd, Va, Go, Fm, An, Ov) (nI s) := by
  obtain ⟨tb3, hSt⟩ := hTb s hs
  obtain ⟨r6, hr⟩ := hRw (tb s) tb3
  have is3 : vp_in (nI s) 3 := vp_in_nI hs (by decide)
  have cs : (nI s).toNatClampNeg = s := nI_clamp (by omega)
  simp only [wpX_join, is3, cs, hSt, forall_eq, not_true_eq_false, not_false_eq_true, true_implies, false_implies, implies_true, and_true, true_and, and_self]
  have key : ∀ f i, i ≤ C.length → C.length - i < f → ∀ tp Ha Sk Jd, Ha 3 = -1 → nq_CA (nq_ex tb) Jd (nq_jn ok s left (rw (tb s)) (C.take i)) → wX_join_12 post (nI s) (nI (tb s)) f (nI (nq_jn ok s left (rw (tb s)) (C.take i)).length) (nI i) sc od nc tp (nI C.length) gc ac (fun j => nq_e (cv j)) Rc St Jl Tk Tn Su Ne Ha Sk Cb Jd Va Go Fm An Ov := by
    intro f
    induction f with
    | zero => intro i _ h; omega
    | succ f ih =>
      intro i hi hf tp Ha Sk Jd h3 hJ
      have l1 := nq_jn_l (ok := ok) (s := s) (left := left) r6 (C.take i)
      rw [List.length_take] at l1
      rcases Nat.lt_or_ge i C.length with z | z
      · have z3 : ¬ nI C.length ≤ nI i := nI_ge z (by omega)
        simp only [wX_join_12, z3, forall_eq, not_true_eq_false, not_false_eq_true, true_implies, false_implies, implies_true, and_true, true_and, and_self]
        have hg : C[i]? = some C[i] := List.getElem?_eq_getElem z
        refine nq_xTake (by omega) fun Ha' g1 g2 => ?_
        have gg := nq_x33 (post := post) (J12 := wX_join_12 post (nI s) (nI (tb s)) f) (i := i) (h := C[i]) (cv := cv) (D := nq_jn ok s left (rw (tb s)) (C.take i)) (left := left) (ok := ok) (sc := sc) (od := od) (nc := nc) (cc := (nI C.length)) (gc := gc) (ac := ac) (Rc := Rc) (St := St) (Jl := Jl) (Tk := Tk) (Tn := Tn) (Su := Su) (Ne := Ne) (Cb := Cb) (Va := Va) (Go := Go) (Fm := Fm) (An := An) (Ov := Ov) hT hW hF hRw hTb hs (hCo _ (List.getElem_mem z)) (by omega) ok0 ok1 lf0 lf1 (by
          intro tp' Ha'' Sk' Jd' a1 a2
          have et : C.take (i + 1) = C.take i ++ [C[i]] := by rw [List.take_succ, hg]; rfl
          have en : nq_jn ok s left (rw (tb s)) (C.take (i + 1)) = nq_jn ok s left (rw (tb s)) (C.take i) ++ nq_jo ok s left (rw (tb s)) C[i] := by
            rw [et]
            unfold nq_jn
            rw [List.flatMap_append, List.flatMap_cons, List.flatMap_nil, List.append_nil]
          have := ih (i + 1) (by omega) (by omega) tp' Ha'' Sk' Jd' a1 (by rw [en]; exact a2)
          rw [en] at this
          exact this) (rw (tb s) + 1) 0 (by omega) (by omega) tp Ha' Sk Jd (fun s' a _ => by rw [g1 s' a]; exact hC i _ hg s' a) (by rw [g2 3 (by omega)]; exact h3) (by
            show nq_CA (nq_ex tb) Jd (_ ++ [])
            rw [List.append_nil]
            exact hJ)
        rw [show nq_jn ok s left (rw (tb s)) (C.take i) ++ nq_jr ok s C[i] 0 = nq_jn ok s left (rw (tb s)) (C.take i) from List.append_nil _] at gg
        exact ⟨_, gg⟩
      · have : i = C.length := by omega
        subst this
        have z3 : nI C.length ≤ nI C.length := nI_le (Nat.le_refl _) (by omega)
        rw [List.take_length] at hJ l1 ⊢
        simp only [wX_join_12, z3, forall_eq, not_true_eq_false, not_false_eq_true, true_implies, false_implies, implies_true, and_true, true_and, and_self]
        refine ⟨_, nq_x129 (by omega) (fun Cb' g1 => ?_) (3 * (nq_jn ok s left (rw (tb s)) C).length + 1) 0 Cb (by omega) (by omega) (fun j hj => by omega)⟩
        refine H _ _ _ _ _ h3 ?_
        intro i' g hg s' hs'
        have hi' : i' < (nq_jn ok s left (rw (tb s)) C).length := by
          rw [List.getElem?_eq_some_iff] at hg
          exact hg.1
        rw [g1 _ (by omega)]
        exact hJ i' g hg s' hs'
  exact ⟨_, key (C.length + 1) 0 (by omega) (by omega) tp Ha Sk Jd h3 (fun i g hg => by cases hg)⟩
end
