section
variable {sc od nc tp cc gc ac : Int32} {Ce Sk Va An Ov : Nat → Int64} {Rc St Jl Tk Tn Su Ne Ha Cb Jd Go Fm : Nat → Int32}
variable {src dis opn sbt sbr dep mny mor grs fnd kpt : Int32} {ySk yRe ySo yAn : Nat → Int64} {yRo yCe yTo yIl ySz yTk yIn yEn ySu yWc yWi yHa yCo yLo yGo yFi : Nat → Int32}
variable {n t : Nat → Nat} {p s e w0 : Nat} {r : List Nat} {cv : Nat → nq_V} {hv : Nat → Option Nat} {rw : Nat → Nat}
/-! ends of terms -/
def nq_fe (op : Nat → Nat) (v : Nat) : Nat → Nat → Nat
  | 0, q => q
  | f + 1, q => if op q < v then q else nq_fe op v f (q + 1)
theorem nq_feS {op : Nat → Nat} {v q0 : Nat} (h0 : op q0 < v) : ∀ f q, q ≤ q0 → q0 < q + f → q ≤ nq_fe op v f q ∧ nq_fe op v f q ≤ q0 ∧ op (nq_fe op v f q) < v ∧ ∀ y, q ≤ y → y < nq_fe op v f q → v ≤ op y := by
  intro f
  induction f with
  | zero => intro q h1 h2; omega
  | succ f ih =>
    intro q h1 h2
    by_cases h : op q < v
    · simp only [nq_fe, h, if_true]
      exact ⟨Nat.le_refl _, h1, by trivial, fun y a b => by omega⟩
    · simp only [nq_fe, h, if_false]
      have hne : q ≠ q0 := fun z => h (z ▸ h0)
      obtain ⟨a1, a2, a3, a4⟩ := ih (q + 1) (by omega) (by omega)
      refine ⟨by omega, a2, a3, fun y b1 b2 => ?_⟩
      by_cases z : y = q
      · subst z; omega
      · exact a4 y (by omega) b2
def nq_en (p : Nat) (t : Nat → Nat) (i : Nat) : Nat := nq_fe (nq_op p t) (nq_op p t i) 21 (i + 1)
theorem nq_enE (hW : nq_WF n t) (hp : p < 10) (hc : nq_ws p t (n p) = []) {i : Nat} (hi : i < n p) : nq_IsE p t i (nq_en p t i) ∧ nq_en p t i ≤ n p := by
  have hn := (hW p hp).1
  obtain ⟨o1, o2, o3⟩ := nq_opS hW hp hi
  have h0 : nq_op p t (n p) < nq_op p t i := by
    unfold nq_op at o2 ⊢
    rw [hc]
    exact o2
  obtain ⟨a1, a2, a3, a4⟩ := nq_feS h0 21 (i + 1) (by omega) (by omega)
  refine ⟨⟨by unfold nq_en; omega, ?_, fun q b1 b2 => a4 q b1 b2⟩, a2⟩
  have e1 : nq_en p t i = nq_fe (nq_op p t) (nq_op p t i) 21 (i + 1) := rfl
  rw [← e1] at a1 a2 a3 a4
  generalize nq_en p t i = x at a1 a2 a3 a4
  obtain ⟨y, rfl⟩ : ∃ y, x = y + 1 := ⟨x - 1, by omega⟩
  obtain ⟨b1, b2, b3⟩ := nq_opS hW hp (show y < n p by omega)
  have : nq_op p t i ≤ nq_op p t y := by
    by_cases z : y = i
    · rw [z]; exact Nat.le_refl _
    · exact a4 y (by omega) (by omega)
  omega
theorem nq_IsEu {e' : Nat} (h : nq_IsE p t s e) (h' : nq_IsE p t s e') : e = e' := by
  obtain ⟨a1, a2, a3⟩ := h
  obtain ⟨b1, b2, b3⟩ := h'
  rcases Nat.lt_trichotomy e e' with z | z | z
  · have := b3 e a1 z; omega
  · exact z
  · have := a3 e' b1 z; omega
def nq_Ch (n : Nat → Nat) (p : Nat) (t : Nat → Nat) (i c x : Nat) : Prop := i < x ∧ x ≤ n p ∧ nq_op p t x + c = nq_op p t (i + 1) ∧ ∀ q, i < q → q < x → nq_op p t x < nq_op p t q
theorem nq_ch0 {i : Nat} (hi : i < n p) : nq_Ch n p t i 0 (i + 1) := ⟨by omega, by omega, rfl, fun q _ _ => by omega⟩
theorem nq_chlt (hW : nq_WF n t) (hp : p < 10) (hc : nq_ws p t (n p) = []) {i c x : Nat} (hi : i < n p) (h : nq_Ch n p t i c x) (hca : c < nq_ar (t (20 * p + i))) : x < n p := by
  obtain ⟨h1, h2, h3, h4⟩ := h
  obtain ⟨o1, o2, o3⟩ := nq_opS hW hp hi
  have h0 : nq_op p t (n p) = 0 := by
    unfold nq_op
    rw [hc]
    rfl
  rcases Nat.eq_or_lt_of_le h2 with z | z
  · rw [z] at h3; omega
  · exact z
theorem nq_chs {i c x e : Nat} (h : nq_Ch n p t i c x) (hE : nq_IsE p t x e) (he : e ≤ n p) : nq_Ch n p t i (c + 1) e := by
  obtain ⟨h1, h2, h3, h4⟩ := h
  obtain ⟨e1, e2, e3⟩ := hE
  refine ⟨by omega, he, by omega, fun q a b => ?_⟩
  rcases Nat.lt_trichotomy q x with z | z | z
  · have := h4 q a z; omega
  · subst z; omega
  · have := e3 q z b; omega
theorem nq_chE (hW : nq_WF n t) (hp : p < 10) {i x : Nat} (hi : i < n p) (h : nq_Ch n p t i (nq_ar (t (20 * p + i))) x) : nq_IsE p t i x := by
  obtain ⟨h1, h2, h3, h4⟩ := h
  obtain ⟨o1, o2, o3⟩ := nq_opS hW hp hi
  refine ⟨h1, by omega, fun q a b => ?_⟩
  have := h4 q a b
  omega
/-- where the c of a subquery begins -/
def nq_ss (p : Nat) (t : Nat → Nat) (k : Nat) : Nat := if t (20 * p + k) < 100 then k + 1 else nq_en p t (k + 1)
theorem nq_subAr {tok : Nat} (h : nq_sub tok = true) : nq_ar tok = (if tok < 100 then 1 else 2) ∧ ∀ w, nq_kids tok w = if tok < 100 then [3] else [0, 3] := by
  have := nq_subT h
  refine ⟨?_, fun w => if_pos h⟩
  unfold nq_ar
  rw [if_neg (by omega), if_neg (by omega)]
  by_cases h1 : tok < 100
  · rw [if_pos h1, if_pos (by omega)]
  · rw [if_neg h1, if_neg (by omega)]
theorem nq_subE (hW : nq_WF n t) (hp : p < 10) (hc : nq_ws p t (n p) = []) {k w : Nat} {r : List Nat} (hk : k < n p) (hw : nq_ws p t k = w :: r) (hs : nq_sub (t (20 * p + k)) = true) : nq_ws p t (nq_ss p t k) = 3 :: r ∧ nq_IsE p t (nq_ss p t k) (nq_en p t k) ∧ nq_en p t k ≤ n p ∧ nq_ss p t k < n p ∧ k < nq_ss p t k ∧ (¬ t (20 * p + k) < 100 → nq_IsE p t (k + 1) (nq_ss p t k) ∧ nq_ss p t k ≤ n p) := by
  obtain ⟨a1, a2⟩ := nq_subAr hs
  obtain ⟨en1, en2⟩ := nq_enE hW hp hc hk
  have e1 : nq_ws p t (k + 1) = nq_kids (t (20 * p + k)) w ++ r := by simp only [nq_ws, hw]
  rw [a2 w] at e1
  unfold nq_ss
  by_cases h1 : t (20 * p + k) < 100
  · rw [if_pos h1] at a1 e1
    simp only [h1, if_true]
    have l1 := nq_chlt hW hp hc hk (nq_ch0 (t := t) hk) (by rw [a1]; omega)
    obtain ⟨f1, f2⟩ := nq_enE hW hp hc l1
    have g1 := nq_chE hW hp hk (by rw [a1]; exact nq_chs (nq_ch0 hk) f1 f2)
    have g2 := nq_IsEu en1 g1
    rw [g2]
    exact ⟨e1, f1, f2, l1, by omega, fun z => absurd trivial z⟩
  · rw [if_neg h1] at a1 e1
    simp only [h1, if_false]
    have l1 := nq_chlt hW hp hc hk (nq_ch0 (t := t) hk) (by rw [a1]; omega)
    obtain ⟨f1, f2⟩ := nq_enE hW hp hc l1
    have ch1 := nq_chs (nq_ch0 hk) f1 f2
    have l2 := nq_chlt hW hp hc hk ch1 (by rw [a1]; omega)
    obtain ⟨f3, f4⟩ := nq_enE hW hp hc l2
    have g1 := nq_chE hW hp hk (by rw [a1]; exact nq_chs ch1 f3 f4)
    have g2 := nq_IsEu en1 g1
    rw [g2]
    refine ⟨?_, f3, f4, l2, by have := f1.1; omega, fun _ => ⟨f1, f2⟩⟩
    have ho : ∀ d, k + 1 + d ≤ nq_en p t (k + 1) → ∃ iw, nq_ws p t (k + 1 + d) = iw ++ (3 :: r) ∧ (k + 1 + d < nq_en p t (k + 1) → iw ≠ []) ∧ (k + 1 + d = nq_en p t (k + 1) → iw = []) := by
      obtain ⟨q1, q2, q3⟩ := f1
      unfold nq_op at q2 q3
      rw [e1] at q2 q3
      simp only [List.length_append, List.length_cons, List.length_nil] at q2 q3
      intro d
      induction d with
      | zero =>
        intro _
        exact ⟨[0], e1, fun _ => by simp, fun z => by omega⟩
      | succ d ih =>
        intro hd
        obtain ⟨iw, i1, i2, i3⟩ := ih (by omega)
        have hne := i2 (by omega)
        obtain ⟨w', r', g1, g2, ff, w4, t153, kl, es, rl, a3⟩ := nq_wsS hW hp (show k + 1 + d < n p by omega)
        match iw, hne with
        | w'' :: iw', _ =>
          rw [g1, List.cons_append] at i1
          obtain ⟨rfl, rfl⟩ := List.cons.inj i1
          refine ⟨nq_kids (t (20 * p + (k + 1 + d))) w' ++ iw', ?_, fun z => ?_, fun z => ?_⟩
          · rw [show k + 1 + (d + 1) = k + 1 + d + 1 from rfl, g2, List.append_assoc]
          · have := q3 (k + 1 + (d + 1)) (by omega) z
            rw [show k + 1 + (d + 1) = k + 1 + d + 1 from rfl, g2, ← List.append_assoc, List.length_append, List.length_cons] at this
            intro hc
            rw [hc, List.length_nil] at this
            omega
          · rw [← z, show k + 1 + (d + 1) = k + 1 + d + 1 from rfl, g2, ← List.append_assoc, List.length_append, List.length_cons] at q2
            exact List.eq_nil_of_length_eq_zero (by omega)
    have q1 := f1.1
    obtain ⟨iw, i1, i2, i3⟩ := ho (nq_en p t (k + 1) - (k + 1)) (by omega)
    rw [show k + 1 + (nq_en p t (k + 1) - (k + 1)) = nq_en p t (k + 1) by omega] at i1 i3
    rw [i1, i3 rfl]
    rfl
/-! the pure value of a part -/
/-- the stack (without what lies inside subqueries) after the last j tokens -/
def nq_ps (cv : Nat → nq_V) (hv : Nat → Option Nat) (rw : Nat → Nat) (p : Nat) (t : Nat → Nat) (m : Nat) : Nat → List nq_V
  | 0 => []
  | j + 1 => if 2 ≤ (nq_ws p t (m - 1 - j)).headD 0 then nq_ps cv hv rw p t m j
    else if nq_sub (t (20 * p + (m - 1 - j))) = true then nq_sv cv hv t (t (20 * p + (m - 1 - j))) (20 * p + nq_en p t (m - 1 - j)) (nq_en p t (m - 1 - j) - nq_ss p t (m - 1 - j)) ((nq_ps cv hv rw p t m j).headD none) (rw (nq_tbl (t (20 * p + (m - 1 - j))))) :: (nq_ps cv hv rw p t m j).drop (if t (20 * p + (m - 1 - j)) < 100 then 0 else 1)
    else nq_st (nq_leaf cv hv) (t (20 * p + (m - 1 - j))) (nq_ps cv hv rw p t m j)
def nq_pv (cv : Nat → nq_V) (rw n t : Nat → Nat) (p : Nat) (hv : Nat → Option Nat) : nq_V := if n p = 0 then (if p ≤ 3 then some 1 else none) else (nq_ps cv hv rw p t (n p) (n p)).headD none
theorem nq_kids1 : ∀ t, t < 153 → ∀ w, w < 2 → nq_sub t = false → ∀ x, x ∈ nq_kids t w → x < 2 := by decide +kernel
end
