section
variable {sc od nc tp cc gc ac : Int32} {Ce Sk Va An Ov : Nat → Int64} {Rc St Jl Tk Tn Su Ne Ha Cb Jd Go Fm : Nat → Int32}
variable {src dis opn sbt sbr dep mny mor grs fnd kpt : Int32} {ySk yRe ySo yAn : Nat → Int64} {yRo yCe yTo yIl ySz yTk yIn yEn ySu yWc yWi yHa yCo yLo yGo yFi : Nat → Int32}
/-! the pure values of tokens -/
def nq_l2 (f : Int32 → Int32 → Int32) : nq_V → nq_V → nq_V
  | some x, some y => some (f x y)
  | _, _ => none
def nq_not : nq_V → nq_V
  | none => none
  | some x => some (if x = 0 then 1 else 0)
def nq_and (a b : nq_V) : nq_V := if a = some 0 ∨ b = some 0 then some 0 else if nq_T a = true ∧ nq_T b = true then some 1 else none
def nq_or (a b : nq_V) : nq_V := if nq_T a = true ∨ nq_T b = true then some 1 else if a = some 0 ∧ b = some 0 then some 0 else none
def nq_less (a b : nq_V) : nq_V := nq_l2 (fun x y => if x < y then 1 else 0) a b
def nq_same (a b : nq_V) : nq_V := nq_l2 (fun x y => if x = y then 1 else 0) a b
def nq_B (c : Bool) : nq_V := some (nq_b c)
def nq_ap (t : Nat) (a b c : nq_V) : nq_V :=
  if t = 71 then nq_l2 (fun x y => x + y) a b else if t = 72 then nq_l2 (fun x y => x - y) a b else if t = 73 then nq_l2 (fun x y => x * y) a b
  else if t = 74 then (if a = none then b else a) else if t = 75 then (if a = b then none else a) else if t = 76 then (if nq_T a = true then b else c)
  else if t = 80 then nq_less a b else if t = 81 then nq_same a b else if t = 82 then nq_B (decide (a = none)) else if t = 83 then nq_B (decide (a = b))
  else if t = 84 then nq_not a else if t = 85 then nq_B (nq_T a) else if t = 86 then nq_and a b else nq_or a b
theorem nq_xNum {post : Int64 → Prop} {t : Nat} {a b : nq_V} (ht : t = 71 ∨ t = 72 ∨ t = 73 ∨ t = 74 ∨ t = 75) : wpX_number post (nI t) (nq_e a) (nq_e b) ↔ post (nq_e (nq_ap t a b none)) := by
  rcases ht with rfl | rfl | rfl | rfl | rfl
  · cases a <;> cases b <;> simp [wpX_number, nq_e, nq_ap, nq_l2, nq_ne1, show nI 71 = 71 from rfl]
  · cases a <;> cases b <;> simp [wpX_number, nq_e, nq_ap, nq_l2, nq_ne1, show nI 72 = 72 from rfl]
  · cases a <;> cases b <;> simp [wpX_number, nq_e, nq_ap, nq_l2, nq_ne1, show nI 73 = 73 from rfl]
  · cases a <;> cases b <;> simp [wpX_number, nq_e, nq_ap, nq_l2, nq_ne1, show nI 74 = 74 from rfl]
  · by_cases h : a = b
    · subst h
      simp [wpX_number, nq_e, nq_ap, show nI 75 = 75 from rfl]
    · simp [wpX_number, nq_e_i, h, nq_ap, show nI 75 = 75 from rfl]
theorem nq_c01 (a : nq_V) : (nq_c a = 0 ∧ a = some 0) ∨ (nq_c a = 1 ∧ a = none) ∨ (nq_c a = 2 ∧ nq_T a = true ∧ a ≠ some 0 ∧ a ≠ none) := by
  cases a with
  | none => exact Or.inr (Or.inl ⟨rfl, rfl⟩)
  | some x =>
    by_cases h : x = 0
    · subst h; exact Or.inl ⟨rfl, rfl⟩
    · exact Or.inr (Or.inr ⟨by simp [nq_c, h], by simp [nq_T, h], by simp [h], by simp⟩)
theorem nq_d01 (a : nq_V) : (nq_d a = 0 ∧ a = some 0) ∨ (nq_d a = 2 ∧ a = none) ∨ (nq_d a = 1 ∧ nq_T a = true ∧ a ≠ some 0 ∧ a ≠ none) := by
  cases a with
  | none => exact Or.inr (Or.inl ⟨rfl, rfl⟩)
  | some x =>
    by_cases h : x = 0
    · subst h; exact Or.inl ⟨rfl, rfl⟩
    · exact Or.inr (Or.inr ⟨by simp [nq_d, h], by simp [nq_T, h], by simp [h], by simp⟩)
theorem nq_cB (c : Bool) : nq_c (nq_B c) = if c = true then 2 else 0 := by cases c <;> rfl
theorem nq_dB (c : Bool) : nq_d (nq_B c) = if c = true then 1 else 0 := by cases c <;> rfl
theorem nq_T0 : nq_T (some 0) = false := rfl
theorem nq_T1 : nq_T (some 1) = true := rfl
theorem nq_Tn : nq_T none = false := rfl
theorem nq_cnot (a : nq_V) : nq_c (nq_not a) = 2 - nq_c a := by
  cases a with
  | none => rfl
  | some x => by_cases h : x = 0 <;> simp [nq_not, nq_c, h]
theorem nq_dnot (a : nq_V) : nq_d (nq_not a) = if nq_d a = 2 then nq_d a else 1 - nq_d a := by
  cases a with
  | none => rfl
  | some x => by_cases h : x = 0 <;> simp [nq_not, nq_d, h]
theorem nq_cs0 : nq_c (some 0) = 0 := rfl
theorem nq_cs1 : nq_c (some 1) = 2 := rfl
theorem nq_csn : nq_c none = 1 := rfl
theorem nq_ds0 : nq_d (some 0) = 0 := rfl
theorem nq_ds1 : nq_d (some 1) = 1 := rfl
theorem nq_dsn : nq_d none = 2 := rfl
theorem nq_cand (a b : nq_V) : nq_c (nq_and a b) = if nq_c b ≤ nq_c a then nq_c b else nq_c a := by
  rcases nq_c01 a with ⟨h1, h2⟩ | ⟨h1, h2⟩ | ⟨h1, h2, h3, h4⟩ <;> rcases nq_c01 b with ⟨g1, g2⟩ | ⟨g1, g2⟩ | ⟨g1, g2, g3, g4⟩ <;> rw [h1, g1] <;> simp [nq_and, *, nq_T0, nq_T1, nq_Tn, nq_cs0, nq_cs1, nq_csn]
theorem nq_cor (a b : nq_V) : nq_c (nq_or a b) = if nq_c a ≤ nq_c b then nq_c b else nq_c a := by
  rcases nq_c01 a with ⟨h1, h2⟩ | ⟨h1, h2⟩ | ⟨h1, h2, h3, h4⟩ <;> rcases nq_c01 b with ⟨g1, g2⟩ | ⟨g1, g2⟩ | ⟨g1, g2, g3, g4⟩ <;> rw [h1, g1] <;> simp [nq_or, *, nq_T0, nq_T1, nq_Tn, nq_cs0, nq_cs1, nq_csn]
theorem nq_ite6 (post : Int64 → Prop) {c : Prop} [Decidable c] {x y : Int64} : ((c → post x) ∧ (¬ c → post y)) ↔ post (if c then x else y) := by
  by_cases h : c
  · simp only [h, if_true, forall_eq, not_true_eq_false, not_false_eq_true, true_implies, false_implies, implies_true, and_true, true_and, and_self]
  · simp only [h, if_false, forall_eq, not_true_eq_false, not_false_eq_true, true_implies, false_implies, implies_true, and_true, true_and, and_self]
theorem nq_cne (a : nq_V) : ¬ nq_c a = -1099511627776 := by
  rcases nq_c01 a with ⟨h1, h2⟩ | ⟨h1, h2⟩ | ⟨h1, h2, h3, h4⟩ <;> rw [h1] <;> decide
theorem nq_xTr1 {post : Int64 → Prop} {t : Nat} {a : nq_V} (ht : t = 82 ∨ t = 84 ∨ t = 85) : wpX_truth post (nI t) (if 84 ≤ t then nq_c a else nq_e a) (-1099511627776) ↔ post (nq_c (nq_ap t a none none)) := by
  rcases ht with rfl | rfl | rfl
  · by_cases h : a = none <;> simp [wpX_truth, wX_truth_16, wX_truth_21, nq_e_n, h, nq_ap, nq_cB, show nI 82 = 82 from rfl]
  · simp [wpX_truth, wX_truth_16, wX_truth_21, nq_cne, nq_ap, nq_cnot, show nI 84 = 84 from rfl]
  · rcases Bool.eq_false_or_eq_true (nq_T a) with h | h <;> simp [wpX_truth, wX_truth_16, wX_truth_21, nq_cne, nq_ap, nq_cB, nq_cT, h, show nI 85 = 85 from rfl]
theorem nq_xTr2 {post : Int64 → Prop} {t : Nat} {a b : nq_V} (ht : t = 80 ∨ t = 81 ∨ t = 83 ∨ t = 86 ∨ t = 87) : wpX_truth post (nI t) (if 84 ≤ t then nq_c a else nq_e a) (if 84 ≤ t then nq_c b else nq_e b) ↔ post (nq_c (nq_ap t a b none)) := by
  rcases ht with rfl | rfl | rfl | rfl | rfl
  · cases a with
    | none => cases b <;> simp [wpX_truth, wX_truth_16, wX_truth_21, nq_e, nq_ne1, nq_ap, nq_less, nq_l2, nq_c, show nI 80 = 80 from rfl]
    | some x => cases b with
      | none => simp [wpX_truth, wX_truth_16, wX_truth_21, nq_e, nq_ne1, nq_ap, nq_less, nq_l2, nq_c, show nI 80 = 80 from rfl]
      | some y => by_cases h : y ≤ x <;> simp [wpX_truth, wX_truth_16, wX_truth_21, nq_e, nq_ne1, nq_ap, nq_less, nq_l2, nq_c, h, Int32.not_lt.mpr, Int32.not_le.mp, show nI 80 = 80 from rfl]
  · cases a with
    | none => cases b <;> simp [wpX_truth, wX_truth_16, wX_truth_21, nq_e, nq_ne1, nq_ap, nq_same, nq_l2, nq_c, show nI 81 = 81 from rfl]
    | some x => cases b with
      | none => simp [wpX_truth, wX_truth_16, wX_truth_21, nq_e, nq_ne1, nq_ap, nq_same, nq_l2, nq_c, show nI 81 = 81 from rfl]
      | some y => by_cases h : x = y <;> simp [wpX_truth, wX_truth_16, wX_truth_21, nq_e, nq_ne1, nq_64, nq_ap, nq_same, nq_l2, nq_c, h, show nI 81 = 81 from rfl]
  · by_cases h : a = b <;> simp [wpX_truth, wX_truth_16, wX_truth_21, nq_e_i, h, nq_ap, nq_cB, show nI 83 = 83 from rfl] <;> by_cases h2 : nq_e a = -1099511627776 <;> by_cases h3 : nq_e b = -1099511627776 <;> simp [h2, h3]
  · simp [wpX_truth, wX_truth_16, wX_truth_21, nq_cne, nq_ap, show nI 86 = 86 from rfl]
    rw [nq_cand]
    by_cases h : nq_c b ≤ nq_c a
    · simp only [h, Int64.not_lt.mpr h, if_true, forall_eq, not_true_eq_false, not_false_eq_true, true_implies, false_implies, implies_true, and_true, true_and, and_self]
    · simp only [h, Int64.not_le.mp h, if_false, forall_eq, not_true_eq_false, not_false_eq_true, true_implies, false_implies, implies_true, and_true, true_and, and_self]
  · simp [wpX_truth, wX_truth_16, wX_truth_21, nq_cne, nq_ap, show nI 87 = 87 from rfl]
    rw [nq_cor]
    by_cases h : nq_c a ≤ nq_c b
    · simp only [h, Int64.not_lt.mpr h, if_true, forall_eq, not_true_eq_false, not_false_eq_true, true_implies, false_implies, implies_true, and_true, true_and, and_self]
    · simp only [h, Int64.not_le.mp h, if_false, forall_eq, not_true_eq_false, not_false_eq_true, true_implies, false_implies, implies_true, and_true, true_and, and_self]
end
