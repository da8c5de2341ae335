section
/-! rows taken from kit/rows (pk_) -/
theorem pk_us {f : Nat → Int32} {k : Nat} {x : Int32} : upd f k x k = x := if_pos rfl
theorem pk_un {f : Nat → Int32} {k j : Nat} {x : Int32} (h : j ≠ k) : upd f k x j = f j := if_neg h
theorem pk_uLs {f : Nat → Int64} {k : Nat} {x : Int64} : vp_updL f k x k = x := if_pos rfl
theorem pk_uLn {f : Nat → Int64} {k j : Nat} {x : Int64} (h : j ≠ k) : vp_updL f k x j = f j := if_neg h
theorem pk_sub {a b : Nat} (h : b ≤ a) : nI a - nI b = nI (a - b) := by
  obtain ⟨c, rfl⟩ : ∃ c, a = c + b := ⟨a - b, by omega⟩
  rw [← nI_add, Int32.add_sub_cancel, Nat.add_sub_cancel]
theorem pk_m1 (n : Nat) : nI (n + 1) + (-1) = nI n := by
  rw [← nI_1, Int32.add_assoc, show (1 : Int32) + (-1) = 0 from rfl, Int32.add_zero]
theorem pk_mul (a b : Nat) : nI a * nI b = nI (a * b) := (Int32.ofNat_mul a b).symm
theorem pk_div {a d : Nat} (ha : a < 2 ^ 31) (h0 : 0 < d) (hd : d < 2 ^ 31) : nI a / nI d = nI (a / d) := by
  apply Int32.toInt_inj.mp
  rw [lg_idiv_nonneg (by rw [nI_toInt ha]; omega) (by rw [nI_toInt hd]; omega), nI_toInt ha, nI_toInt hd, nI_toInt (Nat.lt_of_le_of_lt (Nat.div_le_self a d) ha)]
  first | rfl | exact (Int.natCast_ediv _ _).symm
theorem pk_rem {a d : Nat} (ha : a < 2 ^ 31) (h0 : 0 < d) (hd : d < 2 ^ 31) : nI a - nI a / nI d * nI d = nI (a % d) := by
  rw [pk_div ha h0 hd, pk_mul, pk_sub (Nat.div_mul_le_self a d)]
  exact congrArg nI (by have := Nat.div_add_mod' a d; omega)
theorem pk_sub_toInt {a b : Nat} (ha : a < 2 ^ 30) (hb : b < 2 ^ 30) : (nI a - nI b).toInt = (a : Int) - b := by
  rw [Int32.toInt_sub, nI_toInt (by omega), nI_toInt (by omega)]
  exact Int.bmod_eq_of_le (by omega) (by omega)
theorem pk_sneg {a b : Nat} (hb : b < 2 ^ 30) (h : a < b) : nI a - nI b < 0 := by
  rw [Int32.lt_iff_toInt_lt, pk_sub_toInt (by omega) hb, show (0 : Int32).toInt = 0 from by decide]
  omega
theorem pk_ix (x : Int32) {n : Nat} (hn : n < 2 ^ 31) : x < 0 ∨ nI n ≤ x ∨ ∃ j : Nat, j < n ∧ x = nI j := by
  by_cases h : x < 0
  · exact Or.inl h
  · obtain ⟨j, hj, rfl⟩ := nI_of h
    by_cases h2 : j < n
    · exact Or.inr (Or.inr ⟨j, h2, rfl⟩)
    · exact Or.inr (Or.inl (nI_le (by omega) hj))
theorem pk_le {x y : Int32} {A B : Prop} (a b : Nat) (f : a ≤ b → A) (g : b < a → B) (hx : x = nI a := by rfl) (hy : y = nI b := by rfl) (ha : a < 2 ^ 31 := by omega) (hb : b < 2 ^ 31 := by omega) : (x ≤ y → A) ∧ (¬ x ≤ y → B) := by
  subst hx hy
  rw [nI_leI ha hb]
  exact ⟨f, fun z => g (by omega)⟩
theorem pk_lt {x y : Int32} {A B : Prop} (a b : Nat) (f : a < b → A) (g : b ≤ a → B) (hx : x = nI a := by rfl) (hy : y = nI b := by rfl) (ha : a < 2 ^ 31 := by omega) (hb : b < 2 ^ 31 := by omega) : (x < y → A) ∧ (¬ x < y → B) := by
  subst hx hy
  rw [nI_ltI ha hb]
  exact ⟨f, fun z => g (by omega)⟩
theorem pk_eq {x y : Int32} {A B : Prop} (a b : Nat) (f : a = b → A) (g : a ≠ b → B) (hx : x = nI a := by rfl) (hy : y = nI b := by rfl) (ha : a < 2 ^ 31 := by omega) (hb : b < 2 ^ 31 := by omega) : (x = y → A) ∧ (¬ x = y → B) := by
  subst hx hy
  rw [nI_eq ha hb]
  exact ⟨f, g⟩
theorem pk_in {x : Int32} (n N : Nat) (h : n < N) (hx : x = nI n := by rfl) (hN : N < 2 ^ 31 := by omega) : vp_in x N := by
  subst hx
  exact vp_in_nI h hN
theorem pk_cl {x : Int32} (n : Nat) (hx : x = nI n := by rfl) (h : n < 2 ^ 31 := by omega) : x.toNatClampNeg = n := by
  subst hx
  exact nI_clamp h
theorem pk_lT {n : Nat} (h : n < 2 ^ 63) : (lN n).toInt = (n : Int) := lg_ofNat_toInt h
theorem pk_lLT {a b : Nat} (ha : a < 2 ^ 63) (hb : b < 2 ^ 63) : lN a < lN b ↔ a < b := by
  rw [Int64.lt_iff_toInt_lt, pk_lT ha, pk_lT hb]; omega
theorem pk_lLE {a b : Nat} (ha : a < 2 ^ 63) (hb : b < 2 ^ 63) : lN a ≤ lN b ↔ a ≤ b := by
  rw [Int64.le_iff_toInt_le, pk_lT ha, pk_lT hb]; omega
theorem pk_lEQ {a b : Nat} (ha : a < 2 ^ 63) (hb : b < 2 ^ 63) : lN a = lN b ↔ a = b := by
  rw [← Int64.toInt_inj, pk_lT ha, pk_lT hb]; omega
theorem pk_loop {σ : Type} (W : Nat → Nat → σ → Prop) (I : Nat → σ → Prop) (e i0 : Nat) (s : σ) (hi : i0 ≤ e) (h0 : I i0 s) (hx : ∀ n s, I e s → W (n + 1) e s)
    (hs : ∀ n i s, i < e → I i s → (∀ s', I (i + 1) s' → W n (i + 1) s') → W (n + 1) i s) : ∃ n, W n i0 s :=
  ⟨e + 1, loop_i W I e hx hs (e + 1) i0 s hi (by omega) h0⟩
/-! my own: literals, values -/
theorem nq_i1 : (1 : Int32) = nI 1 := rfl
theorem nq_i2 : (2 : Int32) = nI 2 := rfl
theorem nq_i3 : (3 : Int32) = nI 3 := rfl
theorem nq_i4 : (4 : Int32) = nI 4 := rfl
theorem nq_i6 : (6 : Int32) = nI 6 := rfl
theorem nq_i7 : (7 : Int32) = nI 7 := rfl
theorem nq_i8 : (8 : Int32) = nI 8 := rfl
theorem nq_i9 : (9 : Int32) = nI 9 := rfl
theorem nq_i10 : (10 : Int32) = nI 10 := rfl
theorem nq_i18 : (18 : Int32) = nI 18 := rfl
theorem nq_i20 : (20 : Int32) = nI 20 := rfl
theorem nq_i216 : (216 : Int32) = nI 216 := rfl
/-- a value: NULL (or unknown) is none -/
abbrev nq_V : Type := Option Int32
/-- an expression's value in the component -/
def nq_e : nq_V → Int64
  | none => -1099511627776
  | some x => x.toInt64
/-- an expression's value in the reference -/
def nq_f : nq_V → Int64
  | none => 1099511627776
  | some x => x.toInt64
/-- a condition's value in the component -/
def nq_c : nq_V → Int64
  | none => 1
  | some x => if x = 0 then 0 else 2
/-- a condition's value in the reference -/
def nq_d : nq_V → Int64
  | none => 2
  | some x => if x = 0 then 0 else 1
/-- a cell of the reference -/
def nq_k : nq_V → Int32
  | none => 1000
  | some x => x
theorem nq_tl (x : Int32) : -2147483648 ≤ x.toInt ∧ x.toInt < 2147483648 := ⟨x.le_toInt, x.toInt_lt⟩
theorem nq_ne1 (x : Int32) : ¬ x.toInt64 = -1099511627776 := by
  intro h
  have h2 := congrArg Int64.toInt h
  rw [Int32.toInt_toInt64, show (-1099511627776 : Int64).toInt = -1099511627776 from by decide] at h2
  have := nq_tl x
  omega
theorem nq_ne2 (x : Int32) : ¬ x.toInt64 = 1099511627776 := by
  intro h
  have h2 := congrArg Int64.toInt h
  rw [Int32.toInt_toInt64, show (1099511627776 : Int64).toInt = 1099511627776 from by decide] at h2
  have := nq_tl x
  omega
theorem nq_64 {x y : Int32} : x.toInt64 = y.toInt64 ↔ x = y := ⟨fun h => by rw [← Int32.toInt32_toInt64 x, h, Int32.toInt32_toInt64], fun h => by rw [h]⟩
theorem nq_e_n {v : nq_V} : nq_e v = -1099511627776 ↔ v = none := by
  cases v with
  | none => simp [nq_e]
  | some x => simp [nq_e, nq_ne1]
theorem nq_f_n {v : nq_V} : nq_f v = 1099511627776 ↔ v = none := by
  cases v with
  | none => simp [nq_f]
  | some x => simp [nq_f, nq_ne2]
theorem nq_e_i {v w : nq_V} : nq_e v = nq_e w ↔ v = w := by
  cases v with
  | none => cases w with
    | none => simp
    | some y => simp only [nq_e]; exact ⟨fun h => absurd h.symm (nq_ne1 y), fun h => nomatch h⟩
  | some x => cases w with
    | none => simp only [nq_e]; exact ⟨fun h => absurd h (nq_ne1 x), fun h => nomatch h⟩
    | some y => simp only [nq_e, nq_64, Option.some.injEq]
theorem nq_f_i {v w : nq_V} : nq_f v = nq_f w ↔ v = w := by
  cases v with
  | none => cases w with
    | none => simp
    | some y => simp only [nq_f]; exact ⟨fun h => absurd h.symm (nq_ne2 y), fun h => nomatch h⟩
  | some x => cases w with
    | none => simp only [nq_f]; exact ⟨fun h => absurd h (nq_ne2 x), fun h => nomatch h⟩
    | some y => simp only [nq_f, nq_64, Option.some.injEq]
theorem nq_e_s (x : Int32) : (nq_e (some x)).toInt32 = x := Int32.toInt32_toInt64 x
theorem nq_f_s (x : Int32) : (nq_f (some x)).toInt32 = x := Int32.toInt32_toInt64 x
/-- NULL is less than every number -/
def nq_lt : nq_V → nq_V → Bool
  | none, none => false
  | none, some _ => true
  | some _, none => false
  | some x, some y => decide (x < y)
theorem nq_e_l {v w : nq_V} : nq_e v < nq_e w ↔ nq_lt v w = true := by
  have h0 : (-1099511627776 : Int64).toInt = -1099511627776 := by decide
  cases v with
  | none => cases w with
    | none => simp [nq_lt, nq_e]
    | some y =>
      have := nq_tl y
      simp only [nq_lt, nq_e, Int64.lt_iff_toInt_lt, h0, Int32.toInt_toInt64, iff_true]
      omega
  | some x => cases w with
    | none =>
      have := nq_tl x
      simp only [nq_lt, nq_e, Int64.lt_iff_toInt_lt, h0, Int32.toInt_toInt64, Bool.false_eq_true, iff_false]
      omega
    | some y => simp only [nq_lt, nq_e, Int32.toInt64_lt, decide_eq_true_eq]
theorem nq_c2 {v : nq_V} : nq_c v = 2 ↔ ∃ x, v = some x ∧ x ≠ 0 := by
  cases v with
  | none => simp [nq_c]
  | some x => by_cases h : x = 0 <;> simp [nq_c, h]
theorem nq_d1 {v : nq_V} : nq_d v = 1 ↔ ∃ x, v = some x ∧ x ≠ 0 := by
  cases v with
  | none => simp [nq_d]
  | some x => by_cases h : x = 0 <;> simp [nq_d, h]
/-- is it true? -/
def nq_T : nq_V → Bool
  | none => false
  | some x => decide (x ≠ 0)
theorem nq_cT {v : nq_V} : nq_c v = 2 ↔ nq_T v = true := by
  cases v with
  | none => simp [nq_c, nq_T]
  | some x => by_cases h : x = 0 <;> simp [nq_c, nq_T, h]
theorem nq_dT {v : nq_V} : nq_d v = 1 ↔ nq_T v = true := by
  cases v with
  | none => simp [nq_d, nq_T]
  | some x => by_cases h : x = 0 <;> simp [nq_d, nq_T, h]
theorem nq_in {n N : Nat} (h : n < N) (hN : N < 2 ^ 31) : vp_in (nI n) N := vp_in_nI h hN
/-! tokens -/
def nq_ar (t : Nat) : Nat := if t ≤ 70 then 0 else if t = 76 then 3 else if t = 82 ∨ t = 84 ∨ t = 85 ∨ (90 ≤ t ∧ t ≤ 92) then 1 else 2
def nq_sub (t : Nat) : Bool := decide ((90 ≤ t ∧ t ≤ 92) ∨ (100 ≤ t ∧ t ≤ 152 ∧ t % 10 < 3))
def nq_col (t : Nat) : Bool := decide (t ≤ 32 ∧ t % 10 < 3)
/-- what a token's own parts must be, the first first: 1 a condition, 2 within a subquery -/
def nq_kids (t w : Nat) : List Nat :=
  if nq_sub t = true then (if t < 100 then [3] else [0, 3])
  else if t = 76 then [1 + w / 2 * 2, w / 2 * 2, w / 2 * 2]
  else List.replicate (nq_ar t) ((if 84 ≤ t then 1 else 0) + w / 2 * 2)
def nq_fit (p t w : Nat) : Bool :=
  if w % 2 = 1 then decide ((80 ≤ t ∧ t ≤ 87) ∨ (nq_sub t = true ∧ w < 2))
  else if nq_col t = true then (if t / 10 = 3 then decide (2 ≤ w) else decide (p ≠ 1 ∨ t / 10 ≤ 1))
  else decide ((41 ≤ t ∧ t ≤ 59) ∨ (70 ≤ t ∧ t ≤ 76))
/-- the needs ahead of token k of part p, the next first -/
def nq_ws (p : Nat) (t : Nat → Nat) : Nat → List Nat
  | 0 => [if p ≤ 3 then 1 else 0]
  | k + 1 => match nq_ws p t k with
    | [] => []
    | w :: r => nq_kids (t (20 * p + k)) w ++ r
/-- every part is begun as the document says -/
def nq_WF (n t : Nat → Nat) : Prop := ∀ p, p < 10 → n p ≤ 20 ∧ ∀ k, k < n p → ∃ w r, nq_ws p t k = w :: r ∧ nq_fit p (t (20 * p + k)) w = true
def nq_TT (n t : Nat → Nat) (Tn Tk : Nat → Int32) : Prop := ∀ p, p < 10 → Tn p = nI (n p) ∧ ∀ k, k < n p → Tk (20 * p + k) = nI (t (20 * p + k))
/-- the relation -/
def nq_R (u : SX) (v : SY) : Prop := match u, v with
  | (sc, od, nc, tp, cc, gc, ac, Ce, Rc, St, Jl, Tk, Tn, Su, Ne, Ha, Sk, Cb, Jd, Va, Go, Fm, An, Ov), (src, dis, opn, sbt, sbr, dep, mny, mor, grs, fnd, kpt, yRo, yCe, yTo, yIl, ySz, yTk, yIn, yEn, ySu, yWc, yWi, yHa, ySk, yCo, yLo, yGo, yFi, yRe, ySo, yAn) =>
    ∃ (s m : Nat) (rw tb su n t : Nat → Nat) (cv av : Nat → nq_V),
      (s ≤ 3 ∧ sc = nI s ∧ src = nI s ∧ od = dis) ∧
      (m ≤ 216 ∧ ac = nI m ∧ kpt = nI m ∧ dep = 0) ∧
      (Ce = (fun j => nq_e (cv j)) ∧ yCe = (fun j => nq_k (cv j)) ∧ ∀ j, cv j ≠ some 1000) ∧
      (Rc = yRo ∧ ∀ i, i < 3 → rw i ≤ 6 ∧ Rc i = nI (rw i)) ∧
      (St = yTo ∧ ∀ i, i < 3 → tb i < 3 ∧ St i = nI (tb i)) ∧
      Jl = yIl ∧
      (Su = ySu ∧ ∀ i, i < 3 → su i ≤ 5 ∧ Su i = nI (su i)) ∧
      (Tn = ySz ∧ Tk = yTk ∧ nq_TT n t Tn Tk ∧ nq_WF n t) ∧
      ∀ j, j < 3 * m → An j = nq_e (av j) ∧ yAn j = nq_f (av j)
def i_Rel (_ : Nat) (u : SX) (v : SY) : Prop := nq_R u v
theorem i_up {k : Nat} {u : SX} {v : SY} (h : i_Rel k u v) : i_Rel (k + 5) u v := h
theorem i_vc0 : wpX_init (fun u => wpY_init (fun v => i_Rel 0 u v)) := by
  unfold wpX_init wpY_init i_Rel nq_R
  have d1 : (some 0 : nq_V) ≠ some 1000 := by decide
  exact ⟨0, 0, fun _ => 0, fun _ => 0, fun _ => 0, fun _ => 0, fun _ => 0, fun _ => some 0, fun _ => none, ⟨by omega, rfl, rfl, rfl⟩, ⟨by omega, rfl, rfl, rfl⟩, ⟨rfl, rfl, fun j => d1⟩, ⟨rfl, fun i _ => ⟨Nat.zero_le _, rfl⟩⟩, ⟨rfl, fun i _ => ⟨Nat.succ_pos _, rfl⟩⟩, rfl, ⟨rfl, fun i _ => ⟨Nat.zero_le _, rfl⟩⟩, ⟨rfl, rfl, fun p _ => ⟨rfl, fun k hk => absurd hk (Nat.not_lt_zero k)⟩, fun p _ => ⟨Nat.zero_le _, fun k hk => absurd hk (Nat.not_lt_zero k)⟩⟩, fun j hj => absurd hj (Nat.not_lt_zero j)⟩
end
section
section
variable {sc od nc tp cc gc ac : Int32} {Ce Sk Va An Ov : Nat → Int64} {Rc St Jl Tk Tn Su Ne Ha Cb Jd Go Fm : Nat → Int32}
variable {src dis opn sbt sbr dep mny mor grs fnd kpt : Int32} {ySk yRe ySo yAn : Nat → Int64} {yRo yCe yTo yIl ySz yTk yIn yEn ySu yWc yWi yHa yCo yLo yGo yFi : Nat → Int32}
def nq_u (f : Nat → nq_V) (i : Nat) (a : nq_V) : Nat → nq_V := fun j => if j = i then a else f j
def nq_un (f : Nat → Nat) (i : Nat) (a : Nat) : Nat → Nat := fun j => if j = i then a else f j
theorem nq_uX {cv : Nat → nq_V} {i : Nat} {z : Int64} {a : nq_V} (h : Ce = fun j => nq_e (cv j)) (hz : z = nq_e a) : vp_updL Ce i z = fun j => nq_e (nq_u cv i a j) := by
  subst h hz
  funext j
  simp only [vp_updL, nq_u]
  split <;> rfl
theorem nq_uY {cv : Nat → nq_V} {i : Nat} {z : Int32} {a : nq_V} (h : yCe = fun j => nq_k (cv j)) (hz : z = nq_k a) : upd yCe i z = fun j => nq_k (nq_u cv i a j) := by
  subst h hz
  funext j
  simp only [upd, nq_u]
  split <;> rfl
theorem nq_u1 {cv : Nat → nq_V} {i : Nat} {a : nq_V} (h : ∀ j, cv j ≠ some 1000) (ha : a ≠ some 1000) : ∀ j, nq_u cv i a j ≠ some 1000 := by
  intro j
  simp only [nq_u]
  split
  · exact ha
  · exact h j
def nq_okc (x : Int32) : Prop := x = 1000 ∨ (¬ x < -9 ∧ ¬ 9 < x)
theorem nq_xcell1 {post : Int32 → Prop} {x : Int32} (h : nq_okc x) : wpX_isCellValue post x ↔ post 1 := by
  simp only [wpX_isCellValue]
  rcases h with h | ⟨h, h2⟩
  · simp only [h, forall_eq, not_true_eq_false, not_false_eq_true, true_implies, false_implies, implies_true, and_true, true_and, and_self]
  · by_cases e : x = 1000
    · simp only [e, forall_eq, not_true_eq_false, not_false_eq_true, true_implies, false_implies, implies_true, and_true, true_and, and_self]
    · simp only [e, h, h2, forall_eq, not_true_eq_false, not_false_eq_true, true_implies, false_implies, implies_true, and_true, true_and, and_self]
theorem nq_xcell0 {post : Int32 → Prop} {x : Int32} (h : ¬ nq_okc x) : wpX_isCellValue post x ↔ post 0 := by
  have h1 : ¬ x = 1000 := fun e => h (Or.inl e)
  simp only [wpX_isCellValue, h1, forall_eq, not_true_eq_false, not_false_eq_true, true_implies, false_implies, implies_true, and_true, true_and, and_self]
  by_cases e : x < -9
  · simp only [e, forall_eq, not_true_eq_false, not_false_eq_true, true_implies, false_implies, implies_true, and_true, true_and, and_self]
  · have h2 : 9 < x := Classical.byContradiction fun z => h (Or.inr ⟨e, z⟩)
    simp only [e, h2, forall_eq, not_true_eq_false, not_false_eq_true, true_implies, false_implies, implies_true, and_true, true_and, and_self]
theorem nq_ycell1 {post : Int32 → Prop} {x : Int32} (h : nq_okc x) : wpY_badValue post (src, dis, opn, sbt, sbr, dep, mny, mor, grs, fnd, kpt, yRo, yCe, yTo, yIl, ySz, yTk, yIn, yEn, ySu, yWc, yWi, yHa, ySk, yCo, yLo, yGo, yFi, yRe, ySo, yAn) x ↔ post 0 := by
  simp only [wpY_badValue, wY_badValue_12]
  rcases h with h | ⟨h, h2⟩
  · subst h
    simp only [show ¬ (1000 : Int32) < -9 from by decide, show ¬ (1000 : Int32) ≤ 9 from by decide, forall_eq, not_true_eq_false, not_false_eq_true, true_implies, false_implies, implies_true, and_true, true_and, and_self]
  · have h3 : x ≤ 9 := Int32.not_lt.mp h2
    simp only [h, h3, forall_eq, not_true_eq_false, not_false_eq_true, true_implies, false_implies, implies_true, and_true, true_and, and_self]
theorem nq_ycell0 {post : Int32 → Prop} {x : Int32} (h : ¬ nq_okc x) : wpY_badValue post (src, dis, opn, sbt, sbr, dep, mny, mor, grs, fnd, kpt, yRo, yCe, yTo, yIl, ySz, yTk, yIn, yEn, ySu, yWc, yWi, yHa, ySk, yCo, yLo, yGo, yFi, yRe, ySo, yAn) x ↔ post 1 := by
  have h1 : ¬ x = 1000 := fun e => h (Or.inl e)
  simp only [wpY_badValue, wY_badValue_12, h1, forall_eq, not_true_eq_false, not_false_eq_true, true_implies, false_implies, implies_true, and_true, true_and, and_self]
  by_cases e : x < -9
  · simp only [e, forall_eq, not_true_eq_false, not_false_eq_true, true_implies, false_implies, implies_true, and_true, true_and, and_self]
  · have h2 : ¬ x ≤ 9 := fun z => h (Or.inr ⟨e, Int32.not_lt.mpr z⟩)
    simp only [e, h2, forall_eq, not_true_eq_false, not_false_eq_true, true_implies, false_implies, implies_true, and_true, true_and, and_self]
theorem nq_xt1 {post : Int32 → Prop} {j : Nat} (h : j < 3) : wpX_isTable post (nI j) ↔ post 1 := by
  simp only [wpX_isTable, nI_pos (n := j) (by omega), nI_ge (b := 3) h (by decide), show (3 : Int32) = nI 3 from rfl, forall_eq, not_true_eq_false, not_false_eq_true, true_implies, false_implies, implies_true, and_true, true_and, and_self]
theorem nq_xt0 {post : Int32 → Prop} {x : Int32} (h : x < 0 ∨ nI 3 ≤ x) : wpX_isTable post x ↔ post 0 := by
  simp only [wpX_isTable]
  by_cases e : x < 0
  · simp only [e, forall_eq, not_true_eq_false, not_false_eq_true, true_implies, false_implies, implies_true, and_true, true_and, and_self]
  · have h2 : (3 : Int32) ≤ x := h.resolve_left e
    simp only [e, h2, forall_eq, not_true_eq_false, not_false_eq_true, true_implies, false_implies, implies_true, and_true, true_and, and_self]
theorem nq_xo1 {post : Int32 → Prop} {j : Nat} (h : j < 3) : wpX_isOutput post (nI j) ↔ post 1 := by
  simp only [wpX_isOutput, nI_pos (n := j) (by omega), nI_ge (b := 3) h (by decide), show (3 : Int32) = nI 3 from rfl, forall_eq, not_true_eq_false, not_false_eq_true, true_implies, false_implies, implies_true, and_true, true_and, and_self]
theorem nq_xo0 {post : Int32 → Prop} {x : Int32} (h : x < 0 ∨ nI 3 ≤ x) : wpX_isOutput post x ↔ post 0 := by
  simp only [wpX_isOutput]
  by_cases e : x < 0
  · simp only [e, forall_eq, not_true_eq_false, not_false_eq_true, true_implies, false_implies, implies_true, and_true, true_and, and_self]
  · have h2 : (3 : Int32) ≤ x := h.resolve_left e
    simp only [e, h2, forall_eq, not_true_eq_false, not_false_eq_true, true_implies, false_implies, implies_true, and_true, true_and, and_self]
theorem nq_xp1 {post : Int32 → Prop} {j : Nat} (h : j < 10) : wpX_isPart post (nI j) ↔ post 1 := by
  simp only [wpX_isPart, nI_pos (n := j) (by omega), nI_ge (b := 10) h (by decide), show (10 : Int32) = nI 10 from rfl, forall_eq, not_true_eq_false, not_false_eq_true, true_implies, false_implies, implies_true, and_true, true_and, and_self]
theorem nq_xp0 {post : Int32 → Prop} {x : Int32} (h : x < 0 ∨ nI 10 ≤ x) : wpX_isPart post x ↔ post 0 := by
  simp only [wpX_isPart]
  by_cases e : x < 0
  · simp only [e, forall_eq, not_true_eq_false, not_false_eq_true, true_implies, false_implies, implies_true, and_true, true_and, and_self]
  · have h2 : (10 : Int32) ≤ x := h.resolve_left e
    simp only [e, h2, forall_eq, not_true_eq_false, not_false_eq_true, true_implies, false_implies, implies_true, and_true, true_and, and_self]
theorem nq_nle {x : Int32} {a b : Nat} (h : nI b ≤ x) (hab : a < b) (hb : b < 2 ^ 31) : ¬ x ≤ nI a := fun z => nI_ge hab hb (Int32.le_trans h z)
theorem nq_nlt {x : Int32} {a b : Nat} (h : nI b ≤ x) (hab : a ≤ b) (hb : b < 2 ^ 31) : ¬ x < nI a := fun z => Int32.not_lt.mpr h (Int32.lt_of_lt_of_le z (nI_le hab hb))
theorem nq_ltt {x : Int32} {a b : Nat} (h : nI b ≤ x) (hab : a < b) (hb : b < 2 ^ 31) : nI a < x := Int32.lt_of_lt_of_le (nI_lt hab hb) h
theorem nq_nonneg {x : Int32} {b : Nat} (h : nI b ≤ x) (hb : b < 2 ^ 31) : ¬ x < 0 := fun z => Int32.not_lt.mpr h (Int32.lt_of_lt_of_le z (nI_pos' hb))
theorem nq_yt1 {post : Int32 → Prop} {j : Nat} (h : j < 3) : wpY_badTable post (src, dis, opn, sbt, sbr, dep, mny, mor, grs, fnd, kpt, yRo, yCe, yTo, yIl, ySz, yTk, yIn, yEn, ySu, yWc, yWi, yHa, ySk, yCo, yLo, yGo, yFi, yRe, ySo, yAn) (nI j) ↔ post 0 := by
  simp only [wpY_badTable, nI_pos (n := j) (by omega), show (2 : Int32) = nI 2 from rfl, nI_le (a := j) (b := 2) (by omega) (by decide), forall_eq, not_true_eq_false, not_false_eq_true, true_implies, false_implies, implies_true, and_true, true_and, and_self]
theorem nq_yt0 {post : Int32 → Prop} {x : Int32} (h : x < 0 ∨ nI 3 ≤ x) : wpY_badTable post (src, dis, opn, sbt, sbr, dep, mny, mor, grs, fnd, kpt, yRo, yCe, yTo, yIl, ySz, yTk, yIn, yEn, ySu, yWc, yWi, yHa, ySk, yCo, yLo, yGo, yFi, yRe, ySo, yAn) x ↔ post 1 := by
  simp only [wpY_badTable]
  by_cases e : x < 0
  · simp only [e, forall_eq, not_true_eq_false, not_false_eq_true, true_implies, false_implies, implies_true, and_true, true_and, and_self]
  · have h2 : ¬ x ≤ 2 := nq_nle (b := 3) (h.resolve_left e) (a := 2) (by decide) (by decide)
    simp only [e, h2, forall_eq, not_true_eq_false, not_false_eq_true, true_implies, false_implies, implies_true, and_true, true_and, and_self]
theorem nq_kw (x : Int32) : ∃ w : nq_V, w ≠ some 1000 ∧ nq_k w = x ∧ ∀ P : Int64 → Prop, P (nq_e w) → (x = 1000 → P (-1099511627776)) ∧ (¬ x = 1000 → P x.toInt64) := by
  by_cases h : x = 1000
  · exact ⟨none, (fun e => nomatch e), h.symm, fun P hp => ⟨fun _ => hp, fun z => absurd h z⟩⟩
  · exact ⟨some x, fun e => h (Option.some.inj e), rfl, fun P hp => ⟨fun z => absurd z h, fun _ => hp⟩⟩
theorem i_vc_row {k : Nat} {u : SX} {v : SY} (I : i_Rel k u v) (hk : k + 5 ≤ 2560) (v1 : Int32) (v2 : Int32) (v3 : Int32) (v4 : Int32) : wpX_row (fun r u' => wpY_row (fun r' v' => r' = r ∧ i_Rel (k + 5) u' v') v v1 v2 v3 v4) u v1 v2 v3 v4 := by
  obtain ⟨sc, od, nc, tp, cc, gc, ac, Ce, Rc, St, Jl, Tk, Tn, Su, Ne, Ha, Sk, Cb, Jd, Va, Go, Fm, An, Ov⟩ := u
  obtain ⟨src, dis, opn, sbt, sbr, dep, mny, mor, grs, fnd, kpt, yRo, yCe, yTo, yIl, ySz, yTk, yIn, yEn, ySu, yWc, yWi, yHa, ySk, yCo, yLo, yGo, yFi, yRe, ySo, yAn⟩ := v
  have I0 := I
  obtain ⟨s, m, rw, tb, su, n, t, cv, av, hs, hm, ⟨hc1, hc2, hc3⟩, ⟨hr1, hr2⟩, ht, hl, hu, hT, ha⟩ := I
  subst hr1
  by_cases h1 : v1 < 0 ∨ nI 3 ≤ v1
  · simp only [wpX_row, wpY_row, nq_xt0 h1, nq_yt0 h1, forall_eq, not_true_eq_false, not_false_eq_true, true_implies, false_implies, implies_true, and_true, true_and, and_self, show ¬ (1 : Int32) = 0 from by decide]
    exact I0
  · obtain ⟨j, hj, rfl⟩ : ∃ j : Nat, j < 3 ∧ v1 = nI j := by
      rcases pk_ix v1 (n := 3) (by decide) with h | h | h
      · exact absurd (Or.inl h) h1
      · exact absurd (Or.inr h) h1
      · exact h
    simp only [wpX_row, wpY_row, nq_xt1 hj, nq_yt1 hj, forall_eq, not_true_eq_false, not_false_eq_true, true_implies, false_implies, implies_true, and_true, true_and, and_self, show ¬ (1 : Int32) = 0 from by decide]
    by_cases h2 : nq_okc v2
    · by_cases h3 : nq_okc v3
      · by_cases h4 : nq_okc v4
        · simp only [nq_xcell1 h2, nq_xcell1 h3, nq_xcell1 h4, nq_ycell1 h2, nq_ycell1 h3, nq_ycell1 h4, forall_eq, not_true_eq_false, not_false_eq_true, true_implies, false_implies, implies_true, and_true, true_and, and_self, show ¬ (1 : Int32) = 0 from by decide]
          have cj : (nI j).toNatClampNeg = j := nI_clamp (by omega)
          have vj : vp_in (nI j) 3 := vp_in_nI hj (by decide)
          obtain ⟨hr3, hr4⟩ := hr2 j hj
          generalize hr5 : rw j = r at hr3 hr4
          simp only [cj, vj, hr4, forall_eq, not_true_eq_false, not_false_eq_true, true_implies, false_implies, implies_true, and_true, true_and, and_self]
          by_cases h6 : r = 6
          · subst h6
            simp only [show nI 6 = 6 from rfl, show ¬ (6 : Int32) < 6 from by decide, forall_eq, not_true_eq_false, not_false_eq_true, true_implies, false_implies, implies_true, and_true, true_and, and_self]
            exact I0
          · have x6 : nI r < 6 := nI_lt (b := 6) (by omega) (by decide)
            have y6 : ¬ nI r = 6 := fun e => h6 ((nI_eq (a := r) (b := 6) (by omega) (by decide)).mp e)
            simp only [x6, y6, forall_eq, not_true_eq_false, not_false_eq_true, true_implies, false_implies, implies_true, and_true, true_and, and_self, wpX_placeOf]
            have e1 : (nI j * 6 + nI r) * 3 = nI (18 * j + 3 * r) := by
              simp only [nq_i6, nq_i3, pk_mul, nI_add]
              exact congrArg nI (by omega)
            have e2 : 18 * nI j + 3 * nI r = nI (18 * j + 3 * r) := by
              simp only [nq_i18, nq_i3, pk_mul, nI_add]
            have b1 : nI (18 * j + 3 * r) + 1 = nI (18 * j + 3 * r + 1) := nI_add _ 1
            have b2 : nI (18 * j + 3 * r) + 2 = nI (18 * j + 3 * r + 2) := nI_add _ 2
            generalize hp : 18 * j + 3 * r = p at e1 e2 b1 b2
            have i0 : vp_in (nI p) 54 := vp_in_nI (by omega) (by decide)
            have i1 : vp_in (nI (p + 1)) 54 := vp_in_nI (by omega) (by decide)
            have i2 : vp_in (nI (p + 2)) 54 := vp_in_nI (by omega) (by decide)
            have c0 : (nI p).toNatClampNeg = p := nI_clamp (by omega)
            have c1 : (nI (p + 1)).toNatClampNeg = p + 1 := nI_clamp (by omega)
            have c2 : (nI (p + 2)).toNatClampNeg = p + 2 := nI_clamp (by omega)
            simp only [e1, e2]
            obtain ⟨w1, w1a, w1b, w1c⟩ := nq_kw v2
            obtain ⟨w2, w2a, w2b, w2c⟩ := nq_kw v3
            obtain ⟨w3, w3a, w3b, w3c⟩ := nq_kw v4
            apply w1c (fun z => wX_row_85 _ _ _ _ _ _ z _ sc od nc tp cc gc ac Ce Rc St Jl Tk Tn Su Ne Ha Sk Cb Jd Va Go Fm An Ov)
            simp only [wX_row_85, i0, c0, b1, forall_eq, not_true_eq_false, not_false_eq_true, true_implies, false_implies, implies_true, and_true, true_and, and_self]
            apply w2c (fun z => wX_row_109 _ _ _ _ _ z _ sc od nc tp cc gc ac (vp_updL Ce p (nq_e w1)) Rc St Jl Tk Tn Su Ne Ha Sk Cb Jd Va Go Fm An Ov)
            simp only [wX_row_109, i1, c1, b2, forall_eq, not_true_eq_false, not_false_eq_true, true_implies, false_implies, implies_true, and_true, true_and, and_self]
            apply w3c (fun z => wX_row_135 _ _ _ z _ sc od nc tp cc gc ac (vp_updL (vp_updL Ce p (nq_e w1)) (p + 1) (nq_e w2)) Rc St Jl Tk Tn Su Ne Ha Sk Cb Jd Va Go Fm An Ov)
            simp only [wX_row_135, i2, c2, i1, i0, c0, c1, b1, b2, cj, vj, hr4, pk_us, nI_1, nI_pred, forall_eq, not_true_eq_false, not_false_eq_true, true_implies, false_implies, implies_true, and_true, true_and, and_self]
            have f1 := nq_uX (nq_uX (nq_uX (i := p) (a := w1) hc1 rfl) (i := p + 1) (a := w2) rfl) (i := p + 2) (a := w3) rfl
            have f2 := nq_uY (nq_uY (nq_uY (i := p) hc2 w1b.symm) (i := p + 1) w2b.symm) (i := p + 2) w3b.symm
            refine ⟨s, m, nq_un rw j (r + 1), tb, su, n, t, _, av, hs, hm, ⟨f1, f2, nq_u1 (nq_u1 (nq_u1 hc3 w1a) w2a) w3a⟩, ⟨rfl, fun i hi => ?_⟩, ht, hl, hu, hT, ha⟩
            simp only [nq_un, upd]
            by_cases e : i = j
            · simp only [e, if_true]
              exact ⟨by omega, by trivial⟩
            · simp only [e, if_false]
              exact hr2 i hi
        · simp only [nq_xcell1 h2, nq_xcell1 h3, nq_xcell0 h4, nq_ycell1 h2, nq_ycell1 h3, nq_ycell0 h4, forall_eq, not_true_eq_false, not_false_eq_true, true_implies, false_implies, implies_true, and_true, true_and, and_self, show ¬ (1 : Int32) = 0 from by decide]
          exact I0
      · simp only [nq_xcell1 h2, nq_xcell0 h3, nq_ycell1 h2, nq_ycell0 h3, forall_eq, not_true_eq_false, not_false_eq_true, true_implies, false_implies, implies_true, and_true, true_and, and_self, show ¬ (1 : Int32) = 0 from by decide]
        exact I0
    · simp only [nq_xcell0 h2, nq_ycell0 h2, forall_eq, not_true_eq_false, not_false_eq_true, true_implies, false_implies, implies_true, and_true, true_and, and_self, show ¬ (1 : Int32) = 0 from by decide]
      exact I0
end
end
section
section
variable {sc od nc tp cc gc ac : Int32} {Ce Sk Va An Ov : Nat → Int64} {Rc St Jl Tk Tn Su Ne Ha Cb Jd Go Fm : Nat → Int32}
variable {src dis opn sbt sbr dep mny mor grs fnd kpt : Int32} {ySk yRe ySo yAn : Nat → Int64} {yRo yCe yTo yIl ySz yTk yIn yEn ySu yWc yWi yHa yCo yLo yGo yFi : Nat → Int32}
def nq_sh (cv : Nat → nq_V) (a q : Nat) : Nat → nq_V := fun x => if a ≤ x ∧ x < q then cv (x + 3) else cv x
theorem nq_sh0 {cv : Nat → nq_V} {a : Nat} : nq_sh cv a a = cv := by
  funext x
  simp only [nq_sh]
  rw [if_neg (by omega)]
theorem nq_shs {cv : Nat → nq_V} {a q : Nat} (h : a ≤ q) : nq_u (nq_sh cv a q) q (nq_sh cv a q (q + 3)) = nq_sh cv a (q + 1) := by
  funext x
  simp only [nq_sh, nq_u]
  rw [if_neg (show ¬ (a ≤ q + 3 ∧ q + 3 < q) by omega)]
  by_cases e : x = q
  · rw [if_pos e, if_pos (by omega), e]
  · rw [if_neg e]
    by_cases e2 : a ≤ x ∧ x < q
    · rw [if_pos e2, if_pos (by omega)]
    · rw [if_neg e2, if_neg (by omega)]
theorem nq_sh1 {cv : Nat → nq_V} {a q : Nat} (h : ∀ j, cv j ≠ some 1000) : ∀ j, nq_sh cv a q j ≠ some 1000 := by
  intro j
  simp only [nq_sh]
  split
  · exact h _
  · exact h _
theorem nq_xdrop {post : Int32 → SX → Prop} {cv : Nat → nq_V} {j a e r : Nat} (hj : j < 3) (he : e + 3 ≤ 54) (H : post (nI r) (sc, od, nc, tp, cc, gc, ac, (fun x => nq_e (nq_sh cv a e x)), (upd Rc j (nI r)), St, Jl, Tk, Tn, Su, Ne, Ha, Sk, Cb, Jd, Va, Go, Fm, An, Ov)) : ∀ f q, a ≤ q → q ≤ e → e - q < f → wX_drop_36 post (nI j) (nI r) (nI e) sc od nc tp cc gc ac f (nI q) (fun x => nq_e (nq_sh cv a q x)) Rc St Jl Tk Tn Su Ne Ha Sk Cb Jd Va Go Fm An Ov := by
  have cj : (nI j).toNatClampNeg = j := nI_clamp (by omega)
  have vj : vp_in (nI j) 3 := vp_in_nI hj (by decide)
  intro f
  induction f with
  | zero => intro q _ _ h; omega
  | succ f ih =>
    intro q haq hq hf
    rcases Nat.lt_or_ge q e with z | z
    · have z3 : ¬ nI e ≤ nI q := nI_ge z (by omega)
      have q3 : nI q + 3 = nI (q + 3) := nI_add q 3
      have c0 : (nI q).toNatClampNeg = q := nI_clamp (by omega)
      have c1 : (nI (q + 3)).toNatClampNeg = q + 3 := nI_clamp (by omega)
      have i0 : vp_in (nI q) 54 := vp_in_nI (by omega) (by decide)
      have i1 : vp_in (nI (q + 3)) 54 := vp_in_nI (by omega) (by decide)
      simp only [wX_drop_36, z3, q3, c0, c1, i0, i1, nI_1, forall_eq, not_true_eq_false, not_false_eq_true, true_implies, false_implies, implies_true, and_true, true_and, and_self]
      rw [nq_uX (cv := nq_sh cv a q) (a := nq_sh cv a q (q + 3)) rfl rfl, nq_shs haq]
      exact ih (q + 1) (by omega) (by omega) (by omega)
    · have : q = e := by omega
      subst this
      have z3 : nI q ≤ nI q := nI_le (Nat.le_refl _) (by omega)
      simp only [wX_drop_36, z3, cj, vj, forall_eq, not_true_eq_false, not_false_eq_true, true_implies, false_implies, implies_true, and_true, true_and, and_self]
      exact H
theorem nq_ydrop {post : Int32 → SY → Prop} {cv : Nat → nq_V} {j a e r : Nat} (hj : j < 3) (he : e + 3 ≤ 18) (hr : 1 ≤ r ∧ r ≤ 6) (hR : yRo j = nI r) (hre : e = 3 * r - 3) (H : post (nI (r - 1)) (src, dis, opn, sbt, sbr, dep, mny, mor, grs, fnd, kpt, (upd yRo j (nI (r - 1))), (fun x => nq_k (nq_sh cv a (18 * j + e) x)), yTo, yIl, ySz, yTk, yIn, yEn, ySu, yWc, yWi, yHa, ySk, yCo, yLo, yGo, yFi, yRe, ySo, yAn)) : ∀ f q, a ≤ 18 * j + q → q ≤ e → e - q < f → wY_drop_30 post (nI j) src dis opn sbt sbr dep mny mor grs fnd kpt f (nI q) yRo (fun x => nq_k (nq_sh cv a (18 * j + q) x)) yTo yIl ySz yTk yIn yEn ySu yWc yWi yHa ySk yCo yLo yGo yFi yRe ySo yAn := by
  have cj : (nI j).toNatClampNeg = j := nI_clamp (by omega)
  have vj : vp_in (nI j) 3 := vp_in_nI hj (by decide)
  have e1 : 3 * nI r - 3 = nI e := by
    simp only [nq_i3, pk_mul]
    rw [pk_sub (by omega), hre]
  have e2 : nI r - 1 = nI (r - 1) := pk_sub (b := 1) (by omega)
  intro f
  induction f with
  | zero => intro q _ _ h; omega
  | succ f ih =>
    intro q haq hq hf
    rcases Nat.lt_or_ge q e with z | z
    · have z3 : ¬ nI e ≤ nI q := nI_ge z (by omega)
      have q1 : 18 * nI j + nI q = nI (18 * j + q) := by simp only [nq_i18, pk_mul, nI_add]
      have q3 : nI (18 * j + q) + 3 = nI (18 * j + q + 3) := nI_add _ 3
      have c0 : (nI (18 * j + q)).toNatClampNeg = 18 * j + q := nI_clamp (by omega)
      have c1 : (nI (18 * j + q + 3)).toNatClampNeg = 18 * j + q + 3 := nI_clamp (by omega)
      have i0 : vp_in (nI (18 * j + q)) 54 := vp_in_nI (by omega) (by decide)
      have i1 : vp_in (nI (18 * j + q + 3)) 54 := vp_in_nI (by omega) (by decide)
      simp only [wY_drop_30, cj, vj, hR, e1, z3, q1, q3, c0, c1, i0, i1, nI_1, forall_eq, not_true_eq_false, not_false_eq_true, true_implies, false_implies, implies_true, and_true, true_and, and_self]
      rw [nq_uY (cv := nq_sh cv a (18 * j + q)) (a := nq_sh cv a (18 * j + q) (18 * j + q + 3)) rfl rfl, nq_shs haq]
      exact ih (q + 1) (by omega) (by omega) (by omega)
    · have : q = e := by omega
      subst this
      have z3 : nI q ≤ nI q := nI_le (Nat.le_refl _) (by omega)
      simp only [wY_drop_30, cj, vj, hR, e1, e2, z3, pk_us, forall_eq, not_true_eq_false, not_false_eq_true, true_implies, false_implies, implies_true, and_true, true_and, and_self]
      exact H
theorem nq_3 {v1 : Int32} (h1 : ¬ (v1 < 0 ∨ nI 3 ≤ v1)) : ∃ j : Nat, j < 3 ∧ v1 = nI j := by
  rcases pk_ix v1 (n := 3) (by decide) with h | h | h
  · exact absurd (Or.inl h) h1
  · exact absurd (Or.inr h) h1
  · exact h
theorem nq_10 {v1 : Int32} (h1 : ¬ (v1 < 0 ∨ nI 10 ≤ v1)) : ∃ j : Nat, j < 10 ∧ v1 = nI j := by
  rcases pk_ix v1 (n := 10) (by decide) with h | h | h
  · exact absurd (Or.inl h) h1
  · exact absurd (Or.inr h) h1
  · exact h
theorem nq_10n {v1 : Int32} : ¬ (1 : Int32) = 0 := by decide
theorem nq_rowin {post : Int32 → Prop} {j i r : Nat} (hj : j < 3) (hr : Rc j = nI r) (hr6 : r ≤ 6) (hi : i < r) : wpX_isRow post (sc, od, nc, tp, cc, gc, ac, Ce, Rc, St, Jl, Tk, Tn, Su, Ne, Ha, Sk, Cb, Jd, Va, Go, Fm, An, Ov) (nI j) (nI i) ↔ post 1 := by
  have cj : (nI j).toNatClampNeg = j := nI_clamp (by omega)
  have vj : vp_in (nI j) 3 := vp_in_nI hj (by decide)
  simp only [wpX_isRow, nq_xt1 hj, cj, vj, hr, nI_pos (n := i) (by omega), nI_ge hi (by omega), forall_eq, not_true_eq_false, not_false_eq_true, true_implies, false_implies, implies_true, and_true, true_and, and_self, show ¬ (1 : Int32) = 0 from by decide]
theorem nq_rowout {post : Int32 → Prop} {x y : Int32} (h : x < 0 ∨ nI 3 ≤ x ∨ ∃ j, j < 3 ∧ x = nI j ∧ (y < 0 ∨ Rc j ≤ y)) : wpX_isRow post (sc, od, nc, tp, cc, gc, ac, Ce, Rc, St, Jl, Tk, Tn, Su, Ne, Ha, Sk, Cb, Jd, Va, Go, Fm, An, Ov) x y ↔ post 0 := by
  by_cases e : x < 0 ∨ nI 3 ≤ x
  · simp only [wpX_isRow, nq_xt0 e, forall_eq, not_true_eq_false, not_false_eq_true, true_implies, false_implies, implies_true, and_true, true_and, and_self]
  · obtain ⟨j, hj, rfl, h2⟩ := (h.resolve_left (fun z => e (Or.inl z))).resolve_left (fun z => e (Or.inr z))
    have cj : (nI j).toNatClampNeg = j := nI_clamp (by omega)
    have vj : vp_in (nI j) 3 := vp_in_nI hj (by decide)
    simp only [wpX_isRow, nq_xt1 hj, cj, vj, forall_eq, not_true_eq_false, not_false_eq_true, true_implies, false_implies, implies_true, and_true, true_and, and_self, show ¬ (1 : Int32) = 0 from by decide]
    by_cases z : y < 0
    · simp only [z, forall_eq, not_true_eq_false, not_false_eq_true, true_implies, false_implies, implies_true, and_true, true_and, and_self]
    · simp only [z, h2.resolve_left z, forall_eq, not_true_eq_false, not_false_eq_true, true_implies, false_implies, implies_true, and_true, true_and, and_self]
theorem i_vc_drop {k : Nat} {u : SX} {v : SY} (I : i_Rel k u v) (hk : k + 5 ≤ 2560) (v1 : Int32) (v2 : Int32) : wpX_drop (fun r u' => wpY_drop (fun r' v' => r' = r ∧ i_Rel (k + 5) u' v') v v1 v2) u v1 v2 := by
  obtain ⟨sc, od, nc, tp, cc, gc, ac, Ce, Rc, St, Jl, Tk, Tn, Su, Ne, Ha, Sk, Cb, Jd, Va, Go, Fm, An, Ov⟩ := u
  obtain ⟨src, dis, opn, sbt, sbr, dep, mny, mor, grs, fnd, kpt, yRo, yCe, yTo, yIl, ySz, yTk, yIn, yEn, ySu, yWc, yWi, yHa, ySk, yCo, yLo, yGo, yFi, yRe, ySo, yAn⟩ := v
  have I0 := I
  obtain ⟨s, m, rw, tb, su, n, t, cv, av, hs, hm, ⟨hc1, hc2, hc3⟩, ⟨hr1, hr2⟩, ht, hl, hu, hT, ha⟩ := I
  subst hr1
  by_cases h1 : v1 < 0 ∨ nI 3 ≤ v1
  · simp only [wpX_drop, wpY_drop, nq_rowout (h1.imp_right Or.inl), nq_yt0 h1, forall_eq, not_true_eq_false, not_false_eq_true, true_implies, false_implies, implies_true, and_true, true_and, and_self, show ¬ (1 : Int32) = 0 from by decide]
    exact I0
  obtain ⟨j, hj, rfl⟩ := nq_3 h1
  have cj : (nI j).toNatClampNeg = j := nI_clamp (by omega)
  have vj : vp_in (nI j) 3 := vp_in_nI hj (by decide)
  obtain ⟨hr3, hr4⟩ := hr2 j hj
  by_cases h2 : v2 < 0
  · simp only [wpX_drop, wpY_drop, nq_rowout (Or.inr (Or.inr ⟨j, hj, rfl, Or.inl h2⟩)), nq_yt1 hj, h2, forall_eq, not_true_eq_false, not_false_eq_true, true_implies, false_implies, implies_true, and_true, true_and, and_self]
    exact I0
  obtain ⟨i, hi, rfl⟩ := nI_of h2
  by_cases h3 : i < rw j
  · simp only [wpX_drop, wpY_drop, nq_rowin hj hr4 hr3 h3, nq_yt1 hj, h2, cj, vj, hr4, nI_lt h3 (by omega), wpX_placeOf, forall_eq, not_true_eq_false, not_false_eq_true, true_implies, false_implies, implies_true, and_true, true_and, and_self, show ¬ (1 : Int32) = 0 from by decide]
    generalize hr5 : rw j = r at hr3 hr4 h3
    have e0 : nI r - 1 = nI (r - 1) := pk_sub (b := 1) (by omega)
    have e1 : (nI j * 6 + nI (r - 1)) * 3 = nI (18 * j + (3 * r - 3)) := by
      simp only [nq_i6, nq_i3, pk_mul, nI_add]
      exact congrArg nI (by omega)
    have e2 : (nI j * 6 + nI i) * 3 = nI (18 * j + 3 * i) := by
      simp only [nq_i6, nq_i3, pk_mul, nI_add]
      exact congrArg nI (by omega)
    have e3 : 3 * nI i = nI (3 * i) := by simp only [nq_i3, pk_mul]
    simp only [e0, e1, e2, e3]
    have s0 : Ce = fun x => nq_e (nq_sh cv (18 * j + 3 * i) (18 * j + 3 * i) x) := by rw [nq_sh0]; exact hc1
    have s1 : yCe = fun x => nq_k (nq_sh cv (18 * j + 3 * i) (18 * j + 3 * i) x) := by rw [nq_sh0]; exact hc2
    rw [s0]
    refine ⟨_, nq_xdrop hj (by omega) ?_ (54 + 1) _ (by omega) (by omega) (by omega)⟩
    rw [s1]
    refine ⟨_, nq_ydrop hj (by omega) (by omega) hr4 rfl ?_ (54 + 1) (3 * i) (by omega) (by omega) (by omega)⟩
    refine ⟨rfl, s, m, nq_un rw j (r - 1), tb, su, n, t, _, av, hs, hm, ⟨rfl, rfl, nq_sh1 hc3⟩, ⟨rfl, fun i' hi' => ?_⟩, ht, hl, hu, hT, ha⟩
    simp only [nq_un, upd]
    by_cases e : i' = j
    · simp only [e, if_true]
      exact ⟨by omega, by trivial⟩
    · simp only [e, if_false]
      exact hr2 i' hi'
  · have h4 : nI (rw j) ≤ nI i := nI_le (by omega) hi
    have h5 : ¬ nI i < nI (rw j) := nI_nlt (by omega) hi
    simp only [wpX_drop, wpY_drop, nq_rowout (Or.inr (Or.inr ⟨j, hj, rfl, Or.inr (hr4 ▸ h4)⟩)), nq_yt1 hj, h2, cj, vj, hr4, h5, forall_eq, not_true_eq_false, not_false_eq_true, true_implies, false_implies, implies_true, and_true, true_and, and_self]
    exact I0
theorem nq_xshown {post : Int32 → Prop} {a : nq_V} : wpX_shown post (nq_e a) ↔ post (nq_k a) := by
  cases a with
  | none => simp only [wpX_shown, nq_e, nq_k, forall_eq, not_true_eq_false, not_false_eq_true, true_implies, false_implies, implies_true, and_true, true_and, and_self]
  | some x => simp only [wpX_shown, nq_e, nq_k, nq_ne1, Int32.toInt32_toInt64, forall_eq, not_true_eq_false, not_false_eq_true, true_implies, false_implies, implies_true, and_true, true_and, and_self]
theorem i_vc_value {k : Nat} {u : SX} {v : SY} (I : i_Rel k u v) (hk : k + 5 ≤ 2560) (v1 : Int32) (v2 : Int32) (v3 : Int32) : wpX_value (fun r => wpY_value (fun r' => r' = r ∧ i_Rel (k + 5) u v) v v1 v2 v3) u v1 v2 v3 := by
  obtain ⟨sc, od, nc, tp, cc, gc, ac, Ce, Rc, St, Jl, Tk, Tn, Su, Ne, Ha, Sk, Cb, Jd, Va, Go, Fm, An, Ov⟩ := u
  obtain ⟨src, dis, opn, sbt, sbr, dep, mny, mor, grs, fnd, kpt, yRo, yCe, yTo, yIl, ySz, yTk, yIn, yEn, ySu, yWc, yWi, yHa, ySk, yCo, yLo, yGo, yFi, yRe, ySo, yAn⟩ := v
  have I0 : i_Rel (k + 5) (sc, od, nc, tp, cc, gc, ac, Ce, Rc, St, Jl, Tk, Tn, Su, Ne, Ha, Sk, Cb, Jd, Va, Go, Fm, An, Ov) (src, dis, opn, sbt, sbr, dep, mny, mor, grs, fnd, kpt, yRo, yCe, yTo, yIl, ySz, yTk, yIn, yEn, ySu, yWc, yWi, yHa, ySk, yCo, yLo, yGo, yFi, yRe, ySo, yAn) := I
  generalize i_Rel (k + 5) (sc, od, nc, tp, cc, gc, ac, Ce, Rc, St, Jl, Tk, Tn, Su, Ne, Ha, Sk, Cb, Jd, Va, Go, Fm, An, Ov) (src, dis, opn, sbt, sbr, dep, mny, mor, grs, fnd, kpt, yRo, yCe, yTo, yIl, ySz, yTk, yIn, yEn, ySu, yWc, yWi, yHa, ySk, yCo, yLo, yGo, yFi, yRe, ySo, yAn) = G at I0
  obtain ⟨s, m, rw, tb, su, n, t, cv, av, hs, hm, ⟨hc1, hc2, hc3⟩, ⟨hr1, hr2⟩, ht, hl, hu, hT, ha⟩ := I
  subst hr1 hc1 hc2
  by_cases h1 : v1 < 0 ∨ nI 3 ≤ v1
  · simp only [wpX_value, wpY_value, nq_rowout (h1.imp_right Or.inl), nq_yt0 h1, forall_eq, not_true_eq_false, not_false_eq_true, true_implies, false_implies, implies_true, and_true, true_and, and_self, show ¬ (1 : Int32) = 0 from by decide]
    exact I0
  obtain ⟨j, hj, rfl⟩ := nq_3 h1
  have cj : (nI j).toNatClampNeg = j := nI_clamp (by omega)
  have vj : vp_in (nI j) 3 := vp_in_nI hj (by decide)
  obtain ⟨hr3, hr4⟩ := hr2 j hj
  by_cases h2 : v2 < 0
  · simp only [wpX_value, wpY_value, nq_rowout (Or.inr (Or.inr ⟨j, hj, rfl, Or.inl h2⟩)), nq_yt1 hj, h2, forall_eq, not_true_eq_false, not_false_eq_true, true_implies, false_implies, implies_true, and_true, true_and, and_self]
    exact I0
  obtain ⟨i, hi, rfl⟩ := nI_of h2
  by_cases h3 : i < rw j
  · simp only [wpX_value, wpY_value, nq_rowin hj hr4 hr3 h3, nq_yt1 hj, h2, cj, vj, hr4, nI_ge h3 (by omega), wpX_placeOf, forall_eq, not_true_eq_false, not_false_eq_true, true_implies, false_implies, implies_true, and_true, true_and, and_self, show ¬ (1 : Int32) = 0 from by decide]
    by_cases h4 : v3 < 0
    · simp only [h4, forall_eq, not_true_eq_false, not_false_eq_true, true_implies, false_implies, implies_true, and_true, true_and, and_self]
      exact I0
    obtain ⟨c, hc, rfl⟩ := nI_of h4
    by_cases h5 : c < 3
    · have e1 : (nI j * 6 + nI i) * 3 + nI c = nI (18 * j + 3 * i + c) := by
        simp only [nq_i6, nq_i3, pk_mul, nI_add]
        exact congrArg nI (by omega)
      have e2 : 18 * nI j + 3 * nI i + nI c = nI (18 * j + 3 * i + c) := by
        simp only [nq_i18, nq_i3, pk_mul, nI_add]
      have i0 : vp_in (nI (18 * j + 3 * i + c)) 54 := vp_in_nI (by omega) (by decide)
      have c0 : (nI (18 * j + 3 * i + c)).toNatClampNeg = 18 * j + 3 * i + c := nI_clamp (by omega)
      simp only [h4, nI_lt (b := 3) h5 (by decide), nI_le (b := 2) (show c ≤ 2 by omega) (by decide), show (3 : Int32) = nI 3 from rfl, show (2 : Int32) = nI 2 from rfl, forall_eq, not_true_eq_false, not_false_eq_true, true_implies, false_implies, implies_true, and_true, true_and, and_self]
      simp only [show nI 3 = (3 : Int32) from rfl, e1, e2, i0, c0, nq_xshown, forall_eq, not_true_eq_false, not_false_eq_true, true_implies, false_implies, implies_true, and_true, true_and, and_self]
      exact I0
    · have h6 : ¬ nI c < 3 := nI_nlt (b := 3) (by omega) hc
      have h7 : ¬ nI c ≤ 2 := nI_ge (a := 2) (by omega) hc
      simp only [h4, h6, h7, forall_eq, not_true_eq_false, not_false_eq_true, true_implies, false_implies, implies_true, and_true, true_and, and_self]
      exact I0
  · have h4 : nI (rw j) ≤ nI i := nI_le (by omega) hi
    simp only [wpX_value, wpY_value, nq_rowout (Or.inr (Or.inr ⟨j, hj, rfl, Or.inr (hr4 ▸ h4)⟩)), nq_yt1 hj, h2, cj, vj, hr4, h4, forall_eq, not_true_eq_false, not_false_eq_true, true_implies, false_implies, implies_true, and_true, true_and, and_self]
    exact I0
end
end
section
section
variable {sc od nc tp cc gc ac : Int32} {Ce Sk Va An Ov : Nat → Int64} {Rc St Jl Tk Tn Su Ne Ha Cb Jd Go Fm : Nat → Int32}
variable {src dis opn sbt sbr dep mny mor grs fnd kpt : Int32} {ySk yRe ySo yAn : Nat → Int64} {yRo yCe yTo yIl ySz yTk yIn yEn ySu yWc yWi yHa yCo yLo yGo yFi : Nat → Int32}
theorem i_vc_from {k : Nat} {u : SX} {v : SY} (I : i_Rel k u v) (hk : k + 5 ≤ 2560) (v1 : Int32) (v2 : Int32) : wpX_from (fun r u' => wpY_from (fun r' v' => r' = r ∧ i_Rel (k + 5) u' v') v v1 (lw_bz v2)) u v1 (lw_bz v2) := by
  obtain ⟨sc, od, nc, tp, cc, gc, ac, Ce, Rc, St, Jl, Tk, Tn, Su, Ne, Ha, Sk, Cb, Jd, Va, Go, Fm, An, Ov⟩ := u
  obtain ⟨src, dis, opn, sbt, sbr, dep, mny, mor, grs, fnd, kpt, yRo, yCe, yTo, yIl, ySz, yTk, yIn, yEn, ySu, yWc, yWi, yHa, ySk, yCo, yLo, yGo, yFi, yRe, ySo, yAn⟩ := v
  have I0 := I
  obtain ⟨s, m, rw, tb, su, n, t, cv, av, ⟨hs1, rfl, rfl, hs4⟩, hm, hc, hr, ⟨ht1, ht2⟩, hl, hu, hT, ha⟩ := I
  subst ht1 hl
  by_cases h1 : v1 < 0 ∨ nI 3 ≤ v1
  · simp only [wpX_from, wpY_from, nq_xt0 h1, nq_yt0 h1, forall_eq, not_true_eq_false, not_false_eq_true, true_implies, false_implies, implies_true, and_true, true_and, and_self, show ¬ (1 : Int32) = 0 from by decide]
    exact I0
  obtain ⟨j, hj, rfl⟩ := nq_3 h1
  by_cases h2 : s = 3
  · subst h2
    simp only [wpX_from, wpY_from, nq_xt1 hj, nq_yt1 hj, show nI 3 = 3 from rfl, show ¬ (3 : Int32) < 3 from by decide, forall_eq, not_true_eq_false, not_false_eq_true, true_implies, false_implies, implies_true, and_true, true_and, and_self, show ¬ (1 : Int32) = 0 from by decide]
    exact I0
  · have x3 : nI s < 3 := nI_lt (b := 3) (by omega) (by decide)
    have y3 : ¬ nI s = 3 := fun e => h2 ((nI_eq (a := s) (b := 3) (by omega) (by decide)).mp e)
    have vs : vp_in (nI s) 3 := vp_in_nI (by omega) (by decide)
    have cs : (nI s).toNatClampNeg = s := nI_clamp (by omega)
    simp only [wpX_from, wpY_from, nq_xt1 hj, nq_yt1 hj, x3, y3, vs, cs, nI_1, nI_pred, forall_eq, not_true_eq_false, not_false_eq_true, true_implies, false_implies, implies_true, and_true, true_and, and_self, show ¬ (1 : Int32) = 0 from by decide]
    refine ⟨s + 1, m, rw, nq_un tb s j, su, n, t, cv, av, ⟨by omega, rfl, rfl, hs4⟩, hm, hc, hr, ⟨rfl, fun i hi => ?_⟩, rfl, hu, hT, ha⟩
    simp only [nq_un, upd]
    by_cases e : i = s
    · simp only [e, if_true]
      exact ⟨hj, by trivial⟩
    · simp only [e, if_false]
      exact ht2 i hi
theorem nq_tt_e {n t : Nat → Nat} {p : Nat} (h : nq_TT n t Tn Tk) : nq_TT (nq_un n p 0) t (upd Tn p 0) Tk := by
  intro q hq
  simp only [nq_un, upd]
  by_cases e : q = p
  · simp only [e, if_true]
    exact ⟨by trivial, fun k hk => absurd hk (Nat.not_lt_zero k)⟩
  · simp only [e, if_false]
    exact h q hq
theorem nq_wf_e {n t : Nat → Nat} {p : Nat} (h : nq_WF n t) : nq_WF (nq_un n p 0) t := by
  intro q hq
  simp only [nq_un]
  by_cases e : q = p
  · simp only [e, if_true]
    exact ⟨by omega, fun k hk => absurd hk (Nat.not_lt_zero k)⟩
  · simp only [e, if_false]
    exact h q hq
theorem i_vc_erase {k : Nat} {u : SX} {v : SY} (I : i_Rel k u v) (hk : k + 5 ≤ 2560) (v1 : Int32) : wpX_erase (fun r u' => wpY_erase (fun r' v' => r' = r ∧ i_Rel (k + 5) u' v') v v1) u v1 := by
  obtain ⟨sc, od, nc, tp, cc, gc, ac, Ce, Rc, St, Jl, Tk, Tn, Su, Ne, Ha, Sk, Cb, Jd, Va, Go, Fm, An, Ov⟩ := u
  obtain ⟨src, dis, opn, sbt, sbr, dep, mny, mor, grs, fnd, kpt, yRo, yCe, yTo, yIl, ySz, yTk, yIn, yEn, ySu, yWc, yWi, yHa, ySk, yCo, yLo, yGo, yFi, yRe, ySo, yAn⟩ := v
  have I0 := I
  obtain ⟨s, m, rw, tb, su, n, t, cv, av, hs, hm, hc, hr, ht, hl, hu, ⟨hT1, hT2, hT3, hT4⟩, ha⟩ := I
  subst hT1
  by_cases h1 : v1 < 0 ∨ nI 10 ≤ v1
  · simp only [wpX_erase, wpY_erase, nq_xp0 h1, forall_eq, not_true_eq_false, not_false_eq_true, true_implies, false_implies, implies_true, and_true, true_and, and_self]
    rcases h1 with h1 | h1
    · simp only [h1, forall_eq, not_true_eq_false, not_false_eq_true, true_implies, false_implies, implies_true, and_true, true_and, and_self]
      exact I0
    · have e1 : ¬ v1 < 0 := nq_nonneg h1 (by decide)
      have e2 : ¬ v1 ≤ 9 := nq_nle (a := 9) h1 (by decide) (by decide)
      simp only [e1, e2, forall_eq, not_true_eq_false, not_false_eq_true, true_implies, false_implies, implies_true, and_true, true_and, and_self]
      exact I0
  obtain ⟨j, hj, rfl⟩ := nq_10 h1
  have e1 : ¬ nI j < 0 := nI_pos (by omega)
  have e2 : nI j ≤ 9 := nI_le (b := 9) (by omega) (by decide)
  have cj : (nI j).toNatClampNeg = j := nI_clamp (by omega)
  have vj : vp_in (nI j) 10 := vp_in_nI hj (by decide)
  simp only [wpX_erase, wpY_erase, nq_xp1 hj, e1, e2, cj, vj, forall_eq, not_true_eq_false, not_false_eq_true, true_implies, false_implies, implies_true, and_true, true_and, and_self, show ¬ (1 : Int32) = 0 from by decide]
  exact ⟨s, m, rw, tb, su, nq_un n j 0, t, cv, av, hs, hm, hc, hr, ht, hl, hu, ⟨rfl, hT2, nq_tt_e hT3, nq_wf_e hT4⟩, ha⟩
theorem i_vc_summary {k : Nat} {u : SX} {v : SY} (I : i_Rel k u v) (hk : k + 5 ≤ 2560) (v1 : Int32) (v2 : Int32) : wpX_summary (fun r u' => wpY_summary (fun r' v' => r' = r ∧ i_Rel (k + 5) u' v') v v1 v2) u v1 v2 := by
  obtain ⟨sc, od, nc, tp, cc, gc, ac, Ce, Rc, St, Jl, Tk, Tn, Su, Ne, Ha, Sk, Cb, Jd, Va, Go, Fm, An, Ov⟩ := u
  obtain ⟨src, dis, opn, sbt, sbr, dep, mny, mor, grs, fnd, kpt, yRo, yCe, yTo, yIl, ySz, yTk, yIn, yEn, ySu, yWc, yWi, yHa, ySk, yCo, yLo, yGo, yFi, yRe, ySo, yAn⟩ := v
  have I0 := I
  obtain ⟨s, m, rw, tb, su, n, t, cv, av, hs, hm, hc, hr, ht, hl, ⟨hu1, hu2⟩, hT, ha⟩ := I
  subst hu1
  by_cases h1 : v1 < 0 ∨ nI 3 ≤ v1
  · simp only [wpX_summary, wpY_summary, nq_xo0 h1, forall_eq, not_true_eq_false, not_false_eq_true, true_implies, false_implies, implies_true, and_true, true_and, and_self]
    rcases h1 with h1 | h1
    · simp only [h1, forall_eq, not_true_eq_false, not_false_eq_true, true_implies, false_implies, implies_true, and_true, true_and, and_self]
      exact I0
    · have e1 : ¬ v1 < 0 := nq_nonneg h1 (by decide)
      have e2 : 2 < v1 := nq_ltt (a := 2) h1 (by decide) (by decide)
      simp only [e1, e2, forall_eq, not_true_eq_false, not_false_eq_true, true_implies, false_implies, implies_true, and_true, true_and, and_self]
      exact I0
  obtain ⟨j, hj, rfl⟩ := nq_3 h1
  have e1 : ¬ nI j < 0 := nI_pos (by omega)
  have e2 : ¬ 2 < nI j := nI_nlt (a := 2) (by omega) (by decide)
  have cj : (nI j).toNatClampNeg = j := nI_clamp (by omega)
  have vj : vp_in (nI j) 3 := vp_in_nI hj (by decide)
  by_cases h2 : v2 < 0
  · simp only [wpX_summary, wpY_summary, nq_xo1 hj, e1, e2, h2, forall_eq, not_true_eq_false, not_false_eq_true, true_implies, false_implies, implies_true, and_true, true_and, and_self, show ¬ (1 : Int32) = 0 from by decide]
    exact I0
  obtain ⟨i, hi, rfl⟩ := nI_of h2
  by_cases h3 : i ≤ 5
  · have e3 : nI i ≤ 5 := nI_le (b := 5) h3 (by decide)
    simp only [wpX_summary, wpY_summary, nq_xo1 hj, e1, e2, h2, e3, cj, vj, forall_eq, not_true_eq_false, not_false_eq_true, true_implies, false_implies, implies_true, and_true, true_and, and_self, show ¬ (1 : Int32) = 0 from by decide]
    refine ⟨s, m, rw, tb, nq_un su j i, n, t, cv, av, hs, hm, hc, hr, ht, hl, ⟨rfl, fun i' hi' => ?_⟩, hT, ha⟩
    simp only [nq_un, upd]
    by_cases e : i' = j
    · simp only [e, if_true]
      exact ⟨h3, by trivial⟩
    · simp only [e, if_false]
      exact hu2 i' hi'
  · have e3 : ¬ nI i ≤ 5 := nI_ge (a := 5) (by omega) hi
    simp only [wpX_summary, wpY_summary, nq_xo1 hj, e1, e2, h2, e3, forall_eq, not_true_eq_false, not_false_eq_true, true_implies, false_implies, implies_true, and_true, true_and, and_self, show ¬ (1 : Int32) = 0 from by decide]
    exact I0
theorem nq_bzf (x : Int32) : fits .boolean (.int (lw_bz x)) = true := by
  rcases lw_bz_01 x with h | h <;> rw [h] <;> rfl
theorem i_vc_distinct {k : Nat} {u : SX} {v : SY} (I : i_Rel k u v) (hk : k + 5 ≤ 2560) (v1 : Int32) : wpX_distinct (fun r u' => wpY_distinct (fun r' v' => r' = r ∧ i_Rel (k + 5) u' v') v (lw_bz v1)) u (lw_bz v1) := by
  obtain ⟨sc, od, nc, tp, cc, gc, ac, Ce, Rc, St, Jl, Tk, Tn, Su, Ne, Ha, Sk, Cb, Jd, Va, Go, Fm, An, Ov⟩ := u
  obtain ⟨src, dis, opn, sbt, sbr, dep, mny, mor, grs, fnd, kpt, yRo, yCe, yTo, yIl, ySz, yTk, yIn, yEn, ySu, yWc, yWi, yHa, ySk, yCo, yLo, yGo, yFi, yRe, ySo, yAn⟩ := v
  obtain ⟨s, m, rw, tb, su, n, t, cv, av, ⟨hs1, hs2, hs3, hs4⟩, hm, hc, hr, ht, hl, hu, hT, ha⟩ := I
  subst hs4
  by_cases h : od = 0
  · simp only [wpX_distinct, wpY_distinct, lw_bz_n, nq_bzf, h, forall_eq, not_true_eq_false, not_false_eq_true, true_implies, false_implies, implies_true, and_true, true_and, and_self]
    exact ⟨s, m, rw, tb, su, n, t, cv, av, ⟨hs1, hs2, hs3, rfl⟩, hm, hc, hr, ht, hl, hu, hT, ha⟩
  · simp only [wpX_distinct, wpY_distinct, lw_bz_n, nq_bzf, h, forall_eq, not_true_eq_false, not_false_eq_true, true_implies, false_implies, implies_true, and_true, true_and, and_self]
    exact ⟨s, m, rw, tb, su, n, t, cv, av, ⟨hs1, hs2, hs3, rfl⟩, hm, hc, hr, ht, hl, hu, hT, ha⟩
theorem i_vc_size {k : Nat} {u : SX} {v : SY} (I : i_Rel k u v) (hk : k + 5 ≤ 2560) : wpX_size (fun r => wpY_size (fun r' => r' = r ∧ i_Rel (k + 5) u v) v) u := by
  obtain ⟨sc, od, nc, tp, cc, gc, ac, Ce, Rc, St, Jl, Tk, Tn, Su, Ne, Ha, Sk, Cb, Jd, Va, Go, Fm, An, Ov⟩ := u
  obtain ⟨src, dis, opn, sbt, sbr, dep, mny, mor, grs, fnd, kpt, yRo, yCe, yTo, yIl, ySz, yTk, yIn, yEn, ySu, yWc, yWi, yHa, ySk, yCo, yLo, yGo, yFi, yRe, ySo, yAn⟩ := v
  have I0 : i_Rel (k + 5) (sc, od, nc, tp, cc, gc, ac, Ce, Rc, St, Jl, Tk, Tn, Su, Ne, Ha, Sk, Cb, Jd, Va, Go, Fm, An, Ov) (src, dis, opn, sbt, sbr, dep, mny, mor, grs, fnd, kpt, yRo, yCe, yTo, yIl, ySz, yTk, yIn, yEn, ySu, yWc, yWi, yHa, ySk, yCo, yLo, yGo, yFi, yRe, ySo, yAn) := I
  obtain ⟨s, m, rw, tb, su, n, t, cv, av, hs, ⟨hm1, hm2, hm3, hm4⟩, hc, hr, ht, hl, hu, hT, ha⟩ := I
  exact ⟨hm3.trans hm2.symm, I0⟩
theorem nq_yshown {a : nq_V} {A : Int32 → Prop} : ((nq_f a = 1099511627776 → A 1000) ∧ (¬ nq_f a = 1099511627776 → A (nq_f a).toInt32)) ↔ A (nq_k a) := by
  cases a with
  | none => simp only [nq_f, nq_k, forall_eq, not_true_eq_false, not_false_eq_true, true_implies, false_implies, implies_true, and_true, true_and, and_self]
  | some x => simp only [nq_f, nq_k, nq_ne2, Int32.toInt32_toInt64, forall_eq, not_true_eq_false, not_false_eq_true, true_implies, false_implies, implies_true, and_true, true_and, and_self]
theorem i_vc_answer {k : Nat} {u : SX} {v : SY} (I : i_Rel k u v) (hk : k + 5 ≤ 2560) (v1 : Int32) (v2 : Int32) : wpX_answer (fun r => wpY_answer (fun r' => r' = r ∧ i_Rel (k + 5) u v) v v1 v2) u v1 v2 := by
  obtain ⟨sc, od, nc, tp, cc, gc, ac, Ce, Rc, St, Jl, Tk, Tn, Su, Ne, Ha, Sk, Cb, Jd, Va, Go, Fm, An, Ov⟩ := u
  obtain ⟨src, dis, opn, sbt, sbr, dep, mny, mor, grs, fnd, kpt, yRo, yCe, yTo, yIl, ySz, yTk, yIn, yEn, ySu, yWc, yWi, yHa, ySk, yCo, yLo, yGo, yFi, yRe, ySo, yAn⟩ := v
  have I0 : i_Rel (k + 5) (sc, od, nc, tp, cc, gc, ac, Ce, Rc, St, Jl, Tk, Tn, Su, Ne, Ha, Sk, Cb, Jd, Va, Go, Fm, An, Ov) (src, dis, opn, sbt, sbr, dep, mny, mor, grs, fnd, kpt, yRo, yCe, yTo, yIl, ySz, yTk, yIn, yEn, ySu, yWc, yWi, yHa, ySk, yCo, yLo, yGo, yFi, yRe, ySo, yAn) := I
  generalize i_Rel (k + 5) (sc, od, nc, tp, cc, gc, ac, Ce, Rc, St, Jl, Tk, Tn, Su, Ne, Ha, Sk, Cb, Jd, Va, Go, Fm, An, Ov) (src, dis, opn, sbt, sbr, dep, mny, mor, grs, fnd, kpt, yRo, yCe, yTo, yIl, ySz, yTk, yIn, yEn, ySu, yWc, yWi, yHa, ySk, yCo, yLo, yGo, yFi, yRe, ySo, yAn) = G at I0
  obtain ⟨s, m, rw, tb, su, n, t, cv, av, hs, ⟨hm1, hm2, hm3, hm4⟩, hc, hr, ht, hl, hu, hT, ha⟩ := I
  subst hm2 hm3
  by_cases h1 : v1 < 0
  · simp only [wpX_answer, wpY_answer, h1, forall_eq, not_true_eq_false, not_false_eq_true, true_implies, false_implies, implies_true, and_true, true_and, and_self]
    exact I0
  obtain ⟨i, hi, rfl⟩ := nI_of h1
  by_cases h2 : i < m
  · have e2 : ¬ nI m ≤ nI i := nI_ge h2 (by omega)
    by_cases h3 : v2 < 0 ∨ nI 3 ≤ v2
    · simp only [wpX_answer, wpY_answer, h1, e2, nq_xo0 h3, forall_eq, not_true_eq_false, not_false_eq_true, true_implies, false_implies, implies_true, and_true, true_and, and_self]
      rcases h3 with h3 | h3
      · simp only [h3, forall_eq, not_true_eq_false, not_false_eq_true, true_implies, false_implies, implies_true, and_true, true_and, and_self]
        exact I0
      · have e3 : ¬ v2 < 0 := nq_nonneg h3 (by decide)
        have e4 : ¬ v2 ≤ 2 := nq_nle (a := 2) h3 (by decide) (by decide)
        simp only [e3, e4, forall_eq, not_true_eq_false, not_false_eq_true, true_implies, false_implies, implies_true, and_true, true_and, and_self]
        exact I0
    · obtain ⟨j, hj, rfl⟩ := nq_3 h3
      have e3 : ¬ nI j < 0 := nI_pos (by omega)
      have e4 : nI j ≤ 2 := nI_le (b := 2) (by omega) (by decide)
      have x1 : nI i * 3 + nI j = nI (3 * i + j) := by
        simp only [nq_i3, pk_mul, nI_add]
        exact congrArg nI (by omega)
      have x2 : 3 * nI i + nI j = nI (3 * i + j) := by simp only [nq_i3, pk_mul, nI_add]
      have i0 : vp_in (nI (3 * i + j)) 648 := vp_in_nI (by omega) (by decide)
      have c0 : (nI (3 * i + j)).toNatClampNeg = 3 * i + j := nI_clamp (by omega)
      obtain ⟨a1, a2⟩ := ha (3 * i + j) (by omega)
      simp only [wpX_answer, wpY_answer, h1, e2, nq_xo1 hj, e3, e4, x1, x2, i0, c0, a1, a2, nq_xshown, forall_eq, not_true_eq_false, not_false_eq_true, true_implies, false_implies, implies_true, and_true, true_and, and_self, show ¬ (1 : Int32) = 0 from by decide]
      exact (nq_yshown (A := fun r => r = nq_k (av (3 * i + j)) ∧ G)).mpr ⟨rfl, I0⟩
  · have e2 : nI m ≤ nI i := nI_le (by omega) hi
    simp only [wpX_answer, wpY_answer, h1, e2, forall_eq, not_true_eq_false, not_false_eq_true, true_implies, false_implies, implies_true, and_true, true_and, and_self]
    exact I0
/-- the digest's share of a value -/
def nq_0 : nq_V → Int32
  | none => 0
  | some x => x
theorem nq_xcounted {post : Int32 → Prop} {a : nq_V} : wpX_counted post (nq_e a) ↔ post (nq_0 a) := by
  cases a with
  | none => simp only [wpX_counted, nq_e, nq_0, forall_eq, not_true_eq_false, not_false_eq_true, true_implies, false_implies, implies_true, and_true, true_and, and_self]
  | some x => simp only [wpX_counted, nq_e, nq_0, nq_ne1, Int32.toInt32_toInt64, forall_eq, not_true_eq_false, not_false_eq_true, true_implies, false_implies, implies_true, and_true, true_and, and_self]
def nq_dg (av : Nat → nq_V) : Nat → Int32
  | 0 => 0
  | i + 1 => nq_dg av i + (nI i + 1) * (nq_0 (av (3 * i)) + 3 * nq_0 (av (3 * i + 1)) + 7 * nq_0 (av (3 * i + 2)))
theorem nq_xdg {post : Int32 → Prop} {av : Nat → nq_V} {m : Nat} (hm : m ≤ 216) (ha : ∀ j, j < 3 * m → An j = nq_e (av j)) (H : post (nq_dg av m)) : ∀ f i, i ≤ m → m - i < f → wX_digest_4 post sc od nc tp cc gc (nI m) Ce Rc St Jl Tk Tn Su Ne Ha Sk Cb Jd Va Go Fm An Ov f (nq_dg av i) (nI i) := by
  intro f
  induction f with
  | zero => intro q _ h; omega
  | succ f ih =>
    intro i hi hf
    rcases Nat.lt_or_ge i m with z | z
    · have z3 : ¬ nI m ≤ nI i := nI_ge z (by omega)
      have x0 : nI i * 3 = nI (3 * i) := by
        simp only [nq_i3, pk_mul]
        exact congrArg nI (by omega)
      have x1 : nI (3 * i) + 1 = nI (3 * i + 1) := nI_add _ 1
      have x2 : nI (3 * i) + 2 = nI (3 * i + 2) := nI_add _ 2
      have i0 : vp_in (nI (3 * i)) 648 := vp_in_nI (by omega) (by decide)
      have i1 : vp_in (nI (3 * i + 1)) 648 := vp_in_nI (by omega) (by decide)
      have i2 : vp_in (nI (3 * i + 2)) 648 := vp_in_nI (by omega) (by decide)
      have c0 : (nI (3 * i)).toNatClampNeg = 3 * i := nI_clamp (by omega)
      have c1 : (nI (3 * i + 1)).toNatClampNeg = 3 * i + 1 := nI_clamp (by omega)
      have c2 : (nI (3 * i + 2)).toNatClampNeg = 3 * i + 2 := nI_clamp (by omega)
      simp only [wX_digest_4, z3, x0, x1, x2, i0, i1, i2, c0, c1, c2, ha (3 * i) (by omega), ha (3 * i + 1) (by omega), ha (3 * i + 2) (by omega), nq_xcounted, forall_eq, not_true_eq_false, not_false_eq_true, true_implies, false_implies, implies_true, and_true, true_and, and_self]
      have := ih (i + 1) (by omega) (by omega)
      rw [← nI_1] at this
      exact this
    · have : i = m := by omega
      subst this
      have z3 : nI i ≤ nI i := nI_le (Nat.le_refl _) (by omega)
      simp only [wX_digest_4, z3, forall_eq, not_true_eq_false, not_false_eq_true, true_implies, false_implies, implies_true, and_true, true_and, and_self]
      exact H
theorem nq_y51 {post : Int32 → Prop} {J4 J14 : Int32 → Int32 → Prop} {x1 x2 : Int32} {o : Nat} {z : Int32} (ho : o < 3) (H : J14 (x1 + (x2 + 1) * (if o = 0 then z else if o = 1 then 3 * z else 7 * z)) (nI (o + 1))) : wY_digest_51 post J4 J14 x1 x2 (nI o) z src dis opn sbt sbr dep mny mor grs fnd kpt yRo yCe yTo yIl ySz yTk yIn yEn ySu yWc yWi yHa ySk yCo yLo yGo yFi yRe ySo yAn := by
  match o, ho with
  | 0, _ => simp only [wY_digest_51, show nI 0 = 0 from rfl, forall_eq, not_true_eq_false, not_false_eq_true, true_implies, false_implies, implies_true, and_true, true_and, and_self]; exact H
  | 1, _ => simp only [wY_digest_51, show nI 1 = 1 from rfl, show ¬ (1 : Int32) = 0 from by decide, forall_eq, not_true_eq_false, not_false_eq_true, true_implies, false_implies, implies_true, and_true, true_and, and_self]; exact H
  | 2, _ => simp only [wY_digest_51, show ¬ nI 2 = 0 from by decide, show ¬ nI 2 = 1 from by decide, forall_eq, not_true_eq_false, not_false_eq_true, true_implies, false_implies, implies_true, and_true, true_and, and_self]; exact H
theorem nq_y14 {post : Int32 → Prop} {J4 : Int32 → Int32 → Prop} {av : Nat → nq_V} {m i o f : Nat} {x : Int32} (hm : m ≤ 216) (hi : i < m) (ho : o < 3) (ha : ∀ j, j < 3 * m → yAn j = nq_f (av j)) (H : wY_digest_14 post J4 (nI i) src dis opn sbt sbr dep mny mor grs fnd kpt yRo yCe yTo yIl ySz yTk yIn yEn ySu yWc yWi yHa ySk yCo yLo yGo yFi yRe ySo yAn f (x + (nI i + 1) * (if o = 0 then nq_0 (av (3 * i + o)) else if o = 1 then 3 * nq_0 (av (3 * i + o)) else 7 * nq_0 (av (3 * i + o)))) (nI (o + 1))) : wY_digest_14 post J4 (nI i) src dis opn sbt sbr dep mny mor grs fnd kpt yRo yCe yTo yIl ySz yTk yIn yEn ySu yWc yWi yHa ySk yCo yLo yGo yFi yRe ySo yAn (f + 1) x (nI o) := by
  have z3 : ¬ 3 ≤ nI o := nI_ge (b := 3) ho (by decide)
  have x2 : 3 * nI i + nI o = nI (3 * i + o) := by simp only [nq_i3, pk_mul, nI_add]
  have i0 : vp_in (nI (3 * i + o)) 648 := vp_in_nI (by omega) (by decide)
  have c0 : (nI (3 * i + o)).toNatClampNeg = 3 * i + o := nI_clamp (by omega)
  simp only [wY_digest_14, z3, x2, i0, c0, ha (3 * i + o) (by omega), forall_eq, not_true_eq_false, not_false_eq_true, true_implies, false_implies, implies_true, and_true, true_and, and_self]
  generalize av (3 * i + o) = a at H
  cases a with
  | none =>
    simp only [nq_f, forall_eq, not_true_eq_false, not_false_eq_true, true_implies, false_implies, implies_true, and_true, true_and, and_self]
    exact nq_y51 ho H
  | some y =>
    simp only [nq_f, nq_ne2, Int32.toInt32_toInt64, forall_eq, not_true_eq_false, not_false_eq_true, true_implies, false_implies, implies_true, and_true, true_and, and_self]
    exact nq_y51 ho H
theorem nq_ydg {post : Int32 → Prop} {av : Nat → nq_V} {m : Nat} (hm : m ≤ 216) (ha : ∀ j, j < 3 * m → yAn j = nq_f (av j)) (H : post (nq_dg av m)) : ∀ f i, i ≤ m → m - i < f → wY_digest_4 post src dis opn sbt sbr dep mny mor grs fnd (nI m) yRo yCe yTo yIl ySz yTk yIn yEn ySu yWc yWi yHa ySk yCo yLo yGo yFi yRe ySo yAn f (nq_dg av i) (nI i) := by
  intro f
  induction f with
  | zero => intro q _ h; omega
  | succ f ih =>
    intro i hi hf
    rcases Nat.lt_or_ge i m with z | z
    · have z3 : ¬ nI m ≤ nI i := nI_ge z (by omega)
      simp only [wY_digest_4, z3, forall_eq, not_true_eq_false, not_false_eq_true, true_implies, false_implies, implies_true, and_true, true_and, and_self]
      refine ⟨4, nq_y14 (o := 0) (m := m) hm z (by omega) ha (nq_y14 (o := 1) (m := m) hm z (by omega) ha (nq_y14 (o := 2) (m := m) hm z (by omega) ha ?_))⟩
      simp only [wY_digest_14, show (3 : Int32) ≤ nI (2 + 1) from by decide, nI_1, forall_eq, not_true_eq_false, not_false_eq_true, true_implies, false_implies, implies_true, and_true, true_and, and_self]
      have := ih (i + 1) (by omega) (by omega)
      have e : nq_dg av (i + 1) = nq_dg av i + (nI i + 1) * (if 0 = 0 then nq_0 (av (3 * i + 0)) else if 0 = 1 then 3 * nq_0 (av (3 * i + 0)) else 7 * nq_0 (av (3 * i + 0))) + (nI i + 1) * (if 1 = 0 then nq_0 (av (3 * i + 1)) else if 1 = 1 then 3 * nq_0 (av (3 * i + 1)) else 7 * nq_0 (av (3 * i + 1))) + (nI i + 1) * (if 2 = 0 then nq_0 (av (3 * i + 2)) else if 2 = 1 then 3 * nq_0 (av (3 * i + 2)) else 7 * nq_0 (av (3 * i + 2))) := by
        simp only [nq_dg, if_true, show ¬ (1 = 0) from by decide, show ¬ (2 = 0) from by decide, show ¬ (2 = 1) from by decide, if_false, Nat.add_zero]
        grind
      rw [e, ← nI_1] at this
      rw [← nI_1]
      exact this
    · have : i = m := by omega
      subst this
      have z3 : nI i ≤ nI i := nI_le (Nat.le_refl _) (by omega)
      simp only [wY_digest_4, z3, forall_eq, not_true_eq_false, not_false_eq_true, true_implies, false_implies, implies_true, and_true, true_and, and_self]
      exact H
theorem i_vc_digest {k : Nat} {u : SX} {v : SY} (I : i_Rel k u v) (hk : k + 5 ≤ 2560) : wpX_digest (fun r => wpY_digest (fun r' => r' = r ∧ i_Rel (k + 5) u v) v) u := by
  obtain ⟨sc, od, nc, tp, cc, gc, ac, Ce, Rc, St, Jl, Tk, Tn, Su, Ne, Ha, Sk, Cb, Jd, Va, Go, Fm, An, Ov⟩ := u
  obtain ⟨src, dis, opn, sbt, sbr, dep, mny, mor, grs, fnd, kpt, yRo, yCe, yTo, yIl, ySz, yTk, yIn, yEn, ySu, yWc, yWi, yHa, ySk, yCo, yLo, yGo, yFi, yRe, ySo, yAn⟩ := v
  have I0 : i_Rel (k + 5) (sc, od, nc, tp, cc, gc, ac, Ce, Rc, St, Jl, Tk, Tn, Su, Ne, Ha, Sk, Cb, Jd, Va, Go, Fm, An, Ov) (src, dis, opn, sbt, sbr, dep, mny, mor, grs, fnd, kpt, yRo, yCe, yTo, yIl, ySz, yTk, yIn, yEn, ySu, yWc, yWi, yHa, ySk, yCo, yLo, yGo, yFi, yRe, ySo, yAn) := I
  generalize i_Rel (k + 5) (sc, od, nc, tp, cc, gc, ac, Ce, Rc, St, Jl, Tk, Tn, Su, Ne, Ha, Sk, Cb, Jd, Va, Go, Fm, An, Ov) (src, dis, opn, sbt, sbr, dep, mny, mor, grs, fnd, kpt, yRo, yCe, yTo, yIl, ySz, yTk, yIn, yEn, ySu, yWc, yWi, yHa, ySk, yCo, yLo, yGo, yFi, yRe, ySo, yAn) = G at I0
  obtain ⟨s, m, rw, tb, su, n, t, cv, av, hs, ⟨hm1, hm2, hm3, hm4⟩, hc, hr, ht, hl, hu, hT, ha⟩ := I
  subst hm2 hm3
  exact ⟨_, nq_xdg hm1 (fun j hj => (ha j hj).1) ⟨_, nq_ydg hm1 (fun j hj => (ha j hj).2) ⟨rfl, I0⟩ (m + 1) 0 (by omega) (by omega)⟩ (m + 1) 0 (by omega) (by omega)⟩
/-! clear -/
theorem nq_clr {f : Nat → Int32} {n : Nat} : ∃ g : Nat → Nat → Int32, g 0 = f ∧ (∀ i, g (i + 1) = upd (g i) i 0) ∧ ∀ i j, j < i → g i j = 0 := by
  refine ⟨fun i => Nat.rec f (fun i g => upd g i 0) i, rfl, fun i => rfl, fun i => ?_⟩
  induction i with
  | zero => intro j hj; omega
  | succ i ih =>
    intro j hj
    show upd _ i 0 j = 0
    by_cases e : j = i
    · rw [e, pk_us]
    · rw [pk_un e]
      exact ih j (by omega)
theorem nq_xc33 {post : SX → Prop} {g : Nat → Nat → Int32} (hg : ∀ i, g (i + 1) = upd (g i) i 0) (H : post (sc, od, nc, tp, cc, gc, ac, Ce, Rc, St, Jl, Tk, Tn, (g 3), Ne, Ha, Sk, Cb, Jd, Va, Go, Fm, An, Ov)) : ∀ f i, i ≤ 3 → 3 - i < f → wX_clear_33 post sc od nc tp cc gc ac f (nI i) Ce Rc St Jl Tk Tn (g i) Ne Ha Sk Cb Jd Va Go Fm An Ov := by
  intro f
  induction f with
  | zero => intro q _ h; omega
  | succ f ih =>
    intro i hi hf
    rcases Nat.lt_or_ge i 3 with z | z
    · have z3 : ¬ 3 ≤ nI i := nI_ge (b := 3) z (by decide)
      have i0 : vp_in (nI i) 3 := vp_in_nI z (by decide)
      have c0 : (nI i).toNatClampNeg = i := nI_clamp (by omega)
      simp only [wX_clear_33, z3, i0, c0, nI_1, ← hg, forall_eq, not_true_eq_false, not_false_eq_true, true_implies, false_implies, implies_true, and_true, true_and, and_self]
      exact ih (i + 1) (by omega) (by omega)
    · have : i = 3 := by omega
      subst this
      simp only [wX_clear_33, show (3 : Int32) ≤ nI 3 from by decide, forall_eq, not_true_eq_false, not_false_eq_true, true_implies, false_implies, implies_true, and_true, true_and, and_self]
      exact H
theorem nq_xc12 {post : SX → Prop} {g g2 : Nat → Nat → Int32} (hg : ∀ i, g (i + 1) = upd (g i) i 0) (hg2 : ∀ i, g2 (i + 1) = upd (g2 i) i 0) (H : post (sc, od, nc, tp, cc, gc, ac, Ce, Rc, St, Jl, Tk, (g 10), (g2 3), Ne, Ha, Sk, Cb, Jd, Va, Go, Fm, An, Ov)) : ∀ f i, i ≤ 10 → 10 - i < f → wX_clear_12 post sc od nc tp cc gc ac f (nI i) Ce Rc St Jl Tk (g i) (g2 0) Ne Ha Sk Cb Jd Va Go Fm An Ov := by
  intro f
  induction f with
  | zero => intro q _ h; omega
  | succ f ih =>
    intro i hi hf
    rcases Nat.lt_or_ge i 10 with z | z
    · have z3 : ¬ 10 ≤ nI i := nI_ge (b := 10) z (by decide)
      have i0 : vp_in (nI i) 10 := vp_in_nI z (by decide)
      have c0 : (nI i).toNatClampNeg = i := nI_clamp (by omega)
      simp only [wX_clear_12, z3, i0, c0, nI_1, ← hg, forall_eq, not_true_eq_false, not_false_eq_true, true_implies, false_implies, implies_true, and_true, true_and, and_self]
      exact ih (i + 1) (by omega) (by omega)
    · have : i = 10 := by omega
      subst this
      simp only [wX_clear_12, show (10 : Int32) ≤ nI 10 from by decide, forall_eq, not_true_eq_false, not_false_eq_true, true_implies, false_implies, implies_true, and_true, true_and, and_self]
      exact ⟨4, nq_xc33 hg2 H 4 0 (by omega) (by omega)⟩
theorem nq_yc33 {post : SY → Prop} {g : Nat → Nat → Int32} (hg : ∀ i, g (i + 1) = upd (g i) i 0) (H : post (src, dis, opn, sbt, sbr, dep, mny, mor, grs, fnd, kpt, yRo, yCe, yTo, yIl, ySz, yTk, yIn, yEn, (g 3), yWc, yWi, yHa, ySk, yCo, yLo, yGo, yFi, yRe, ySo, yAn)) : ∀ f i, i ≤ 3 → 3 - i < f → wY_clear_33 post src dis opn sbt sbr dep mny mor grs fnd kpt f (nI i) yRo yCe yTo yIl ySz yTk yIn yEn (g i) yWc yWi yHa ySk yCo yLo yGo yFi yRe ySo yAn := by
  intro f
  induction f with
  | zero => intro q _ h; omega
  | succ f ih =>
    intro i hi hf
    rcases Nat.lt_or_ge i 3 with z | z
    · have z3 : ¬ 3 ≤ nI i := nI_ge (b := 3) z (by decide)
      have i0 : vp_in (nI i) 3 := vp_in_nI z (by decide)
      have c0 : (nI i).toNatClampNeg = i := nI_clamp (by omega)
      simp only [wY_clear_33, z3, i0, c0, nI_1, ← hg, forall_eq, not_true_eq_false, not_false_eq_true, true_implies, false_implies, implies_true, and_true, true_and, and_self]
      exact ih (i + 1) (by omega) (by omega)
    · have : i = 3 := by omega
      subst this
      simp only [wY_clear_33, show (3 : Int32) ≤ nI 3 from by decide, forall_eq, not_true_eq_false, not_false_eq_true, true_implies, false_implies, implies_true, and_true, true_and, and_self]
      exact H
theorem nq_yc12 {post : SY → Prop} {g g2 : Nat → Nat → Int32} (hg : ∀ i, g (i + 1) = upd (g i) i 0) (hg2 : ∀ i, g2 (i + 1) = upd (g2 i) i 0) (H : post (src, dis, opn, sbt, sbr, dep, mny, mor, grs, fnd, kpt, yRo, yCe, yTo, yIl, (g 10), yTk, yIn, yEn, (g2 3), yWc, yWi, yHa, ySk, yCo, yLo, yGo, yFi, yRe, ySo, yAn)) : ∀ f i, i ≤ 10 → 10 - i < f → wY_clear_12 post src dis opn sbt sbr dep mny mor grs fnd kpt f (nI i) yRo yCe yTo yIl (g i) yTk yIn yEn (g2 0) yWc yWi yHa ySk yCo yLo yGo yFi yRe ySo yAn := by
  intro f
  induction f with
  | zero => intro q _ h; omega
  | succ f ih =>
    intro i hi hf
    rcases Nat.lt_or_ge i 10 with z | z
    · have z3 : ¬ 10 ≤ nI i := nI_ge (b := 10) z (by decide)
      have i0 : vp_in (nI i) 10 := vp_in_nI z (by decide)
      have c0 : (nI i).toNatClampNeg = i := nI_clamp (by omega)
      simp only [wY_clear_12, z3, i0, c0, nI_1, ← hg, forall_eq, not_true_eq_false, not_false_eq_true, true_implies, false_implies, implies_true, and_true, true_and, and_self]
      exact ih (i + 1) (by omega) (by omega)
    · have : i = 10 := by omega
      subst this
      simp only [wY_clear_12, show (10 : Int32) ≤ nI 10 from by decide, forall_eq, not_true_eq_false, not_false_eq_true, true_implies, false_implies, implies_true, and_true, true_and, and_self]
      exact ⟨4, nq_yc33 hg2 H 4 0 (by omega) (by omega)⟩
theorem i_vc_clear {k : Nat} {u : SX} {v : SY} (I : i_Rel k u v) (hk : k + 5 ≤ 2560) : wpX_clear (fun u' => wpY_clear (fun v' => i_Rel (k + 5) u' v') v) u := by
  obtain ⟨sc, od, nc, tp, cc, gc, ac, Ce, Rc, St, Jl, Tk, Tn, Su, Ne, Ha, Sk, Cb, Jd, Va, Go, Fm, An, Ov⟩ := u
  obtain ⟨src, dis, opn, sbt, sbr, dep, mny, mor, grs, fnd, kpt, yRo, yCe, yTo, yIl, ySz, yTk, yIn, yEn, ySu, yWc, yWi, yHa, ySk, yCo, yLo, yGo, yFi, yRe, ySo, yAn⟩ := v
  obtain ⟨s, m, rw, tb, su, n, t, cv, av, ⟨hs1, hs2, hs3, hs4⟩, hm, hc, hr, ht, hl, ⟨hu1, hu2⟩, ⟨hT1, hT2, hT3, hT4⟩, ha⟩ := I
  subst hu1 hT1
  obtain ⟨g, g0, gs, gz⟩ := nq_clr (f := Tn) (n := 10)
  obtain ⟨g2, g20, g2s, g2z⟩ := nq_clr (f := Su) (n := 3)
  subst g0 g20
  refine ⟨_, nq_xc12 gs g2s ?_ 11 0 (by omega) (by omega)⟩
  refine ⟨_, nq_yc12 gs g2s ?_ 11 0 (by omega) (by omega)⟩
  exact ⟨0, m, rw, tb, fun _ => 0, fun _ => 0, t, cv, av, ⟨by omega, rfl, rfl, rfl⟩, hm, hc, hr, ht, hl, ⟨rfl, fun i hi => ⟨Nat.zero_le _, g2z 3 i hi⟩⟩, ⟨rfl, hT2, fun p hp => ⟨gz 10 p hp, fun k hk => absurd hk (Nat.not_lt_zero k)⟩, fun p _ => ⟨Nat.zero_le _, fun k hk => absurd hk (Nat.not_lt_zero k)⟩⟩, ha⟩
end
end
section
section
variable {sc od nc tp cc gc ac : Int32} {Ce Sk Va An Ov : Nat → Int64} {Rc St Jl Tk Tn Su Ne Ha Cb Jd Go Fm : Nat → Int32}
variable {src dis opn sbt sbr dep mny mor grs fnd kpt : Int32} {ySk yRe ySo yAn : Nat → Int64} {yRo yCe yTo yIl ySz yTk yIn yEn ySu yWc yWi yHa yCo yLo yGo yFi : Nat → Int32}
def nq_b (b : Bool) : Int32 := if b = true then 1 else 0
theorem nq_bt : nq_b true = 1 := rfl
theorem nq_bf : nq_b false = 0 := rfl
theorem nq_b0 {b : Bool} : nq_b b = 0 ↔ b = false := by cases b <;> decide
theorem nq_bnar (b : Bool) : vp_nar .boolean (nq_b b) = nq_b b := by cases b <;> rfl
theorem nq_bnrw (b : Bool) : narrow .boolean (.int (nq_b b)) = .int (nq_b b) := by cases b <;> rfl
theorem nq_ite (post : Int32 → Prop) {c : Prop} [Decidable c] {x y : Int32} : ((c → post x) ∧ (¬ c → post y)) ↔ post (if c then x else y) := by
  by_cases h : c
  · simp only [h, if_true, forall_eq, not_true_eq_false, not_false_eq_true, true_implies, false_implies, implies_true, and_true, true_and, and_self]
  · simp only [h, if_false, forall_eq, not_true_eq_false, not_false_eq_true, true_implies, false_implies, implies_true, and_true, true_and, and_self]
theorem nq_div {t : Nat} (ht : t < 2147483648) : nI t / 10 = nI (t / 10) := pk_div (d := 10) ht (by decide) (by decide)
theorem nq_rem {t : Nat} (ht : t < 2147483648) : nI t - nI t / 10 * 10 = nI (t % 10) := pk_rem (d := 10) ht (by decide) (by decide)
theorem nq_tn0 : ¬ (10 : Int32) = 0 := by decide
theorem nq_m10 (t : Nat) : t % 10 < 2147483648 := by omega
theorem nq_d10 {t : Nat} (ht : t < 2147483648) : t / 10 < 2147483648 := by omega
theorem nq_xSub {post : Int32 → Prop} {t : Nat} (ht : t < 2147483648) : wpX_isSubquery post (nI t) ↔ post (nq_b (nq_sub t)) := by
  simp only [wpX_isSubquery, wX_isSubquery_12, nq_tn0, nq_rem ht, show (nI (t) < (90 : Int32)) = ((t) < 90) from propext (nI_ltI (b := 90) (ht) (by decide)), show ((90 : Int32) < nI (t)) = (90 < (t)) from propext (nI_ltI (a := 90) (by decide) (ht)), show (nI (t) ≤ (90 : Int32)) = ((t) ≤ 90) from propext (nI_leI (b := 90) (ht) (by decide)), show ((90 : Int32) ≤ nI (t)) = (90 ≤ (t)) from propext (nI_leI (a := 90) (by decide) (ht)), show (nI (t) = (90 : Int32)) = ((t) = 90) from propext (nI_eq (b := 90) (ht) (by decide)), show (nI (t) < (92 : Int32)) = ((t) < 92) from propext (nI_ltI (b := 92) (ht) (by decide)), show ((92 : Int32) < nI (t)) = (92 < (t)) from propext (nI_ltI (a := 92) (by decide) (ht)), show (nI (t) ≤ (92 : Int32)) = ((t) ≤ 92) from propext (nI_leI (b := 92) (ht) (by decide)), show ((92 : Int32) ≤ nI (t)) = (92 ≤ (t)) from propext (nI_leI (a := 92) (by decide) (ht)), show (nI (t) = (92 : Int32)) = ((t) = 92) from propext (nI_eq (b := 92) (ht) (by decide)), show (nI (t) < (100 : Int32)) = ((t) < 100) from propext (nI_ltI (b := 100) (ht) (by decide)), show ((100 : Int32) < nI (t)) = (100 < (t)) from propext (nI_ltI (a := 100) (by decide) (ht)), show (nI (t) ≤ (100 : Int32)) = ((t) ≤ 100) from propext (nI_leI (b := 100) (ht) (by decide)), show ((100 : Int32) ≤ nI (t)) = (100 ≤ (t)) from propext (nI_leI (a := 100) (by decide) (ht)), show (nI (t) = (100 : Int32)) = ((t) = 100) from propext (nI_eq (b := 100) (ht) (by decide)), show (nI (t) < (152 : Int32)) = ((t) < 152) from propext (nI_ltI (b := 152) (ht) (by decide)), show ((152 : Int32) < nI (t)) = (152 < (t)) from propext (nI_ltI (a := 152) (by decide) (ht)), show (nI (t) ≤ (152 : Int32)) = ((t) ≤ 152) from propext (nI_leI (b := 152) (ht) (by decide)), show ((152 : Int32) ≤ nI (t)) = (152 ≤ (t)) from propext (nI_leI (a := 152) (by decide) (ht)), show (nI (t) = (152 : Int32)) = ((t) = 152) from propext (nI_eq (b := 152) (ht) (by decide)), show (nI (t % 10) < (2 : Int32)) = ((t % 10) < 2) from propext (nI_ltI (b := 2) (nq_m10 t) (by decide)), show ((2 : Int32) < nI (t % 10)) = (2 < (t % 10)) from propext (nI_ltI (a := 2) (by decide) (nq_m10 t)), show (nI (t % 10) ≤ (2 : Int32)) = ((t % 10) ≤ 2) from propext (nI_leI (b := 2) (nq_m10 t) (by decide)), show ((2 : Int32) ≤ nI (t % 10)) = (2 ≤ (t % 10)) from propext (nI_leI (a := 2) (by decide) (nq_m10 t)), show (nI (t % 10) = (2 : Int32)) = ((t % 10) = 2) from propext (nI_eq (b := 2) (nq_m10 t) (by decide)), show (nI (t % 10) < (3 : Int32)) = ((t % 10) < 3) from propext (nI_ltI (b := 3) (nq_m10 t) (by decide)), show ((3 : Int32) < nI (t % 10)) = (3 < (t % 10)) from propext (nI_ltI (a := 3) (by decide) (nq_m10 t)), show (nI (t % 10) ≤ (3 : Int32)) = ((t % 10) ≤ 3) from propext (nI_leI (b := 3) (nq_m10 t) (by decide)), show ((3 : Int32) ≤ nI (t % 10)) = (3 ≤ (t % 10)) from propext (nI_leI (a := 3) (by decide) (nq_m10 t)), show (nI (t % 10) = (3 : Int32)) = ((t % 10) = 3) from propext (nI_eq (b := 3) (nq_m10 t) (by decide)), nq_ite post, forall_eq, not_true_eq_false, not_false_eq_true, true_implies, false_implies, implies_true, and_true, true_and, and_self]
  refine iff_of_eq (congrArg post ?_)
  simp only [nq_b, nq_sub, decide_eq_true_eq]
  repeat' split
  all_goals first | rfl | (exfalso; omega)
theorem nq_xCol {post : Int32 → Prop} {t : Nat} (ht : t < 2147483648) : wpX_isColumn post (nI t) ↔ post (nq_b (nq_col t)) := by
  simp only [wpX_isColumn, nI_pos (n := t) ht, nq_tn0, nq_rem ht, show (nI (t) < (32 : Int32)) = ((t) < 32) from propext (nI_ltI (b := 32) (ht) (by decide)), show ((32 : Int32) < nI (t)) = (32 < (t)) from propext (nI_ltI (a := 32) (by decide) (ht)), show (nI (t) ≤ (32 : Int32)) = ((t) ≤ 32) from propext (nI_leI (b := 32) (ht) (by decide)), show ((32 : Int32) ≤ nI (t)) = (32 ≤ (t)) from propext (nI_leI (a := 32) (by decide) (ht)), show (nI (t) = (32 : Int32)) = ((t) = 32) from propext (nI_eq (b := 32) (ht) (by decide)), show (nI (t % 10) < (2 : Int32)) = ((t % 10) < 2) from propext (nI_ltI (b := 2) (nq_m10 t) (by decide)), show ((2 : Int32) < nI (t % 10)) = (2 < (t % 10)) from propext (nI_ltI (a := 2) (by decide) (nq_m10 t)), show (nI (t % 10) ≤ (2 : Int32)) = ((t % 10) ≤ 2) from propext (nI_leI (b := 2) (nq_m10 t) (by decide)), show ((2 : Int32) ≤ nI (t % 10)) = (2 ≤ (t % 10)) from propext (nI_leI (a := 2) (by decide) (nq_m10 t)), show (nI (t % 10) = (2 : Int32)) = ((t % 10) = 2) from propext (nI_eq (b := 2) (nq_m10 t) (by decide)), show (nI (t % 10) < (3 : Int32)) = ((t % 10) < 3) from propext (nI_ltI (b := 3) (nq_m10 t) (by decide)), show ((3 : Int32) < nI (t % 10)) = (3 < (t % 10)) from propext (nI_ltI (a := 3) (by decide) (nq_m10 t)), show (nI (t % 10) ≤ (3 : Int32)) = ((t % 10) ≤ 3) from propext (nI_leI (b := 3) (nq_m10 t) (by decide)), show ((3 : Int32) ≤ nI (t % 10)) = (3 ≤ (t % 10)) from propext (nI_leI (a := 3) (by decide) (nq_m10 t)), show (nI (t % 10) = (3 : Int32)) = ((t % 10) = 3) from propext (nI_eq (b := 3) (nq_m10 t) (by decide)), nq_ite post, forall_eq, not_true_eq_false, not_false_eq_true, true_implies, false_implies, implies_true, and_true, true_and, and_self]
  refine iff_of_eq (congrArg post ?_)
  simp only [nq_b, nq_col, decide_eq_true_eq]
  repeat' split
  all_goals first | rfl | (exfalso; omega)
theorem nq_xAr {post : Int32 → Prop} {t : Nat} (ht : t < 2147483648) : wpX_operands post (nI t) ↔ post (nI (nq_ar t)) := by
  simp only [wpX_operands, wX_operands_46, wX_operands_50, wX_operands_51, show ¬ (1 : Int32) = 0 from by decide, show (nI (t) < (70 : Int32)) = ((t) < 70) from propext (nI_ltI (b := 70) (ht) (by decide)), show ((70 : Int32) < nI (t)) = (70 < (t)) from propext (nI_ltI (a := 70) (by decide) (ht)), show (nI (t) ≤ (70 : Int32)) = ((t) ≤ 70) from propext (nI_leI (b := 70) (ht) (by decide)), show ((70 : Int32) ≤ nI (t)) = (70 ≤ (t)) from propext (nI_leI (a := 70) (by decide) (ht)), show (nI (t) = (70 : Int32)) = ((t) = 70) from propext (nI_eq (b := 70) (ht) (by decide)), show (nI (t) < (76 : Int32)) = ((t) < 76) from propext (nI_ltI (b := 76) (ht) (by decide)), show ((76 : Int32) < nI (t)) = (76 < (t)) from propext (nI_ltI (a := 76) (by decide) (ht)), show (nI (t) ≤ (76 : Int32)) = ((t) ≤ 76) from propext (nI_leI (b := 76) (ht) (by decide)), show ((76 : Int32) ≤ nI (t)) = (76 ≤ (t)) from propext (nI_leI (a := 76) (by decide) (ht)), show (nI (t) = (76 : Int32)) = ((t) = 76) from propext (nI_eq (b := 76) (ht) (by decide)), show (nI (t) < (82 : Int32)) = ((t) < 82) from propext (nI_ltI (b := 82) (ht) (by decide)), show ((82 : Int32) < nI (t)) = (82 < (t)) from propext (nI_ltI (a := 82) (by decide) (ht)), show (nI (t) ≤ (82 : Int32)) = ((t) ≤ 82) from propext (nI_leI (b := 82) (ht) (by decide)), show ((82 : Int32) ≤ nI (t)) = (82 ≤ (t)) from propext (nI_leI (a := 82) (by decide) (ht)), show (nI (t) = (82 : Int32)) = ((t) = 82) from propext (nI_eq (b := 82) (ht) (by decide)), show (nI (t) < (84 : Int32)) = ((t) < 84) from propext (nI_ltI (b := 84) (ht) (by decide)), show ((84 : Int32) < nI (t)) = (84 < (t)) from propext (nI_ltI (a := 84) (by decide) (ht)), show (nI (t) ≤ (84 : Int32)) = ((t) ≤ 84) from propext (nI_leI (b := 84) (ht) (by decide)), show ((84 : Int32) ≤ nI (t)) = (84 ≤ (t)) from propext (nI_leI (a := 84) (by decide) (ht)), show (nI (t) = (84 : Int32)) = ((t) = 84) from propext (nI_eq (b := 84) (ht) (by decide)), show (nI (t) < (85 : Int32)) = ((t) < 85) from propext (nI_ltI (b := 85) (ht) (by decide)), show ((85 : Int32) < nI (t)) = (85 < (t)) from propext (nI_ltI (a := 85) (by decide) (ht)), show (nI (t) ≤ (85 : Int32)) = ((t) ≤ 85) from propext (nI_leI (b := 85) (ht) (by decide)), show ((85 : Int32) ≤ nI (t)) = (85 ≤ (t)) from propext (nI_leI (a := 85) (by decide) (ht)), show (nI (t) = (85 : Int32)) = ((t) = 85) from propext (nI_eq (b := 85) (ht) (by decide)), show (nI (t) < (90 : Int32)) = ((t) < 90) from propext (nI_ltI (b := 90) (ht) (by decide)), show ((90 : Int32) < nI (t)) = (90 < (t)) from propext (nI_ltI (a := 90) (by decide) (ht)), show (nI (t) ≤ (90 : Int32)) = ((t) ≤ 90) from propext (nI_leI (b := 90) (ht) (by decide)), show ((90 : Int32) ≤ nI (t)) = (90 ≤ (t)) from propext (nI_leI (a := 90) (by decide) (ht)), show (nI (t) = (90 : Int32)) = ((t) = 90) from propext (nI_eq (b := 90) (ht) (by decide)), show (nI (t) < (92 : Int32)) = ((t) < 92) from propext (nI_ltI (b := 92) (ht) (by decide)), show ((92 : Int32) < nI (t)) = (92 < (t)) from propext (nI_ltI (a := 92) (by decide) (ht)), show (nI (t) ≤ (92 : Int32)) = ((t) ≤ 92) from propext (nI_leI (b := 92) (ht) (by decide)), show ((92 : Int32) ≤ nI (t)) = (92 ≤ (t)) from propext (nI_leI (a := 92) (by decide) (ht)), show (nI (t) = (92 : Int32)) = ((t) = 92) from propext (nI_eq (b := 92) (ht) (by decide)), nq_ite post, forall_eq, not_true_eq_false, not_false_eq_true, true_implies, false_implies, implies_true, and_true, true_and, and_self]
  refine iff_of_eq (congrArg post ?_)
  simp only [nq_ar]
  repeat' split
  all_goals first | rfl | (exfalso; omega)
theorem nq_xCp {post : Int32 → Prop} {p : Nat} (hp : p < 10) : wpX_isConditionPart post (nI p) ↔ post (nq_b (decide (p ≤ 3))) := by
  simp only [wpX_isConditionPart, show (nI (p) < (3 : Int32)) = ((p) < 3) from propext (nI_ltI (b := 3) (by omega) (by decide)), show ((3 : Int32) < nI (p)) = (3 < (p)) from propext (nI_ltI (a := 3) (by decide) (by omega)), show (nI (p) ≤ (3 : Int32)) = ((p) ≤ 3) from propext (nI_leI (b := 3) (by omega) (by decide)), show ((3 : Int32) ≤ nI (p)) = (3 ≤ (p)) from propext (nI_leI (a := 3) (by decide) (by omega)), show (nI (p) = (3 : Int32)) = ((p) = 3) from propext (nI_eq (b := 3) (by omega) (by decide)), nq_ite post, forall_eq, not_true_eq_false, not_false_eq_true, true_implies, false_implies, implies_true, and_true, true_and, and_self]
  refine iff_of_eq (congrArg post ?_)
  simp only [nq_b, decide_eq_true_eq]
  repeat' split
  all_goals first | rfl | (exfalso; omega)
def nq_mat (t : Nat) : Bool := decide (100 ≤ t ∧ t ≤ 152 ∧ t % 10 < 3)
theorem nq_yCol {post : Int32 → Prop} {t : Nat} (ht : t < 2147483648) : wpY_isColumn post (src, dis, opn, sbt, sbr, dep, mny, mor, grs, fnd, kpt, yRo, yCe, yTo, yIl, ySz, yTk, yIn, yEn, ySu, yWc, yWi, yHa, ySk, yCo, yLo, yGo, yFi, yRe, ySo, yAn) (nI t) ↔ post (nq_b (nq_col t)) := by
  simp only [wpY_isColumn, nI_pos (n := t) ht, nq_tn0, nq_rem ht, show (nI (t) < (32 : Int32)) = ((t) < 32) from propext (nI_ltI (b := 32) (ht) (by decide)), show ((32 : Int32) < nI (t)) = (32 < (t)) from propext (nI_ltI (a := 32) (by decide) (ht)), show (nI (t) ≤ (32 : Int32)) = ((t) ≤ 32) from propext (nI_leI (b := 32) (ht) (by decide)), show ((32 : Int32) ≤ nI (t)) = (32 ≤ (t)) from propext (nI_leI (a := 32) (by decide) (ht)), show (nI (t) = (32 : Int32)) = ((t) = 32) from propext (nI_eq (b := 32) (ht) (by decide)), show (nI (t % 10) < (2 : Int32)) = ((t % 10) < 2) from propext (nI_ltI (b := 2) (nq_m10 t) (by decide)), show ((2 : Int32) < nI (t % 10)) = (2 < (t % 10)) from propext (nI_ltI (a := 2) (by decide) (nq_m10 t)), show (nI (t % 10) ≤ (2 : Int32)) = ((t % 10) ≤ 2) from propext (nI_leI (b := 2) (nq_m10 t) (by decide)), show ((2 : Int32) ≤ nI (t % 10)) = (2 ≤ (t % 10)) from propext (nI_leI (a := 2) (by decide) (nq_m10 t)), show (nI (t % 10) = (2 : Int32)) = ((t % 10) = 2) from propext (nI_eq (b := 2) (nq_m10 t) (by decide)), show (nI (t % 10) < (3 : Int32)) = ((t % 10) < 3) from propext (nI_ltI (b := 3) (nq_m10 t) (by decide)), show ((3 : Int32) < nI (t % 10)) = (3 < (t % 10)) from propext (nI_ltI (a := 3) (by decide) (nq_m10 t)), show (nI (t % 10) ≤ (3 : Int32)) = ((t % 10) ≤ 3) from propext (nI_leI (b := 3) (nq_m10 t) (by decide)), show ((3 : Int32) ≤ nI (t % 10)) = (3 ≤ (t % 10)) from propext (nI_leI (a := 3) (by decide) (nq_m10 t)), show (nI (t % 10) = (3 : Int32)) = ((t % 10) = 3) from propext (nI_eq (b := 3) (nq_m10 t) (by decide)), nq_ite post, forall_eq, not_true_eq_false, not_false_eq_true, true_implies, false_implies, implies_true, and_true, true_and, and_self]
  refine iff_of_eq (congrArg post ?_)
  simp only [nq_b, nq_col, decide_eq_true_eq]
  repeat' split
  all_goals first | rfl | (exfalso; omega)
theorem nq_yMat {post : Int32 → Prop} {t : Nat} (ht : t < 2147483648) : wpY_isMatch post (src, dis, opn, sbt, sbr, dep, mny, mor, grs, fnd, kpt, yRo, yCe, yTo, yIl, ySz, yTk, yIn, yEn, ySu, yWc, yWi, yHa, ySk, yCo, yLo, yGo, yFi, yRe, ySo, yAn) (nI t) ↔ post (nq_b (nq_mat t)) := by
  simp only [wpY_isMatch, wY_isMatch_26, nq_tn0, nq_rem ht, show (nI (t) < (100 : Int32)) = ((t) < 100) from propext (nI_ltI (b := 100) (ht) (by decide)), show ((100 : Int32) < nI (t)) = (100 < (t)) from propext (nI_ltI (a := 100) (by decide) (ht)), show (nI (t) ≤ (100 : Int32)) = ((t) ≤ 100) from propext (nI_leI (b := 100) (ht) (by decide)), show ((100 : Int32) ≤ nI (t)) = (100 ≤ (t)) from propext (nI_leI (a := 100) (by decide) (ht)), show (nI (t) = (100 : Int32)) = ((t) = 100) from propext (nI_eq (b := 100) (ht) (by decide)), show (nI (t) < (152 : Int32)) = ((t) < 152) from propext (nI_ltI (b := 152) (ht) (by decide)), show ((152 : Int32) < nI (t)) = (152 < (t)) from propext (nI_ltI (a := 152) (by decide) (ht)), show (nI (t) ≤ (152 : Int32)) = ((t) ≤ 152) from propext (nI_leI (b := 152) (ht) (by decide)), show ((152 : Int32) ≤ nI (t)) = (152 ≤ (t)) from propext (nI_leI (a := 152) (by decide) (ht)), show (nI (t) = (152 : Int32)) = ((t) = 152) from propext (nI_eq (b := 152) (ht) (by decide)), show (nI (t) < (123 : Int32)) = ((t) < 123) from propext (nI_ltI (b := 123) (ht) (by decide)), show ((123 : Int32) < nI (t)) = (123 < (t)) from propext (nI_ltI (a := 123) (by decide) (ht)), show (nI (t) ≤ (123 : Int32)) = ((t) ≤ 123) from propext (nI_leI (b := 123) (ht) (by decide)), show ((123 : Int32) ≤ nI (t)) = (123 ≤ (t)) from propext (nI_leI (a := 123) (by decide) (ht)), show (nI (t) = (123 : Int32)) = ((t) = 123) from propext (nI_eq (b := 123) (ht) (by decide)), show (nI (t) < (129 : Int32)) = ((t) < 129) from propext (nI_ltI (b := 129) (ht) (by decide)), show ((129 : Int32) < nI (t)) = (129 < (t)) from propext (nI_ltI (a := 129) (by decide) (ht)), show (nI (t) ≤ (129 : Int32)) = ((t) ≤ 129) from propext (nI_leI (b := 129) (ht) (by decide)), show ((129 : Int32) ≤ nI (t)) = (129 ≤ (t)) from propext (nI_leI (a := 129) (by decide) (ht)), show (nI (t) = (129 : Int32)) = ((t) = 129) from propext (nI_eq (b := 129) (ht) (by decide)), show (nI (t % 10) < (2 : Int32)) = ((t % 10) < 2) from propext (nI_ltI (b := 2) (nq_m10 t) (by decide)), show ((2 : Int32) < nI (t % 10)) = (2 < (t % 10)) from propext (nI_ltI (a := 2) (by decide) (nq_m10 t)), show (nI (t % 10) ≤ (2 : Int32)) = ((t % 10) ≤ 2) from propext (nI_leI (b := 2) (nq_m10 t) (by decide)), show ((2 : Int32) ≤ nI (t % 10)) = (2 ≤ (t % 10)) from propext (nI_leI (a := 2) (by decide) (nq_m10 t)), show (nI (t % 10) = (2 : Int32)) = ((t % 10) = 2) from propext (nI_eq (b := 2) (nq_m10 t) (by decide)), show (nI (t % 10) < (3 : Int32)) = ((t % 10) < 3) from propext (nI_ltI (b := 3) (nq_m10 t) (by decide)), show ((3 : Int32) < nI (t % 10)) = (3 < (t % 10)) from propext (nI_ltI (a := 3) (by decide) (nq_m10 t)), show (nI (t % 10) ≤ (3 : Int32)) = ((t % 10) ≤ 3) from propext (nI_leI (b := 3) (nq_m10 t) (by decide)), show ((3 : Int32) ≤ nI (t % 10)) = (3 ≤ (t % 10)) from propext (nI_leI (a := 3) (by decide) (nq_m10 t)), show (nI (t % 10) = (3 : Int32)) = ((t % 10) = 3) from propext (nI_eq (b := 3) (nq_m10 t) (by decide)), nq_ite post, forall_eq, not_true_eq_false, not_false_eq_true, true_implies, false_implies, implies_true, and_true, true_and, and_self]
  refine iff_of_eq (congrArg post ?_)
  simp only [nq_b, nq_mat, decide_eq_true_eq]
  repeat' split
  all_goals first | rfl | (exfalso; omega)
theorem nq_ySub {post : Int32 → Prop} {t : Nat} (ht : t < 2147483648) : wpY_isSubquery post (src, dis, opn, sbt, sbr, dep, mny, mor, grs, fnd, kpt, yRo, yCe, yTo, yIl, ySz, yTk, yIn, yEn, ySu, yWc, yWi, yHa, ySk, yCo, yLo, yGo, yFi, yRe, ySo, yAn) (nI t) ↔ post (nq_b (nq_sub t)) := by
  simp only [wpY_isSubquery, wY_isSubquery_12, nq_yMat ht, nq_b0, show (nI (t) < (90 : Int32)) = ((t) < 90) from propext (nI_ltI (b := 90) (ht) (by decide)), show ((90 : Int32) < nI (t)) = (90 < (t)) from propext (nI_ltI (a := 90) (by decide) (ht)), show (nI (t) ≤ (90 : Int32)) = ((t) ≤ 90) from propext (nI_leI (b := 90) (ht) (by decide)), show ((90 : Int32) ≤ nI (t)) = (90 ≤ (t)) from propext (nI_leI (a := 90) (by decide) (ht)), show (nI (t) = (90 : Int32)) = ((t) = 90) from propext (nI_eq (b := 90) (ht) (by decide)), show (nI (t) < (92 : Int32)) = ((t) < 92) from propext (nI_ltI (b := 92) (ht) (by decide)), show ((92 : Int32) < nI (t)) = (92 < (t)) from propext (nI_ltI (a := 92) (by decide) (ht)), show (nI (t) ≤ (92 : Int32)) = ((t) ≤ 92) from propext (nI_leI (b := 92) (ht) (by decide)), show ((92 : Int32) ≤ nI (t)) = (92 ≤ (t)) from propext (nI_leI (a := 92) (by decide) (ht)), show (nI (t) = (92 : Int32)) = ((t) = 92) from propext (nI_eq (b := 92) (ht) (by decide)), nq_ite post, forall_eq, not_true_eq_false, not_false_eq_true, true_implies, false_implies, implies_true, and_true, true_and, and_self]
  refine iff_of_eq (congrArg post ?_)
  simp only [nq_b, nq_mat, nq_sub, decide_eq_true_eq, decide_eq_false_iff_not]
  repeat' split
  all_goals first | rfl | (exfalso; omega)
def nq_isE (t : Nat) : Bool := nq_col t || decide ((41 ≤ t ∧ t ≤ 59) ∨ (70 ≤ t ∧ t ≤ 76))
def nq_isC (t : Nat) : Bool := decide (80 ≤ t ∧ t ≤ 87) || nq_sub t
theorem nq_yE {post : Int32 → Prop} {t : Nat} (ht : t < 2147483648) : wpY_isExpression post (src, dis, opn, sbt, sbr, dep, mny, mor, grs, fnd, kpt, yRo, yCe, yTo, yIl, ySz, yTk, yIn, yEn, ySu, yWc, yWi, yHa, ySk, yCo, yLo, yGo, yFi, yRe, ySo, yAn) (nI t) ↔ post (nq_b (nq_isE t)) := by
  simp only [wpY_isExpression, wY_isExpression_20, nq_yCol ht, nq_b0, show (nI (t) < (41 : Int32)) = ((t) < 41) from propext (nI_ltI (b := 41) (ht) (by decide)), show ((41 : Int32) < nI (t)) = (41 < (t)) from propext (nI_ltI (a := 41) (by decide) (ht)), show (nI (t) ≤ (41 : Int32)) = ((t) ≤ 41) from propext (nI_leI (b := 41) (ht) (by decide)), show ((41 : Int32) ≤ nI (t)) = (41 ≤ (t)) from propext (nI_leI (a := 41) (by decide) (ht)), show (nI (t) = (41 : Int32)) = ((t) = 41) from propext (nI_eq (b := 41) (ht) (by decide)), show (nI (t) < (59 : Int32)) = ((t) < 59) from propext (nI_ltI (b := 59) (ht) (by decide)), show ((59 : Int32) < nI (t)) = (59 < (t)) from propext (nI_ltI (a := 59) (by decide) (ht)), show (nI (t) ≤ (59 : Int32)) = ((t) ≤ 59) from propext (nI_leI (b := 59) (ht) (by decide)), show ((59 : Int32) ≤ nI (t)) = (59 ≤ (t)) from propext (nI_leI (a := 59) (by decide) (ht)), show (nI (t) = (59 : Int32)) = ((t) = 59) from propext (nI_eq (b := 59) (ht) (by decide)), show (nI (t) < (70 : Int32)) = ((t) < 70) from propext (nI_ltI (b := 70) (ht) (by decide)), show ((70 : Int32) < nI (t)) = (70 < (t)) from propext (nI_ltI (a := 70) (by decide) (ht)), show (nI (t) ≤ (70 : Int32)) = ((t) ≤ 70) from propext (nI_leI (b := 70) (ht) (by decide)), show ((70 : Int32) ≤ nI (t)) = (70 ≤ (t)) from propext (nI_leI (a := 70) (by decide) (ht)), show (nI (t) = (70 : Int32)) = ((t) = 70) from propext (nI_eq (b := 70) (ht) (by decide)), show (nI (t) < (76 : Int32)) = ((t) < 76) from propext (nI_ltI (b := 76) (ht) (by decide)), show ((76 : Int32) < nI (t)) = (76 < (t)) from propext (nI_ltI (a := 76) (by decide) (ht)), show (nI (t) ≤ (76 : Int32)) = ((t) ≤ 76) from propext (nI_leI (b := 76) (ht) (by decide)), show ((76 : Int32) ≤ nI (t)) = (76 ≤ (t)) from propext (nI_leI (a := 76) (by decide) (ht)), show (nI (t) = (76 : Int32)) = ((t) = 76) from propext (nI_eq (b := 76) (ht) (by decide)), nq_ite post, forall_eq, not_true_eq_false, not_false_eq_true, true_implies, false_implies, implies_true, and_true, true_and, and_self]
  refine iff_of_eq (congrArg post ?_)
  simp only [nq_b, nq_isE]
  rcases Bool.eq_false_or_eq_true (nq_col t) with h | h <;> simp only [h, Bool.true_or, Bool.false_or, decide_eq_true_eq, if_true, if_false, reduceCtorEq]
  repeat' split
  all_goals first | rfl | (exfalso; omega)
theorem nq_yC {post : Int32 → Prop} {t : Nat} (ht : t < 2147483648) : wpY_isCondition post (src, dis, opn, sbt, sbr, dep, mny, mor, grs, fnd, kpt, yRo, yCe, yTo, yIl, ySz, yTk, yIn, yEn, ySu, yWc, yWi, yHa, ySk, yCo, yLo, yGo, yFi, yRe, ySo, yAn) (nI t) ↔ post (nq_b (nq_isC t)) := by
  simp only [wpY_isCondition, wY_isCondition_12, nq_ySub ht, nq_b0, show (nI (t) < (80 : Int32)) = ((t) < 80) from propext (nI_ltI (b := 80) (ht) (by decide)), show ((80 : Int32) < nI (t)) = (80 < (t)) from propext (nI_ltI (a := 80) (by decide) (ht)), show (nI (t) ≤ (80 : Int32)) = ((t) ≤ 80) from propext (nI_leI (b := 80) (ht) (by decide)), show ((80 : Int32) ≤ nI (t)) = (80 ≤ (t)) from propext (nI_leI (a := 80) (by decide) (ht)), show (nI (t) = (80 : Int32)) = ((t) = 80) from propext (nI_eq (b := 80) (ht) (by decide)), show (nI (t) < (87 : Int32)) = ((t) < 87) from propext (nI_ltI (b := 87) (ht) (by decide)), show ((87 : Int32) < nI (t)) = (87 < (t)) from propext (nI_ltI (a := 87) (by decide) (ht)), show (nI (t) ≤ (87 : Int32)) = ((t) ≤ 87) from propext (nI_leI (b := 87) (ht) (by decide)), show ((87 : Int32) ≤ nI (t)) = (87 ≤ (t)) from propext (nI_leI (a := 87) (by decide) (ht)), show (nI (t) = (87 : Int32)) = ((t) = 87) from propext (nI_eq (b := 87) (ht) (by decide)), nq_ite post, forall_eq, not_true_eq_false, not_false_eq_true, true_implies, false_implies, implies_true, and_true, true_and, and_self]
  refine iff_of_eq (congrArg post ?_)
  simp only [nq_b, nq_isC]
  rcases Bool.eq_false_or_eq_true (nq_sub t) with h | h <;> simp only [h, Bool.or_true, Bool.or_false, decide_eq_true_eq, if_true, if_false, reduceCtorEq]
  repeat' split
  all_goals first | rfl | (exfalso; omega)
theorem nq_yAr {post : Int32 → Prop} {t : Nat} (ht : t < 2147483648) : wpY_partsOf post (src, dis, opn, sbt, sbr, dep, mny, mor, grs, fnd, kpt, yRo, yCe, yTo, yIl, ySz, yTk, yIn, yEn, ySu, yWc, yWi, yHa, ySk, yCo, yLo, yGo, yFi, yRe, ySo, yAn) (nI t) ↔ post (nI (nq_ar t)) := by
  simp only [wpY_partsOf, show (nI (t) < (70 : Int32)) = ((t) < 70) from propext (nI_ltI (b := 70) (ht) (by decide)), show ((70 : Int32) < nI (t)) = (70 < (t)) from propext (nI_ltI (a := 70) (by decide) (ht)), show (nI (t) ≤ (70 : Int32)) = ((t) ≤ 70) from propext (nI_leI (b := 70) (ht) (by decide)), show ((70 : Int32) ≤ nI (t)) = (70 ≤ (t)) from propext (nI_leI (a := 70) (by decide) (ht)), show (nI (t) = (70 : Int32)) = ((t) = 70) from propext (nI_eq (b := 70) (ht) (by decide)), show (nI (t) < (76 : Int32)) = ((t) < 76) from propext (nI_ltI (b := 76) (ht) (by decide)), show ((76 : Int32) < nI (t)) = (76 < (t)) from propext (nI_ltI (a := 76) (by decide) (ht)), show (nI (t) ≤ (76 : Int32)) = ((t) ≤ 76) from propext (nI_leI (b := 76) (ht) (by decide)), show ((76 : Int32) ≤ nI (t)) = (76 ≤ (t)) from propext (nI_leI (a := 76) (by decide) (ht)), show (nI (t) = (76 : Int32)) = ((t) = 76) from propext (nI_eq (b := 76) (ht) (by decide)), show (nI (t) < (82 : Int32)) = ((t) < 82) from propext (nI_ltI (b := 82) (ht) (by decide)), show ((82 : Int32) < nI (t)) = (82 < (t)) from propext (nI_ltI (a := 82) (by decide) (ht)), show (nI (t) ≤ (82 : Int32)) = ((t) ≤ 82) from propext (nI_leI (b := 82) (ht) (by decide)), show ((82 : Int32) ≤ nI (t)) = (82 ≤ (t)) from propext (nI_leI (a := 82) (by decide) (ht)), show (nI (t) = (82 : Int32)) = ((t) = 82) from propext (nI_eq (b := 82) (ht) (by decide)), show (nI (t) < (84 : Int32)) = ((t) < 84) from propext (nI_ltI (b := 84) (ht) (by decide)), show ((84 : Int32) < nI (t)) = (84 < (t)) from propext (nI_ltI (a := 84) (by decide) (ht)), show (nI (t) ≤ (84 : Int32)) = ((t) ≤ 84) from propext (nI_leI (b := 84) (ht) (by decide)), show ((84 : Int32) ≤ nI (t)) = (84 ≤ (t)) from propext (nI_leI (a := 84) (by decide) (ht)), show (nI (t) = (84 : Int32)) = ((t) = 84) from propext (nI_eq (b := 84) (ht) (by decide)), show (nI (t) < (85 : Int32)) = ((t) < 85) from propext (nI_ltI (b := 85) (ht) (by decide)), show ((85 : Int32) < nI (t)) = (85 < (t)) from propext (nI_ltI (a := 85) (by decide) (ht)), show (nI (t) ≤ (85 : Int32)) = ((t) ≤ 85) from propext (nI_leI (b := 85) (ht) (by decide)), show ((85 : Int32) ≤ nI (t)) = (85 ≤ (t)) from propext (nI_leI (a := 85) (by decide) (ht)), show (nI (t) = (85 : Int32)) = ((t) = 85) from propext (nI_eq (b := 85) (ht) (by decide)), show (nI (t) < (90 : Int32)) = ((t) < 90) from propext (nI_ltI (b := 90) (ht) (by decide)), show ((90 : Int32) < nI (t)) = (90 < (t)) from propext (nI_ltI (a := 90) (by decide) (ht)), show (nI (t) ≤ (90 : Int32)) = ((t) ≤ 90) from propext (nI_leI (b := 90) (ht) (by decide)), show ((90 : Int32) ≤ nI (t)) = (90 ≤ (t)) from propext (nI_leI (a := 90) (by decide) (ht)), show (nI (t) = (90 : Int32)) = ((t) = 90) from propext (nI_eq (b := 90) (ht) (by decide)), show (nI (t) < (92 : Int32)) = ((t) < 92) from propext (nI_ltI (b := 92) (ht) (by decide)), show ((92 : Int32) < nI (t)) = (92 < (t)) from propext (nI_ltI (a := 92) (by decide) (ht)), show (nI (t) ≤ (92 : Int32)) = ((t) ≤ 92) from propext (nI_leI (b := 92) (ht) (by decide)), show ((92 : Int32) ≤ nI (t)) = (92 ≤ (t)) from propext (nI_leI (a := 92) (by decide) (ht)), show (nI (t) = (92 : Int32)) = ((t) = 92) from propext (nI_eq (b := 92) (ht) (by decide)), nq_ite post, forall_eq, not_true_eq_false, not_false_eq_true, true_implies, false_implies, implies_true, and_true, true_and, and_self]
  refine iff_of_eq (congrArg post ?_)
  simp only [nq_ar]
  repeat' split
  all_goals first | rfl | (exfalso; omega)
def nq_tc (t i : Nat) : Bool := if t = 76 then decide (i = 0) else if (84 ≤ t ∧ t ≤ 87) ∨ (90 ≤ t ∧ t ≤ 92) then true else (nq_mat t && decide (i = 1))
theorem nq_yTc {post : Int32 → Prop} {t i : Nat} (ht : t < 2147483648) (hi : i < 3) : wpY_takesCondition post (src, dis, opn, sbt, sbr, dep, mny, mor, grs, fnd, kpt, yRo, yCe, yTo, yIl, ySz, yTk, yIn, yEn, ySu, yWc, yWi, yHa, ySk, yCo, yLo, yGo, yFi, yRe, ySo, yAn) (nI t) (nI i) ↔ post (nq_b (nq_tc t i)) := by
  have hi2 : i < 2147483648 := by omega
  simp only [wpY_takesCondition, wY_takesCondition_28, wY_takesCondition_42, nq_yMat ht, nq_b0, show (nI (t) < (76 : Int32)) = ((t) < 76) from propext (nI_ltI (b := 76) (ht) (by decide)), show ((76 : Int32) < nI (t)) = (76 < (t)) from propext (nI_ltI (a := 76) (by decide) (ht)), show (nI (t) ≤ (76 : Int32)) = ((t) ≤ 76) from propext (nI_leI (b := 76) (ht) (by decide)), show ((76 : Int32) ≤ nI (t)) = (76 ≤ (t)) from propext (nI_leI (a := 76) (by decide) (ht)), show (nI (t) = (76 : Int32)) = ((t) = 76) from propext (nI_eq (b := 76) (ht) (by decide)), show (nI (t) < (84 : Int32)) = ((t) < 84) from propext (nI_ltI (b := 84) (ht) (by decide)), show ((84 : Int32) < nI (t)) = (84 < (t)) from propext (nI_ltI (a := 84) (by decide) (ht)), show (nI (t) ≤ (84 : Int32)) = ((t) ≤ 84) from propext (nI_leI (b := 84) (ht) (by decide)), show ((84 : Int32) ≤ nI (t)) = (84 ≤ (t)) from propext (nI_leI (a := 84) (by decide) (ht)), show (nI (t) = (84 : Int32)) = ((t) = 84) from propext (nI_eq (b := 84) (ht) (by decide)), show (nI (t) < (87 : Int32)) = ((t) < 87) from propext (nI_ltI (b := 87) (ht) (by decide)), show ((87 : Int32) < nI (t)) = (87 < (t)) from propext (nI_ltI (a := 87) (by decide) (ht)), show (nI (t) ≤ (87 : Int32)) = ((t) ≤ 87) from propext (nI_leI (b := 87) (ht) (by decide)), show ((87 : Int32) ≤ nI (t)) = (87 ≤ (t)) from propext (nI_leI (a := 87) (by decide) (ht)), show (nI (t) = (87 : Int32)) = ((t) = 87) from propext (nI_eq (b := 87) (ht) (by decide)), show (nI (t) < (90 : Int32)) = ((t) < 90) from propext (nI_ltI (b := 90) (ht) (by decide)), show ((90 : Int32) < nI (t)) = (90 < (t)) from propext (nI_ltI (a := 90) (by decide) (ht)), show (nI (t) ≤ (90 : Int32)) = ((t) ≤ 90) from propext (nI_leI (b := 90) (ht) (by decide)), show ((90 : Int32) ≤ nI (t)) = (90 ≤ (t)) from propext (nI_leI (a := 90) (by decide) (ht)), show (nI (t) = (90 : Int32)) = ((t) = 90) from propext (nI_eq (b := 90) (ht) (by decide)), show (nI (t) < (92 : Int32)) = ((t) < 92) from propext (nI_ltI (b := 92) (ht) (by decide)), show ((92 : Int32) < nI (t)) = (92 < (t)) from propext (nI_ltI (a := 92) (by decide) (ht)), show (nI (t) ≤ (92 : Int32)) = ((t) ≤ 92) from propext (nI_leI (b := 92) (ht) (by decide)), show ((92 : Int32) ≤ nI (t)) = (92 ≤ (t)) from propext (nI_leI (a := 92) (by decide) (ht)), show (nI (t) = (92 : Int32)) = ((t) = 92) from propext (nI_eq (b := 92) (ht) (by decide)), show (nI (i) < (0 : Int32)) = ((i) < 0) from propext (nI_ltI (b := 0) (hi2) (by decide)), show ((0 : Int32) < nI (i)) = (0 < (i)) from propext (nI_ltI (a := 0) (by decide) (hi2)), show (nI (i) ≤ (0 : Int32)) = ((i) ≤ 0) from propext (nI_leI (b := 0) (hi2) (by decide)), show ((0 : Int32) ≤ nI (i)) = (0 ≤ (i)) from propext (nI_leI (a := 0) (by decide) (hi2)), show (nI (i) = (0 : Int32)) = ((i) = 0) from propext (nI_eq (b := 0) (hi2) (by decide)), show (nI (i) < (1 : Int32)) = ((i) < 1) from propext (nI_ltI (b := 1) (hi2) (by decide)), show ((1 : Int32) < nI (i)) = (1 < (i)) from propext (nI_ltI (a := 1) (by decide) (hi2)), show (nI (i) ≤ (1 : Int32)) = ((i) ≤ 1) from propext (nI_leI (b := 1) (hi2) (by decide)), show ((1 : Int32) ≤ nI (i)) = (1 ≤ (i)) from propext (nI_leI (a := 1) (by decide) (hi2)), show (nI (i) = (1 : Int32)) = ((i) = 1) from propext (nI_eq (b := 1) (hi2) (by decide)), nq_ite post, forall_eq, not_true_eq_false, not_false_eq_true, true_implies, false_implies, implies_true, and_true, true_and, and_self]
  refine iff_of_eq (congrArg post ?_)
  simp only [nq_b, nq_tc]
  rcases Bool.eq_false_or_eq_true (nq_mat t) with h | h <;> simp only [h, Bool.true_and, Bool.false_and]
  all_goals repeat' split
  all_goals first | rfl | (exfalso; simp_all; done) | (exfalso; simp_all; omega)
theorem nq_kidsY : ∀ t, t < 153 → ∀ w, w < 4 → ((nq_sub t = false ∨ w < 2) ∧ (nq_isE t = true ∨ nq_isC t = true)) → nq_kids t w = (List.range (nq_ar t)).map (fun i => (if nq_tc t i = true then 1 else 0) + 2 * (if 2 ≤ w ∨ (nq_sub t = true ∧ nq_tc t i = true) then 1 else 0)) := by
  decide +kernel
theorem nq_kidsL : ∀ t, t < 153 → ∀ w, w < 4 → (nq_kids t w).length = nq_ar t ∧ nq_ar t ≤ 3 ∧ ∀ x, x ∈ nq_kids t w → x < 4 := by
  decide +kernel
theorem nq_fit153 {p t w : Nat} (h : nq_fit p t w = true) : t < 153 ∧ (nq_sub t = false ∨ w < 2) := by
  unfold nq_fit at h
  by_cases hw : w % 2 = 1
  · rw [if_pos hw, decide_eq_true_eq] at h
    cases hs : nq_sub t with
    | false => rw [hs] at h; exact ⟨by have := h.resolve_right (fun z => nomatch z.1); omega, Or.inl rfl⟩
    | true =>
      have h2 := hs
      unfold nq_sub at h2
      rw [decide_eq_true_eq] at h2
      exact ⟨by omega, Or.inr (by rcases h with h | h; omega; exact h.2)⟩
  · rw [if_neg hw] at h
    have h3 : t < 77 := by
      by_cases hc : nq_col t = true
      · unfold nq_col at hc
        rw [decide_eq_true_eq] at hc
        omega
      · rw [if_neg hc, decide_eq_true_eq] at h
        omega
    refine ⟨by omega, Or.inl ?_⟩
    unfold nq_sub
    rw [decide_eq_false_iff_not]
    omega
theorem nq_fitEC {p t w : Nat} (h : nq_fit p t w = true) : (w % 2 = 1 → nq_isC t = true) ∧ (¬ w % 2 = 1 → nq_isE t = true) := by
  unfold nq_fit at h
  constructor
  · intro hw
    rw [if_pos hw, decide_eq_true_eq] at h
    unfold nq_isC
    rw [Bool.or_eq_true, decide_eq_true_eq]
    exact h.imp_right And.left
  · intro hw
    rw [if_neg hw] at h
    unfold nq_isE
    rw [Bool.or_eq_true, decide_eq_true_eq]
    by_cases hc : nq_col t = true
    · exact Or.inl hc
    · rw [if_neg hc, decide_eq_true_eq] at h
      exact Or.inr h
theorem nq_fitOr {p t w : Nat} (h : nq_fit p t w = true) : nq_isE t = true ∨ nq_isC t = true := by
  by_cases hw : w % 2 = 1
  · exact Or.inr ((nq_fitEC h).1 hw)
  · exact Or.inl ((nq_fitEC h).2 hw)
/-! stacks in arrays: the top first -/
def nq_St {α : Type} (A : Nat → α) : List α → Prop
  | [] => True
  | a :: r => A r.length = a ∧ nq_St A r
theorem nq_St_c {α : Type} {A B : Nat → α} : ∀ {L : List α}, nq_St A L → (∀ i, i < L.length → B i = A i) → nq_St B L
  | [], _, _ => trivial
  | a :: r, h, hc => ⟨(hc r.length (by simp)).trans h.1, nq_St_c h.2 fun i hi => hc i (by simp; omega)⟩
theorem nq_St_p {A : Nat → Int32} {L : List Int32} {x : Int32} (h : nq_St A L) : nq_St (upd A L.length x) (x :: L) :=
  ⟨pk_us, nq_St_c h fun i hi => pk_un (by omega)⟩
theorem nq_St_pL {A : Nat → Int64} {L : List Int64} {x : Int64} (h : nq_St A L) : nq_St (vp_updL A L.length x) (x :: L) :=
  ⟨pk_uLs, nq_St_c h fun i hi => pk_uLn (by omega)⟩
theorem nq_St_a {α : Type} {A : Nat → α} : ∀ {L M : List α}, nq_St A (L ++ M) → nq_St A M
  | [], _, h => h
  | _ :: _, _, h => nq_St_a h.2
end
end
section
section
variable {sc od nc tp cc gc ac : Int32} {Ce Sk Va An Ov : Nat → Int64} {Rc St Jl Tk Tn Su Ne Ha Cb Jd Go Fm : Nat → Int32}
variable {src dis opn sbt sbr dep mny mor grs fnd kpt : Int32} {ySk yRe ySo yAn : Nat → Int64} {yRo yCe yTo yIl ySz yTk yIn yEn ySu yWc yWi yHa yCo yLo yGo yFi : Nat → Int32}
variable {n t : Nat → Nat} {p : Nat}
theorem nq_wsI (h : nq_WF n t) (hp : p < 10) : ∀ i, i ≤ n p → (nq_ws p t i).length ≤ 1 + 2 * i ∧ ∀ x, x ∈ nq_ws p t i → x < 4 := by
  intro i
  induction i with
  | zero =>
    intro _
    refine ⟨Nat.le_refl _, fun x hx => ?_⟩
    simp only [nq_ws, List.mem_singleton] at hx
    rw [hx]
    split <;> decide
  | succ i ih =>
    intro hi
    obtain ⟨l1, l2⟩ := ih (by omega)
    obtain ⟨w, r, e, hf⟩ := (h p hp).2 i (by omega)
    rw [e] at l1 l2
    obtain ⟨k1, k2, k3⟩ := nq_kidsL _ (nq_fit153 hf).1 w (l2 w List.mem_cons_self)
    simp only [nq_ws, e]
    refine ⟨?_, fun x hx => ?_⟩
    · rw [List.length_append, k1]
      rw [List.length_cons] at l1
      omega
    · rcases List.mem_append.mp hx with z | z
      · exact k3 x z
      · exact l2 x (List.mem_cons_of_mem _ z)
theorem nq_wsS (h : nq_WF n t) (hp : p < 10) {i : Nat} (hi : i < n p) : ∃ w r, nq_ws p t i = w :: r ∧ nq_ws p t (i + 1) = nq_kids (t (20 * p + i)) w ++ r ∧ nq_fit p (t (20 * p + i)) w = true ∧ w < 4 ∧ t (20 * p + i) < 153 ∧ (nq_kids (t (20 * p + i)) w).length = nq_ar (t (20 * p + i)) ∧ (nq_sub (t (20 * p + i)) = false ∨ w < 2) ∧ r.length ≤ 2 * i ∧ nq_ar (t (20 * p + i)) ≤ 3 := by
  obtain ⟨l1, l2⟩ := nq_wsI h hp i (by omega)
  obtain ⟨w, r, e, hf⟩ := (h p hp).2 i hi
  rw [e] at l1 l2
  have w4 := l2 w List.mem_cons_self
  obtain ⟨k1, k2, k3⟩ := nq_kidsL _ (nq_fit153 hf).1 w w4
  refine ⟨w, r, e, ?_, hf, w4, (nq_fit153 hf).1, k1, (nq_fit153 hf).2, ?_, k2⟩
  · simp only [nq_ws, e]
  · rw [List.length_cons] at l1
    omega
theorem nq_plus (L a : Nat) : nI (L + 1) + (nI a - 1) = nI (a + L) := by
  rw [← nI_1, ← nI_add]
  grind
theorem nq_xOpen {post : Int32 → Prop} (hT : nq_TT n t Tn Tk) (hW : nq_WF n t) (hp : p < 10) (H : post (nI (nq_ws p t (n p)).length)) : wpX_openTerms post (sc, od, nc, tp, cc, gc, ac, Ce, Rc, St, Jl, Tk, Tn, Su, Ne, Ha, Sk, Cb, Jd, Va, Go, Fm, An, Ov) (nI p) := by
  have cp : (nI p).toNatClampNeg = p := nI_clamp (by omega)
  have vp : vp_in (nI p) 10 := vp_in_nI hp (by decide)
  have hn := (hW p hp).1
  have key : ∀ f i, i ≤ n p → n p - i < f → wX_openTerms_4 post (nI p) sc od nc tp cc gc ac Ce Rc St Jl Tk Tn Su Ne Ha Sk Cb Jd Va Go Fm An Ov f (nI (nq_ws p t i).length) (nI i) := by
    intro f
    induction f with
    | zero => intro q _ h; omega
    | succ f ih =>
      intro i hi hf
      rcases Nat.lt_or_ge i (n p) with z | z
      · have z3 : ¬ nI (n p) ≤ nI i := nI_ge z (by omega)
        obtain ⟨w, r, e1, e2, ef, w4, t153, kl, es, rl, a3⟩ := nq_wsS hW hp z
        have x0 : nI p * 20 + nI i = nI (20 * p + i) := by
          simp only [nq_i20, pk_mul, nI_add]
          exact congrArg nI (by omega)
        have i0 : vp_in (nI (20 * p + i)) 200 := vp_in_nI (by omega) (by decide)
        have c0 : (nI (20 * p + i)).toNatClampNeg = 20 * p + i := nI_clamp (by omega)
        simp only [wX_openTerms_4, cp, vp, (hT p hp).1, z3, x0, i0, c0, (hT p hp).2 i z, nq_xAr (show t (20 * p + i) < 2147483648 by omega), nI_1, e1, List.length_cons, nq_plus, forall_eq, not_true_eq_false, not_false_eq_true, true_implies, false_implies, implies_true, and_true, true_and, and_self]
        have := ih (i + 1) (by omega) (by omega)
        rw [e2, List.length_append, kl] at this
        exact this
      · have : i = n p := by omega
        subst this
        have z3 : nI (n p) ≤ nI (n p) := nI_le (Nat.le_refl _) (by omega)
        simp only [wX_openTerms_4, cp, vp, (hT p hp).1, z3, forall_eq, not_true_eq_false, not_false_eq_true, true_implies, false_implies, implies_true, and_true, true_and, and_self]
        exact H
  exact ⟨n p + 1, key _ 0 (by omega) (by omega)⟩
/-! the component's needs -/
theorem nq_and2 : ∀ w, w < 4 → nI w &&& 2 = nI (w / 2 * 2) := by decide
theorem nq_and1 : ∀ w, w < 4 → nI w &&& 1 = nI (w % 2) := by decide
theorem nq_or0 : ∀ w, w < 4 → (0 : Int32) ||| nI (w / 2 * 2) = nI (0 + w / 2 * 2) := by decide
theorem nq_or1 : ∀ w, w < 4 → (1 : Int32) ||| nI (w / 2 * 2) = nI (1 + w / 2 * 2) := by decide
theorem nq_xPush {post : SX → Prop} {L : List Nat} {x : Nat} (hL : L.length < 41) (hS : nq_St Ne (L.map nI)) (H : ∀ Ne', nq_St Ne' ((x :: L).map nI) → post (sc, od, (nI (L.length + 1)), tp, cc, gc, ac, Ce, Rc, St, Jl, Tk, Tn, Su, Ne', Ha, Sk, Cb, Jd, Va, Go, Fm, An, Ov)) : wpX_pushNeed post (sc, od, (nI L.length), tp, cc, gc, ac, Ce, Rc, St, Jl, Tk, Tn, Su, Ne, Ha, Sk, Cb, Jd, Va, Go, Fm, An, Ov) (nI x) := by
  have i0 : vp_in (nI L.length) 41 := vp_in_nI hL (by decide)
  have c0 : (nI L.length).toNatClampNeg = L.length := nI_clamp (by omega)
  simp only [wpX_pushNeed, i0, c0, nI_1, forall_eq, not_true_eq_false, not_false_eq_true, true_implies, false_implies, implies_true, and_true, true_and, and_self]
  have := nq_St_p (x := nI x) hS
  rw [List.length_map] at this
  exact H _ this
theorem nq_xP55 {post : SX → Prop} {t w b a : Nat} {r : List Nat} (ht : t < 153) (hw : w < 4) (hb : b < 2) (ha : a ≤ 3) (hr : r.length + a ≤ 41 ∧ (t = 76 → r.length + a + 1 ≤ 41)) (H : ∀ Ne', nq_St Ne' ((((if t = 76 then [1 + w / 2 * 2] else []) ++ List.replicate a (b + w / 2 * 2)) ++ r).map nI) → post (sc, od, (nI (((if t = 76 then [1 + w / 2 * 2] else []) ++ List.replicate a (b + w / 2 * 2)) ++ r).length), tp, cc, gc, ac, Ce, Rc, St, Jl, Tk, Tn, Su, Ne', Ha, Sk, Cb, Jd, Va, Go, Fm, An, Ov)) : ∀ f i, i ≤ a → a - i < f → ∀ Ne, nq_St Ne ((List.replicate i (b + w / 2 * 2) ++ r).map nI) → wX_pushNeeds_55 post (nI t) (nI (w / 2 * 2)) (nI b) (nI a) f (nI i) sc od (nI (List.replicate i (b + w / 2 * 2) ++ r).length) tp cc gc ac Ce Rc St Jl Tk Tn Su Ne Ha Sk Cb Jd Va Go Fm An Ov := by
  intro f
  induction f with
  | zero => intro q _ h; omega
  | succ f ih =>
    intro i hi hf Ne hS
    have ll : (List.replicate i (b + w / 2 * 2) ++ r).length = i + r.length := by simp
    rcases Nat.lt_or_ge i a with z | z
    · have z3 : ¬ nI a ≤ nI i := nI_ge z (by omega)
      have step : wpX_pushNeed (fun u => match u with | (sc1, od1, nc1, tp1, cc1, gc1, ac1, Ce1, Rc1, St1, Jl1, Tk1, Tn1, Su1, Ne1, Ha1, Sk1, Cb1, Jd1, Va1, Go1, Fm1, An1, Ov1) => wX_pushNeeds_55 post (nI t) (nI (w / 2 * 2)) (nI b) (nI a) f (nI (i + 1)) sc1 od1 nc1 tp1 cc1 gc1 ac1 Ce1 Rc1 St1 Jl1 Tk1 Tn1 Su1 Ne1 Ha1 Sk1 Cb1 Jd1 Va1 Go1 Fm1 An1 Ov1) (sc, od, (nI (List.replicate i (b + w / 2 * 2) ++ r).length), tp, cc, gc, ac, Ce, Rc, St, Jl, Tk, Tn, Su, Ne, Ha, Sk, Cb, Jd, Va, Go, Fm, An, Ov) (nI (b + w / 2 * 2)) := by
        refine nq_xPush (by omega) hS fun Ne' hS' => ?_
        have := ih (i + 1) (by omega) (by omega) Ne' (by rw [List.replicate_succ]; exact hS')
        rw [List.replicate_succ, List.cons_append, List.length_cons] at this
        exact this
      match b, hb with
      | 0, _ =>
        simp only [wX_pushNeeds_55, wX_pushNeeds_72, z3, show nI 0 = (0 : Int32) from rfl, nq_or0 w hw, nI_1, forall_eq, not_true_eq_false, not_false_eq_true, true_implies, false_implies, implies_true, and_true, true_and, and_self]
        exact step
      | 1, _ =>
        simp only [wX_pushNeeds_55, wX_pushNeeds_72, z3, show ¬ nI 1 = (0 : Int32) from by decide, nq_or1 w hw, nI_1, forall_eq, not_true_eq_false, not_false_eq_true, true_implies, false_implies, implies_true, and_true, true_and, and_self]
        exact step
    · have : i = a := by omega
      subst this
      have z3 : nI i ≤ nI i := nI_le (Nat.le_refl _) (by omega)
      by_cases h76 : t = 76
      · subst h76
        simp only [wX_pushNeeds_55, z3, show nI 76 = (76 : Int32) from rfl, nq_or1 w hw, forall_eq, not_true_eq_false, not_false_eq_true, true_implies, false_implies, implies_true, and_true, true_and, and_self]
        refine nq_xPush (by have := hr.2 rfl; omega) hS fun Ne' hS' => ?_
        exact H Ne' hS'
      · have e76 : ¬ nI t = 76 := fun e => h76 ((nI_eq (a := t) (b := 76) (by omega) (by decide)).mp e)
        simp only [wX_pushNeeds_55, z3, e76, forall_eq, not_true_eq_false, not_false_eq_true, true_implies, false_implies, implies_true, and_true, true_and, and_self]
        simp only [h76, if_false, List.nil_append] at H
        exact H _ hS
theorem nq_xPn {post : SX → Prop} {t w : Nat} {r : List Nat} (ht : t < 153) (hw : w < 4) (hr : r.length + 3 ≤ 41) (hS : nq_St Ne (r.map nI)) (H : ∀ Ne', nq_St Ne' ((nq_kids t w ++ r).map nI) → post (sc, od, (nI (nq_kids t w ++ r).length), tp, cc, gc, ac, Ce, Rc, St, Jl, Tk, Tn, Su, Ne', Ha, Sk, Cb, Jd, Va, Go, Fm, An, Ov)) : wpX_pushNeeds post (sc, od, (nI r.length), tp, cc, gc, ac, Ce, Rc, St, Jl, Tk, Tn, Su, Ne, Ha, Sk, Cb, Jd, Va, Go, Fm, An, Ov) (nI t) (nI (w / 2 * 2)) := by
  have ht2 : t < 2147483648 := by omega
  have nt : ¬ (1 : Int32) = 0 := by decide
  unfold nq_kids at H
  cases hs : nq_sub t with
  | true =>
    simp only [hs, if_true] at H
    simp only [wpX_pushNeeds, nq_xSub ht2, hs, nq_bt, nt, forall_eq, not_true_eq_false, not_false_eq_true, true_implies, false_implies, implies_true, and_true, true_and, and_self]
    refine nq_xPush (x := 3) (by omega) hS fun Ne' hS' => ?_
    by_cases h1 : t < 100
    · simp only [show (nI (t) < (100 : Int32)) = ((t) < 100) from propext (nI_ltI (b := 100) (ht2) (by decide)), show ((100 : Int32) < nI (t)) = (100 < (t)) from propext (nI_ltI (a := 100) (by decide) (ht2)), show (nI (t) ≤ (100 : Int32)) = ((t) ≤ 100) from propext (nI_leI (b := 100) (ht2) (by decide)), show ((100 : Int32) ≤ nI (t)) = (100 ≤ (t)) from propext (nI_leI (a := 100) (by decide) (ht2)), show (nI (t) = (100 : Int32)) = ((t) = 100) from propext (nI_eq (b := 100) (ht2) (by decide)), h1, forall_eq, not_true_eq_false, not_false_eq_true, true_implies, false_implies, implies_true, and_true, true_and, and_self]
      simp only [h1, if_true] at H
      exact H _ hS'
    · simp only [show (nI (t) < (100 : Int32)) = ((t) < 100) from propext (nI_ltI (b := 100) (ht2) (by decide)), show ((100 : Int32) < nI (t)) = (100 < (t)) from propext (nI_ltI (a := 100) (by decide) (ht2)), show (nI (t) ≤ (100 : Int32)) = ((t) ≤ 100) from propext (nI_leI (b := 100) (ht2) (by decide)), show ((100 : Int32) ≤ nI (t)) = (100 ≤ (t)) from propext (nI_leI (a := 100) (by decide) (ht2)), show (nI (t) = (100 : Int32)) = ((t) = 100) from propext (nI_eq (b := 100) (ht2) (by decide)), h1, forall_eq, not_true_eq_false, not_false_eq_true, true_implies, false_implies, implies_true, and_true, true_and, and_self]
      simp only [h1, if_false] at H
      refine nq_xPush (x := 0) (L := 3 :: r) (by rw [List.length_cons]; omega) hS' fun Ne'' hS'' => ?_
      exact H _ hS''
  | false =>
    simp only [hs, reduceCtorEq, if_false] at H
    simp only [wpX_pushNeeds, nq_xSub ht2, hs, nq_bf, forall_eq, not_true_eq_false, not_false_eq_true, true_implies, false_implies, implies_true, and_true, true_and, and_self]
    have main : ∀ b, b < 2 → (b = if 84 ≤ t then 1 else 0) → wX_pushNeeds_35 post (nI t) (nI (w / 2 * 2)) (nI b) sc od (nI r.length) tp cc gc ac Ce Rc St Jl Tk Tn Su Ne Ha Sk Cb Jd Va Go Fm An Ov := by
      intro b hb eb
      by_cases h76 : t = 76
      · subst h76
        simp only [show ¬ 84 ≤ 76 from by decide, if_false] at eb
        subst eb
        simp only [wX_pushNeeds_35, show nI 76 = (76 : Int32) from rfl, forall_eq, not_true_eq_false, not_false_eq_true, true_implies, false_implies, implies_true, and_true, true_and, and_self]
        exact ⟨3, nq_xP55 (t := 76) (a := 2) (by omega) hw hb (by omega) (by omega) (fun Ne' hS' => by
          simp only [if_true] at H
          have e : ([1 + w / 2 * 2] ++ List.replicate 2 (0 + w / 2 * 2)) ++ r = [1 + w / 2 * 2, w / 2 * 2, w / 2 * 2] ++ r := by simp [List.replicate]
          simp only [if_true] at hS' ⊢
          rw [e] at hS' ⊢
          exact H Ne' hS') 3 0 (by omega) (by omega) Ne hS⟩
      · have e76 : ¬ nI t = 76 := fun e => h76 ((nI_eq (b := 76) ht2 (by decide)).mp e)
        have a3 := (nq_kidsL t ht w hw).2.1
        simp only [wX_pushNeeds_35, e76, nq_xAr ht2, forall_eq, not_true_eq_false, not_false_eq_true, true_implies, false_implies, implies_true, and_true, true_and, and_self]
        exact ⟨4, nq_xP55 (t := t) (a := nq_ar t) ht hw hb a3 (by omega) (fun Ne' hS' => by
          simp only [h76, if_false, List.nil_append] at hS' H ⊢
          rw [← eb] at H
          exact H Ne' hS') 4 0 (by omega) (by omega) Ne hS⟩
    by_cases h84 : t < 84
    · simp only [show (nI (t) < (84 : Int32)) = ((t) < 84) from propext (nI_ltI (b := 84) (ht2) (by decide)), show ((84 : Int32) < nI (t)) = (84 < (t)) from propext (nI_ltI (a := 84) (by decide) (ht2)), show (nI (t) ≤ (84 : Int32)) = ((t) ≤ 84) from propext (nI_leI (b := 84) (ht2) (by decide)), show ((84 : Int32) ≤ nI (t)) = (84 ≤ (t)) from propext (nI_leI (a := 84) (by decide) (ht2)), show (nI (t) = (84 : Int32)) = ((t) = 84) from propext (nI_eq (b := 84) (ht2) (by decide)), h84, forall_eq, not_true_eq_false, not_false_eq_true, true_implies, false_implies, implies_true, and_true, true_and, and_self]
      exact main 0 (by omega) (by rw [if_neg (by omega)])
    · simp only [show (nI (t) < (84 : Int32)) = ((t) < 84) from propext (nI_ltI (b := 84) (ht2) (by decide)), show ((84 : Int32) < nI (t)) = (84 < (t)) from propext (nI_ltI (a := 84) (by decide) (ht2)), show (nI (t) ≤ (84 : Int32)) = ((t) ≤ 84) from propext (nI_leI (b := 84) (ht2) (by decide)), show ((84 : Int32) ≤ nI (t)) = (84 ≤ (t)) from propext (nI_leI (a := 84) (by decide) (ht2)), show (nI (t) = (84 : Int32)) = ((t) = 84) from propext (nI_eq (b := 84) (ht2) (by decide)), h84, forall_eq, not_true_eq_false, not_false_eq_true, true_implies, false_implies, implies_true, and_true, true_and, and_self]
      exact main 1 (by omega) (by rw [if_pos (by omega)])
theorem nq_xNeed {post : Int32 → SX → Prop} {w : Nat} {r : List Nat} (hT : nq_TT n t Tn Tk) (hW : nq_WF n t) (hp : p < 10) (hwr : nq_ws p t (n p) = w :: r) (H : ∀ nc' Ne', post (nI w) (sc, od, nc', tp, cc, gc, ac, Ce, Rc, St, Jl, Tk, Tn, Su, Ne', Ha, Sk, Cb, Jd, Va, Go, Fm, An, Ov)) : wpX_nextNeed post (sc, od, nc, tp, cc, gc, ac, Ce, Rc, St, Jl, Tk, Tn, Su, Ne, Ha, Sk, Cb, Jd, Va, Go, Fm, An, Ov) (nI p) := by
  have cp : (nI p).toNatClampNeg = p := nI_clamp (by omega)
  have vp : vp_in (nI p) 10 := vp_in_nI hp (by decide)
  have hn := (hW p hp).1
  have key : ∀ f i, i ≤ n p → n p - i < f → ∀ Ne, nq_St Ne ((nq_ws p t i).map nI) → wX_nextNeed_25 post (nI p) f (nI i) sc od (nI (nq_ws p t i).length) tp cc gc ac Ce Rc St Jl Tk Tn Su Ne Ha Sk Cb Jd Va Go Fm An Ov := by
    intro f
    induction f with
    | zero => intro q _ h; omega
    | succ f ih =>
      intro i hi hf Ne hS
      rcases Nat.lt_or_ge i (n p) with z | z
      · have z3 : ¬ nI (n p) ≤ nI i := nI_ge z (by omega)
        obtain ⟨w, r, e1, e2, ef, w4, t153, kl, es, rl, a3⟩ := nq_wsS hW hp z
        have x0 : nI p * 20 + nI i = nI (20 * p + i) := by
          simp only [nq_i20, pk_mul, nI_add]
          exact congrArg nI (by omega)
        have i0 : vp_in (nI (20 * p + i)) 200 := vp_in_nI (by omega) (by decide)
        have c0 : (nI (20 * p + i)).toNatClampNeg = 20 * p + i := nI_clamp (by omega)
        rw [e1] at hS
        have i1 : vp_in (nI r.length) 41 := vp_in_nI (by omega) (by decide)
        have c1 : (nI r.length).toNatClampNeg = r.length := nI_clamp (by omega)
        have hN : Ne r.length = nI w := by
          have := hS.1
          rw [List.length_map] at this
          exact this
        simp only [wX_nextNeed_25, cp, vp, (hT p hp).1, z3, x0, i0, c0, (hT p hp).2 i z, nI_1, e1, List.length_cons, nI_pred, i1, c1, hN, nq_and2 w w4, forall_eq, not_true_eq_false, not_false_eq_true, true_implies, false_implies, implies_true, and_true, true_and, and_self]
        refine nq_xPn t153 w4 (by omega) hS.2 fun Ne' hS' => ?_
        have := ih (i + 1) (by omega) (by omega) Ne' (by rw [e2]; exact hS')
        rw [e2] at this
        exact this
      · have : i = n p := by omega
        subst this
        have z3 : nI (n p) ≤ nI (n p) := nI_le (Nat.le_refl _) (by omega)
        have l1 := (nq_wsI hW hp (n p) (Nat.le_refl _)).1
        rw [hwr] at hS l1
        rw [List.length_cons] at l1
        have i1 : vp_in (nI r.length) 41 := vp_in_nI (by omega) (by decide)
        have c1 : (nI r.length).toNatClampNeg = r.length := nI_clamp (by omega)
        have hN : Ne r.length = nI w := by
          have := hS.1
          rw [List.length_map] at this
          exact this
        simp only [wX_nextNeed_25, cp, vp, (hT p hp).1, z3, hwr, List.length_cons, nI_pred, i1, c1, hN, forall_eq, not_true_eq_false, not_false_eq_true, true_implies, false_implies, implies_true, and_true, true_and, and_self]
        exact H _ _
  have nt : ¬ (1 : Int32) = 0 := by decide
  by_cases h3 : p ≤ 3
  · simp only [wpX_nextNeed, nq_xCp hp, h3, decide_true, nq_bt, nt, forall_eq, not_true_eq_false, not_false_eq_true, true_implies, false_implies, implies_true, and_true, true_and, and_self]
    refine ⟨n p + 1, key _ 0 (by omega) (by omega) _ ?_⟩
    simp only [nq_ws, h3, if_true, List.map_cons, List.map_nil]
    exact ⟨pk_us, trivial⟩
  · simp only [wpX_nextNeed, nq_xCp hp, h3, decide_false, nq_bf, forall_eq, not_true_eq_false, not_false_eq_true, true_implies, false_implies, implies_true, and_true, true_and, and_self]
    refine ⟨n p + 1, key _ 0 (by omega) (by omega) _ ?_⟩
    simp only [nq_ws, h3, if_false, List.map_cons, List.map_nil]
    exact ⟨pk_us, trivial⟩
end
end
section
section
variable {sc od nc tp cc gc ac : Int32} {Ce Sk Va An Ov : Nat → Int64} {Rc St Jl Tk Tn Su Ne Ha Cb Jd Go Fm : Nat → Int32}
variable {src dis opn sbt sbr dep mny mor grs fnd kpt : Int32} {ySk yRe ySo yAn : Nat → Int64} {yRo yCe yTo yIl ySz yTk yIn yEn ySu yWc yWi yHa yCo yLo yGo yFi : Nat → Int32}
variable {n t : Nat → Nat} {p : Nat}
def nq_Sw (A B : Nat → Int32) (L : List Nat) : Prop := nq_St A (L.map (fun w => nI (w % 2))) ∧ nq_St B (L.map (fun w => nI (w / 2)))
theorem nq_Sw_p {A B : Nat → Int32} {L : List Nat} {x : Nat} {a b : Int32} (h : nq_Sw A B L) (ha : a = nI (x % 2)) (hb : b = nI (x / 2)) : nq_Sw (upd A L.length a) (upd B L.length b) (x :: L) := by
  subst ha hb
  have h1 := nq_St_p (x := nI (x % 2)) h.1
  have h2 := nq_St_p (x := nI (x / 2)) h.2
  rw [List.length_map] at h1 h2
  exact ⟨h1, h2⟩
theorem nq_Sw_t {A B : Nat → Int32} {L : List Nat} {x : Nat} (h : nq_Sw A B (x :: L)) : A L.length = nI (x % 2) ∧ B L.length = nI (x / 2) ∧ nq_Sw A B L := by
  have h1 := h.1.1
  have h2 := h.2.1
  rw [List.length_map] at h1 h2
  exact ⟨h1, h2, h.1.2, h.2.2⟩
theorem nq_b2 : ∀ w, w < 4 → nI (w / 2) = nq_b (decide (2 ≤ w)) := by decide
theorem nq_b1 : ∀ w, w < 4 → nI (w % 2) = nq_b (decide (w % 2 = 1)) := by decide
theorem nq_arle (t : Nat) : nq_ar t ≤ 3 := by
  unfold nq_ar
  repeat' split
  all_goals omega
theorem nq_y89 {post : SY → Prop} {J33 : Int32 → Int32 → (Nat → Int32) → (Nat → Int32) → (Nat → Int32) → (Nat → Int32) → (Nat → Int32) → (Nat → Int32) → (Nat → Int32) → (Nat → Int32) → (Nat → Int32) → (Nat → Int32) → (Nat → Int32) → (Nat → Int32) → (Nat → Int64) → (Nat → Int32) → (Nat → Int32) → (Nat → Int32) → (Nat → Int32) → (Nat → Int64) → (Nat → Int64) → (Nat → Int64) → Prop} {x1 : Int32} {x t w : Nat} {r : List Nat} (hx : x < 200) (hk : yTk x = nI t) (ht : t < 153) (hw : w < 4) (hs : nq_sub t = false ∨ w < 2) (ho : nq_isE t = true ∨ nq_isC t = true) (hr : r.length + 3 ≤ 64) (H : ∀ yWc' yWi', nq_Sw yWc' yWi' (nq_kids t w ++ r) → J33 (nI (x + 1)) (nI (nq_kids t w ++ r).length) yRo yCe yTo yIl ySz yTk yIn yEn ySu yWc' yWi' yHa ySk yCo yLo yGo yFi yRe ySo yAn) : ∀ c, c ≤ nq_ar t → ∀ f, c < f → ∀ yWc yWi, nq_Sw yWc yWi ((nq_kids t w).drop c ++ r) → wY_scan_89 post J33 x1 (nI x) (nq_b (decide (2 ≤ w))) src dis sbt sbr dep mny mor grs fnd kpt f (nI c - 1) (nI ((nq_kids t w).drop c ++ r).length) yRo yCe yTo yIl ySz yTk yIn yEn ySu yWc yWi yHa ySk yCo yLo yGo yFi yRe ySo yAn := by
  have ht2 : t < 2147483648 := by omega
  have i0 : vp_in (nI x) 200 := vp_in_nI hx (by decide)
  have c0 : (nI x).toNatClampNeg = x := nI_clamp (by omega)
  have nt : ¬ (1 : Int32) = 0 := by decide
  have kY := nq_kidsY t ht w hw ⟨hs, ho⟩
  have kL := (nq_kidsL t ht w hw).1
  have a3 := nq_arle t
  intro c
  induction c with
  | zero =>
    intro _ f hf yWc yWi hS
    obtain ⟨f, rfl⟩ : ∃ g, f = g + 1 := ⟨f - 1, by omega⟩
    have e1 : nI 0 - 1 < 0 := by decide
    simp only [wY_scan_89, e1, nI_1, forall_eq, not_true_eq_false, not_false_eq_true, true_implies, false_implies, implies_true, and_true, true_and, and_self]
    rw [List.drop_zero] at hS ⊢
    exact H _ _ hS
  | succ c ih =>
    intro hc f hf yWc yWi hS
    obtain ⟨f, rfl⟩ : ∃ g, f = g + 1 := ⟨f - 1, by omega⟩
    have hcl : c < (nq_kids t w).length := by omega
    have ed : (nq_kids t w).drop c = (nq_kids t w)[c] :: (nq_kids t w).drop (c + 1) := List.drop_eq_getElem_cons hcl
    have ev : (nq_kids t w)[c] = (if nq_tc t c = true then 1 else 0) + 2 * (if 2 ≤ w ∨ (nq_sub t = true ∧ nq_tc t c = true) then 1 else 0) := by
      simp only [kY, List.getElem_map, List.getElem_range]
    generalize (nq_kids t w)[c] = y at ed ev
    have y1 : nq_b (nq_tc t c) = nI (y % 2) := by
      rw [ev]
      unfold nq_b
      repeat' split
      all_goals rfl
    have y2 : nq_b (decide (2 ≤ w ∨ (nq_sub t = true ∧ nq_tc t c = true))) = nI (y / 2) := by
      rw [ev]
      unfold nq_b
      simp only [decide_eq_true_eq]
      repeat' split
      all_goals rfl
    have dl : ((nq_kids t w).drop (c + 1) ++ r).length ≤ 2 + r.length := by
      rw [List.length_append, List.length_drop]
      omega
    have ep : nI (c + 1) - 1 = nI c := nI_pred c
    have e1 : ¬ nI c < 0 := nI_pos (by omega)
    have e2 : nI c + (-1) = nI c - 1 := by grind
    have i1 : vp_in (nI ((nq_kids t w).drop (c + 1) ++ r).length) 64 := vp_in_nI (by omega) (by decide)
    have c1 : (nI ((nq_kids t w).drop (c + 1) ++ r).length).toNatClampNeg = ((nq_kids t w).drop (c + 1) ++ r).length := nI_clamp (by omega)
    have hS2 := nq_Sw_p hS y1 y2
    have fin := ih (by omega) f (by omega) _ _ (by rw [ed]; exact hS2)
    rw [ed, List.cons_append, List.length_cons] at fin
    simp only [wY_scan_89, ep, e1, i0, c0, hk, nq_yTc ht2 (show c < 3 by omega), i1, c1, nq_bnar, nq_ySub ht2, nq_b0, wY_scan_155, wY_scan_159, wY_scan_160, nI_1, e2, decide_eq_false_iff_not, forall_eq, not_true_eq_false, not_false_eq_true, true_implies, false_implies, implies_true, and_true, true_and, and_self]
    by_cases hw2 : 2 ≤ w
    · simp only [hw2, true_or, decide_true] at fin
      simp only [hw2, forall_eq, not_true_eq_false, not_false_eq_true, true_implies, false_implies, implies_true, and_true, true_and, and_self, show vp_nar .boolean 1 = nq_b true from rfl]
      simp only [hw2, decide_true]
      exact fin
    · simp only [hw2, false_or, decide_false] at fin
      simp only [hw2, decide_false, forall_eq, not_true_eq_false, not_false_eq_true, true_implies, false_implies, implies_true, and_true, true_and, and_self]
      rcases Bool.eq_false_or_eq_true (nq_sub t) with hs1 | hs1
      · rcases Bool.eq_false_or_eq_true (nq_tc t c) with hc1 | hc1
        · simp only [hs1, hc1, and_self, decide_true] at fin
          simp only [hs1, hc1, reduceCtorEq, forall_eq, not_true_eq_false, not_false_eq_true, true_implies, false_implies, implies_true, and_true, true_and, and_self, show vp_nar .boolean 1 = nq_b true from rfl]
          exact fin
        · simp only [hs1, hc1, reduceCtorEq, and_false, decide_false] at fin
          simp only [hs1, hc1, reduceCtorEq, forall_eq, not_true_eq_false, not_false_eq_true, true_implies, false_implies, implies_true, and_true, true_and, and_self, show vp_nar .boolean 0 = nq_b false from rfl]
          exact fin
      · simp only [hs1, reduceCtorEq, false_and, decide_false] at fin
        simp only [hs1, reduceCtorEq, forall_eq, not_true_eq_false, not_false_eq_true, true_implies, false_implies, implies_true, and_true, true_and, and_self, show vp_nar .boolean 0 = nq_b false from rfl]
        exact fin
/-- the flags inside, as the scan leaves them -/
def nq_In (n t : Nat → Nat) (p : Nat) (yIn : Nat → Int32) : Prop := ∀ i, i < n p → ∀ w r, nq_ws p t i = w :: r → yIn (20 * p + i) = nI (w / 2)
theorem nq_yScan {post : SY → Prop} (hT : nq_TT n t ySz yTk) (hW : nq_WF n t) (hp : p < 10) (H : ∀ yIn' yWc' yWi', nq_Sw yWc' yWi' (nq_ws p t (n p)) → nq_In n t p yIn' → (∀ j, (j < 20 * p ∨ 20 * p + 20 ≤ j) → yIn' j = yIn j) → post (src, dis, (nI (nq_ws p t (n p)).length), sbt, sbr, dep, mny, mor, grs, fnd, kpt, yRo, yCe, yTo, yIl, ySz, yTk, yIn', yEn, ySu, yWc', yWi', yHa, ySk, yCo, yLo, yGo, yFi, yRe, ySo, yAn)) : wpY_scan post (src, dis, opn, sbt, sbr, dep, mny, mor, grs, fnd, kpt, yRo, yCe, yTo, yIl, ySz, yTk, yIn, yEn, ySu, yWc, yWi, yHa, ySk, yCo, yLo, yGo, yFi, yRe, ySo, yAn) (nI p) := by
  have cp : (nI p).toNatClampNeg = p := nI_clamp (by omega)
  have vp : vp_in (nI p) 10 := vp_in_nI hp (by decide)
  have hn := (hW p hp).1
  have e20 : 20 * nI p = nI (20 * p) := by simp only [nq_i20, pk_mul]
  have key : ∀ f i, i ≤ n p → n p - i < f → ∀ yIn' yWc yWi, nq_Sw yWc yWi (nq_ws p t i) → (∀ k, k < i → ∀ w r, nq_ws p t k = w :: r → yIn' (20 * p + k) = nI (w / 2)) → (∀ j, (j < 20 * p ∨ 20 * p + 20 ≤ j) → yIn' j = yIn j) → wY_scan_33 post (nI p) src dis sbt sbr dep mny mor grs fnd kpt f (nI (20 * p + i)) (nI (nq_ws p t i).length) yRo yCe yTo yIl ySz yTk yIn' yEn ySu yWc yWi yHa ySk yCo yLo yGo yFi yRe ySo yAn := by
    intro f
    induction f with
    | zero => intro q _ h; omega
    | succ f ih =>
      intro i hi hf yIn' yWc yWi hS hI hO
      rcases Nat.lt_or_ge i (n p) with z | z
      · have z3 : ¬ nI (20 * p + n p) ≤ nI (20 * p + i) := nI_ge (by omega) (by omega)
        obtain ⟨w, r, e1, e2, ef, w4, t153, kl, es, rl, a3⟩ := nq_wsS hW hp z
        have i0 : vp_in (nI (20 * p + i)) 200 := vp_in_nI (by omega) (by decide)
        have c0 : (nI (20 * p + i)).toNatClampNeg = 20 * p + i := nI_clamp (by omega)
        rw [e1] at hS
        obtain ⟨s1, s2, s3⟩ := nq_Sw_t hS
        have i1 : vp_in (nI r.length) 64 := vp_in_nI (by omega) (by decide)
        have c1 : (nI r.length).toNatClampNeg = r.length := nI_clamp (by omega)
        simp only [wY_scan_33, cp, vp, (hT p hp).1, e20, nI_add, z3, i0, c0, (hT p hp).2 i z, e1, List.length_cons, nI_pred, i1, c1, s2, nq_b2 w w4, nq_bnar, nq_yAr (show t (20 * p + i) < 2147483648 by omega), forall_eq, not_true_eq_false, not_false_eq_true, true_implies, false_implies, implies_true, and_true, true_and, and_self]
        have dr : ((nq_kids (t (20 * p + i)) w).drop (nq_ar (t (20 * p + i))) ++ r) = r := by rw [List.drop_of_length_le (by omega), List.nil_append]
        have s3' : nq_Sw yWc yWi ((nq_kids (t (20 * p + i)) w).drop (nq_ar (t (20 * p + i))) ++ r) := by rw [dr]; exact s3
        have gg := nq_y89 (post := post) (J33 := wY_scan_33 post (nI p) src dis sbt sbr dep mny mor grs fnd kpt f) (x1 := nI p) (x := 20 * p + i) (t := t (20 * p + i)) (w := w) (r := r) (src := src) (dis := dis) (sbt := sbt) (sbr := sbr) (dep := dep) (mny := mny) (mor := mor) (grs := grs) (fnd := fnd) (kpt := kpt) (yIn := (upd yIn' (20 * p + i) (nq_b (decide (2 ≤ w))))) (by omega) ((hT p hp).2 i z) t153 w4 es (nq_fitOr ef) (by omega) (fun yWc' yWi' hS' => by
          have := ih (i + 1) (by omega) (by omega) (upd yIn' (20 * p + i) (nq_b (decide (2 ≤ w)))) yWc' yWi' (by rw [e2]; exact hS') (by
            intro k hk w' r' e'
            by_cases ek : k = i
            · subst ek
              rw [pk_us]
              rw [e1] at e'
              cases e'
              exact (nq_b2 w w4).symm
            · rw [pk_un (by omega)]
              exact hI k (by omega) w' r' e') (by
            intro j hj
            rw [pk_un (by omega)]
            exact hO j hj)
          rw [e2] at this
          exact this) _ (Nat.le_refl _) 4 (by omega) yWc yWi s3'
        rw [dr] at gg
        exact ⟨4, gg⟩
      · have : i = n p := by omega
        subst this
        have z3 : nI (20 * p + n p) ≤ nI (20 * p + n p) := nI_le (Nat.le_refl _) (by omega)
        simp only [wY_scan_33, cp, vp, (hT p hp).1, e20, nI_add, z3, forall_eq, not_true_eq_false, not_false_eq_true, true_implies, false_implies, implies_true, and_true, true_and, and_self]
        exact H _ _ _ hS hI hO
  have i0 : vp_in 0 64 := vp_in_nI (n := 0) (by decide) (by decide)
  have c0 : (0 : Int32).toNatClampNeg = 0 := by decide
  by_cases h3 : p ≤ 3
  · have e3 : ¬ 3 < nI p := nI_nlt (a := 3) (b := p) (by omega) (by decide)
    simp only [wpY_scan, wY_scan_20, e3, e20, i0, c0, forall_eq, not_true_eq_false, not_false_eq_true, true_implies, false_implies, implies_true, and_true, true_and, and_self]
    have := key (n p + 1) 0 (by omega) (by omega) yIn (upd yWc 0 (vp_nar .boolean 1)) (upd yWi 0 (vp_nar .boolean 0)) (by
      simp only [nq_ws, h3, if_true]
      exact ⟨⟨pk_us, trivial⟩, ⟨pk_us, trivial⟩⟩) (fun k hk => by omega) (fun j _ => rfl)
    exact ⟨_, this⟩
  · have e3 : 3 < nI p := nI_lt (a := 3) (b := p) (by omega) (by omega)
    simp only [wpY_scan, wY_scan_20, e3, e20, i0, c0, forall_eq, not_true_eq_false, not_false_eq_true, true_implies, false_implies, implies_true, and_true, true_and, and_self]
    have := key (n p + 1) 0 (by omega) (by omega) yIn (upd yWc 0 (vp_nar .boolean 0)) (upd yWi 0 (vp_nar .boolean 0)) (by
      simp only [nq_ws, h3, if_false]
      exact ⟨⟨pk_us, trivial⟩, ⟨pk_us, trivial⟩⟩) (fun k hk => by omega) (fun j _ => rfl)
    exact ⟨_, this⟩
end
end
section
section
variable {sc od nc tp cc gc ac : Int32} {Ce Sk Va An Ov : Nat → Int64} {Rc St Jl Tk Tn Su Ne Ha Cb Jd Go Fm : Nat → Int32}
variable {src dis opn sbt sbr dep mny mor grs fnd kpt : Int32} {ySk yRe ySo yAn : Nat → Int64} {yRo yCe yTo yIl ySz yTk yIn yEn ySu yWc yWi yHa yCo yLo yGo yFi : Nat → Int32}
variable {n t : Nat → Nat} {p : Nat}
theorem nq_nb0 : narrow .boolean (.int 0) = .int 0 := rfl
theorem nq_nb1 : narrow .boolean (.int 1) = .int 1 := rfl
theorem nq_xFit {post : Int32 → Prop} {p t w : Nat} (hp : p < 10) (ht : t < 2147483648) (hw : w < 4) : wpX_fits post (nI p) (nI t) (nI w) ↔ post (nq_b (nq_fit p t w)) := by
  simp only [wpX_fits, wX_fits_11, wX_fits_30, wX_fits_99, nq_and2 w hw, nq_and1 w hw, nq_xCol ht, nq_xSub ht, nq_b0, nq_tn0, nq_div ht, nq_nb0, nq_nb1, show (nI (t) < (41 : Int32)) = ((t) < 41) from propext (nI_ltI (b := 41) (ht) (by decide)), show ((41 : Int32) < nI (t)) = (41 < (t)) from propext (nI_ltI (a := 41) (by decide) (ht)), show (nI (t) ≤ (41 : Int32)) = ((t) ≤ 41) from propext (nI_leI (b := 41) (ht) (by decide)), show ((41 : Int32) ≤ nI (t)) = (41 ≤ (t)) from propext (nI_leI (a := 41) (by decide) (ht)), show (nI (t) = (41 : Int32)) = ((t) = 41) from propext (nI_eq (b := 41) (ht) (by decide)), show (nI (t) < (59 : Int32)) = ((t) < 59) from propext (nI_ltI (b := 59) (ht) (by decide)), show ((59 : Int32) < nI (t)) = (59 < (t)) from propext (nI_ltI (a := 59) (by decide) (ht)), show (nI (t) ≤ (59 : Int32)) = ((t) ≤ 59) from propext (nI_leI (b := 59) (ht) (by decide)), show ((59 : Int32) ≤ nI (t)) = (59 ≤ (t)) from propext (nI_leI (a := 59) (by decide) (ht)), show (nI (t) = (59 : Int32)) = ((t) = 59) from propext (nI_eq (b := 59) (ht) (by decide)), show (nI (t) < (70 : Int32)) = ((t) < 70) from propext (nI_ltI (b := 70) (ht) (by decide)), show ((70 : Int32) < nI (t)) = (70 < (t)) from propext (nI_ltI (a := 70) (by decide) (ht)), show (nI (t) ≤ (70 : Int32)) = ((t) ≤ 70) from propext (nI_leI (b := 70) (ht) (by decide)), show ((70 : Int32) ≤ nI (t)) = (70 ≤ (t)) from propext (nI_leI (a := 70) (by decide) (ht)), show (nI (t) = (70 : Int32)) = ((t) = 70) from propext (nI_eq (b := 70) (ht) (by decide)), show (nI (t) < (76 : Int32)) = ((t) < 76) from propext (nI_ltI (b := 76) (ht) (by decide)), show ((76 : Int32) < nI (t)) = (76 < (t)) from propext (nI_ltI (a := 76) (by decide) (ht)), show (nI (t) ≤ (76 : Int32)) = ((t) ≤ 76) from propext (nI_leI (b := 76) (ht) (by decide)), show ((76 : Int32) ≤ nI (t)) = (76 ≤ (t)) from propext (nI_leI (a := 76) (by decide) (ht)), show (nI (t) = (76 : Int32)) = ((t) = 76) from propext (nI_eq (b := 76) (ht) (by decide)), show (nI (t) < (80 : Int32)) = ((t) < 80) from propext (nI_ltI (b := 80) (ht) (by decide)), show ((80 : Int32) < nI (t)) = (80 < (t)) from propext (nI_ltI (a := 80) (by decide) (ht)), show (nI (t) ≤ (80 : Int32)) = ((t) ≤ 80) from propext (nI_leI (b := 80) (ht) (by decide)), show ((80 : Int32) ≤ nI (t)) = (80 ≤ (t)) from propext (nI_leI (a := 80) (by decide) (ht)), show (nI (t) = (80 : Int32)) = ((t) = 80) from propext (nI_eq (b := 80) (ht) (by decide)), show (nI (t) < (87 : Int32)) = ((t) < 87) from propext (nI_ltI (b := 87) (ht) (by decide)), show ((87 : Int32) < nI (t)) = (87 < (t)) from propext (nI_ltI (a := 87) (by decide) (ht)), show (nI (t) ≤ (87 : Int32)) = ((t) ≤ 87) from propext (nI_leI (b := 87) (ht) (by decide)), show ((87 : Int32) ≤ nI (t)) = (87 ≤ (t)) from propext (nI_leI (a := 87) (by decide) (ht)), show (nI (t) = (87 : Int32)) = ((t) = 87) from propext (nI_eq (b := 87) (ht) (by decide)), show (nI (t / 10) < (1 : Int32)) = ((t / 10) < 1) from propext (nI_ltI (b := 1) (nq_d10 ht) (by decide)), show ((1 : Int32) < nI (t / 10)) = (1 < (t / 10)) from propext (nI_ltI (a := 1) (by decide) (nq_d10 ht)), show (nI (t / 10) ≤ (1 : Int32)) = ((t / 10) ≤ 1) from propext (nI_leI (b := 1) (nq_d10 ht) (by decide)), show ((1 : Int32) ≤ nI (t / 10)) = (1 ≤ (t / 10)) from propext (nI_leI (a := 1) (by decide) (nq_d10 ht)), show (nI (t / 10) = (1 : Int32)) = ((t / 10) = 1) from propext (nI_eq (b := 1) (nq_d10 ht) (by decide)), show (nI (t / 10) < (3 : Int32)) = ((t / 10) < 3) from propext (nI_ltI (b := 3) (nq_d10 ht) (by decide)), show ((3 : Int32) < nI (t / 10)) = (3 < (t / 10)) from propext (nI_ltI (a := 3) (by decide) (nq_d10 ht)), show (nI (t / 10) ≤ (3 : Int32)) = ((t / 10) ≤ 3) from propext (nI_leI (b := 3) (nq_d10 ht) (by decide)), show ((3 : Int32) ≤ nI (t / 10)) = (3 ≤ (t / 10)) from propext (nI_leI (a := 3) (by decide) (nq_d10 ht)), show (nI (t / 10) = (3 : Int32)) = ((t / 10) = 3) from propext (nI_eq (b := 3) (nq_d10 ht) (by decide)), show (nI (p) < (1 : Int32)) = ((p) < 1) from propext (nI_ltI (b := 1) (by omega) (by decide)), show ((1 : Int32) < nI (p)) = (1 < (p)) from propext (nI_ltI (a := 1) (by decide) (by omega)), show (nI (p) ≤ (1 : Int32)) = ((p) ≤ 1) from propext (nI_leI (b := 1) (by omega) (by decide)), show ((1 : Int32) ≤ nI (p)) = (1 ≤ (p)) from propext (nI_leI (a := 1) (by decide) (by omega)), show (nI (p) = (1 : Int32)) = ((p) = 1) from propext (nI_eq (b := 1) (by omega) (by decide)), show (nI (w / 2 * 2) < (0 : Int32)) = ((w / 2 * 2) < 0) from propext (nI_ltI (b := 0) (by omega) (by decide)), show ((0 : Int32) < nI (w / 2 * 2)) = (0 < (w / 2 * 2)) from propext (nI_ltI (a := 0) (by decide) (by omega)), show (nI (w / 2 * 2) ≤ (0 : Int32)) = ((w / 2 * 2) ≤ 0) from propext (nI_leI (b := 0) (by omega) (by decide)), show ((0 : Int32) ≤ nI (w / 2 * 2)) = (0 ≤ (w / 2 * 2)) from propext (nI_leI (a := 0) (by decide) (by omega)), show (nI (w / 2 * 2) = (0 : Int32)) = ((w / 2 * 2) = 0) from propext (nI_eq (b := 0) (by omega) (by decide)), show (nI (w % 2) < (0 : Int32)) = ((w % 2) < 0) from propext (nI_ltI (b := 0) (by omega) (by decide)), show ((0 : Int32) < nI (w % 2)) = (0 < (w % 2)) from propext (nI_ltI (a := 0) (by decide) (by omega)), show (nI (w % 2) ≤ (0 : Int32)) = ((w % 2) ≤ 0) from propext (nI_leI (b := 0) (by omega) (by decide)), show ((0 : Int32) ≤ nI (w % 2)) = (0 ≤ (w % 2)) from propext (nI_leI (a := 0) (by decide) (by omega)), show (nI (w % 2) = (0 : Int32)) = ((w % 2) = 0) from propext (nI_eq (b := 0) (by omega) (by decide)), nq_ite post, forall_eq, not_true_eq_false, not_false_eq_true, true_implies, false_implies, implies_true, and_true, true_and, and_self]
  refine iff_of_eq (congrArg post ?_)
  simp only [nq_b, nq_fit]
  rcases Bool.eq_false_or_eq_true (nq_sub t) with h | h <;> rcases Bool.eq_false_or_eq_true (nq_col t) with h2 | h2 <;> simp only [h, h2, reduceCtorEq, if_true, if_false, false_and, true_and, or_false]
  all_goals repeat' split
  all_goals first | rfl | (exfalso; simp_all; done) | (exfalso; simp_all; omega)
theorem nq_yMay {post : Int32 → Prop} {p t w : Nat} {r : List Nat} (hp : p < 10) (ht : t < 2147483648) (hw : w < 4) (hS : nq_Sw yWc yWi (w :: r)) (hr : r.length < 64) : wpY_mayCome post (src, dis, (nI (r.length + 1)), sbt, sbr, dep, mny, mor, grs, fnd, kpt, yRo, yCe, yTo, yIl, ySz, yTk, yIn, yEn, ySu, yWc, yWi, yHa, ySk, yCo, yLo, yGo, yFi, yRe, ySo, yAn) (nI p) (nI t) ↔ post (nq_b (nq_fit p t w)) := by
  obtain ⟨s1, s2, s3⟩ := nq_Sw_t hS
  have i1 : vp_in (nI r.length) 64 := vp_in_nI (by omega) (by decide)
  have c1 : (nI r.length).toNatClampNeg = r.length := nI_clamp (by omega)
  simp only [wpY_mayCome, wY_mayCome_47, wY_mayCome_61, nI_pred, i1, c1, s1, s2, nq_yE ht, nq_yC ht, nq_yCol ht, nq_ySub ht, nq_b2 w hw, nq_b1 w hw, nq_bnrw, nq_b0, nq_tn0, nq_div ht, show (nI (t / 10) < (2 : Int32)) = ((t / 10) < 2) from propext (nI_ltI (b := 2) (nq_d10 ht) (by decide)), show ((2 : Int32) < nI (t / 10)) = (2 < (t / 10)) from propext (nI_ltI (a := 2) (by decide) (nq_d10 ht)), show (nI (t / 10) ≤ (2 : Int32)) = ((t / 10) ≤ 2) from propext (nI_leI (b := 2) (nq_d10 ht) (by decide)), show ((2 : Int32) ≤ nI (t / 10)) = (2 ≤ (t / 10)) from propext (nI_leI (a := 2) (by decide) (nq_d10 ht)), show (nI (t / 10) = (2 : Int32)) = ((t / 10) = 2) from propext (nI_eq (b := 2) (nq_d10 ht) (by decide)), show (nI (t / 10) < (3 : Int32)) = ((t / 10) < 3) from propext (nI_ltI (b := 3) (nq_d10 ht) (by decide)), show ((3 : Int32) < nI (t / 10)) = (3 < (t / 10)) from propext (nI_ltI (a := 3) (by decide) (nq_d10 ht)), show (nI (t / 10) ≤ (3 : Int32)) = ((t / 10) ≤ 3) from propext (nI_leI (b := 3) (nq_d10 ht) (by decide)), show ((3 : Int32) ≤ nI (t / 10)) = (3 ≤ (t / 10)) from propext (nI_leI (a := 3) (by decide) (nq_d10 ht)), show (nI (t / 10) = (3 : Int32)) = ((t / 10) = 3) from propext (nI_eq (b := 3) (nq_d10 ht) (by decide)), show (nI (p) < (1 : Int32)) = ((p) < 1) from propext (nI_ltI (b := 1) (by omega) (by decide)), show ((1 : Int32) < nI (p)) = (1 < (p)) from propext (nI_ltI (a := 1) (by decide) (by omega)), show (nI (p) ≤ (1 : Int32)) = ((p) ≤ 1) from propext (nI_leI (b := 1) (by omega) (by decide)), show ((1 : Int32) ≤ nI (p)) = (1 ≤ (p)) from propext (nI_leI (a := 1) (by decide) (by omega)), show (nI (p) = (1 : Int32)) = ((p) = 1) from propext (nI_eq (b := 1) (by omega) (by decide)), nq_ite post, forall_eq, not_true_eq_false, not_false_eq_true, true_implies, false_implies, implies_true, and_true, true_and, and_self]
  refine iff_of_eq (congrArg post ?_)
  simp only [nq_b, nq_fit, nq_isE, nq_isC]
  rcases Bool.eq_false_or_eq_true (nq_sub t) with h | h <;> rcases Bool.eq_false_or_eq_true (nq_col t) with h2 | h2
  · exfalso
    unfold nq_sub at h
    unfold nq_col at h2
    rw [decide_eq_true_eq] at h h2
    omega
  · have h3 : ¬ ((41 ≤ t ∧ t ≤ 59) ∨ (70 ≤ t ∧ t ≤ 76)) := by
      unfold nq_sub at h
      rw [decide_eq_true_eq] at h
      omega
    have h4 : ¬ (80 ≤ t ∧ t ≤ 87) := by
      unfold nq_sub at h
      rw [decide_eq_true_eq] at h
      omega
    simp only [h, h2, h3, h4, reduceCtorEq, if_true, if_false, false_and, true_and, or_false, false_or, Bool.true_or, Bool.or_true, Bool.false_or, decide_false, decide_eq_false_iff_not, decide_eq_true_eq]
    repeat' split
    all_goals first | rfl | (exfalso; simp_all; done) | (exfalso; simp_all; omega)
  · simp only [h, h2, reduceCtorEq, if_true, if_false, false_and, true_and, or_false, Bool.true_or, Bool.or_true, Bool.or_false, Bool.false_or, decide_eq_false_iff_not, decide_eq_true_eq]
    have h3 : t ≤ 32 := by
      unfold nq_col at h2
      rw [decide_eq_true_eq] at h2
      exact h2.1
    repeat' split
    all_goals first | rfl | (exfalso; simp_all; done) | (exfalso; simp_all; omega)
  · simp only [h, h2, reduceCtorEq, if_true, if_false, false_and, true_and, or_false, Bool.true_or, Bool.or_true, Bool.or_false, Bool.false_or, decide_eq_false_iff_not, decide_eq_true_eq]
    repeat' split
    all_goals first | rfl | (exfalso; simp_all; done) | (exfalso; simp only [decide_eq_true_eq] at *; omega)
theorem nq_negl {x : Int32} {b : Nat} (h : x < 0) (hb : b < 2147483648) : x < nI b := Int32.lt_of_lt_of_le h (nI_pos' hb)
theorem nq_xFitN {post : Int32 → Prop} {p w : Nat} {x : Int32} (hx : x < 0) : wpX_fits post (nI p) x (nI w) ↔ post 0 := by
  have l90 : x < 90 := nq_negl (b := 90) hx (by decide)
  have l100 : x < 100 := nq_negl (b := 100) hx (by decide)
  have l41 : x < 41 := nq_negl (b := 41) hx (by decide)
  have l70 : x < 70 := nq_negl (b := 70) hx (by decide)
  have l80 : x < 80 := nq_negl (b := 80) hx (by decide)
  simp only [wpX_fits, wX_fits_11, wX_fits_30, wX_fits_99, wpX_isColumn, wpX_isSubquery, wX_isSubquery_12, hx, l90, l100, l41, l70, l80, forall_eq, not_true_eq_false, not_false_eq_true, true_implies, false_implies, implies_true, and_true, true_and, and_self]
  by_cases h1 : nI w &&& 2 = 0 <;> by_cases h2 : nI w &&& 1 = 0 <;> simp only [h1, h2, forall_eq, not_true_eq_false, not_false_eq_true, true_implies, false_implies, implies_true, and_true, true_and, and_self]
theorem nq_yMayN {post : Int32 → Prop} {p w : Nat} {x : Int32} {r : List Nat} (hx : x < 0) (hr : r.length < 64) : wpY_mayCome post (src, dis, (nI (r.length + 1)), sbt, sbr, dep, mny, mor, grs, fnd, kpt, yRo, yCe, yTo, yIl, ySz, yTk, yIn, yEn, ySu, yWc, yWi, yHa, ySk, yCo, yLo, yGo, yFi, yRe, ySo, yAn) (nI p) x ↔ post 0 := by
  have i1 : vp_in (nI r.length) 64 := vp_in_nI (by omega) (by decide)
  have l90 : x < 90 := nq_negl (b := 90) hx (by decide)
  have l100 : x < 100 := nq_negl (b := 100) hx (by decide)
  have l41 : x < 41 := nq_negl (b := 41) hx (by decide)
  have l70 : x < 70 := nq_negl (b := 70) hx (by decide)
  have l80 : x < 80 := nq_negl (b := 80) hx (by decide)
  simp only [wpY_mayCome, nI_pred, i1, wpY_isExpression, wY_isExpression_20, wpY_isCondition, wY_isCondition_12, wpY_isColumn, wpY_isSubquery, wY_isSubquery_12, wpY_isMatch, hx, l90, l100, l41, l70, l80, forall_eq, not_true_eq_false, not_false_eq_true, true_implies, false_implies, implies_true, and_true, true_and, and_self]
  by_cases h1 : yWc (nI r.length).toNatClampNeg = 0 <;> simp only [h1, forall_eq, not_true_eq_false, not_false_eq_true, true_implies, false_implies, implies_true, and_true, true_and, and_self]
theorem nq_ws_c {p : Nat} {t t' : Nat → Nat} : ∀ k, (∀ j, j < k → t' (20 * p + j) = t (20 * p + j)) → nq_ws p t' k = nq_ws p t k
  | 0, _ => rfl
  | k + 1, h => by
    have := nq_ws_c k fun j hj => h j (by omega)
    simp only [nq_ws, this, h k (by omega)]
theorem nq_tt_a {x : Nat} (hn : ∀ q, q < 10 → n q ≤ 20) (hp : p < 10) (hn2 : n p < 20) (h : nq_TT n t Tn Tk) : nq_TT (nq_un n p (n p + 1)) (nq_un t (20 * p + n p) x) (upd Tn p (nI (n p) + 1)) (upd Tk (20 * p + n p) (nI x)) := by
  intro q hq
  have hnq := hn q hq
  simp only [nq_un, upd]
  by_cases e : q = p
  · simp only [e, if_true]
    refine ⟨nI_1 _, fun k hk => ?_⟩
    by_cases e2 : k = n p
    · simp only [e2, if_true]
    · have e3 : ¬ (20 * p + k = 20 * p + n p) := by omega
      simp only [e3, if_false]
      exact (h p hp).2 k (by omega)
  · simp only [e, if_false]
    refine ⟨(h q hq).1, fun k hk => ?_⟩
    have e3 : ¬ (20 * q + k = 20 * p + n p) := by omega
    simp only [e3, if_false]
    exact (h q hq).2 k hk
theorem nq_wf_a {x w : Nat} {r : List Nat} (hp : p < 10) (hn2 : n p < 20) (h : nq_WF n t) (hw : nq_ws p t (n p) = w :: r) (hf : nq_fit p x w = true) : nq_WF (nq_un n p (n p + 1)) (nq_un t (20 * p + n p) x) := by
  intro q hq
  have hnq := (h q hq).1
  by_cases e : q = p
  · subst e
    simp only [nq_un, if_true]
    refine ⟨by omega, fun k hk => ?_⟩
    have ew : nq_ws q (nq_un t (20 * q + n q) x) k = nq_ws q t k := nq_ws_c k fun j hj => if_neg (by omega)
    rw [ew]
    by_cases e2 : k = n q
    · subst e2
      simp only [if_true]
      exact ⟨w, r, hw, hf⟩
    · have e3 : ¬ (20 * q + k = 20 * q + n q) := by omega
      simp only [e3, if_false]
      exact (h q hq).2 k (by omega)
  · simp only [nq_un, e, if_false]
    refine ⟨hnq, fun k hk => ?_⟩
    have ew : nq_ws q (nq_un t (20 * p + n p) x) k = nq_ws q t k := nq_ws_c k fun j hj => if_neg (by omega)
    rw [ew]
    have e3 : ¬ (20 * q + k = 20 * p + n p) := by omega
    simp only [e3, if_false]
    exact (h q hq).2 k hk
theorem i_vc_feed {k : Nat} {u : SX} {v : SY} (I : i_Rel k u v) (hk : k + 5 ≤ 2560) (v1 : Int32) (v2 : Int32) : wpX_feed (fun r u' => wpY_feed (fun r' v' => r' = r ∧ i_Rel (k + 5) u' v') v v1 v2) u v1 v2 := by
  obtain ⟨sc, od, nc, tp, cc, gc, ac, Ce, Rc, St, Jl, Tk, Tn, Su, Ne, Ha, Sk, Cb, Jd, Va, Go, Fm, An, Ov⟩ := u
  obtain ⟨src, dis, opn, sbt, sbr, dep, mny, mor, grs, fnd, kpt, yRo, yCe, yTo, yIl, ySz, yTk, yIn, yEn, ySu, yWc, yWi, yHa, ySk, yCo, yLo, yGo, yFi, yRe, ySo, yAn⟩ := v
  have I0 := I
  obtain ⟨s, m, rw, tb, su, n, t, cv, av, hs, hm, hc, hr, ht, hl, hu, ⟨hT1, hT2, hT3, hT4⟩, ha⟩ := I
  subst hT1 hT2
  by_cases h1 : v1 < 0 ∨ nI 10 ≤ v1
  · simp only [wpX_feed, wpY_feed, nq_xp0 h1, forall_eq, not_true_eq_false, not_false_eq_true, true_implies, false_implies, implies_true, and_true, true_and, and_self]
    rcases h1 with h1 | h1
    · simp only [h1, forall_eq, not_true_eq_false, not_false_eq_true, true_implies, false_implies, implies_true, and_true, true_and, and_self]
      exact I0
    · have e1 : ¬ v1 < 0 := nq_nonneg h1 (by decide)
      have e2 : ¬ v1 ≤ 9 := nq_nle (a := 9) h1 (by decide) (by decide)
      simp only [e1, e2, forall_eq, not_true_eq_false, not_false_eq_true, true_implies, false_implies, implies_true, and_true, true_and, and_self]
      exact I0
  obtain ⟨p, hp, rfl⟩ := nq_10 h1
  have e1 : ¬ nI p < 0 := nI_pos (by omega)
  have e2 : nI p ≤ 9 := nI_le (b := 9) (by omega) (by decide)
  have cp : (nI p).toNatClampNeg = p := nI_clamp (by omega)
  have vp : vp_in (nI p) 10 := vp_in_nI hp (by decide)
  have nt : ¬ (1 : Int32) = 0 := by decide
  have hn := (hT4 p hp).1
  have hl1 := nq_wsI hT4 hp (n p) (Nat.le_refl _)
  simp only [wpX_feed, wpY_feed, nq_xp1 hp, nt, e1, e2, cp, vp, (hT3 p hp).1, forall_eq, not_true_eq_false, not_false_eq_true, true_implies, false_implies, implies_true, and_true, true_and, and_self]
  refine nq_xOpen hT3 hT4 hp ?_
  cases hw : nq_ws p t (n p) with
  | nil =>
    simp only [List.length_nil, nI_0, forall_eq, not_true_eq_false, not_false_eq_true, true_implies, false_implies, implies_true, and_true, true_and, and_self]
    refine nq_yScan hT3 hT4 hp fun yIn' yWc' yWi' hS' _ _ => ?_
    simp only [hw, List.length_nil, nI_0, forall_eq, not_true_eq_false, not_false_eq_true, true_implies, false_implies, implies_true, and_true, true_and, and_self]
    exact I0
  | cons w r =>
    rw [hw] at hl1
    have w4 := hl1.2 w List.mem_cons_self
    have lr : r.length ≤ 2 * n p := by have := hl1.1; rw [List.length_cons] at this; omega
    have o1 : ¬ nI (r.length + 1) = 0 := nI_ne0 (by omega) (by omega)
    simp only [List.length_cons, o1, forall_eq, not_true_eq_false, not_false_eq_true, true_implies, false_implies, implies_true, and_true, true_and, and_self]
    by_cases h20 : n p = 20
    · have x20 : ¬ nI (n p) < 20 := by rw [h20]; decide
      simp only [x20, forall_eq, not_true_eq_false, not_false_eq_true, true_implies, false_implies, implies_true, and_true, true_and, and_self]
      refine nq_yScan hT3 hT4 hp fun yIn' yWc' yWi' hS' _ _ => ?_
      have y20 : nI (n p) = 20 := by rw [h20]; rfl
      simp only [hw, List.length_cons, o1, cp, vp, (hT3 p hp).1, y20, forall_eq, not_true_eq_false, not_false_eq_true, true_implies, false_implies, implies_true, and_true, true_and, and_self]
      exact I0
    · have x20 : nI (n p) < 20 := nI_lt (b := 20) (by omega) (by decide)
      have y20 : ¬ nI (n p) = 20 := fun e => h20 ((nI_eq (b := 20) (by omega) (by decide)).mp e)
      simp only [x20, forall_eq, not_true_eq_false, not_false_eq_true, true_implies, false_implies, implies_true, and_true, true_and, and_self]
      refine nq_xNeed hT3 hT4 hp hw fun nc' Ne' => ?_
      by_cases hx : v2 < 0
      · simp only [nq_xFitN hx, forall_eq, not_true_eq_false, not_false_eq_true, true_implies, false_implies, implies_true, and_true, true_and, and_self]
        refine nq_yScan hT3 hT4 hp fun yIn' yWc' yWi' hS' _ _ => ?_
        simp only [hw, List.length_cons, o1, cp, vp, (hT3 p hp).1, y20, nq_yMayN (w := w) hx (show r.length < 64 by omega), forall_eq, not_true_eq_false, not_false_eq_true, true_implies, false_implies, implies_true, and_true, true_and, and_self]
        exact I0
      · obtain ⟨x, hx2, rfl⟩ := nI_of hx
        simp only [nq_xFit hp hx2 w4, nq_b0]
        rcases Bool.eq_false_or_eq_true (nq_fit p x w) with hf | hf
        · have x0 : nI p * 20 + nI (n p) = nI (20 * p + n p) := by
            simp only [nq_i20, pk_mul, nI_add]
            exact congrArg nI (by omega)
          have x1 : 20 * nI p + nI (n p) = nI (20 * p + n p) := by simp only [nq_i20, pk_mul, nI_add]
          have i0 : vp_in (nI (20 * p + n p)) 200 := vp_in_nI (by omega) (by decide)
          have c0 : (nI (20 * p + n p)).toNatClampNeg = 20 * p + n p := nI_clamp (by omega)
          simp only [hf, reduceCtorEq, x0, i0, c0, cp, vp, forall_eq, not_true_eq_false, not_false_eq_true, true_implies, false_implies, implies_true, and_true, true_and, and_self]
          refine nq_yScan hT3 hT4 hp fun yIn' yWc' yWi' hS' _ _ => ?_
          rw [hw] at hS'
          simp only [hw, List.length_cons, o1, cp, vp, (hT3 p hp).1, y20, nq_yMay hp hx2 w4 hS' (show r.length < 64 by omega), nq_b0, hf, reduceCtorEq, x1, i0, c0, pk_us, forall_eq, not_true_eq_false, not_false_eq_true, true_implies, false_implies, implies_true, and_true, true_and, and_self]
          exact ⟨s, m, rw, tb, su, _, _, cv, av, hs, hm, hc, hr, ht, hl, hu, ⟨rfl, rfl, nq_tt_a (fun q hq => (hT4 q hq).1) hp (by omega) hT3, nq_wf_a hp (by omega) hT4 hw hf⟩, ha⟩
        · simp only [hf, forall_eq, not_true_eq_false, not_false_eq_true, true_implies, false_implies, implies_true, and_true, true_and, and_self]
          refine nq_yScan hT3 hT4 hp fun yIn' yWc' yWi' hS' _ _ => ?_
          rw [hw] at hS'
          simp only [hw, List.length_cons, o1, cp, vp, (hT3 p hp).1, y20, nq_yMay hp hx2 w4 hS' (show r.length < 64 by omega), nq_b0, hf, forall_eq, not_true_eq_false, not_false_eq_true, true_implies, false_implies, implies_true, and_true, true_and, and_self]
          exact I0
theorem i_vc_state {k : Nat} {u : SX} {v : SY} (I : i_Rel k u v) (hk : k + 5 ≤ 2560) (v1 : Int32) : wpX_state (fun r => wpY_state (fun r' v' => r' = r ∧ i_Rel (k + 5) u v') v v1) u v1 := by
  obtain ⟨sc, od, nc, tp, cc, gc, ac, Ce, Rc, St, Jl, Tk, Tn, Su, Ne, Ha, Sk, Cb, Jd, Va, Go, Fm, An, Ov⟩ := u
  obtain ⟨src, dis, opn, sbt, sbr, dep, mny, mor, grs, fnd, kpt, yRo, yCe, yTo, yIl, ySz, yTk, yIn, yEn, ySu, yWc, yWi, yHa, ySk, yCo, yLo, yGo, yFi, yRe, ySo, yAn⟩ := v
  have I0 := I
  obtain ⟨s, m, rw, tb, su, n, t, cv, av, hs, hm, hc, hr, ht, hl, hu, ⟨hT1, hT2, hT3, hT4⟩, ha⟩ := I
  subst hT1 hT2
  by_cases h1 : v1 < 0 ∨ nI 10 ≤ v1
  · simp only [wpX_state, wpY_state, nq_xp0 h1, forall_eq, not_true_eq_false, not_false_eq_true, true_implies, false_implies, implies_true, and_true, true_and, and_self]
    rcases h1 with h1 | h1
    · simp only [h1, forall_eq, not_true_eq_false, not_false_eq_true, true_implies, false_implies, implies_true, and_true, true_and, and_self]
      exact I0
    · have e1 : ¬ v1 < 0 := nq_nonneg h1 (by decide)
      have e2 : ¬ v1 ≤ 9 := nq_nle (a := 9) h1 (by decide) (by decide)
      simp only [e1, e2, forall_eq, not_true_eq_false, not_false_eq_true, true_implies, false_implies, implies_true, and_true, true_and, and_self]
      exact I0
  obtain ⟨p, hp, rfl⟩ := nq_10 h1
  have e1 : ¬ nI p < 0 := nI_pos (by omega)
  have e2 : nI p ≤ 9 := nI_le (b := 9) (by omega) (by decide)
  have cp : (nI p).toNatClampNeg = p := nI_clamp (by omega)
  have vp : vp_in (nI p) 10 := vp_in_nI hp (by decide)
  have nt : ¬ (1 : Int32) = 0 := by decide
  have hn := (hT4 p hp).1
  have hl1 := nq_wsI hT4 hp (n p) (Nat.le_refl _)
  simp only [wpX_state, wpY_state, nq_xp1 hp, nt, e1, e2, cp, vp, (hT3 p hp).1, forall_eq, not_true_eq_false, not_false_eq_true, true_implies, false_implies, implies_true, and_true, true_and, and_self]
  by_cases h0 : n p = 0
  · have x0 : nI (n p) = 0 := by rw [h0]; rfl
    have hw : (nq_ws p t (n p)).length = 1 := by rw [h0]; rfl
    simp only [x0, forall_eq, not_true_eq_false, not_false_eq_true, true_implies, false_implies, implies_true, and_true, true_and, and_self]
    refine nq_yScan hT3 hT4 hp fun yIn' yWc' yWi' hS' _ _ => ?_
    simp only [hw, show ¬ nI 1 = 0 from by decide, vp, cp, (hT3 p hp).1, x0, forall_eq, not_true_eq_false, not_false_eq_true, true_implies, false_implies, implies_true, and_true, true_and, and_self]
    exact I0
  · have x0 : ¬ nI (n p) = 0 := nI_ne0 (by omega) (by omega)
    simp only [x0, forall_eq, not_true_eq_false, not_false_eq_true, true_implies, false_implies, implies_true, and_true, true_and, and_self]
    refine nq_xOpen hT3 hT4 hp ?_
    cases hw : nq_ws p t (n p) with
    | nil =>
      simp only [List.length_nil, nI_0, forall_eq, not_true_eq_false, not_false_eq_true, true_implies, false_implies, implies_true, and_true, true_and, and_self]
      refine nq_yScan hT3 hT4 hp fun yIn' yWc' yWi' hS' _ _ => ?_
      simp only [hw, List.length_nil, nI_0, forall_eq, not_true_eq_false, not_false_eq_true, true_implies, false_implies, implies_true, and_true, true_and, and_self]
      exact I0
    | cons w r =>
      rw [hw] at hl1
      have lr : r.length ≤ 2 * n p := by have := hl1.1; rw [List.length_cons] at this; omega
      have o1 : ¬ nI (r.length + 1) = 0 := nI_ne0 (by omega) (by omega)
      simp only [List.length_cons, o1, forall_eq, not_true_eq_false, not_false_eq_true, true_implies, false_implies, implies_true, and_true, true_and, and_self]
      refine nq_yScan hT3 hT4 hp fun yIn' yWc' yWi' hS' _ _ => ?_
      simp only [hw, List.length_cons, o1, cp, vp, (hT3 p hp).1, x0, forall_eq, not_true_eq_false, not_false_eq_true, true_implies, false_implies, implies_true, and_true, true_and, and_self]
      exact I0
end
end
section
section
variable {sc od nc tp cc gc ac : Int32} {Ce Sk Va An Ov : Nat → Int64} {Rc St Jl Tk Tn Su Ne Ha Cb Jd Go Fm : Nat → Int32}
variable {src dis opn sbt sbr dep mny mor grs fnd kpt : Int32} {ySk yRe ySo yAn : Nat → Int64} {yRo yCe yTo yIl ySz yTk yIn yEn ySu yWc yWi yHa yCo yLo yGo yFi : Nat → Int32}
/-! the pure values of tokens -/
def nq_l2 (f : Int32 → Int32 → Int32) : nq_V → nq_V → nq_V
  | some x, some y => some (f x y)
  | _, _ => none
def nq_not : nq_V → nq_V
  | none => none
  | some x => some (if x = 0 then 1 else 0)
def nq_and (a b : nq_V) : nq_V := if a = some 0 ∨ b = some 0 then some 0 else if nq_T a = true ∧ nq_T b = true then some 1 else none
def nq_or (a b : nq_V) : nq_V := if nq_T a = true ∨ nq_T b = true then some 1 else if a = some 0 ∧ b = some 0 then some 0 else none
def nq_less (a b : nq_V) : nq_V := nq_l2 (fun x y => if x < y then 1 else 0) a b
def nq_same (a b : nq_V) : nq_V := nq_l2 (fun x y => if x = y then 1 else 0) a b
def nq_B (c : Bool) : nq_V := some (nq_b c)
def nq_ap (t : Nat) (a b c : nq_V) : nq_V :=
  if t = 71 then nq_l2 (fun x y => x + y) a b else if t = 72 then nq_l2 (fun x y => x - y) a b else if t = 73 then nq_l2 (fun x y => x * y) a b
  else if t = 74 then (if a = none then b else a) else if t = 75 then (if a = b then none else a) else if t = 76 then (if nq_T a = true then b else c)
  else if t = 80 then nq_less a b else if t = 81 then nq_same a b else if t = 82 then nq_B (decide (a = none)) else if t = 83 then nq_B (decide (a = b))
  else if t = 84 then nq_not a else if t = 85 then nq_B (nq_T a) else if t = 86 then nq_and a b else nq_or a b
theorem nq_xNum {post : Int64 → Prop} {t : Nat} {a b : nq_V} (ht : t = 71 ∨ t = 72 ∨ t = 73 ∨ t = 74 ∨ t = 75) : wpX_number post (nI t) (nq_e a) (nq_e b) ↔ post (nq_e (nq_ap t a b none)) := by
  rcases ht with rfl | rfl | rfl | rfl | rfl
  · cases a <;> cases b <;> simp [wpX_number, nq_e, nq_ap, nq_l2, nq_ne1, show nI 71 = 71 from rfl]
  · cases a <;> cases b <;> simp [wpX_number, nq_e, nq_ap, nq_l2, nq_ne1, show nI 72 = 72 from rfl]
  · cases a <;> cases b <;> simp [wpX_number, nq_e, nq_ap, nq_l2, nq_ne1, show nI 73 = 73 from rfl]
  · cases a <;> cases b <;> simp [wpX_number, nq_e, nq_ap, nq_l2, nq_ne1, show nI 74 = 74 from rfl]
  · by_cases h : a = b
    · subst h
      simp [wpX_number, nq_e, nq_ap, show nI 75 = 75 from rfl]
    · simp [wpX_number, nq_e_i, h, nq_ap, show nI 75 = 75 from rfl]
theorem nq_c01 (a : nq_V) : (nq_c a = 0 ∧ a = some 0) ∨ (nq_c a = 1 ∧ a = none) ∨ (nq_c a = 2 ∧ nq_T a = true ∧ a ≠ some 0 ∧ a ≠ none) := by
  cases a with
  | none => exact Or.inr (Or.inl ⟨rfl, rfl⟩)
  | some x =>
    by_cases h : x = 0
    · subst h; exact Or.inl ⟨rfl, rfl⟩
    · exact Or.inr (Or.inr ⟨by simp [nq_c, h], by simp [nq_T, h], by simp [h], by simp⟩)
theorem nq_d01 (a : nq_V) : (nq_d a = 0 ∧ a = some 0) ∨ (nq_d a = 2 ∧ a = none) ∨ (nq_d a = 1 ∧ nq_T a = true ∧ a ≠ some 0 ∧ a ≠ none) := by
  cases a with
  | none => exact Or.inr (Or.inl ⟨rfl, rfl⟩)
  | some x =>
    by_cases h : x = 0
    · subst h; exact Or.inl ⟨rfl, rfl⟩
    · exact Or.inr (Or.inr ⟨by simp [nq_d, h], by simp [nq_T, h], by simp [h], by simp⟩)
theorem nq_cB (c : Bool) : nq_c (nq_B c) = if c = true then 2 else 0 := by cases c <;> rfl
theorem nq_dB (c : Bool) : nq_d (nq_B c) = if c = true then 1 else 0 := by cases c <;> rfl
theorem nq_T0 : nq_T (some 0) = false := rfl
theorem nq_T1 : nq_T (some 1) = true := rfl
theorem nq_Tn : nq_T none = false := rfl
theorem nq_cnot (a : nq_V) : nq_c (nq_not a) = 2 - nq_c a := by
  cases a with
  | none => rfl
  | some x => by_cases h : x = 0 <;> simp [nq_not, nq_c, h]
theorem nq_dnot (a : nq_V) : nq_d (nq_not a) = if nq_d a = 2 then nq_d a else 1 - nq_d a := by
  cases a with
  | none => rfl
  | some x => by_cases h : x = 0 <;> simp [nq_not, nq_d, h]
theorem nq_cs0 : nq_c (some 0) = 0 := rfl
theorem nq_cs1 : nq_c (some 1) = 2 := rfl
theorem nq_csn : nq_c none = 1 := rfl
theorem nq_ds0 : nq_d (some 0) = 0 := rfl
theorem nq_ds1 : nq_d (some 1) = 1 := rfl
theorem nq_dsn : nq_d none = 2 := rfl
theorem nq_cand (a b : nq_V) : nq_c (nq_and a b) = if nq_c b ≤ nq_c a then nq_c b else nq_c a := by
  rcases nq_c01 a with ⟨h1, h2⟩ | ⟨h1, h2⟩ | ⟨h1, h2, h3, h4⟩ <;> rcases nq_c01 b with ⟨g1, g2⟩ | ⟨g1, g2⟩ | ⟨g1, g2, g3, g4⟩ <;> rw [h1, g1] <;> simp [nq_and, *, nq_T0, nq_T1, nq_Tn, nq_cs0, nq_cs1, nq_csn]
theorem nq_cor (a b : nq_V) : nq_c (nq_or a b) = if nq_c a ≤ nq_c b then nq_c b else nq_c a := by
  rcases nq_c01 a with ⟨h1, h2⟩ | ⟨h1, h2⟩ | ⟨h1, h2, h3, h4⟩ <;> rcases nq_c01 b with ⟨g1, g2⟩ | ⟨g1, g2⟩ | ⟨g1, g2, g3, g4⟩ <;> rw [h1, g1] <;> simp [nq_or, *, nq_T0, nq_T1, nq_Tn, nq_cs0, nq_cs1, nq_csn]
theorem nq_ite6 (post : Int64 → Prop) {c : Prop} [Decidable c] {x y : Int64} : ((c → post x) ∧ (¬ c → post y)) ↔ post (if c then x else y) := by
  by_cases h : c
  · simp only [h, if_true, forall_eq, not_true_eq_false, not_false_eq_true, true_implies, false_implies, implies_true, and_true, true_and, and_self]
  · simp only [h, if_false, forall_eq, not_true_eq_false, not_false_eq_true, true_implies, false_implies, implies_true, and_true, true_and, and_self]
theorem nq_cne (a : nq_V) : ¬ nq_c a = -1099511627776 := by
  rcases nq_c01 a with ⟨h1, h2⟩ | ⟨h1, h2⟩ | ⟨h1, h2, h3, h4⟩ <;> rw [h1] <;> decide
theorem nq_xTr1 {post : Int64 → Prop} {t : Nat} {a : nq_V} (ht : t = 82 ∨ t = 84 ∨ t = 85) : wpX_truth post (nI t) (if 84 ≤ t then nq_c a else nq_e a) (-1099511627776) ↔ post (nq_c (nq_ap t a none none)) := by
  rcases ht with rfl | rfl | rfl
  · by_cases h : a = none <;> simp [wpX_truth, wX_truth_16, wX_truth_21, nq_e_n, h, nq_ap, nq_cB, show nI 82 = 82 from rfl]
  · simp [wpX_truth, wX_truth_16, wX_truth_21, nq_cne, nq_ap, nq_cnot, show nI 84 = 84 from rfl]
  · rcases Bool.eq_false_or_eq_true (nq_T a) with h | h <;> simp [wpX_truth, wX_truth_16, wX_truth_21, nq_cne, nq_ap, nq_cB, nq_cT, h, show nI 85 = 85 from rfl]
theorem nq_xTr2 {post : Int64 → Prop} {t : Nat} {a b : nq_V} (ht : t = 80 ∨ t = 81 ∨ t = 83 ∨ t = 86 ∨ t = 87) : wpX_truth post (nI t) (if 84 ≤ t then nq_c a else nq_e a) (if 84 ≤ t then nq_c b else nq_e b) ↔ post (nq_c (nq_ap t a b none)) := by
  rcases ht with rfl | rfl | rfl | rfl | rfl
  · cases a with
    | none => cases b <;> simp [wpX_truth, wX_truth_16, wX_truth_21, nq_e, nq_ne1, nq_ap, nq_less, nq_l2, nq_c, show nI 80 = 80 from rfl]
    | some x => cases b with
      | none => simp [wpX_truth, wX_truth_16, wX_truth_21, nq_e, nq_ne1, nq_ap, nq_less, nq_l2, nq_c, show nI 80 = 80 from rfl]
      | some y => by_cases h : y ≤ x <;> simp [wpX_truth, wX_truth_16, wX_truth_21, nq_e, nq_ne1, nq_ap, nq_less, nq_l2, nq_c, h, Int32.not_lt.mpr, Int32.not_le.mp, show nI 80 = 80 from rfl]
  · cases a with
    | none => cases b <;> simp [wpX_truth, wX_truth_16, wX_truth_21, nq_e, nq_ne1, nq_ap, nq_same, nq_l2, nq_c, show nI 81 = 81 from rfl]
    | some x => cases b with
      | none => simp [wpX_truth, wX_truth_16, wX_truth_21, nq_e, nq_ne1, nq_ap, nq_same, nq_l2, nq_c, show nI 81 = 81 from rfl]
      | some y => by_cases h : x = y <;> simp [wpX_truth, wX_truth_16, wX_truth_21, nq_e, nq_ne1, nq_64, nq_ap, nq_same, nq_l2, nq_c, h, show nI 81 = 81 from rfl]
  · by_cases h : a = b <;> simp [wpX_truth, wX_truth_16, wX_truth_21, nq_e_i, h, nq_ap, nq_cB, show nI 83 = 83 from rfl] <;> by_cases h2 : nq_e a = -1099511627776 <;> by_cases h3 : nq_e b = -1099511627776 <;> simp [h2, h3]
  · simp [wpX_truth, wX_truth_16, wX_truth_21, nq_cne, nq_ap, show nI 86 = 86 from rfl]
    rw [nq_cand]
    by_cases h : nq_c b ≤ nq_c a
    · simp only [h, Int64.not_lt.mpr h, if_true, forall_eq, not_true_eq_false, not_false_eq_true, true_implies, false_implies, implies_true, and_true, true_and, and_self]
    · simp only [h, Int64.not_le.mp h, if_false, forall_eq, not_true_eq_false, not_false_eq_true, true_implies, false_implies, implies_true, and_true, true_and, and_self]
  · simp [wpX_truth, wX_truth_16, wX_truth_21, nq_cne, nq_ap, show nI 87 = 87 from rfl]
    rw [nq_cor]
    by_cases h : nq_c a ≤ nq_c b
    · simp only [h, Int64.not_lt.mpr h, if_true, forall_eq, not_true_eq_false, not_false_eq_true, true_implies, false_implies, implies_true, and_true, true_and, and_self]
    · simp only [h, Int64.not_le.mp h, if_false, forall_eq, not_true_eq_false, not_false_eq_true, true_implies, false_implies, implies_true, and_true, true_and, and_self]
end
end
section
section
variable {sc od nc tp cc gc ac : Int32} {Ce Sk Va An Ov : Nat → Int64} {Rc St Jl Tk Tn Su Ne Ha Cb Jd Go Fm : Nat → Int32}
variable {src dis opn sbt sbr dep mny mor grs fnd kpt : Int32} {ySk yRe ySo yAn : Nat → Int64} {yRo yCe yTo yIl ySz yTk yIn yEn ySu yWc yWi yHa yCo yLo yGo yFi : Nat → Int32}
def nq_x (w : Nat) (v : nq_V) : Int64 := if w % 2 = 1 then nq_c v else nq_e v
def nq_y (w : Nat) (v : nq_V) : Int64 := if w % 2 = 1 then nq_d v else nq_f v
def nq_leaf (cv : Nat → nq_V) (hv : Nat → Option Nat) (t : Nat) : nq_V :=
  if t = 70 then none else if 40 < t then some (nI t - 50) else match hv (t / 10) with
    | none => none
    | some q => cv (q + t % 10)
def nq_rs (lf : Nat → nq_V) (t : Nat) (vs : List nq_V) : nq_V := if nq_ar t = 0 then lf t else nq_ap t (vs.getD 0 none) (vs.getD 1 none) (vs.getD 2 none)
def nq_hx : Option Nat → Int32
  | none => -1
  | some q => nI q
def nq_HX (Ha : Nat → Int32) (hv : Nat → Option Nat) : Prop := ∀ s, s < 4 → Ha s = nq_hx (hv s) ∧ ∀ q, hv s = some q → q + 3 ≤ 54
theorem nq_nm1 {q : Nat} (h : q < 2147483648) : ¬ nI q = -1 := fun e => nI_pos h (by rw [e]; decide)
theorem nq_xLeaf {post : Int64 → Prop} {cv : Nat → nq_V} {hv : Nat → Option Nat} {t : Nat} (hH : nq_HX Ha hv) (h70 : t ≤ 70) (hc : nq_col t = true ∨ 41 ≤ t) : wpX_leaf post (sc, od, nc, tp, cc, gc, ac, (fun j => nq_e (cv j)), Rc, St, Jl, Tk, Tn, Su, Ne, Ha, Sk, Cb, Jd, Va, Go, Fm, An, Ov) (nI t) ↔ post (nq_e (nq_leaf cv hv t)) := by
  have ht : t < 2147483648 := by omega
  by_cases h1 : t = 70
  · subst h1
    simp only [wpX_leaf, nq_leaf, show nI 70 = 70 from rfl, if_true, nq_e, forall_eq, not_true_eq_false, not_false_eq_true, true_implies, false_implies, implies_true, and_true, true_and, and_self]
  · by_cases h2 : t ≤ 40
    · have hcol : t ≤ 32 ∧ t % 10 < 3 := by
        have := hc.resolve_right (by omega)
        unfold nq_col at this
        rwa [decide_eq_true_eq] at this
      have i4 : vp_in (nI (t / 10)) 4 := vp_in_nI (by omega) (by decide)
      have c4 : (nI (t / 10)).toNatClampNeg = t / 10 := nI_clamp (by omega)
      obtain ⟨e1, e2⟩ := hH (t / 10) (by omega)
      simp only [wpX_leaf, nq_leaf, show (nI (t) < (70 : Int32)) = ((t) < 70) from propext (nI_ltI (b := 70) (ht) (by decide)), show ((70 : Int32) < nI (t)) = (70 < (t)) from propext (nI_ltI (a := 70) (by decide) (ht)), show (nI (t) ≤ (70 : Int32)) = ((t) ≤ 70) from propext (nI_leI (b := 70) (ht) (by decide)), show ((70 : Int32) ≤ nI (t)) = (70 ≤ (t)) from propext (nI_leI (a := 70) (by decide) (ht)), show (nI (t) = (70 : Int32)) = ((t) = 70) from propext (nI_eq (b := 70) (ht) (by decide)), show (nI (t) < (40 : Int32)) = ((t) < 40) from propext (nI_ltI (b := 40) (ht) (by decide)), show ((40 : Int32) < nI (t)) = (40 < (t)) from propext (nI_ltI (a := 40) (by decide) (ht)), show (nI (t) ≤ (40 : Int32)) = ((t) ≤ 40) from propext (nI_leI (b := 40) (ht) (by decide)), show ((40 : Int32) ≤ nI (t)) = (40 ≤ (t)) from propext (nI_leI (a := 40) (by decide) (ht)), show (nI (t) = (40 : Int32)) = ((t) = 40) from propext (nI_eq (b := 40) (ht) (by decide)), h1, h2, nq_tn0, nq_div ht, i4, c4, e1, if_false, show ¬ 40 < t by omega, forall_eq, not_true_eq_false, not_false_eq_true, true_implies, false_implies, implies_true, and_true, true_and, and_self]
      cases hq : hv (t / 10) with
      | none => simp only [nq_hx, nq_e, forall_eq, not_true_eq_false, not_false_eq_true, true_implies, false_implies, implies_true, and_true, true_and, and_self]
      | some q =>
        have := e2 q hq
        have i5 : vp_in (nI (q + t % 10)) 54 := vp_in_nI (by omega) (by decide)
        have c5 : (nI (q + t % 10)).toNatClampNeg = q + t % 10 := nI_clamp (by omega)
        have e3 : nI t - nI (t / 10) * 10 = nI (t % 10) := by rw [← nq_div ht]; exact nq_rem ht
        simp only [nq_hx, nq_nm1 (show q < 2147483648 by omega), e3, nI_add, i5, c5, forall_eq, not_true_eq_false, not_false_eq_true, true_implies, false_implies, implies_true, and_true, true_and, and_self]
    · simp only [wpX_leaf, nq_leaf, show (nI (t) < (70 : Int32)) = ((t) < 70) from propext (nI_ltI (b := 70) (ht) (by decide)), show ((70 : Int32) < nI (t)) = (70 < (t)) from propext (nI_ltI (a := 70) (by decide) (ht)), show (nI (t) ≤ (70 : Int32)) = ((t) ≤ 70) from propext (nI_leI (b := 70) (ht) (by decide)), show ((70 : Int32) ≤ nI (t)) = (70 ≤ (t)) from propext (nI_leI (a := 70) (by decide) (ht)), show (nI (t) = (70 : Int32)) = ((t) = 70) from propext (nI_eq (b := 70) (ht) (by decide)), show (nI (t) < (40 : Int32)) = ((t) < 40) from propext (nI_ltI (b := 40) (ht) (by decide)), show ((40 : Int32) < nI (t)) = (40 < (t)) from propext (nI_ltI (a := 40) (by decide) (ht)), show (nI (t) ≤ (40 : Int32)) = ((t) ≤ 40) from propext (nI_leI (b := 40) (ht) (by decide)), show ((40 : Int32) ≤ nI (t)) = (40 ≤ (t)) from propext (nI_leI (a := 40) (by decide) (ht)), show (nI (t) = (40 : Int32)) = ((t) = 40) from propext (nI_eq (b := 40) (ht) (by decide)), h1, h2, if_false, show 40 < t by omega, if_true, nq_e, forall_eq, not_true_eq_false, not_false_eq_true, true_implies, false_implies, implies_true, and_true, true_and, and_self]
/-! the component's stack machine -/
theorem nq_x142 {post : SX → Prop} {L M : List Int64} {x : Int64} {a : Nat} (ha : a = L.length) (hM : M.length < 20) (hL : L.length ≤ 3) (hS : nq_St Sk (L ++ M)) (H : ∀ Sk', nq_St Sk' (x :: M) → post (sc, od, nc, (nI (M.length + 1)), cc, gc, ac, Ce, Rc, St, Jl, Tk, Tn, Su, Ne, Ha, Sk', Cb, Jd, Va, Go, Fm, An, Ov)) : wX_apply_142 post (nI a) x sc od nc (nI (a + M.length)) cc gc ac Ce Rc St Jl Tk Tn Su Ne Ha Sk Cb Jd Va Go Fm An Ov := by
  have e1 : nI (a + M.length) - nI a = nI M.length := by rw [pk_sub (by omega)]; exact congrArg nI (by omega)
  have i1 : vp_in (nI M.length) 20 := vp_in_nI hM (by decide)
  have c1 : (nI M.length).toNatClampNeg = M.length := nI_clamp (by omega)
  simp only [wX_apply_142, e1, i1, c1, nI_1, forall_eq, not_true_eq_false, not_false_eq_true, true_implies, false_implies, implies_true, and_true, true_and, and_self]
  exact H _ (nq_St_pL (nq_St_a hS))
theorem nq_xe {w : Nat} {v : nq_V} : nq_x (w / 2 * 2) v = nq_e v := if_neg (by omega)
theorem nq_xe0 {w : Nat} {v : nq_V} : nq_x (0 + w / 2 * 2) v = nq_e v := if_neg (by omega)
theorem nq_xc {w : Nat} {v : nq_V} : nq_x (1 + w / 2 * 2) v = nq_c v := if_pos (by omega)
theorem nq_ye {w : Nat} {v : nq_V} : nq_y (w / 2 * 2) v = nq_f v := if_neg (by omega)
theorem nq_ye0 {w : Nat} {v : nq_V} : nq_y (0 + w / 2 * 2) v = nq_f v := if_neg (by omega)
theorem nq_yc {w : Nat} {v : nq_V} : nq_y (1 + w / 2 * 2) v = nq_d v := if_pos (by omega)
theorem nq_sub86 {t : Nat} (h : 33 ≤ t ∧ t ≤ 89) : nq_sub t = false := by
  unfold nq_sub
  rw [decide_eq_false_iff_not]
  omega
theorem nq_cases {p t w : Nat} (hf : nq_fit p t w = true) (hs : nq_sub t = false) :
    (w % 2 = 0 ∧ t ≤ 70 ∧ (nq_col t = true ∨ 41 ≤ t) ∧ nq_ar t = 0 ∧ nq_kids t w = []) ∨
    (w % 2 = 0 ∧ (t = 71 ∨ t = 72 ∨ t = 73 ∨ t = 74 ∨ t = 75) ∧ nq_ar t = 2 ∧ nq_kids t w = [0 + w / 2 * 2, 0 + w / 2 * 2]) ∨
    (w % 2 = 0 ∧ t = 76) ∨
    (w % 2 = 1 ∧ (t = 82 ∨ t = 84 ∨ t = 85) ∧ nq_ar t = 1 ∧ nq_kids t w = [(if 84 ≤ t then 1 else 0) + w / 2 * 2]) ∨
    (w % 2 = 1 ∧ (t = 80 ∨ t = 81 ∨ t = 83 ∨ t = 86 ∨ t = 87) ∧ nq_ar t = 2 ∧ nq_kids t w = [(if 84 ≤ t then 1 else 0) + w / 2 * 2, (if 84 ≤ t then 1 else 0) + w / 2 * 2]) := by
  by_cases hw : w % 2 = 1
  · have h := (nq_fitEC hf).1 hw
    unfold nq_isC at h
    rw [hs, Bool.or_false, decide_eq_true_eq] at h
    have ht : t = 80 ∨ t = 81 ∨ t = 82 ∨ t = 83 ∨ t = 84 ∨ t = 85 ∨ t = 86 ∨ t = 87 := by omega
    rcases ht with rfl | rfl | rfl | rfl | rfl | rfl | rfl | rfl <;> simp [hw, nq_kids, hs, nq_ar, List.replicate]
  · have hw0 : w % 2 = 0 := by omega
    have h := (nq_fitEC hf).2 hw
    unfold nq_isE at h
    rw [Bool.or_eq_true, decide_eq_true_eq] at h
    have hc : nq_col t = true → t ≤ 32 := fun z => by
      unfold nq_col at z
      rw [decide_eq_true_eq] at z
      exact z.1
    by_cases h70 : t ≤ 70
    · have a0 : nq_ar t = 0 := if_pos h70
      refine Or.inl ⟨hw0, h70, h.imp_right (by omega), a0, ?_⟩
      unfold nq_kids
      rw [hs, a0, if_neg (by decide), if_neg (by omega)]
      rfl
    · have ht : t = 71 ∨ t = 72 ∨ t = 73 ∨ t = 74 ∨ t = 75 ∨ t = 76 := by
        rcases h with h | h
        · have := hc h; omega
        · omega
      rcases ht with rfl | rfl | rfl | rfl | rfl | rfl <;> simp [hw0, nq_kids, hs, nq_ar, List.replicate]
theorem nq_2l {α β : Type} {f : α → β} {L : List α} {a b : β} (h : L.map f = [a, b]) : ∃ x y, L = [x, y] ∧ f x = a ∧ f y = b := by
  match L, h with
  | [x, y], h => simp at h; exact ⟨x, y, rfl, h⟩
theorem nq_1l {α β : Type} {f : α → β} {L : List α} {a : β} (h : L.map f = [a]) : ∃ x, L = [x] ∧ f x = a := by
  match L, h with
  | [x], h => simp at h; exact ⟨x, rfl, h⟩
theorem nq_3l {α β : Type} {f : α → β} {L : List α} {a b c : β} (h : L.map f = [a, b, c]) : ∃ x y z, L = [x, y, z] ∧ f x = a ∧ f y = b ∧ f z = c := by
  match L, h with
  | [x, y, z], h => simp at h; exact ⟨x, y, z, rfl, h⟩
def nq_mx (q : Nat × nq_V) : Int64 := nq_x q.1 q.2
def nq_my (q : Nat × nq_V) : Int64 := nq_y q.1 q.2
theorem nq_xApply {post : SX → Prop} {cv : Nat → nq_V} {hv : Nat → Option Nat} {p t w : Nat} {K : List (Nat × nq_V)} {M : List Int64} (hH : nq_HX Ha hv) (hf : nq_fit p t w = true) (hs : nq_sub t = false) (hK : K.map Prod.fst = nq_kids t w) (hM : K.length + M.length ≤ 20) (hM2 : M.length < 20) (hS : nq_St Sk (K.map nq_mx ++ M)) (H : ∀ Sk', nq_St Sk' (nq_x w (nq_rs (nq_leaf cv hv) t (K.map Prod.snd)) :: M) → post (sc, od, nc, (nI (M.length + 1)), cc, gc, ac, (fun j => nq_e (cv j)), Rc, St, Jl, Tk, Tn, Su, Ne, Ha, Sk', Cb, Jd, Va, Go, Fm, An, Ov)) : wpX_apply post (sc, od, nc, (nI (K.length + M.length)), cc, gc, ac, (fun j => nq_e (cv j)), Rc, St, Jl, Tk, Tn, Su, Ne, Ha, Sk, Cb, Jd, Va, Go, Fm, An, Ov) (nI t) := by
  rcases nq_cases hf hs with ⟨hw, h70, hc, a0, kk⟩ | ⟨hw, ht, a2, kk⟩ | ⟨hw, rfl⟩ | ⟨hw, ht, a1, kk⟩ | ⟨hw, ht, a2, kk⟩
  · rw [kk, List.map_eq_nil_iff] at hK
    subst hK
    have ht : t < 2147483648 := by omega
    simp only [nq_x, hw, show ¬ (0 = 1) from by decide, if_false, nq_rs, a0, if_true] at H
    have y0 : (0 : Int32) ≤ 0 := by decide
    have y1 : (0 : Int32) ≤ 1 := by decide
    have y2 : (0 : Int32) ≤ 2 := by decide
    simp only [wpX_apply, nq_xAr ht, a0, nI_0, wX_apply_26, wX_apply_49, wX_apply_73, y0, y1, y2, nq_xLeaf hH h70 hc, List.length_nil, forall_eq, not_true_eq_false, not_false_eq_true, true_implies, false_implies, implies_true, and_true, true_and, and_self]
    exact nq_x142 (L := []) (a := 0) rfl hM2 (by simp) hS H
  · rw [kk] at hK
    obtain ⟨⟨w1, a⟩, ⟨w2, b⟩, rfl, rfl, rfl⟩ := nq_2l hK
    have ht2 : t < 2147483648 := by omega
    have n76 : ¬ t = 76 := by omega
    have n80 : ¬ 80 ≤ t := by omega
    simp only [nq_x, hw, show ¬ (0 = 1) from by decide, if_false, nq_rs, a2, show ¬ (2 = 0) from by decide, List.map_cons, List.map_nil, List.getD_cons_zero, List.getD_cons_succ, List.getD_nil] at H
    simp only [List.map_cons, List.map_nil, nq_mx, nq_xe0, List.cons_append, List.nil_append] at hS
    have s1 : Sk (M.length + 1) = nq_e a := hS.1
    have s2 : Sk M.length = nq_e b := hS.2.1
    simp only [List.length_cons, List.length_nil] at hM
    have e1 : nI (2 + M.length) - 1 = nI (M.length + 1) := by rw [show (1 : Int32) = nI 1 from rfl, pk_sub (by omega)]; exact congrArg nI (by omega)
    have e2 : nI (2 + M.length) - 2 = nI M.length := by rw [show (2 : Int32) = nI 2 from rfl, pk_sub (by omega)]; exact congrArg nI (by omega)
    have i1 : vp_in (nI (M.length + 1)) 20 := vp_in_nI (by omega) (by decide)
    have i2 : vp_in (nI M.length) 20 := vp_in_nI (by omega) (by decide)
    have c1 : (nI (M.length + 1)).toNatClampNeg = M.length + 1 := nI_clamp (by omega)
    have c2 : (nI M.length).toNatClampNeg = M.length := nI_clamp (by omega)
    simp only [wpX_apply, nq_xAr ht2, a2, List.length_cons, List.length_nil, Nat.zero_add, Nat.reduceAdd, show ¬ nI 2 ≤ 0 from by decide, show ¬ nI 2 ≤ 1 from by decide, show nI 2 ≤ 2 from by decide, show ¬ nI 2 = 0 from by decide, wX_apply_26, wX_apply_49, wX_apply_73, e1, e2, i1, i2, c1, c2, s1, s2, show (nI (t) < (76 : Int32)) = ((t) < 76) from propext (nI_ltI (b := 76) (ht2) (by decide)), show ((76 : Int32) < nI (t)) = (76 < (t)) from propext (nI_ltI (a := 76) (by decide) (ht2)), show (nI (t) ≤ (76 : Int32)) = ((t) ≤ 76) from propext (nI_leI (b := 76) (ht2) (by decide)), show ((76 : Int32) ≤ nI (t)) = (76 ≤ (t)) from propext (nI_leI (a := 76) (by decide) (ht2)), show (nI (t) = (76 : Int32)) = ((t) = 76) from propext (nI_eq (b := 76) (ht2) (by decide)), show (nI (t) < (80 : Int32)) = ((t) < 80) from propext (nI_ltI (b := 80) (ht2) (by decide)), show ((80 : Int32) < nI (t)) = (80 < (t)) from propext (nI_ltI (a := 80) (by decide) (ht2)), show (nI (t) ≤ (80 : Int32)) = ((t) ≤ 80) from propext (nI_leI (b := 80) (ht2) (by decide)), show ((80 : Int32) ≤ nI (t)) = (80 ≤ (t)) from propext (nI_leI (a := 80) (by decide) (ht2)), show (nI (t) = (80 : Int32)) = ((t) = 80) from propext (nI_eq (b := 80) (ht2) (by decide)), n76, n80, nq_xNum ht, forall_eq, not_true_eq_false, not_false_eq_true, true_implies, false_implies, implies_true, and_true, true_and, and_self]
    exact nq_x142 (L := [nq_e a, nq_e b]) (a := 2) rfl hM2 (by simp) hS H
  · have kk : nq_kids 76 w = [1 + w / 2 * 2, w / 2 * 2, w / 2 * 2] := by simp [nq_kids, hs]
    rw [kk] at hK
    obtain ⟨⟨w1, a⟩, ⟨w2, b⟩, ⟨w3, c⟩, rfl, rfl, rfl, rfl⟩ := nq_3l hK
    have a3 : nq_ar 76 = 3 := rfl
    simp only [nq_x, hw, show ¬ (0 = 1) from by decide, if_false, nq_rs, a3, show ¬ (3 = 0) from by decide, List.map_cons, List.map_nil, List.getD_cons_zero, List.getD_cons_succ, List.getD_nil] at H
    simp only [List.map_cons, List.map_nil, nq_mx, nq_xe, nq_xc, List.cons_append, List.nil_append] at hS
    have s1 : Sk (M.length + 2) = nq_c a := hS.1
    have s2 : Sk (M.length + 1) = nq_e b := hS.2.1
    have s3 : Sk M.length = nq_e c := hS.2.2.1
    simp only [List.length_cons, List.length_nil] at hM
    have e1 : nI (3 + M.length) - 1 = nI (M.length + 2) := by rw [show (1 : Int32) = nI 1 from rfl, pk_sub (by omega)]; exact congrArg nI (by omega)
    have e2 : nI (3 + M.length) - 2 = nI (M.length + 1) := by rw [show (2 : Int32) = nI 2 from rfl, pk_sub (by omega)]; exact congrArg nI (by omega)
    have e3 : nI (3 + M.length) - 3 = nI M.length := by rw [show (3 : Int32) = nI 3 from rfl, pk_sub (by omega)]; exact congrArg nI (by omega)
    have i1 : vp_in (nI (M.length + 2)) 20 := vp_in_nI (by omega) (by decide)
    have i2 : vp_in (nI (M.length + 1)) 20 := vp_in_nI (by omega) (by decide)
    have i3 : vp_in (nI M.length) 20 := vp_in_nI (by omega) (by decide)
    have c1 : (nI (M.length + 2)).toNatClampNeg = M.length + 2 := nI_clamp (by omega)
    have c2 : (nI (M.length + 1)).toNatClampNeg = M.length + 1 := nI_clamp (by omega)
    have c3 : (nI M.length).toNatClampNeg = M.length := nI_clamp (by omega)
    simp only [wpX_apply, nq_xAr (show 76 < 2147483648 from by decide), a3, List.length_cons, List.length_nil, Nat.zero_add, Nat.reduceAdd, show ¬ nI 3 ≤ 0 from by decide, show ¬ nI 3 ≤ 1 from by decide, show ¬ nI 3 ≤ 2 from by decide, show ¬ nI 3 = 0 from by decide, wX_apply_26, wX_apply_49, wX_apply_73, wX_apply_110, e1, e2, e3, i1, i2, i3, c1, c2, c3, s1, s2, s3, show (nI (76) < (76 : Int32)) = ((76) < 76) from propext (nI_ltI (b := 76) (by decide) (by decide)), show ((76 : Int32) < nI (76)) = (76 < (76)) from propext (nI_ltI (a := 76) (by decide) (by decide)), show (nI (76) ≤ (76 : Int32)) = ((76) ≤ 76) from propext (nI_leI (b := 76) (by decide) (by decide)), show ((76 : Int32) ≤ nI (76)) = (76 ≤ (76)) from propext (nI_leI (a := 76) (by decide) (by decide)), show (nI (76) = (76 : Int32)) = ((76) = 76) from propext (nI_eq (b := 76) (by decide) (by decide)), nq_cT, forall_eq, not_true_eq_false, not_false_eq_true, true_implies, false_implies, implies_true, and_true, true_and, and_self]
    rcases Bool.eq_false_or_eq_true (nq_T a) with h | h
    · simp only [nq_ap, h, if_true, show ¬ (76 = 71) from by decide, show ¬ (76 = 72) from by decide, show ¬ (76 = 73) from by decide, show ¬ (76 = 74) from by decide, show ¬ (76 = 75) from by decide, if_false] at H
      simp only [h, forall_eq, not_true_eq_false, not_false_eq_true, true_implies, false_implies, implies_true, and_true, true_and, and_self]
      exact nq_x142 (L := [nq_c a, nq_e b, nq_e c]) (a := 3) rfl hM2 (by simp) hS H
    · simp only [nq_ap, h, if_true, reduceCtorEq, show ¬ (76 = 71) from by decide, show ¬ (76 = 72) from by decide, show ¬ (76 = 73) from by decide, show ¬ (76 = 74) from by decide, show ¬ (76 = 75) from by decide, if_false] at H
      simp only [h, reduceCtorEq, forall_eq, not_true_eq_false, not_false_eq_true, true_implies, false_implies, implies_true, and_true, true_and, and_self]
      exact nq_x142 (L := [nq_c a, nq_e b, nq_e c]) (a := 3) rfl hM2 (by simp) hS H
  · rw [kk] at hK
    obtain ⟨⟨w1, a⟩, rfl, rfl⟩ := nq_1l hK
    have ht2 : t < 2147483648 := by omega
    have n76 : ¬ t = 76 := by omega
    have n80 : 80 ≤ t := by omega
    have ee : nq_x ((if 84 ≤ t then 1 else 0) + w / 2 * 2) a = if 84 ≤ t then nq_c a else nq_e a := by
      by_cases h : 84 ≤ t
      · simp only [h, if_true, nq_xc]
      · simp only [h, if_false, nq_xe0]
    simp only [nq_x, hw, if_true, nq_rs, a1, show ¬ (1 = 0) from by decide, if_false, List.map_cons, List.map_nil, List.getD_cons_zero, List.getD_cons_succ, List.getD_nil] at H
    simp only [List.map_cons, List.map_nil, nq_mx, ee, List.cons_append, List.nil_append] at hS
    have s1 : Sk M.length = if 84 ≤ t then nq_c a else nq_e a := hS.1
    simp only [List.length_cons, List.length_nil] at hM
    have e1 : nI (1 + M.length) - 1 = nI M.length := by rw [show (1 : Int32) = nI 1 from rfl, pk_sub (by omega)]; exact congrArg nI (by omega)
    have i1 : vp_in (nI M.length) 20 := vp_in_nI (by omega) (by decide)
    have c1 : (nI M.length).toNatClampNeg = M.length := nI_clamp (by omega)
    simp only [wpX_apply, nq_xAr ht2, a1, List.length_cons, List.length_nil, Nat.zero_add, show ¬ nI 1 ≤ 0 from by decide, show nI 1 ≤ 1 from by decide, show nI 1 ≤ 2 from by decide, show ¬ nI 1 = 0 from by decide, wX_apply_26, wX_apply_49, wX_apply_73, e1, i1, c1, s1, show (nI (t) < (76 : Int32)) = ((t) < 76) from propext (nI_ltI (b := 76) (ht2) (by decide)), show ((76 : Int32) < nI (t)) = (76 < (t)) from propext (nI_ltI (a := 76) (by decide) (ht2)), show (nI (t) ≤ (76 : Int32)) = ((t) ≤ 76) from propext (nI_leI (b := 76) (ht2) (by decide)), show ((76 : Int32) ≤ nI (t)) = (76 ≤ (t)) from propext (nI_leI (a := 76) (by decide) (ht2)), show (nI (t) = (76 : Int32)) = ((t) = 76) from propext (nI_eq (b := 76) (ht2) (by decide)), show (nI (t) < (80 : Int32)) = ((t) < 80) from propext (nI_ltI (b := 80) (ht2) (by decide)), show ((80 : Int32) < nI (t)) = (80 < (t)) from propext (nI_ltI (a := 80) (by decide) (ht2)), show (nI (t) ≤ (80 : Int32)) = ((t) ≤ 80) from propext (nI_leI (b := 80) (ht2) (by decide)), show ((80 : Int32) ≤ nI (t)) = (80 ≤ (t)) from propext (nI_leI (a := 80) (by decide) (ht2)), show (nI (t) = (80 : Int32)) = ((t) = 80) from propext (nI_eq (b := 80) (ht2) (by decide)), n76, n80, nq_xTr1 ht, forall_eq, not_true_eq_false, not_false_eq_true, true_implies, false_implies, implies_true, and_true, true_and, and_self]
    exact nq_x142 (L := [if 84 ≤ t then nq_c a else nq_e a]) (a := 1) rfl hM2 (by simp) hS H
  · rw [kk] at hK
    obtain ⟨⟨w1, a⟩, ⟨w2, b⟩, rfl, rfl, rfl⟩ := nq_2l hK
    have ht2 : t < 2147483648 := by omega
    have n76 : ¬ t = 76 := by omega
    have n80 : 80 ≤ t := by omega
    have ee : ∀ a, nq_x ((if 84 ≤ t then 1 else 0) + w / 2 * 2) a = if 84 ≤ t then nq_c a else nq_e a := by
      intro a
      by_cases h : 84 ≤ t
      · simp only [h, if_true, nq_xc]
      · simp only [h, if_false, nq_xe0]
    simp only [nq_x, hw, if_true, nq_rs, a2, show ¬ (2 = 0) from by decide, if_false, List.map_cons, List.map_nil, List.getD_cons_zero, List.getD_cons_succ, List.getD_nil] at H
    simp only [List.map_cons, List.map_nil, nq_mx, ee, List.cons_append, List.nil_append] at hS
    have s1 : Sk (M.length + 1) = if 84 ≤ t then nq_c a else nq_e a := hS.1
    have s2 : Sk M.length = if 84 ≤ t then nq_c b else nq_e b := hS.2.1
    simp only [List.length_cons, List.length_nil] at hM
    have e1 : nI (2 + M.length) - 1 = nI (M.length + 1) := by rw [show (1 : Int32) = nI 1 from rfl, pk_sub (by omega)]; exact congrArg nI (by omega)
    have e2 : nI (2 + M.length) - 2 = nI M.length := by rw [show (2 : Int32) = nI 2 from rfl, pk_sub (by omega)]; exact congrArg nI (by omega)
    have i1 : vp_in (nI (M.length + 1)) 20 := vp_in_nI (by omega) (by decide)
    have i2 : vp_in (nI M.length) 20 := vp_in_nI (by omega) (by decide)
    have c1 : (nI (M.length + 1)).toNatClampNeg = M.length + 1 := nI_clamp (by omega)
    have c2 : (nI M.length).toNatClampNeg = M.length := nI_clamp (by omega)
    simp only [wpX_apply, nq_xAr ht2, a2, List.length_cons, List.length_nil, Nat.zero_add, Nat.reduceAdd, show ¬ nI 2 ≤ 0 from by decide, show ¬ nI 2 ≤ 1 from by decide, show nI 2 ≤ 2 from by decide, show ¬ nI 2 = 0 from by decide, wX_apply_26, wX_apply_49, wX_apply_73, e1, e2, i1, i2, c1, c2, s1, s2, show (nI (t) < (76 : Int32)) = ((t) < 76) from propext (nI_ltI (b := 76) (ht2) (by decide)), show ((76 : Int32) < nI (t)) = (76 < (t)) from propext (nI_ltI (a := 76) (by decide) (ht2)), show (nI (t) ≤ (76 : Int32)) = ((t) ≤ 76) from propext (nI_leI (b := 76) (ht2) (by decide)), show ((76 : Int32) ≤ nI (t)) = (76 ≤ (t)) from propext (nI_leI (a := 76) (by decide) (ht2)), show (nI (t) = (76 : Int32)) = ((t) = 76) from propext (nI_eq (b := 76) (ht2) (by decide)), show (nI (t) < (80 : Int32)) = ((t) < 80) from propext (nI_ltI (b := 80) (ht2) (by decide)), show ((80 : Int32) < nI (t)) = (80 < (t)) from propext (nI_ltI (a := 80) (by decide) (ht2)), show (nI (t) ≤ (80 : Int32)) = ((t) ≤ 80) from propext (nI_leI (b := 80) (ht2) (by decide)), show ((80 : Int32) ≤ nI (t)) = (80 ≤ (t)) from propext (nI_leI (a := 80) (by decide) (ht2)), show (nI (t) = (80 : Int32)) = ((t) = 80) from propext (nI_eq (b := 80) (ht2) (by decide)), n76, n80, nq_xTr2 ht, forall_eq, not_true_eq_false, not_false_eq_true, true_implies, false_implies, implies_true, and_true, true_and, and_self]
    exact nq_x142 (L := [if 84 ≤ t then nq_c a else nq_e a, if 84 ≤ t then nq_c b else nq_e b]) (a := 2) rfl hM2 (by simp) hS H
end
end
section
section
variable {sc od nc tp cc gc ac : Int32} {Ce Sk Va An Ov : Nat → Int64} {Rc St Jl Tk Tn Su Ne Ha Cb Jd Go Fm : Nat → Int32}
variable {src dis opn sbt sbr dep mny mor grs fnd kpt : Int32} {ySk yRe ySo yAn : Nat → Int64} {yRo yCe yTo yIl ySz yTk yIn yEn ySu yWc yWi yHa yCo yLo yGo yFi : Nat → Int32}
theorem nq_yPop {post : Int64 → SY → Prop} {x : Int64} {M : List Int64} {k : Nat} (hS : nq_St ySk (x :: M)) (hk : M.length = k) (hM : k < 64) : wpY_pop post (src, dis, opn, sbt, sbr, (nI (k + 1)), mny, mor, grs, fnd, kpt, yRo, yCe, yTo, yIl, ySz, yTk, yIn, yEn, ySu, yWc, yWi, yHa, ySk, yCo, yLo, yGo, yFi, yRe, ySo, yAn) ↔ post x (src, dis, opn, sbt, sbr, (nI k), mny, mor, grs, fnd, kpt, yRo, yCe, yTo, yIl, ySz, yTk, yIn, yEn, ySu, yWc, yWi, yHa, ySk, yCo, yLo, yGo, yFi, yRe, ySo, yAn) := by
  subst hk
  have i1 : vp_in (nI M.length) 64 := vp_in_nI hM (by decide)
  have c1 : (nI M.length).toNatClampNeg = M.length := nI_clamp (by omega)
  have s1 : ySk M.length = x := hS.1
  simp only [wpY_pop, nI_pred, i1, c1, s1, forall_eq, not_true_eq_false, not_false_eq_true, true_implies, false_implies, implies_true, and_true, true_and, and_self]
theorem nq_yPush {post : SY → Prop} {x : Int64} {M : List Int64} (hS : nq_St ySk M) (hM : M.length < 64) (H : ∀ ySk', nq_St ySk' (x :: M) → post (src, dis, opn, sbt, sbr, (nI (M.length + 1)), mny, mor, grs, fnd, kpt, yRo, yCe, yTo, yIl, ySz, yTk, yIn, yEn, ySu, yWc, yWi, yHa, ySk', yCo, yLo, yGo, yFi, yRe, ySo, yAn)) : wpY_push post (src, dis, opn, sbt, sbr, (nI M.length), mny, mor, grs, fnd, kpt, yRo, yCe, yTo, yIl, ySz, yTk, yIn, yEn, ySu, yWc, yWi, yHa, ySk, yCo, yLo, yGo, yFi, yRe, ySo, yAn) x := by
  have i1 : vp_in (nI M.length) 64 := vp_in_nI hM (by decide)
  have c1 : (nI M.length).toNatClampNeg = M.length := nI_clamp (by omega)
  simp only [wpY_push, i1, c1, nI_1, forall_eq, not_true_eq_false, not_false_eq_true, true_implies, false_implies, implies_true, and_true, true_and, and_self]
  exact H _ (nq_St_pL hS)
theorem nq_yCell {post : Int64 → Prop} {cv : Nat → nq_V} {a b c : Nat} (hv : ∀ j, cv j ≠ some 1000) (h : 18 * a + 3 * b + c < 54) : wpY_cell post (src, dis, opn, sbt, sbr, dep, mny, mor, grs, fnd, kpt, yRo, (fun j => nq_k (cv j)), yTo, yIl, ySz, yTk, yIn, yEn, ySu, yWc, yWi, yHa, ySk, yCo, yLo, yGo, yFi, yRe, ySo, yAn) (nI a) (nI b) (nI c) ↔ post (nq_f (cv (18 * a + 3 * b + c))) := by
  have e1 : 18 * nI a + 3 * nI b + nI c = nI (18 * a + 3 * b + c) := by simp only [nq_i18, nq_i3, pk_mul, nI_add]
  have i1 : vp_in (nI (18 * a + 3 * b + c)) 54 := vp_in_nI h (by decide)
  have c1 : (nI (18 * a + 3 * b + c)).toNatClampNeg = 18 * a + 3 * b + c := nI_clamp (by omega)
  simp only [wpY_cell, e1, i1, c1, forall_eq, not_true_eq_false, not_false_eq_true, true_implies, false_implies, implies_true, and_true, true_and, and_self]
  have := hv (18 * a + 3 * b + c)
  cases hq : cv (18 * a + 3 * b + c) with
  | none => simp only [nq_k, nq_f, forall_eq, not_true_eq_false, not_false_eq_true, true_implies, false_implies, implies_true, and_true, true_and, and_self]
  | some x =>
    rw [hq] at this
    have h2 : ¬ x = 1000 := fun e => this (by rw [e])
    simp only [nq_k, nq_f, h2, forall_eq, not_true_eq_false, not_false_eq_true, true_implies, false_implies, implies_true, and_true, true_and, and_self]
theorem nq_yLess {post : Int32 → Prop} {a b : nq_V} : wpY_isLess post (src, dis, opn, sbt, sbr, dep, mny, mor, grs, fnd, kpt, yRo, yCe, yTo, yIl, ySz, yTk, yIn, yEn, ySu, yWc, yWi, yHa, ySk, yCo, yLo, yGo, yFi, yRe, ySo, yAn) (nq_f a) (nq_f b) ↔ post (match nq_less a b with | none => 2 | some x => x) := by
  cases a with
  | none => simp only [wpY_isLess, nq_f, nq_less, nq_l2, forall_eq, not_true_eq_false, not_false_eq_true, true_implies, false_implies, implies_true, and_true, true_and, and_self]
  | some x => cases b with
    | none => simp only [wpY_isLess, nq_f, nq_ne2, nq_less, nq_l2, forall_eq, not_true_eq_false, not_false_eq_true, true_implies, false_implies, implies_true, and_true, true_and, and_self]
    | some y =>
      by_cases h : y ≤ x
      · simp only [wpY_isLess, nq_f, nq_ne2, nq_less, nq_l2, Int32.toInt64_le, h, Int32.not_lt.mpr h, if_false, forall_eq, not_true_eq_false, not_false_eq_true, true_implies, false_implies, implies_true, and_true, true_and, and_self]
      · simp only [wpY_isLess, nq_f, nq_ne2, nq_less, nq_l2, Int32.toInt64_le, h, Int32.not_le.mp h, if_true, forall_eq, not_true_eq_false, not_false_eq_true, true_implies, false_implies, implies_true, and_true, true_and, and_self]
theorem nq_yEq {post : Int32 → Prop} {a b : nq_V} : wpY_isEqual post (src, dis, opn, sbt, sbr, dep, mny, mor, grs, fnd, kpt, yRo, yCe, yTo, yIl, ySz, yTk, yIn, yEn, ySu, yWc, yWi, yHa, ySk, yCo, yLo, yGo, yFi, yRe, ySo, yAn) (nq_f a) (nq_f b) ↔ post (match nq_same a b with | none => 2 | some x => x) := by
  cases a with
  | none => simp only [wpY_isEqual, nq_f, nq_same, nq_l2, forall_eq, not_true_eq_false, not_false_eq_true, true_implies, false_implies, implies_true, and_true, true_and, and_self]
  | some x => cases b with
    | none => simp only [wpY_isEqual, nq_f, nq_ne2, nq_same, nq_l2, forall_eq, not_true_eq_false, not_false_eq_true, true_implies, false_implies, implies_true, and_true, true_and, and_self]
    | some y =>
      by_cases h : x = y
      · simp only [wpY_isEqual, nq_f, nq_ne2, nq_same, nq_l2, nq_64, h, if_true, forall_eq, not_true_eq_false, not_false_eq_true, true_implies, false_implies, implies_true, and_true, true_and, and_self]
      · simp only [wpY_isEqual, nq_f, nq_ne2, nq_same, nq_l2, nq_64, h, if_false, forall_eq, not_true_eq_false, not_false_eq_true, true_implies, false_implies, implies_true, and_true, true_and, and_self]
theorem nq_m2 (a : nq_V) (h : a = none ∨ a = some 0 ∨ a = some 1) : (match a with | none => (2 : Int32) | some x => x).toInt64 = nq_d a := by
  rcases h with h | h | h <;> subst h <;> rfl
theorem nq_less01 (a b : nq_V) : nq_less a b = none ∨ nq_less a b = some 0 ∨ nq_less a b = some 1 := by
  cases a with
  | none => exact Or.inl rfl
  | some x => cases b with
    | none => exact Or.inl rfl
    | some y =>
      by_cases h : x < y
      · exact Or.inr (Or.inr (by simp [nq_less, nq_l2, h]))
      · exact Or.inr (Or.inl (by simp [nq_less, nq_l2, h]))
theorem nq_same01 (a b : nq_V) : nq_same a b = none ∨ nq_same a b = some 0 ∨ nq_same a b = some 1 := by
  cases a with
  | none => exact Or.inl rfl
  | some x => cases b with
    | none => exact Or.inl rfl
    | some y =>
      by_cases h : x = y
      · exact Or.inr (Or.inr (by simp [nq_same, nq_l2, h]))
      · exact Or.inr (Or.inl (by simp [nq_same, nq_l2, h]))
theorem nq_yExpr {post : Int64 → SY → Prop} {t : Nat} {a b : nq_V} {M : List Int64} (ht : t = 71 ∨ t = 72 ∨ t = 73 ∨ t = 74 ∨ t = 75) (hS : nq_St ySk (nq_f a :: nq_f b :: M)) (hM : M.length < 62) : wpY_expression post (src, dis, opn, sbt, sbr, (nI (M.length + 1 + 1)), mny, mor, grs, fnd, kpt, yRo, yCe, yTo, yIl, ySz, yTk, yIn, yEn, ySu, yWc, yWi, yHa, ySk, yCo, yLo, yGo, yFi, yRe, ySo, yAn) (nI t) ↔ post (nq_f (nq_ap t a b none)) (src, dis, opn, sbt, sbr, (nI M.length), mny, mor, grs, fnd, kpt, yRo, yCe, yTo, yIl, ySz, yTk, yIn, yEn, ySu, yWc, yWi, yHa, ySk, yCo, yLo, yGo, yFi, yRe, ySo, yAn) := by
  simp only [wpY_expression, nq_yPop (k := M.length + 1) hS rfl (by omega), nq_yPop (k := M.length) hS.2 rfl (by omega)]
  rcases ht with rfl | rfl | rfl | rfl | rfl
  · cases a <;> cases b <;> simp [wpY_counted, nq_f, nq_ap, nq_l2, nq_ne2, show nI 71 = 71 from rfl]
  · cases a <;> cases b <;> simp [wpY_counted, nq_f, nq_ap, nq_l2, nq_ne2, show nI 72 = 72 from rfl]
  · cases a <;> cases b <;> simp [wpY_counted, nq_f, nq_ap, nq_l2, nq_ne2, show nI 73 = 73 from rfl]
  · by_cases h : a = none <;> simp [nq_f_n, h, nq_ap, show nI 74 = 74 from rfl]
  · simp only [nq_yEq]
    cases a with
    | none => cases b <;> simp [nq_f, nq_ap, nq_same, nq_l2, show nI 75 = 75 from rfl]
    | some x => cases b with
      | none => simp [nq_f, nq_ap, nq_same, nq_l2, show nI 75 = 75 from rfl]
      | some y => by_cases h : x = y <;> simp [nq_f, nq_ap, nq_same, nq_l2, h, show nI 75 = 75 from rfl]
theorem nq_yExpr76 {post : Int64 → SY → Prop} {a b c : nq_V} {M : List Int64} (hS : nq_St ySk (nq_d a :: nq_f b :: nq_f c :: M)) (hM : M.length < 61) : wpY_expression post (src, dis, opn, sbt, sbr, (nI (M.length + 1 + 1 + 1)), mny, mor, grs, fnd, kpt, yRo, yCe, yTo, yIl, ySz, yTk, yIn, yEn, ySu, yWc, yWi, yHa, ySk, yCo, yLo, yGo, yFi, yRe, ySo, yAn) (nI 76) ↔ post (nq_f (nq_ap 76 a b c)) (src, dis, opn, sbt, sbr, (nI M.length), mny, mor, grs, fnd, kpt, yRo, yCe, yTo, yIl, ySz, yTk, yIn, yEn, ySu, yWc, yWi, yHa, ySk, yCo, yLo, yGo, yFi, yRe, ySo, yAn) := by
  simp only [wpY_expression, nq_yPop (k := M.length + 1 + 1) hS rfl (by omega), nq_yPop (k := M.length + 1) hS.2 rfl (by omega), nq_yPop (k := M.length) hS.2.2 rfl (by omega)]
  rcases Bool.eq_false_or_eq_true (nq_T a) with h | h <;> simp [nq_dT, nq_ap, h, show nI 76 = 76 from rfl]
theorem nq_yCond1 {post : Int64 → SY → Prop} {t : Nat} {a : nq_V} {M : List Int64} (ht : t = 82 ∨ t = 84 ∨ t = 85) (hS : nq_St ySk ((if 84 ≤ t then nq_d a else nq_f a) :: M)) (hM : M.length < 63) : wpY_condition post (src, dis, opn, sbt, sbr, (nI (M.length + 1)), mny, mor, grs, fnd, kpt, yRo, yCe, yTo, yIl, ySz, yTk, yIn, yEn, ySu, yWc, yWi, yHa, ySk, yCo, yLo, yGo, yFi, yRe, ySo, yAn) (nI t) ↔ post (nq_d (nq_ap t a none none)) (src, dis, opn, sbt, sbr, (nI M.length), mny, mor, grs, fnd, kpt, yRo, yCe, yTo, yIl, ySz, yTk, yIn, yEn, ySu, yWc, yWi, yHa, ySk, yCo, yLo, yGo, yFi, yRe, ySo, yAn) := by
  simp only [wpY_condition, nq_yPop (k := M.length) hS rfl (by omega)]
  rcases ht with rfl | rfl | rfl
  · by_cases h : a = none <;> simp [nq_f_n, h, nq_ap, nq_dB, show nI 82 = 82 from rfl]
  · by_cases h : nq_d a = 2 <;> simp [nq_ap, nq_dnot, h, show nI 84 = 84 from rfl]
  · rcases Bool.eq_false_or_eq_true (nq_T a) with h | h <;> simp [nq_dT, nq_ap, nq_dB, h, show nI 85 = 85 from rfl]
theorem nq_yCond2 {post : Int64 → SY → Prop} {t : Nat} {a b : nq_V} {M : List Int64} (ht : t = 80 ∨ t = 81 ∨ t = 83 ∨ t = 86 ∨ t = 87) (hS : nq_St ySk ((if 84 ≤ t then nq_d a else nq_f a) :: (if 84 ≤ t then nq_d b else nq_f b) :: M)) (hM : M.length < 62) : wpY_condition post (src, dis, opn, sbt, sbr, (nI (M.length + 1 + 1)), mny, mor, grs, fnd, kpt, yRo, yCe, yTo, yIl, ySz, yTk, yIn, yEn, ySu, yWc, yWi, yHa, ySk, yCo, yLo, yGo, yFi, yRe, ySo, yAn) (nI t) ↔ post (nq_d (nq_ap t a b none)) (src, dis, opn, sbt, sbr, (nI M.length), mny, mor, grs, fnd, kpt, yRo, yCe, yTo, yIl, ySz, yTk, yIn, yEn, ySu, yWc, yWi, yHa, ySk, yCo, yLo, yGo, yFi, yRe, ySo, yAn) := by
  simp only [wpY_condition, nq_yPop (k := M.length + 1) hS rfl (by omega), nq_yPop (k := M.length) hS.2 rfl (by omega)]
  rcases ht with rfl | rfl | rfl | rfl | rfl
  · simp [nq_yLess, nq_m2 _ (nq_less01 a b), nq_ap, show nI 80 = 80 from rfl]
  · simp [nq_yEq, nq_m2 _ (nq_same01 a b), nq_ap, show nI 81 = 81 from rfl]
  · by_cases h : a = b <;> simp [nq_f_i, h, nq_ap, nq_dB, show nI 83 = 83 from rfl]
  · rcases nq_d01 a with ⟨h1, h2⟩ | ⟨h1, h2⟩ | ⟨h1, h2, h3, h4⟩ <;> rcases nq_d01 b with ⟨g1, g2⟩ | ⟨g1, g2⟩ | ⟨g1, g2, g3, g4⟩ <;> simp [nq_ap, nq_and, *, nq_T0, nq_T1, nq_Tn, nq_ds0, nq_ds1, nq_dsn, show nI 86 = 86 from rfl]
  · rcases nq_d01 a with ⟨h1, h2⟩ | ⟨h1, h2⟩ | ⟨h1, h2, h3, h4⟩ <;> rcases nq_d01 b with ⟨g1, g2⟩ | ⟨g1, g2⟩ | ⟨g1, g2, g3, g4⟩ <;> simp [nq_ap, nq_or, *, nq_T0, nq_T1, nq_Tn, nq_ds0, nq_ds1, nq_dsn, show nI 87 = 87 from rfl]
end
end
section
section
variable {sc od nc tp cc gc ac : Int32} {Ce Sk Va An Ov : Nat → Int64} {Rc St Jl Tk Tn Su Ne Ha Cb Jd Go Fm : Nat → Int32}
variable {src dis opn sbt sbr dep mny mor grs fnd kpt : Int32} {ySk yRe ySo yAn : Nat → Int64} {yRo yCe yTo yIl ySz yTk yIn yEn ySu yWc yWi yHa yCo yLo yGo yFi : Nat → Int32}
def nq_HY (yHa yTo : Nat → Int32) (tb : Nat → Nat) (h hv : Nat → Option Nat) : Prop := ∀ s, s < 3 → yHa s = nq_hx (h s) ∧ yTo s = nI (tb s) ∧ tb s < 3 ∧ (∀ r, h s = some r → r < 6) ∧ hv s = (h s).map (fun r => 18 * tb s + 3 * r)
def nq_H3 (sbt sbr : Int32) (hv : Nat → Option Nat) : Prop := ∃ a b, sbt = nI a ∧ sbr = nI b ∧ a < 3 ∧ b < 6 ∧ hv 3 = some (18 * a + 3 * b)
theorem nq_yColumn {post : Int64 → Prop} {cv : Nat → nq_V} {tb : Nat → Nat} {h hv : Nat → Option Nat} {t : Nat} (hcv : ∀ j, cv j ≠ some 1000) (hH : nq_HY yHa yTo tb h hv) (hc : nq_col t = true) (h3 : t / 10 = 3 → nq_H3 sbt sbr hv) : wpY_column post (src, dis, opn, sbt, sbr, dep, mny, mor, grs, fnd, kpt, yRo, (fun j => nq_k (cv j)), yTo, yIl, ySz, yTk, yIn, yEn, ySu, yWc, yWi, yHa, ySk, yCo, yLo, yGo, yFi, yRe, ySo, yAn) (nI (t / 10)) (nI (t % 10)) ↔ post (nq_f (nq_leaf cv hv t)) := by
  have hcol : t ≤ 32 ∧ t % 10 < 3 := by
    unfold nq_col at hc
    rwa [decide_eq_true_eq] at hc
  have l1 : ¬ t = 70 := by omega
  have l2 : ¬ 40 < t := by omega
  simp only [nq_leaf, l1, l2, if_false]
  by_cases e3 : t / 10 = 3
  · obtain ⟨a, b, rfl, rfl, ha, hb, e⟩ := h3 e3
    simp only [wpY_column, e3, show nI 3 = 3 from rfl, e, nq_yCell hcv (show 18 * a + 3 * b + t % 10 < 54 by omega), forall_eq, not_true_eq_false, not_false_eq_true, true_implies, false_implies, implies_true, and_true, true_and, and_self]
  · obtain ⟨y1, y2, y3, y4, y5⟩ := hH (t / 10) (by omega)
    have i3 : vp_in (nI (t / 10)) 3 := vp_in_nI (by omega) (by decide)
    have c3 : (nI (t / 10)).toNatClampNeg = t / 10 := nI_clamp (by omega)
    have n3 : ¬ nI (t / 10) = 3 := fun e => e3 ((nI_eq (b := 3) (by omega) (by decide)).mp e)
    simp only [wpY_column, n3, i3, c3, y1, y2, y5, forall_eq, not_true_eq_false, not_false_eq_true, true_implies, false_implies, implies_true, and_true, true_and, and_self]
    cases hq : h (t / 10) with
    | none => simp only [nq_hx, Option.map_none, show ¬ (0 : Int32) ≤ -1 from by decide, nq_f, forall_eq, not_true_eq_false, not_false_eq_true, true_implies, false_implies, implies_true, and_true, true_and, and_self]
    | some r =>
      have r6 := y4 r hq
      simp only [nq_hx, Option.map_some, nI_pos' (n := r) (by omega), nq_yCell hcv (show 18 * tb (t / 10) + 3 * r + t % 10 < 54 by omega), forall_eq, not_true_eq_false, not_false_eq_true, true_implies, false_implies, implies_true, and_true, true_and, and_self]
theorem nq_ySimple {post : SY → Prop} {cv : Nat → nq_V} {tb : Nat → Nat} {h hv : Nat → Option Nat} {p t w : Nat} {K : List (Nat × nq_V)} {M : List Int64} (hcv : ∀ j, cv j ≠ some 1000) (hH : nq_HY yHa yTo tb h hv) (h3 : t / 10 = 3 → nq_H3 sbt sbr hv) (hf : nq_fit p t w = true) (hs : nq_sub t = false) (hK : K.map Prod.fst = nq_kids t w) (hM : M.length < 60) (hS : nq_St ySk (K.map nq_my ++ M)) (H : ∀ ySk', nq_St ySk' (nq_y w (nq_rs (nq_leaf cv hv) t (K.map Prod.snd)) :: M) → post (src, dis, opn, sbt, sbr, (nI (M.length + 1)), mny, mor, grs, fnd, kpt, yRo, (fun j => nq_k (cv j)), yTo, yIl, ySz, yTk, yIn, yEn, ySu, yWc, yWi, yHa, ySk', yCo, yLo, yGo, yFi, yRe, ySo, yAn)) : wpY_simple post (src, dis, opn, sbt, sbr, (nI (K.length + M.length)), mny, mor, grs, fnd, kpt, yRo, (fun j => nq_k (cv j)), yTo, yIl, ySz, yTk, yIn, yEn, ySu, yWc, yWi, yHa, ySk, yCo, yLo, yGo, yFi, yRe, ySo, yAn) (nI t) := by
  rcases nq_cases hf hs with ⟨hw, h70, hc, a0, kk⟩ | ⟨hw, ht, a2, kk⟩ | ⟨hw, rfl⟩ | ⟨hw, ht, a1, kk⟩ | ⟨hw, ht, a2, kk⟩
  · rw [kk, List.map_eq_nil_iff] at hK
    subst hK
    have ht : t < 2147483648 := by omega
    simp only [nq_y, hw, show ¬ (0 = 1) from by decide, if_false, nq_rs, a0, if_true] at H
    simp only [List.map_nil, List.nil_append] at hS
    simp only [wpY_simple, nq_yCol ht, nq_b0, List.length_nil, Nat.zero_add, nq_tn0, forall_eq, not_true_eq_false, not_false_eq_true, true_implies, false_implies, implies_true, and_true, true_and, and_self]
    rcases Bool.eq_false_or_eq_true (nq_col t) with h1 | h1
    · have e3 : nI t - nI (t / 10) * 10 = nI (t % 10) := by rw [← nq_div ht]; exact nq_rem ht
      simp only [h1, reduceCtorEq, nq_div ht, e3, nq_yColumn hcv hH h1 h3, forall_eq, not_true_eq_false, not_false_eq_true, true_implies, false_implies, implies_true, and_true, true_and, and_self]
      exact nq_yPush hS (by omega) H
    · have h41 : 41 ≤ t := hc.resolve_left (by rw [h1]; decide)
      by_cases h2 : t = 70
      · subst h2
        simp only [h1, show (nI (70) < (60 : Int32)) = ((70) < 60) from propext (nI_ltI (b := 60) (by decide) (by decide)), show ((60 : Int32) < nI (70)) = (60 < (70)) from propext (nI_ltI (a := 60) (by decide) (by decide)), show (nI (70) ≤ (60 : Int32)) = ((70) ≤ 60) from propext (nI_leI (b := 60) (by decide) (by decide)), show ((60 : Int32) ≤ nI (70)) = (60 ≤ (70)) from propext (nI_leI (a := 60) (by decide) (by decide)), show (nI (70) = (60 : Int32)) = ((70) = 60) from propext (nI_eq (b := 60) (by decide) (by decide)), show (nI (70) < (70 : Int32)) = ((70) < 70) from propext (nI_ltI (b := 70) (by decide) (by decide)), show ((70 : Int32) < nI (70)) = (70 < (70)) from propext (nI_ltI (a := 70) (by decide) (by decide)), show (nI (70) ≤ (70 : Int32)) = ((70) ≤ 70) from propext (nI_leI (b := 70) (by decide) (by decide)), show ((70 : Int32) ≤ nI (70)) = (70 ≤ (70)) from propext (nI_leI (a := 70) (by decide) (by decide)), show (nI (70) = (70 : Int32)) = ((70) = 70) from propext (nI_eq (b := 70) (by decide) (by decide)), show 60 ≤ 70 from by decide, forall_eq, not_true_eq_false, not_false_eq_true, true_implies, false_implies, implies_true, and_true, true_and, and_self]
        exact nq_yPush hS (by omega) H
      · have h59 : ¬ 60 ≤ t := by
          have := (nq_fitEC hf).2 (by omega)
          unfold nq_isE at this
          rw [h1, Bool.false_or, decide_eq_true_eq] at this
          omega
        have lf : nq_leaf cv hv t = some (nI t - 50) := by
          unfold nq_leaf
          rw [if_neg h2, if_pos (by omega)]
        rw [lf] at H
        simp only [h1, show (nI (t) < (60 : Int32)) = ((t) < 60) from propext (nI_ltI (b := 60) (ht) (by decide)), show ((60 : Int32) < nI (t)) = (60 < (t)) from propext (nI_ltI (a := 60) (by decide) (ht)), show (nI (t) ≤ (60 : Int32)) = ((t) ≤ 60) from propext (nI_leI (b := 60) (ht) (by decide)), show ((60 : Int32) ≤ nI (t)) = (60 ≤ (t)) from propext (nI_leI (a := 60) (by decide) (ht)), show (nI (t) = (60 : Int32)) = ((t) = 60) from propext (nI_eq (b := 60) (ht) (by decide)), show (nI (t) < (70 : Int32)) = ((t) < 70) from propext (nI_ltI (b := 70) (ht) (by decide)), show ((70 : Int32) < nI (t)) = (70 < (t)) from propext (nI_ltI (a := 70) (by decide) (ht)), show (nI (t) ≤ (70 : Int32)) = ((t) ≤ 70) from propext (nI_leI (b := 70) (ht) (by decide)), show ((70 : Int32) ≤ nI (t)) = (70 ≤ (t)) from propext (nI_leI (a := 70) (by decide) (ht)), show (nI (t) = (70 : Int32)) = ((t) = 70) from propext (nI_eq (b := 70) (ht) (by decide)), h59, forall_eq, not_true_eq_false, not_false_eq_true, true_implies, false_implies, implies_true, and_true, true_and, and_self]
        exact nq_yPush hS (by omega) H
  · rw [kk] at hK
    obtain ⟨⟨w1, a⟩, ⟨w2, b⟩, rfl, rfl, rfl⟩ := nq_2l hK
    have ht2 : t < 2147483648 := by omega
    have nc : nq_col t = false := by
      unfold nq_col
      rw [decide_eq_false_iff_not]
      omega
    have n60 : 60 ≤ t := by omega
    have n70 : ¬ t = 70 := by omega
    have n80 : ¬ 80 ≤ t := by omega
    simp only [nq_y, hw, show ¬ (0 = 1) from by decide, if_false, nq_rs, a2, show ¬ (2 = 0) from by decide, List.map_cons, List.map_nil, List.getD_cons_zero, List.getD_cons_succ, List.getD_nil] at H
    simp only [List.map_cons, List.map_nil, nq_my, nq_ye0, List.cons_append, List.nil_append] at hS
    have el : [(0 + w / 2 * 2, a), (0 + w / 2 * 2, b)].length + M.length = M.length + 1 + 1 := by simp only [List.length_cons, List.length_nil]; omega
    rw [el]
    simp only [wpY_simple, nq_yCol ht2, nc, nq_bf, show (nI (t) < (60 : Int32)) = ((t) < 60) from propext (nI_ltI (b := 60) (ht2) (by decide)), show ((60 : Int32) < nI (t)) = (60 < (t)) from propext (nI_ltI (a := 60) (by decide) (ht2)), show (nI (t) ≤ (60 : Int32)) = ((t) ≤ 60) from propext (nI_leI (b := 60) (ht2) (by decide)), show ((60 : Int32) ≤ nI (t)) = (60 ≤ (t)) from propext (nI_leI (a := 60) (by decide) (ht2)), show (nI (t) = (60 : Int32)) = ((t) = 60) from propext (nI_eq (b := 60) (ht2) (by decide)), show (nI (t) < (70 : Int32)) = ((t) < 70) from propext (nI_ltI (b := 70) (ht2) (by decide)), show ((70 : Int32) < nI (t)) = (70 < (t)) from propext (nI_ltI (a := 70) (by decide) (ht2)), show (nI (t) ≤ (70 : Int32)) = ((t) ≤ 70) from propext (nI_leI (b := 70) (ht2) (by decide)), show ((70 : Int32) ≤ nI (t)) = (70 ≤ (t)) from propext (nI_leI (a := 70) (by decide) (ht2)), show (nI (t) = (70 : Int32)) = ((t) = 70) from propext (nI_eq (b := 70) (ht2) (by decide)), show (nI (t) < (80 : Int32)) = ((t) < 80) from propext (nI_ltI (b := 80) (ht2) (by decide)), show ((80 : Int32) < nI (t)) = (80 < (t)) from propext (nI_ltI (a := 80) (by decide) (ht2)), show (nI (t) ≤ (80 : Int32)) = ((t) ≤ 80) from propext (nI_leI (b := 80) (ht2) (by decide)), show ((80 : Int32) ≤ nI (t)) = (80 ≤ (t)) from propext (nI_leI (a := 80) (by decide) (ht2)), show (nI (t) = (80 : Int32)) = ((t) = 80) from propext (nI_eq (b := 80) (ht2) (by decide)), n60, n70, n80, nq_yExpr ht hS (show M.length < 62 by omega), forall_eq, not_true_eq_false, not_false_eq_true, true_implies, false_implies, implies_true, and_true, true_and, and_self]
    exact nq_yPush hS.2.2 (by omega) H
  · have kk : nq_kids 76 w = [1 + w / 2 * 2, w / 2 * 2, w / 2 * 2] := by simp [nq_kids, hs]
    rw [kk] at hK
    obtain ⟨⟨w1, a⟩, ⟨w2, b⟩, ⟨w3, c⟩, rfl, rfl, rfl, rfl⟩ := nq_3l hK
    have a3 : nq_ar 76 = 3 := rfl
    have nc : nq_col 76 = false := by decide
    simp only [nq_y, hw, show ¬ (0 = 1) from by decide, if_false, nq_rs, a3, show ¬ (3 = 0) from by decide, List.map_cons, List.map_nil, List.getD_cons_zero, List.getD_cons_succ, List.getD_nil] at H
    simp only [List.map_cons, List.map_nil, nq_my, nq_ye, nq_yc, List.cons_append, List.nil_append] at hS
    have el : [(1 + w / 2 * 2, a), (w / 2 * 2, b), (w / 2 * 2, c)].length + M.length = M.length + 1 + 1 + 1 := by simp only [List.length_cons, List.length_nil]; omega
    rw [el]
    simp only [wpY_simple, nq_yCol (show 76 < 2147483648 from by decide), nc, nq_bf, show (nI (76) < (60 : Int32)) = ((76) < 60) from propext (nI_ltI (b := 60) (by decide) (by decide)), show ((60 : Int32) < nI (76)) = (60 < (76)) from propext (nI_ltI (a := 60) (by decide) (by decide)), show (nI (76) ≤ (60 : Int32)) = ((76) ≤ 60) from propext (nI_leI (b := 60) (by decide) (by decide)), show ((60 : Int32) ≤ nI (76)) = (60 ≤ (76)) from propext (nI_leI (a := 60) (by decide) (by decide)), show (nI (76) = (60 : Int32)) = ((76) = 60) from propext (nI_eq (b := 60) (by decide) (by decide)), show (nI (76) < (70 : Int32)) = ((76) < 70) from propext (nI_ltI (b := 70) (by decide) (by decide)), show ((70 : Int32) < nI (76)) = (70 < (76)) from propext (nI_ltI (a := 70) (by decide) (by decide)), show (nI (76) ≤ (70 : Int32)) = ((76) ≤ 70) from propext (nI_leI (b := 70) (by decide) (by decide)), show ((70 : Int32) ≤ nI (76)) = (70 ≤ (76)) from propext (nI_leI (a := 70) (by decide) (by decide)), show (nI (76) = (70 : Int32)) = ((76) = 70) from propext (nI_eq (b := 70) (by decide) (by decide)), show (nI (76) < (80 : Int32)) = ((76) < 80) from propext (nI_ltI (b := 80) (by decide) (by decide)), show ((80 : Int32) < nI (76)) = (80 < (76)) from propext (nI_ltI (a := 80) (by decide) (by decide)), show (nI (76) ≤ (80 : Int32)) = ((76) ≤ 80) from propext (nI_leI (b := 80) (by decide) (by decide)), show ((80 : Int32) ≤ nI (76)) = (80 ≤ (76)) from propext (nI_leI (a := 80) (by decide) (by decide)), show (nI (76) = (80 : Int32)) = ((76) = 80) from propext (nI_eq (b := 80) (by decide) (by decide)), show 60 ≤ 76 from by decide, show ¬ (76 = 70) from by decide, show ¬ 80 ≤ 76 from by decide, nq_yExpr76 hS (show M.length < 61 by omega), forall_eq, not_true_eq_false, not_false_eq_true, true_implies, false_implies, implies_true, and_true, true_and, and_self]
    exact nq_yPush hS.2.2.2 (by omega) H
  · rw [kk] at hK
    obtain ⟨⟨w1, a⟩, rfl, rfl⟩ := nq_1l hK
    have ht2 : t < 2147483648 := by omega
    have nc : nq_col t = false := by
      unfold nq_col
      rw [decide_eq_false_iff_not]
      omega
    have n60 : 60 ≤ t := by omega
    have n70 : ¬ t = 70 := by omega
    have n80 : 80 ≤ t := by omega
    have ee : nq_y ((if 84 ≤ t then 1 else 0) + w / 2 * 2) a = if 84 ≤ t then nq_d a else nq_f a := by
      by_cases h : 84 ≤ t
      · simp only [h, if_true, nq_yc]
      · simp only [h, if_false, nq_ye0]
    simp only [nq_y, hw, if_true, nq_rs, a1, show ¬ (1 = 0) from by decide, if_false, List.map_cons, List.map_nil, List.getD_cons_zero, List.getD_cons_succ, List.getD_nil] at H
    simp only [List.map_cons, List.map_nil, nq_my, ee, List.cons_append, List.nil_append] at hS
    have el : [((if 84 ≤ t then 1 else 0) + w / 2 * 2, a)].length + M.length = M.length + 1 := by simp only [List.length_cons, List.length_nil]; omega
    rw [el]
    simp only [wpY_simple, nq_yCol ht2, nc, nq_bf, show (nI (t) < (60 : Int32)) = ((t) < 60) from propext (nI_ltI (b := 60) (ht2) (by decide)), show ((60 : Int32) < nI (t)) = (60 < (t)) from propext (nI_ltI (a := 60) (by decide) (ht2)), show (nI (t) ≤ (60 : Int32)) = ((t) ≤ 60) from propext (nI_leI (b := 60) (ht2) (by decide)), show ((60 : Int32) ≤ nI (t)) = (60 ≤ (t)) from propext (nI_leI (a := 60) (by decide) (ht2)), show (nI (t) = (60 : Int32)) = ((t) = 60) from propext (nI_eq (b := 60) (ht2) (by decide)), show (nI (t) < (70 : Int32)) = ((t) < 70) from propext (nI_ltI (b := 70) (ht2) (by decide)), show ((70 : Int32) < nI (t)) = (70 < (t)) from propext (nI_ltI (a := 70) (by decide) (ht2)), show (nI (t) ≤ (70 : Int32)) = ((t) ≤ 70) from propext (nI_leI (b := 70) (ht2) (by decide)), show ((70 : Int32) ≤ nI (t)) = (70 ≤ (t)) from propext (nI_leI (a := 70) (by decide) (ht2)), show (nI (t) = (70 : Int32)) = ((t) = 70) from propext (nI_eq (b := 70) (ht2) (by decide)), show (nI (t) < (80 : Int32)) = ((t) < 80) from propext (nI_ltI (b := 80) (ht2) (by decide)), show ((80 : Int32) < nI (t)) = (80 < (t)) from propext (nI_ltI (a := 80) (by decide) (ht2)), show (nI (t) ≤ (80 : Int32)) = ((t) ≤ 80) from propext (nI_leI (b := 80) (ht2) (by decide)), show ((80 : Int32) ≤ nI (t)) = (80 ≤ (t)) from propext (nI_leI (a := 80) (by decide) (ht2)), show (nI (t) = (80 : Int32)) = ((t) = 80) from propext (nI_eq (b := 80) (ht2) (by decide)), n60, n70, n80, nq_yCond1 ht hS (show M.length < 63 by omega), forall_eq, not_true_eq_false, not_false_eq_true, true_implies, false_implies, implies_true, and_true, true_and, and_self]
    exact nq_yPush hS.2 (by omega) H
  · rw [kk] at hK
    obtain ⟨⟨w1, a⟩, ⟨w2, b⟩, rfl, rfl, rfl⟩ := nq_2l hK
    have ht2 : t < 2147483648 := by omega
    have nc : nq_col t = false := by
      unfold nq_col
      rw [decide_eq_false_iff_not]
      omega
    have n60 : 60 ≤ t := by omega
    have n70 : ¬ t = 70 := by omega
    have n80 : 80 ≤ t := by omega
    have ee : ∀ a, nq_y ((if 84 ≤ t then 1 else 0) + w / 2 * 2) a = if 84 ≤ t then nq_d a else nq_f a := by
      intro a
      by_cases h : 84 ≤ t
      · simp only [h, if_true, nq_yc]
      · simp only [h, if_false, nq_ye0]
    simp only [nq_y, hw, if_true, nq_rs, a2, show ¬ (2 = 0) from by decide, if_false, List.map_cons, List.map_nil, List.getD_cons_zero, List.getD_cons_succ, List.getD_nil] at H
    simp only [List.map_cons, List.map_nil, nq_my, ee, List.cons_append, List.nil_append] at hS
    have el : [((if 84 ≤ t then 1 else 0) + w / 2 * 2, a), ((if 84 ≤ t then 1 else 0) + w / 2 * 2, b)].length + M.length = M.length + 1 + 1 := by simp only [List.length_cons, List.length_nil]; omega
    rw [el]
    simp only [wpY_simple, nq_yCol ht2, nc, nq_bf, show (nI (t) < (60 : Int32)) = ((t) < 60) from propext (nI_ltI (b := 60) (ht2) (by decide)), show ((60 : Int32) < nI (t)) = (60 < (t)) from propext (nI_ltI (a := 60) (by decide) (ht2)), show (nI (t) ≤ (60 : Int32)) = ((t) ≤ 60) from propext (nI_leI (b := 60) (ht2) (by decide)), show ((60 : Int32) ≤ nI (t)) = (60 ≤ (t)) from propext (nI_leI (a := 60) (by decide) (ht2)), show (nI (t) = (60 : Int32)) = ((t) = 60) from propext (nI_eq (b := 60) (ht2) (by decide)), show (nI (t) < (70 : Int32)) = ((t) < 70) from propext (nI_ltI (b := 70) (ht2) (by decide)), show ((70 : Int32) < nI (t)) = (70 < (t)) from propext (nI_ltI (a := 70) (by decide) (ht2)), show (nI (t) ≤ (70 : Int32)) = ((t) ≤ 70) from propext (nI_leI (b := 70) (ht2) (by decide)), show ((70 : Int32) ≤ nI (t)) = (70 ≤ (t)) from propext (nI_leI (a := 70) (by decide) (ht2)), show (nI (t) = (70 : Int32)) = ((t) = 70) from propext (nI_eq (b := 70) (ht2) (by decide)), show (nI (t) < (80 : Int32)) = ((t) < 80) from propext (nI_ltI (b := 80) (ht2) (by decide)), show ((80 : Int32) < nI (t)) = (80 < (t)) from propext (nI_ltI (a := 80) (by decide) (ht2)), show (nI (t) ≤ (80 : Int32)) = ((t) ≤ 80) from propext (nI_leI (b := 80) (ht2) (by decide)), show ((80 : Int32) ≤ nI (t)) = (80 ≤ (t)) from propext (nI_leI (a := 80) (by decide) (ht2)), show (nI (t) = (80 : Int32)) = ((t) = 80) from propext (nI_eq (b := 80) (ht2) (by decide)), n60, n70, n80, nq_yCond2 ht hS (show M.length < 62 by omega), forall_eq, not_true_eq_false, not_false_eq_true, true_implies, false_implies, implies_true, and_true, true_and, and_self]
    exact nq_yPush hS.2.2 (by omega) H
/-! the inner evaluation, of the c of a subquery -/
def nq_st (lf : Nat → nq_V) (t : Nat) (s : List nq_V) : List nq_V := nq_rs lf t (s.take (nq_ar t)) :: s.drop (nq_ar t)
/-- the stack after the last j tokens ahead of position e -/
def nq_is (lf : Nat → nq_V) (t : Nat → Nat) (e : Nat) : Nat → List nq_V
  | 0 => []
  | j + 1 => nq_st lf (t (e - 1 - j)) (nq_is lf t e j)
theorem nq_step {lf : Nat → nq_V} {t w : Nat} {L : List (Nat × nq_V)} {iw : List Nat} (hl : (nq_kids t w).length = nq_ar t) (h : L.map Prod.fst = nq_kids t w ++ iw) : ∃ K R, L = K ++ R ∧ K.map Prod.fst = nq_kids t w ∧ R.map Prod.fst = iw ∧ K.length = nq_ar t ∧ nq_st lf t (L.map Prod.snd) = nq_rs lf t (K.map Prod.snd) :: R.map Prod.snd := by
  obtain ⟨K, R, rfl, h1, h2⟩ := List.map_eq_append_iff.mp h
  have hk : K.length = nq_ar t := by rw [← hl, ← h1, List.length_map]
  refine ⟨K, R, rfl, h1, h2, hk, ?_⟩
  unfold nq_st
  rw [List.map_append, List.take_left' (by rw [List.length_map, hk]), List.drop_left' (by rw [List.length_map, hk])]
def nq_op (p : Nat) (t : Nat → Nat) (k : Nat) : Nat := (nq_ws p t k).length
def nq_IsE (p : Nat) (t : Nat → Nat) (s e : Nat) : Prop := s < e ∧ nq_op p t e + 1 = nq_op p t s ∧ ∀ q, s < q → q < e → nq_op p t s ≤ nq_op p t q
theorem nq_kids2 : ∀ t, t < 153 → ∀ w, w < 4 → 2 ≤ w → nq_sub t = false → ∀ x, x ∈ nq_kids t w → 2 ≤ x := by decide +kernel
theorem nq_seg {n t : Nat → Nat} {p s e w0 : Nat} {r : List Nat} (hW : nq_WF n t) (hp : p < 10) (hs : nq_ws p t s = w0 :: r) (hw0 : 2 ≤ w0) (hE : nq_IsE p t s e) (hen : e ≤ n p) : ∀ k, s ≤ k → k ≤ e → ∃ iw, nq_ws p t k = iw ++ r ∧ (∀ x, x ∈ iw → 2 ≤ x) ∧ (k < e → iw ≠ []) ∧ (k = e → iw = []) := by
  obtain ⟨h1, h2, h3⟩ := hE
  unfold nq_op at h2 h3
  rw [hs, List.length_cons] at h2
  have key : ∀ d, s + d ≤ e → ∃ iw, nq_ws p t (s + d) = iw ++ r ∧ (∀ x, x ∈ iw → 2 ≤ x) ∧ (s + d < e → iw ≠ []) ∧ (s + d = e → iw = []) := by
    intro d
    induction d with
    | zero =>
      intro _
      refine ⟨[w0], hs, fun x hx => ?_, fun _ => by simp, fun z => by omega⟩
      rw [List.mem_singleton] at hx
      rw [hx]
      exact hw0
    | succ d ih =>
      intro hd
      obtain ⟨iw, e1, e2, e3, e4⟩ := ih (by omega)
      have hne := e3 (by omega)
      obtain ⟨w, r', f1, f2, ff, w4, t153, kl, es, rl, a3⟩ := nq_wsS hW hp (show s + d < n p by omega)
      match iw, hne with
      | w' :: iw', _ =>
        rw [f1, List.cons_append] at e1
        obtain ⟨rfl, rfl⟩ := List.cons.inj e1
        have hw2 := e2 w List.mem_cons_self
        refine ⟨nq_kids (t (20 * p + (s + d))) w ++ iw', ?_, fun x hx => ?_, fun z => ?_, fun z => ?_⟩
        · rw [show s + (d + 1) = s + d + 1 from rfl, f2, List.append_assoc]
        · rcases List.mem_append.mp hx with hx | hx
          · exact nq_kids2 _ t153 w w4 hw2 (es.resolve_right (by omega)) x hx
          · exact e2 x (List.mem_cons_of_mem _ hx)
        · have := h3 (s + (d + 1)) (by omega) z
          rw [hs, show s + (d + 1) = s + d + 1 from rfl, f2, ← List.append_assoc, List.length_append, List.length_cons] at this
          intro hc
          rw [hc, List.length_nil] at this
          omega
        · rw [← z, show s + (d + 1) = s + d + 1 from rfl, f2, ← List.append_assoc, List.length_append] at h2
          exact List.eq_nil_of_length_eq_zero (by omega)
  intro k hk1 hk2
  have := key (k - s) (by omega)
  rwa [show s + (k - s) = k by omega] at this
theorem nq_oplt {n t : Nat → Nat} {p : Nat} (hW : nq_WF n t) (hp : p < 10) (hc : nq_ws p t (n p) = []) : ∀ d, d ≤ n p → nq_op p t (n p - d) ≤ d := by
  intro d
  induction d with
  | zero =>
    intro _
    unfold nq_op
    rw [Nat.sub_zero, hc]
    exact Nat.le_refl _
  | succ d ih =>
    intro hd
    have := ih (by omega)
    obtain ⟨w, r', f1, f2, ff, w4, t153, kl, es, rl, a3⟩ := nq_wsS hW hp (show n p - (d + 1) < n p by omega)
    unfold nq_op at this ⊢
    rw [show n p - d = n p - (d + 1) + 1 by omega, f2, List.length_append] at this
    rw [f1, List.length_cons]
    omega
end
end
section
section
variable {sc od nc tp cc gc ac : Int32} {Ce Sk Va An Ov : Nat → Int64} {Rc St Jl Tk Tn Su Ne Ha Cb Jd Go Fm : Nat → Int32}
variable {src dis opn sbt sbr dep mny mor grs fnd kpt : Int32} {ySk yRe ySo yAn : Nat → Int64} {yRo yCe yTo yIl ySz yTk yIn yEn ySu yWc yWi yHa yCo yLo yGo yFi : Nat → Int32}
variable {n t : Nat → Nat} {p s e w0 : Nat} {r : List Nat} {cv : Nat → nq_V} {hv : Nat → Option Nat}
/-- one step back within a segment -/
theorem nq_back (hW : nq_WF n t) (hp : p < 10) (hc : nq_ws p t (n p) = []) (hs : nq_ws p t s = w0 :: r) (hw0 : 2 ≤ w0) (hE : nq_IsE p t s e) (hen : e ≤ n p) {d : Nat} (hd : s + (d + 1) ≤ e) {L : List (Nat × nq_V)} (hL : L.map Prod.fst ++ r = nq_ws p t (s + (d + 1))) (lf : Nat → nq_V) :
    ∃ w K R, nq_fit p (t (20 * p + (s + d))) w = true ∧ nq_sub (t (20 * p + (s + d))) = false ∧ L = K ++ R ∧ K.map Prod.fst = nq_kids (t (20 * p + (s + d))) w ∧ nq_st lf (t (20 * p + (s + d))) (L.map Prod.snd) = nq_rs lf (t (20 * p + (s + d))) (K.map Prod.snd) :: R.map Prod.snd ∧ w :: (R.map Prod.fst ++ r) = nq_ws p t (s + d) ∧ L.length + r.length ≤ 20 ∧ R.length + 1 + r.length ≤ 20 ∧ t (20 * p + (s + d)) < 153 := by
  have hn := (hW p hp).1
  obtain ⟨iw, e1, e2, e3, e4⟩ := nq_seg hW hp hs hw0 hE hen (s + d) (by omega) (by omega)
  obtain ⟨w, r', f1, f2, ff, w4, t153, kl, es, rl, a3⟩ := nq_wsS hW hp (show s + d < n p by omega)
  have hne := e3 (by omega)
  match iw, hne with
  | w' :: iw', _ =>
    have e1' := e1
    rw [f1, List.cons_append] at e1'
    obtain ⟨rfl, rfl⟩ := List.cons.inj e1'
    have hw2 := e2 w List.mem_cons_self
    have hL2 : L.map Prod.fst = nq_kids (t (20 * p + (s + d))) w ++ iw' := by
      rw [show s + (d + 1) = s + d + 1 from rfl, f2, ← List.append_assoc] at hL
      exact List.append_cancel_right hL
    obtain ⟨K, R, g1, g2, g3, g4, g5⟩ := nq_step (lf := lf) kl hL2
    have o1 := nq_oplt hW hp hc (n p - (s + (d + 1))) (by omega)
    have o2 := nq_oplt hW hp hc (n p - (s + d)) (by omega)
    unfold nq_op at o1 o2
    rw [show n p - (n p - (s + (d + 1))) = s + (d + 1) by omega, ← hL, List.length_append, List.length_map] at o1
    rw [show n p - (n p - (s + d)) = s + d by omega, f1, List.length_cons, List.length_append, ← g3, List.length_map] at o2
    refine ⟨w, K, R, ff, es.resolve_right (by omega), g1, g2, g5, ?_, by omega, by omega, t153⟩
    rw [g3, f1]
theorem nq_x175 {post : SX → Prop} {J140 : Int64 → Int32 → Int32 → Int32 → Int32 → Int32 → Int32 → Int32 → Int32 → (Nat → Int64) → (Nat → Int32) → (Nat → Int32) → (Nat → Int32) → (Nat → Int32) → (Nat → Int32) → (Nat → Int32) → (Nat → Int32) → (Nat → Int32) → (Nat → Int64) → (Nat → Int32) → (Nat → Int32) → (Nat → Int64) → (Nat → Int32) → (Nat → Int32) → (Nat → Int64) → (Nat → Int64) → Prop} {x2 x3 x4 x6 x9 x12 x13 : Int32} {x7 x10 : Int64} {M : List Int64} (hT : nq_TT n t Tn Tk) (hW : nq_WF n t) (hp : p < 10) (hc : nq_ws p t (n p) = []) (hs : nq_ws p t s = w0 :: r) (hw0 : 2 ≤ w0) (hw1 : w0 % 2 = 1) (hE : nq_IsE p t s e) (hen : e ≤ n p) (hM : M.length ≤ r.length) (hH : nq_HX Ha hv)
    (H1 : nq_T ((nq_is (nq_leaf cv hv) t (20 * p + e) (e - s)).headD none) = true → ∀ Sk', nq_St Sk' M → ((x3 = 0 → ((x4 = 0 → wX_applySubquery_252 post J140 x2 x3 x4 (nI (20 * p + s)) x6 x7 x9 x10 x12 x13 81 sc od nc (nI M.length) cc gc ac (fun j => nq_e (cv j)) Rc St Jl Tk Tn Su Ne Ha Sk' Cb Jd Va Go Fm An Ov) ∧ (¬ x4 = 0 → wX_applySubquery_252 post J140 x2 x3 x4 (nI (20 * p + s)) x6 x7 x9 x10 x12 x13 80 sc od nc (nI M.length) cc gc ac (fun j => nq_e (cv j)) Rc St Jl Tk Tn Su Ne Ha Sk' Cb Jd Va Go Fm An Ov))) ∧ (¬ x3 = 0 → J140 2 (x12 + 1) sc od nc (nI M.length) cc gc ac (fun j => nq_e (cv j)) Rc St Jl Tk Tn Su Ne Ha Sk' Cb Jd Va Go Fm An Ov)))
    (H2 : nq_T ((nq_is (nq_leaf cv hv) t (20 * p + e) (e - s)).headD none) = false → ∀ Sk', nq_St Sk' M → J140 x10 (x12 + 1) sc od nc (nI M.length) cc gc ac (fun j => nq_e (cv j)) Rc St Jl Tk Tn Su Ne Ha Sk' Cb Jd Va Go Fm An Ov) :
    ∀ d, s + d ≤ e → ∀ f, d < f → ∀ (L : List (Nat × nq_V)) Sk, L.map Prod.fst ++ r = nq_ws p t (s + d) → L.map Prod.snd = nq_is (nq_leaf cv hv) t (20 * p + e) (e - (s + d)) → nq_St Sk (L.map nq_mx ++ M) → wX_applySubquery_175 post J140 x2 x3 x4 (nI (20 * p + s)) x6 x7 x9 x10 x12 x13 f (nI (20 * p + (s + d)) - 1) sc od nc (nI (L.length + M.length)) cc gc ac (fun j => nq_e (cv j)) Rc St Jl Tk Tn Su Ne Ha Sk Cb Jd Va Go Fm An Ov := by
  have hn := (hW p hp).1
  intro d
  induction d with
  | zero =>
    intro hd f hf L Sk hL hv2 hS
    obtain ⟨f, rfl⟩ : ∃ g, f = g + 1 := ⟨f - 1, by omega⟩
    have o1 := nq_oplt hW hp hc (n p - s) (by omega)
    unfold nq_op at o1
    rw [show n p - (n p - s) = s by omega, hs, List.length_cons] at o1
    rw [Nat.add_zero, hs] at hL
    have hL2 : L.map Prod.fst = [w0] := List.append_cancel_right hL
    obtain ⟨⟨w, v⟩, rfl, rfl⟩ := nq_1l hL2
    rw [Nat.add_zero, List.map_cons, List.map_nil] at hv2
    have vv : (nq_is (nq_leaf cv hv) t (20 * p + e) (e - s)).headD none = v := by rw [← hv2]; rfl
    rw [vv] at H1 H2
    simp only [List.map_cons, List.map_nil, nq_mx, nq_x, hw1, if_true, List.cons_append, List.nil_append] at hS
    have s1 : Sk M.length = nq_c v := hS.1
    have x1 : nI (20 * p + (s + 0)) - 1 < nI (20 * p + s) := by
      rw [Nat.add_zero]
      rcases Nat.eq_zero_or_pos (20 * p + s) with z | z
      · rw [z]; decide
      · rw [show nI (20 * p + s) - 1 = nI (20 * p + s - 1) from pk_sub (b := 1) z]
        exact nI_lt (by omega) (by omega)
    have l1 : nI ([(w, v)].length + M.length) - 1 = nI M.length := by
      rw [List.length_cons, List.length_nil, show 0 + 1 + M.length = M.length + 1 by omega, nI_pred]
    have i1 : vp_in (nI M.length) 20 := vp_in_nI (by omega) (by decide)
    have c1 : (nI M.length).toNatClampNeg = M.length := nI_clamp (by omega)
    simp only [wX_applySubquery_175, x1, l1, i1, c1, s1, nq_cT, forall_eq, not_true_eq_false, not_false_eq_true, true_implies, false_implies, implies_true, and_true, true_and, and_self]
    rcases Bool.eq_false_or_eq_true (nq_T v) with h | h
    · simp only [h, forall_eq, not_true_eq_false, not_false_eq_true, true_implies, false_implies, implies_true, and_true, true_and, and_self]
      exact H1 h Sk hS.2
    · simp only [h, reduceCtorEq, forall_eq, not_true_eq_false, not_false_eq_true, true_implies, false_implies, implies_true, and_true, true_and, and_self]
      exact H2 h Sk hS.2
  | succ d ih =>
    intro hd f hf L Sk hL hv2 hS
    obtain ⟨f, rfl⟩ : ∃ g, f = g + 1 := ⟨f - 1, by omega⟩
    obtain ⟨w, K, R, ff, fs, rfl, gK, gs, gw, l1, l2, t153⟩ := nq_back hW hp hc hs hw0 hE hen hd hL (nq_leaf cv hv)
    have x0 : nI (20 * p + (s + (d + 1))) - 1 = nI (20 * p + (s + d)) := nI_pred (20 * p + (s + d))
    have x1 : ¬ nI (20 * p + (s + d)) < nI (20 * p + s) := nI_nlt (by omega) (by omega)
    have i1 : vp_in (nI (20 * p + (s + d))) 200 := vp_in_nI (by omega) (by decide)
    have c1 : (nI (20 * p + (s + d))).toNatClampNeg = 20 * p + (s + d) := nI_clamp (by omega)
    have e2 : nI (20 * p + (s + d)) + (-1) = nI (20 * p + (s + d)) - 1 := by grind
    rw [List.length_append] at l1
    have ll : (K ++ R).length + M.length = K.length + (R.map nq_mx ++ M).length := by
      rw [List.length_append, List.length_append, List.length_map]; omega
    have l3 : (R.map nq_mx ++ M).length = R.length + M.length := by rw [List.length_append, List.length_map]
    rw [List.map_append, List.append_assoc] at hS
    rw [ll]
    simp only [wX_applySubquery_175, x0, x1, i1, c1, (hT p hp).2 (s + d) (by omega), e2, forall_eq, not_true_eq_false, not_false_eq_true, true_implies, false_implies, implies_true, and_true, true_and, and_self]
    refine nq_xApply hH ff fs gK (by omega) (by omega) hS fun Sk' hS' => ?_
    have := ih (by omega) f (by omega) ((w, nq_rs (nq_leaf cv hv) (t (20 * p + (s + d))) (K.map Prod.snd)) :: R) Sk' gw (by
      rw [List.map_cons, ← gs, hv2, show e - (s + d) = e - (s + (d + 1)) + 1 by omega]
      show _ = nq_st _ _ _
      rw [show 20 * p + e - 1 - (e - (s + (d + 1))) = 20 * p + (s + d) by omega]) hS'
    rw [l3]
    rw [List.length_cons, show R.length + 1 + M.length = R.length + M.length + 1 by omega] at this
    exact this
theorem nq_yTI {post : Int32 → SY → Prop} {tb : Nat → Nat} {h : Nat → Option Nat} {M : List Int64} (hT : nq_TT n t ySz yTk) (hW : nq_WF n t) (hp : p < 10) (hc : nq_ws p t (n p) = []) (hs : nq_ws p t s = w0 :: r) (hw0 : 2 ≤ w0) (hw1 : w0 % 2 = 1) (hE : nq_IsE p t s e) (hen : e ≤ n p) (hM : M.length ≤ r.length) (hcv : ∀ j, cv j ≠ some 1000) (hH : nq_HY yHa yTo tb h hv) (h3 : nq_H3 sbt sbr hv)
    (H : ∀ ySk', nq_St ySk' M → post (nq_b (nq_T ((nq_is (nq_leaf cv hv) t (20 * p + e) (e - s)).headD none))) (src, dis, opn, sbt, sbr, (nI M.length), mny, mor, grs, fnd, kpt, yRo, (fun j => nq_k (cv j)), yTo, yIl, ySz, yTk, yIn, yEn, ySu, yWc, yWi, yHa, ySk', yCo, yLo, yGo, yFi, yRe, ySo, yAn)) (hS0 : nq_St ySk M) : wpY_isTrueInside post (src, dis, opn, sbt, sbr, (nI M.length), mny, mor, grs, fnd, kpt, yRo, (fun j => nq_k (cv j)), yTo, yIl, ySz, yTk, yIn, yEn, ySu, yWc, yWi, yHa, ySk, yCo, yLo, yGo, yFi, yRe, ySo, yAn) (nI (20 * p + s)) (nI (20 * p + e)) := by
  have hn := (hW p hp).1
  have key : ∀ d, s + d ≤ e → ∀ f, d < f → ∀ (L : List (Nat × nq_V)) ySk, L.map Prod.fst ++ r = nq_ws p t (s + d) → L.map Prod.snd = nq_is (nq_leaf cv hv) t (20 * p + e) (e - (s + d)) → nq_St ySk (L.map nq_my ++ M) → wY_isTrueInside_4 post (nI (20 * p + s)) f (nI (20 * p + (s + d)) - 1) src dis opn sbt sbr (nI (L.length + M.length)) mny mor grs fnd kpt yRo (fun j => nq_k (cv j)) yTo yIl ySz yTk yIn yEn ySu yWc yWi yHa ySk yCo yLo yGo yFi yRe ySo yAn := by
    intro d
    induction d with
    | zero =>
      intro hd f hf L ySk hL hv2 hS
      obtain ⟨f, rfl⟩ : ∃ g, f = g + 1 := ⟨f - 1, by omega⟩
      have o1 := nq_oplt hW hp hc (n p - s) (by omega)
      unfold nq_op at o1
      rw [show n p - (n p - s) = s by omega, hs, List.length_cons] at o1
      rw [Nat.add_zero, hs] at hL
      have hL2 : L.map Prod.fst = [w0] := List.append_cancel_right hL
      obtain ⟨⟨w, v⟩, rfl, rfl⟩ := nq_1l hL2
      rw [Nat.add_zero, List.map_cons, List.map_nil] at hv2
      have vv : (nq_is (nq_leaf cv hv) t (20 * p + e) (e - s)).headD none = v := by rw [← hv2]; rfl
      rw [vv] at H
      simp only [List.map_cons, List.map_nil, nq_my, nq_y, hw1, if_true, List.cons_append, List.nil_append] at hS
      have x1 : nI (20 * p + (s + 0)) - 1 < nI (20 * p + s) := by
        rw [Nat.add_zero]
        rcases Nat.eq_zero_or_pos (20 * p + s) with z | z
        · rw [z]; decide
        · rw [show nI (20 * p + s) - 1 = nI (20 * p + s - 1) from pk_sub (b := 1) z]
          exact nI_lt (by omega) (by omega)
      have l1 : [(w, v)].length + M.length = M.length + 1 := by
        rw [List.length_cons, List.length_nil]; omega
      rw [l1]
      simp only [wY_isTrueInside_4, x1, nq_yPop (k := M.length) hS rfl (by omega), nq_dT, forall_eq, not_true_eq_false, not_false_eq_true, true_implies, false_implies, implies_true, and_true, true_and, and_self]
      rcases Bool.eq_false_or_eq_true (nq_T v) with h | h
      · simp only [h, forall_eq, not_true_eq_false, not_false_eq_true, true_implies, false_implies, implies_true, and_true, true_and, and_self]
        rw [h] at H
        exact H ySk hS.2
      · simp only [h, reduceCtorEq, forall_eq, not_true_eq_false, not_false_eq_true, true_implies, false_implies, implies_true, and_true, true_and, and_self]
        rw [h] at H
        exact H ySk hS.2
    | succ d ih =>
      intro hd f hf L ySk hL hv2 hS
      obtain ⟨f, rfl⟩ : ∃ g, f = g + 1 := ⟨f - 1, by omega⟩
      obtain ⟨w, K, R, ff, fs, rfl, gK, gs, gw, l1, l2, t153⟩ := nq_back hW hp hc hs hw0 hE hen hd hL (nq_leaf cv hv)
      have x0 : nI (20 * p + (s + (d + 1))) - 1 = nI (20 * p + (s + d)) := nI_pred (20 * p + (s + d))
      have x1 : ¬ nI (20 * p + (s + d)) < nI (20 * p + s) := nI_nlt (by omega) (by omega)
      have i1 : vp_in (nI (20 * p + (s + d))) 200 := vp_in_nI (by omega) (by decide)
      have c1 : (nI (20 * p + (s + d))).toNatClampNeg = 20 * p + (s + d) := nI_clamp (by omega)
      have e2 : nI (20 * p + (s + d)) + (-1) = nI (20 * p + (s + d)) - 1 := by grind
      rw [List.length_append] at l1
      have ll : (K ++ R).length + M.length = K.length + (R.map nq_my ++ M).length := by
        rw [List.length_append, List.length_append, List.length_map]; omega
      have l3 : (R.map nq_my ++ M).length = R.length + M.length := by rw [List.length_append, List.length_map]
      rw [List.map_append, List.append_assoc] at hS
      rw [ll]
      simp only [wY_isTrueInside_4, x0, x1, i1, c1, (hT p hp).2 (s + d) (by omega), e2, forall_eq, not_true_eq_false, not_false_eq_true, true_implies, false_implies, implies_true, and_true, true_and, and_self]
      refine nq_ySimple hcv hH (fun _ => h3) ff fs gK (by omega) hS fun ySk' hS' => ?_
      have := ih (by omega) f (by omega) ((w, nq_rs (nq_leaf cv hv) (t (20 * p + (s + d))) (K.map Prod.snd)) :: R) ySk' gw (by
        rw [List.map_cons, ← gs, hv2, show e - (s + d) = e - (s + (d + 1)) + 1 by omega]
        show _ = nq_st _ _ _
        rw [show 20 * p + e - 1 - (e - (s + (d + 1))) = 20 * p + (s + d) by omega]) hS'
      rw [l3]
      rw [List.length_cons, show R.length + 1 + M.length = R.length + M.length + 1 by omega] at this
      exact this
  have es : s < e := hE.1
  have := key (e - s) (by omega) (e - s + 1) (by omega) [] ySk (by
    obtain ⟨iw, e1, e2, e3, e4⟩ := nq_seg hW hp hs hw0 hE hen e (by omega) (by omega)
    rw [show s + (e - s) = e by omega, e1, e4 rfl]
    rfl) (by rw [show e - (s + (e - s)) = 0 by omega]; rfl) hS0
  rw [show s + (e - s) = e by omega, List.length_nil, Nat.zero_add] at this
  simp only [wpY_isTrueInside, forall_eq, not_true_eq_false, not_false_eq_true, true_implies, false_implies, implies_true, and_true, true_and, and_self]
  exact ⟨_, this⟩
end
end
section
section
variable {sc od nc tp cc gc ac : Int32} {Ce Sk Va An Ov : Nat → Int64} {Rc St Jl Tk Tn Su Ne Ha Cb Jd Go Fm : Nat → Int32}
variable {src dis opn sbt sbr dep mny mor grs fnd kpt : Int32} {ySk yRe ySo yAn : Nat → Int64} {yRo yCe yTo yIl ySz yTk yIn yEn ySu yWc yWi yHa yCo yLo yGo yFi : Nat → Int32}
variable {n t : Nat → Nat} {p s e w0 : Nat} {r : List Nat} {cv : Nat → nq_V} {hv : Nat → Option Nat}
theorem nq_opS (hW : nq_WF n t) (hp : p < 10) {i : Nat} (hi : i < n p) : nq_op p t (i + 1) + 1 = nq_op p t i + nq_ar (t (20 * p + i)) ∧ 1 ≤ nq_op p t i ∧ t (20 * p + i) < 153 := by
  obtain ⟨w, r', f1, f2, ff, w4, t153, kl, es, rl, a3⟩ := nq_wsS hW hp hi
  unfold nq_op
  rw [f1, f2, List.length_append, kl, List.length_cons]
  omega
theorem nq_xEnd {post : Int32 → Prop} (hT : nq_TT n t Tn Tk) (hW : nq_WF n t) (hp : p < 10) (hE : nq_IsE p t s e) (hen : e ≤ n p) (H : post (nI (20 * p + e))) : wpX_endOfTerm post (sc, od, nc, tp, cc, gc, ac, Ce, Rc, St, Jl, Tk, Tn, Su, Ne, Ha, Sk, Cb, Jd, Va, Go, Fm, An, Ov) (nI (20 * p + s)) := by
  have hn := (hW p hp).1
  obtain ⟨h1, h2, h3⟩ := hE
  have key : ∀ f q, s ≤ q → q ≤ e → e - q < f → wX_endOfTerm_4 post sc od nc tp cc gc ac Ce Rc St Jl Tk Tn Su Ne Ha Sk Cb Jd Va Go Fm An Ov f (nI (nq_op p t q - nq_op p t e)) (nI (20 * p + q)) := by
    intro f
    induction f with
    | zero => intro q _ _ h; omega
    | succ f ih =>
      intro q hq1 hq2 hf
      rcases Nat.lt_or_ge q e with z | z
      · have ho : nq_op p t s ≤ nq_op p t q := by
          rcases Nat.eq_or_lt_of_le hq1 with y | y
          · rw [y]; exact Nat.le_refl _
          · exact h3 q y z
        obtain ⟨o1, o2, t153⟩ := nq_opS hW hp (show q < n p by omega)
        obtain ⟨b1, b2⟩ := nq_wsI hW hp q (by omega)
        have b3 : nq_op p t q ≤ 1 + 2 * q := b1
        obtain ⟨k, hk⟩ : ∃ k, nq_op p t q - nq_op p t e = k + 1 := ⟨nq_op p t q - nq_op p t e - 1, by omega⟩
        have g1 : ¬ nI (k + 1) ≤ 0 := nI_nle (by omega) (by omega)
        have g2 : ¬ 200 ≤ nI (20 * p + q) := nI_ge (b := 200) (by omega) (by decide)
        have i1 : vp_in (nI (20 * p + q)) 200 := vp_in_nI (by omega) (by decide)
        have c1 : (nI (20 * p + q)).toNatClampNeg = 20 * p + q := nI_clamp (by omega)
        have := ih (q + 1) (by omega) (by omega) (by omega)
        rw [show nq_op p t (q + 1) - nq_op p t e = nq_ar (t (20 * p + q)) + k by omega] at this
        simp only [wX_endOfTerm_4, hk, g1, g2, i1, c1, (hT p hp).2 q (by omega), nq_xAr (show t (20 * p + q) < 2147483648 by omega), nq_plus, nI_1, forall_eq, not_true_eq_false, not_false_eq_true, true_implies, false_implies, implies_true, and_true, true_and, and_self]
        exact this
      · have : q = e := by omega
        subst this
        rw [Nat.sub_self]
        simp only [wX_endOfTerm_4, nI_0, show (0 : Int32) ≤ 0 from by decide, forall_eq, not_true_eq_false, not_false_eq_true, true_implies, false_implies, implies_true, and_true, true_and, and_self]
        exact H
  have := key (e - s + 1) s (Nat.le_refl _) (by omega) (by omega)
  rw [show nq_op p t s - nq_op p t e = 1 by omega] at this
  exact ⟨_, this⟩
/-! the value of a subquery -/
def nq_tbl (tok : Nat) : Nat := if tok < 100 then tok - 90 else (tok - 100) / 10 % 3
def nq_h3 (hv : Nat → Option Nat) (q : Nat) : Nat → Option Nat := fun s => if s = 3 then some q else hv s
/-- the condition of a subquery at row r of its table -/
def nq_ct (cv : Nat → nq_V) (hv : Nat → Option Nat) (t : Nat → Nat) (tok e d r : Nat) : Bool := nq_T ((nq_is (nq_leaf cv (nq_h3 hv (18 * nq_tbl tok + 3 * r))) t e d).headD none)
def nq_sv (cv : Nat → nq_V) (hv : Nat → Option Nat) (t : Nat → Nat) (tok e d : Nat) (a : nq_V) : Nat → nq_V
  | 0 => if tok < 130 then some 0 else some 1
  | r + 1 => if nq_ct cv hv t tok e d r = true then (if tok < 100 then some 1 else if tok < 130 then nq_or (nq_sv cv hv t tok e d a r) (nq_same a (cv (18 * nq_tbl tok + 3 * r + tok % 10))) else nq_and (nq_sv cv hv t tok e d a r) (nq_less a (cv (18 * nq_tbl tok + 3 * r + tok % 10)))) else nq_sv cv hv t tok e d a r
theorem nq_HX3 {q : Nat} {Ha' : Nat → Int32} (hH : nq_HX Ha hv) (hA : ∀ s, s ≠ 3 → Ha' s = Ha s) (hq : q + 3 ≤ 54) : nq_HX (upd Ha' 3 (nI q)) (nq_h3 hv q) := by
  intro s hs
  unfold nq_h3
  by_cases h : s = 3
  · subst h
    rw [pk_us, if_pos rfl]
    exact ⟨rfl, fun q' e => by cases e; exact hq⟩
  · rw [pk_un h, if_neg h, hA s h]
    exact hH s hs
theorem nq_subT {tok : Nat} (h : nq_sub tok = true) : (90 ≤ tok ∧ tok ≤ 92) ∨ (100 ≤ tok ∧ tok ≤ 152 ∧ tok % 10 < 3) := by
  unfold nq_sub at h
  rwa [decide_eq_true_eq] at h
theorem nq_tbl3 {tok : Nat} (h : nq_sub tok = true) : nq_tbl tok < 3 ∧ tok % 10 < 3 := by
  have := nq_subT h
  unfold nq_tbl
  by_cases h1 : tok < 100
  · rw [if_pos h1]; omega
  · rw [if_neg h1]; omega
theorem nq_x140 {post : SX → Prop} {tok : Nat} {x7 : Int64} {a : nq_V} {rw : Nat → Nat} {M : List Int64} (hT : nq_TT n t Tn Tk) (hW : nq_WF n t) (hp : p < 10) (hc : nq_ws p t (n p) = []) (hs : nq_ws p t s = w0 :: r) (hw0 : 2 ≤ w0) (hw1 : w0 % 2 = 1) (hE : nq_IsE p t s e) (hen : e ≤ n p) (hM : M.length ≤ r.length) (hM2 : M.length < 20) (hH : nq_HX Ha hv) (h3 : Ha 3 = -1) (hR : ∀ i, i < 3 → rw i ≤ 6 ∧ Rc i = nI (rw i)) (hsub : nq_sub tok = true) (hx7 : 100 ≤ tok → x7 = nq_e a)
    (H : ∀ Sk', nq_St Sk' (nq_c (nq_sv cv hv t tok (20 * p + e) (e - s) a (rw (nq_tbl tok))) :: M) → post (sc, od, nc, (nI (M.length + 1)), cc, gc, ac, (fun j => nq_e (cv j)), Rc, St, Jl, Tk, Tn, Su, Ne, Ha, Sk', Cb, Jd, Va, Go, Fm, An, Ov)) :
    ∀ f i, i ≤ rw (nq_tbl tok) → rw (nq_tbl tok) - i < f → ∀ Ha' Sk, (∀ s, s ≠ 3 → Ha' s = Ha s) → nq_St Sk M → wX_applySubquery_140 post (nI tok) (nq_b (decide (tok < 100))) (nq_b (decide (130 ≤ tok))) (nI (20 * p + s)) (nI (20 * p + e)) x7 (nI (nq_tbl tok)) f (nq_c (nq_sv cv hv t tok (20 * p + e) (e - s) a i)) (nI i) sc od nc (nI M.length) cc gc ac (fun j => nq_e (cv j)) Rc St Jl Tk Tn Su Ne Ha' Sk Cb Jd Va Go Fm An Ov := by
  have hn := (hW p hp).1
  obtain ⟨t3, tc⟩ := nq_tbl3 hsub
  have tokr := nq_subT hsub
  have i3 : vp_in (nI (nq_tbl tok)) 3 := vp_in_nI t3 (by decide)
  have c3 : (nI (nq_tbl tok)).toNatClampNeg = nq_tbl tok := nI_clamp (by omega)
  obtain ⟨r6, hr⟩ := hR (nq_tbl tok) t3
  have im : vp_in (nI M.length) 20 := vp_in_nI hM2 (by decide)
  have cm : (nI M.length).toNatClampNeg = M.length := nI_clamp (by omega)
  intro f
  induction f with
  | zero => intro q _ h; omega
  | succ f ih =>
    intro i hi hf Ha' Sk hA hS
    rcases Nat.lt_or_ge i (rw (nq_tbl tok)) with z | z
    · have z3 : ¬ nI (rw (nq_tbl tok)) ≤ nI i := nI_ge z (by omega)
      have e1 : (nI (nq_tbl tok) * 6 + nI i) * 3 = nI (18 * nq_tbl tok + 3 * i) := by
        simp only [nq_i6, nq_i3, pk_mul, nI_add]
        exact congrArg nI (by omega)
      simp only [wX_applySubquery_140, i3, c3, hr, z3, wpX_placeOf, e1, forall_eq, not_true_eq_false, not_false_eq_true, true_implies, false_implies, implies_true, and_true, true_and, and_self]
      have es : s < e := hE.1
      obtain ⟨iw, g1, g2, g3, g4⟩ := nq_seg hW hp hs hw0 hE hen e (by omega) (by omega)
      have gg := nq_x175 (post := post) (J140 := wX_applySubquery_140 post (nI tok) (nq_b (decide (tok < 100))) (nq_b (decide (130 ≤ tok))) (nI (20 * p + s)) (nI (20 * p + e)) x7 (nI (nq_tbl tok)) f) (x2 := nI tok) (x3 := nq_b (decide (tok < 100))) (x4 := nq_b (decide (130 ≤ tok))) (x6 := nI (20 * p + e)) (x9 := nI (nq_tbl tok)) (x12 := nI i) (x13 := nI (18 * nq_tbl tok + 3 * i)) (x7 := x7) (x10 := nq_c (nq_sv cv hv t tok (20 * p + e) (e - s) a i)) (M := M) (cv := cv) (sc := sc) (od := od) (nc := nc) (cc := cc) (gc := gc) (ac := ac) (Rc := Rc) (St := St) (Jl := Jl) (Tk := Tk) (Tn := Tn) (Su := Su) (Ne := Ne) (Cb := Cb) (Jd := Jd) (Va := Va) (Go := Go) (Fm := Fm) (An := An) (Ov := Ov) hT hW hp hc hs hw0 hw1 hE hen hM (nq_HX3 hH hA (show 18 * nq_tbl tok + 3 * i + 3 ≤ 54 by omega)) (by
        intro hTr Sk' hS'
        have hct : nq_ct cv hv t tok (20 * p + e) (e - s) i = true := hTr
        have nxt : ∀ v, v = nq_sv cv hv t tok (20 * p + e) (e - s) a (i + 1) → wX_applySubquery_140 post (nI tok) (nq_b (decide (tok < 100))) (nq_b (decide (130 ≤ tok))) (nI (20 * p + s)) (nI (20 * p + e)) x7 (nI (nq_tbl tok)) f (nq_c v) (nI i + 1) sc od nc (nI M.length) cc gc ac (fun j => nq_e (cv j)) Rc St Jl Tk Tn Su Ne (upd Ha' 3 (nI (18 * nq_tbl tok + 3 * i))) Sk' Cb Jd Va Go Fm An Ov := by
          intro v hv
          subst hv
          rw [nI_1]
          exact ih (i + 1) (by omega) (by omega) _ Sk' (fun s hs => by rw [pk_un hs]; exact hA s hs) hS'
        rcases Nat.lt_or_ge tok 100 with l | l
        · have l2 : ¬ 100 ≤ tok := by omega
          simp only [nq_b0, l, decide_true, reduceCtorEq, forall_eq, not_true_eq_false, not_false_eq_true, true_implies, false_implies, implies_true, and_true, true_and, and_self]
          have := nxt (some 1) (by simp only [nq_sv, hct, l, if_true])
          simp only [l, decide_true] at this
          exact this
        · have l2 : ¬ tok < 100 := by omega
          have i5 : vp_in (nI (18 * nq_tbl tok + 3 * i + tok % 10)) 54 := vp_in_nI (by omega) (by decide)
          have c5 : (nI (18 * nq_tbl tok + 3 * i + tok % 10)).toNatClampNeg = 18 * nq_tbl tok + 3 * i + tok % 10 := nI_clamp (by omega)
          simp only [nq_b0, l2, decide_false, forall_eq, not_true_eq_false, not_false_eq_true, true_implies, false_implies, implies_true, and_true, true_and, and_self]
          rcases Nat.lt_or_ge tok 130 with m | m
          · have m2 : ¬ 130 ≤ tok := by omega
            simp only [m2, decide_false, wX_applySubquery_252, wX_applySubquery_283, nq_tn0, nq_rem (show tok < 2147483648 by omega), nI_add, i5, c5, hx7 l, nq_bf, forall_eq, not_true_eq_false, not_false_eq_true, true_implies, false_implies, implies_true, and_true, true_and, and_self]
            refine (nq_xTr2 (t := 81) (a := a) (b := cv (18 * nq_tbl tok + 3 * i + tok % 10)) (by omega)).mpr ?_
            refine (nq_xTr2 (t := 87) (a := nq_sv cv hv t tok (20 * p + e) (e - s) a i) (b := nq_ap 81 a (cv (18 * nq_tbl tok + 3 * i + tok % 10)) none) (by omega)).mpr ?_
            have := nxt _ (show nq_or (nq_sv cv hv t tok (20 * p + e) (e - s) a i) (nq_same a (cv (18 * nq_tbl tok + 3 * i + tok % 10))) = _ by simp only [nq_sv, hct, l2, m, if_true, if_false])
            simp only [l2, m2, decide_false, nq_bf, hx7 l] at this
            exact this
          · have m2 : ¬ tok < 130 := by omega
            have nt : ¬ nq_b true = 0 := by decide
            simp only [m, decide_true, reduceCtorEq, nt, wX_applySubquery_252, wX_applySubquery_283, nq_tn0, nq_rem (show tok < 2147483648 by omega), nI_add, i5, c5, hx7 l, forall_eq, not_true_eq_false, not_false_eq_true, true_implies, false_implies, implies_true, and_true, true_and, and_self]
            refine (nq_xTr2 (t := 80) (a := a) (b := cv (18 * nq_tbl tok + 3 * i + tok % 10)) (by omega)).mpr ?_
            refine (nq_xTr2 (t := 86) (a := nq_sv cv hv t tok (20 * p + e) (e - s) a i) (b := nq_ap 80 a (cv (18 * nq_tbl tok + 3 * i + tok % 10)) none) (by omega)).mpr ?_
            have := nxt _ (show nq_and (nq_sv cv hv t tok (20 * p + e) (e - s) a i) (nq_less a (cv (18 * nq_tbl tok + 3 * i + tok % 10))) = _ by simp only [nq_sv, hct, l2, m2, if_true, if_false])
            simp only [l2, m, decide_false, decide_true, hx7 l] at this
            exact this) (by
        intro hTr Sk' hS'
        have hct : nq_ct cv hv t tok (20 * p + e) (e - s) i = false := hTr
        have := ih (i + 1) (by omega) (by omega) (upd Ha' 3 (nI (18 * nq_tbl tok + 3 * i))) Sk' (fun s hs => by rw [pk_un hs]; exact hA s hs) hS'
        rw [← nI_1] at this
        have e2 : nq_sv cv hv t tok (20 * p + e) (e - s) a (i + 1) = nq_sv cv hv t tok (20 * p + e) (e - s) a i := by simp only [nq_sv, hct, reduceCtorEq, if_false]
        rw [e2] at this
        exact this) (e - s) (by omega) (e - s + 1) (by omega) [] Sk (by
          rw [show s + (e - s) = e by omega, g1, g4 rfl]
          rfl) (by rw [show e - (s + (e - s)) = 0 by omega]; rfl) hS
      rw [show s + (e - s) = e by omega, List.length_nil, Nat.zero_add] at gg
      exact ⟨_, gg⟩
    · have : i = rw (nq_tbl tok) := by omega
      subst this
      have z3 : nI (rw (nq_tbl tok)) ≤ nI (rw (nq_tbl tok)) := nI_le (Nat.le_refl _) (by omega)
      have eH : upd Ha' 3 (-1) = Ha := by
        funext j
        by_cases h : j = 3
        · rw [h, pk_us, h3]
        · rw [pk_un h, hA j h]
      simp only [wX_applySubquery_140, i3, c3, hr, z3, im, cm, eH, nI_1, forall_eq, not_true_eq_false, not_false_eq_true, true_implies, false_implies, implies_true, and_true, true_and, and_self]
      exact H _ (nq_St_pL hS)
end
end
section
section
variable {sc od nc tp cc gc ac : Int32} {Ce Sk Va An Ov : Nat → Int64} {Rc St Jl Tk Tn Su Ne Ha Cb Jd Go Fm : Nat → Int32}
variable {src dis opn sbt sbr dep mny mor grs fnd kpt : Int32} {ySk yRe ySo yAn : Nat → Int64} {yRo yCe yTo yIl ySz yTk yIn yEn ySu yWc yWi yHa yCo yLo yGo yFi : Nat → Int32}
variable {n t : Nat → Nat} {p s e w0 : Nat} {r : List Nat} {cv : Nat → nq_V} {hv : Nat → Option Nat} {rw : Nat → Nat}
/-! ends of terms -/
def nq_fe (op : Nat → Nat) (v : Nat) : Nat → Nat → Nat
  | 0, q => q
  | f + 1, q => if op q < v then q else nq_fe op v f (q + 1)
theorem nq_feS {op : Nat → Nat} {v q0 : Nat} (h0 : op q0 < v) : ∀ f q, q ≤ q0 → q0 < q + f → q ≤ nq_fe op v f q ∧ nq_fe op v f q ≤ q0 ∧ op (nq_fe op v f q) < v ∧ ∀ y, q ≤ y → y < nq_fe op v f q → v ≤ op y := by
  intro f
  induction f with
  | zero => intro q h1 h2; omega
  | succ f ih =>
    intro q h1 h2
    by_cases h : op q < v
    · simp only [nq_fe, h, if_true]
      exact ⟨Nat.le_refl _, h1, by trivial, fun y a b => by omega⟩
    · simp only [nq_fe, h, if_false]
      have hne : q ≠ q0 := fun z => h (z ▸ h0)
      obtain ⟨a1, a2, a3, a4⟩ := ih (q + 1) (by omega) (by omega)
      refine ⟨by omega, a2, a3, fun y b1 b2 => ?_⟩
      by_cases z : y = q
      · subst z; omega
      · exact a4 y (by omega) b2
def nq_en (p : Nat) (t : Nat → Nat) (i : Nat) : Nat := nq_fe (nq_op p t) (nq_op p t i) 21 (i + 1)
theorem nq_enE (hW : nq_WF n t) (hp : p < 10) (hc : nq_ws p t (n p) = []) {i : Nat} (hi : i < n p) : nq_IsE p t i (nq_en p t i) ∧ nq_en p t i ≤ n p := by
  have hn := (hW p hp).1
  obtain ⟨o1, o2, o3⟩ := nq_opS hW hp hi
  have h0 : nq_op p t (n p) < nq_op p t i := by
    unfold nq_op at o2 ⊢
    rw [hc]
    exact o2
  obtain ⟨a1, a2, a3, a4⟩ := nq_feS h0 21 (i + 1) (by omega) (by omega)
  refine ⟨⟨by unfold nq_en; omega, ?_, fun q b1 b2 => a4 q b1 b2⟩, a2⟩
  have e1 : nq_en p t i = nq_fe (nq_op p t) (nq_op p t i) 21 (i + 1) := rfl
  rw [← e1] at a1 a2 a3 a4
  generalize nq_en p t i = x at a1 a2 a3 a4
  obtain ⟨y, rfl⟩ : ∃ y, x = y + 1 := ⟨x - 1, by omega⟩
  obtain ⟨b1, b2, b3⟩ := nq_opS hW hp (show y < n p by omega)
  have : nq_op p t i ≤ nq_op p t y := by
    by_cases z : y = i
    · rw [z]; exact Nat.le_refl _
    · exact a4 y (by omega) (by omega)
  omega
theorem nq_IsEu {e' : Nat} (h : nq_IsE p t s e) (h' : nq_IsE p t s e') : e = e' := by
  obtain ⟨a1, a2, a3⟩ := h
  obtain ⟨b1, b2, b3⟩ := h'
  rcases Nat.lt_trichotomy e e' with z | z | z
  · have := b3 e a1 z; omega
  · exact z
  · have := a3 e' b1 z; omega
def nq_Ch (n : Nat → Nat) (p : Nat) (t : Nat → Nat) (i c x : Nat) : Prop := i < x ∧ x ≤ n p ∧ nq_op p t x + c = nq_op p t (i + 1) ∧ ∀ q, i < q → q < x → nq_op p t x < nq_op p t q
theorem nq_ch0 {i : Nat} (hi : i < n p) : nq_Ch n p t i 0 (i + 1) := ⟨by omega, by omega, rfl, fun q _ _ => by omega⟩
theorem nq_chlt (hW : nq_WF n t) (hp : p < 10) (hc : nq_ws p t (n p) = []) {i c x : Nat} (hi : i < n p) (h : nq_Ch n p t i c x) (hca : c < nq_ar (t (20 * p + i))) : x < n p := by
  obtain ⟨h1, h2, h3, h4⟩ := h
  obtain ⟨o1, o2, o3⟩ := nq_opS hW hp hi
  have h0 : nq_op p t (n p) = 0 := by
    unfold nq_op
    rw [hc]
    rfl
  rcases Nat.eq_or_lt_of_le h2 with z | z
  · rw [z] at h3; omega
  · exact z
theorem nq_chs {i c x e : Nat} (h : nq_Ch n p t i c x) (hE : nq_IsE p t x e) (he : e ≤ n p) : nq_Ch n p t i (c + 1) e := by
  obtain ⟨h1, h2, h3, h4⟩ := h
  obtain ⟨e1, e2, e3⟩ := hE
  refine ⟨by omega, he, by omega, fun q a b => ?_⟩
  rcases Nat.lt_trichotomy q x with z | z | z
  · have := h4 q a z; omega
  · subst z; omega
  · have := e3 q z b; omega
theorem nq_chE (hW : nq_WF n t) (hp : p < 10) {i x : Nat} (hi : i < n p) (h : nq_Ch n p t i (nq_ar (t (20 * p + i))) x) : nq_IsE p t i x := by
  obtain ⟨h1, h2, h3, h4⟩ := h
  obtain ⟨o1, o2, o3⟩ := nq_opS hW hp hi
  refine ⟨h1, by omega, fun q a b => ?_⟩
  have := h4 q a b
  omega
/-- where the c of a subquery begins -/
def nq_ss (p : Nat) (t : Nat → Nat) (k : Nat) : Nat := if t (20 * p + k) < 100 then k + 1 else nq_en p t (k + 1)
theorem nq_subAr {tok : Nat} (h : nq_sub tok = true) : nq_ar tok = (if tok < 100 then 1 else 2) ∧ ∀ w, nq_kids tok w = if tok < 100 then [3] else [0, 3] := by
  have := nq_subT h
  refine ⟨?_, fun w => if_pos h⟩
  unfold nq_ar
  rw [if_neg (by omega), if_neg (by omega)]
  by_cases h1 : tok < 100
  · rw [if_pos h1, if_pos (by omega)]
  · rw [if_neg h1, if_neg (by omega)]
theorem nq_subE (hW : nq_WF n t) (hp : p < 10) (hc : nq_ws p t (n p) = []) {k w : Nat} {r : List Nat} (hk : k < n p) (hw : nq_ws p t k = w :: r) (hs : nq_sub (t (20 * p + k)) = true) : nq_ws p t (nq_ss p t k) = 3 :: r ∧ nq_IsE p t (nq_ss p t k) (nq_en p t k) ∧ nq_en p t k ≤ n p ∧ nq_ss p t k < n p ∧ k < nq_ss p t k ∧ (¬ t (20 * p + k) < 100 → nq_IsE p t (k + 1) (nq_ss p t k) ∧ nq_ss p t k ≤ n p) := by
  obtain ⟨a1, a2⟩ := nq_subAr hs
  obtain ⟨en1, en2⟩ := nq_enE hW hp hc hk
  have e1 : nq_ws p t (k + 1) = nq_kids (t (20 * p + k)) w ++ r := by simp only [nq_ws, hw]
  rw [a2 w] at e1
  unfold nq_ss
  by_cases h1 : t (20 * p + k) < 100
  · rw [if_pos h1] at a1 e1
    simp only [h1, if_true]
    have l1 := nq_chlt hW hp hc hk (nq_ch0 (t := t) hk) (by rw [a1]; omega)
    obtain ⟨f1, f2⟩ := nq_enE hW hp hc l1
    have g1 := nq_chE hW hp hk (by rw [a1]; exact nq_chs (nq_ch0 hk) f1 f2)
    have g2 := nq_IsEu en1 g1
    rw [g2]
    exact ⟨e1, f1, f2, l1, by omega, fun z => absurd trivial z⟩
  · rw [if_neg h1] at a1 e1
    simp only [h1, if_false]
    have l1 := nq_chlt hW hp hc hk (nq_ch0 (t := t) hk) (by rw [a1]; omega)
    obtain ⟨f1, f2⟩ := nq_enE hW hp hc l1
    have ch1 := nq_chs (nq_ch0 hk) f1 f2
    have l2 := nq_chlt hW hp hc hk ch1 (by rw [a1]; omega)
    obtain ⟨f3, f4⟩ := nq_enE hW hp hc l2
    have g1 := nq_chE hW hp hk (by rw [a1]; exact nq_chs ch1 f3 f4)
    have g2 := nq_IsEu en1 g1
    rw [g2]
    refine ⟨?_, f3, f4, l2, by have := f1.1; omega, fun _ => ⟨f1, f2⟩⟩
    have ho : ∀ d, k + 1 + d ≤ nq_en p t (k + 1) → ∃ iw, nq_ws p t (k + 1 + d) = iw ++ (3 :: r) ∧ (k + 1 + d < nq_en p t (k + 1) → iw ≠ []) ∧ (k + 1 + d = nq_en p t (k + 1) → iw = []) := by
      obtain ⟨q1, q2, q3⟩ := f1
      unfold nq_op at q2 q3
      rw [e1] at q2 q3
      simp only [List.length_append, List.length_cons, List.length_nil] at q2 q3
      intro d
      induction d with
      | zero =>
        intro _
        exact ⟨[0], e1, fun _ => by simp, fun z => by omega⟩
      | succ d ih =>
        intro hd
        obtain ⟨iw, i1, i2, i3⟩ := ih (by omega)
        have hne := i2 (by omega)
        obtain ⟨w', r', g1, g2, ff, w4, t153, kl, es, rl, a3⟩ := nq_wsS hW hp (show k + 1 + d < n p by omega)
        match iw, hne with
        | w'' :: iw', _ =>
          rw [g1, List.cons_append] at i1
          obtain ⟨rfl, rfl⟩ := List.cons.inj i1
          refine ⟨nq_kids (t (20 * p + (k + 1 + d))) w' ++ iw', ?_, fun z => ?_, fun z => ?_⟩
          · rw [show k + 1 + (d + 1) = k + 1 + d + 1 from rfl, g2, List.append_assoc]
          · have := q3 (k + 1 + (d + 1)) (by omega) z
            rw [show k + 1 + (d + 1) = k + 1 + d + 1 from rfl, g2, ← List.append_assoc, List.length_append, List.length_cons] at this
            intro hc
            rw [hc, List.length_nil] at this
            omega
          · rw [← z, show k + 1 + (d + 1) = k + 1 + d + 1 from rfl, g2, ← List.append_assoc, List.length_append, List.length_cons] at q2
            exact List.eq_nil_of_length_eq_zero (by omega)
    have q1 := f1.1
    obtain ⟨iw, i1, i2, i3⟩ := ho (nq_en p t (k + 1) - (k + 1)) (by omega)
    rw [show k + 1 + (nq_en p t (k + 1) - (k + 1)) = nq_en p t (k + 1) by omega] at i1 i3
    rw [i1, i3 rfl]
    rfl
/-! the pure value of a part -/
/-- the stack (without what lies inside subqueries) after the last j tokens -/
def nq_ps (cv : Nat → nq_V) (hv : Nat → Option Nat) (rw : Nat → Nat) (p : Nat) (t : Nat → Nat) (m : Nat) : Nat → List nq_V
  | 0 => []
  | j + 1 => if 2 ≤ (nq_ws p t (m - 1 - j)).headD 0 then nq_ps cv hv rw p t m j
    else if nq_sub (t (20 * p + (m - 1 - j))) = true then nq_sv cv hv t (t (20 * p + (m - 1 - j))) (20 * p + nq_en p t (m - 1 - j)) (nq_en p t (m - 1 - j) - nq_ss p t (m - 1 - j)) ((nq_ps cv hv rw p t m j).headD none) (rw (nq_tbl (t (20 * p + (m - 1 - j))))) :: (nq_ps cv hv rw p t m j).drop (if t (20 * p + (m - 1 - j)) < 100 then 0 else 1)
    else nq_st (nq_leaf cv hv) (t (20 * p + (m - 1 - j))) (nq_ps cv hv rw p t m j)
def nq_pv (cv : Nat → nq_V) (rw n t : Nat → Nat) (p : Nat) (hv : Nat → Option Nat) : nq_V := if n p = 0 then (if p ≤ 3 then some 1 else none) else (nq_ps cv hv rw p t (n p) (n p)).headD none
theorem nq_kids1 : ∀ t, t < 153 → ∀ w, w < 2 → nq_sub t = false → ∀ x, x ∈ nq_kids t w → x < 2 := by decide +kernel
end
end
section
section
variable {sc od nc tp cc gc ac : Int32} {Ce Sk Va An Ov : Nat → Int64} {Rc St Jl Tk Tn Su Ne Ha Cb Jd Go Fm : Nat → Int32}
variable {src dis opn sbt sbr dep mny mor grs fnd kpt : Int32} {ySk yRe ySo yAn : Nat → Int64} {yRo yCe yTo yIl ySz yTk yIn yEn ySu yWc yWi yHa yCo yLo yGo yFi : Nat → Int32}
variable {n t : Nat → Nat} {p s e w0 : Nat} {r : List Nat} {cv : Nat → nq_V} {hv : Nat → Option Nat} {rw : Nat → Nat}
theorem nq_xSubq {post : SX → Prop} {k w : Nat} {a : nq_V} {P R : List (Nat × nq_V)} (hT : nq_TT n t Tn Tk) (hW : nq_WF n t) (hp : p < 10) (hc : nq_ws p t (n p) = []) (hk : k < n p) (hw : nq_ws p t k = w :: r) (hsub : nq_sub (t (20 * p + k)) = true) (hP1 : t (20 * p + k) < 100 → ∃ v, P = [(3, v)]) (hP2 : ¬ t (20 * p + k) < 100 → ∃ v, P = [(0, a), (3, v)]) (hR1 : R.map Prod.fst = r) (hl : P.length + R.length ≤ 20) (hH : nq_HX Ha hv) (h3 : Ha 3 = -1) (hR : ∀ i, i < 3 → rw i ≤ 6 ∧ Rc i = nI (rw i)) (hS : nq_St Sk ((P ++ R).map nq_mx))
    (H : ∀ Sk', nq_St Sk' (nq_c (nq_sv cv hv t (t (20 * p + k)) (20 * p + nq_en p t k) (nq_en p t k - nq_ss p t k) a (rw (nq_tbl (t (20 * p + k))))) :: R.map nq_mx) → post (sc, od, nc, (nI (R.length + 1)), cc, gc, ac, (fun j => nq_e (cv j)), Rc, St, Jl, Tk, Tn, Su, Ne, Ha, Sk', Cb, Jd, Va, Go, Fm, An, Ov)) : wpX_applySubquery post (sc, od, nc, (nI (P.length + R.length)), cc, gc, ac, (fun j => nq_e (cv j)), Rc, St, Jl, Tk, Tn, Su, Ne, Ha, Sk, Cb, Jd, Va, Go, Fm, An, Ov) (nI (20 * p + k)) := by
  have hn := (hW p hp).1
  obtain ⟨g1, g2, g3, g4, g5, g6⟩ := nq_subE hW hp hc hk hw hsub
  have tokr := nq_subT hsub
  obtain ⟨t3, tc⟩ := nq_tbl3 hsub
  have tlt : t (20 * p + k) < 2147483648 := by omega
  have hrl : R.length = r.length := by rw [← hR1, List.length_map]
  have i1 : vp_in (nI (20 * p + k)) 200 := vp_in_nI (by omega) (by decide)
  have c1 : (nI (20 * p + k)).toNatClampNeg = 20 * p + k := nI_clamp (by omega)
  rw [List.map_append] at hS
  have main : ∀ x7, (100 ≤ t (20 * p + k) → x7 = nq_e a) → ∃ f, wX_applySubquery_140 post (nI (t (20 * p + k))) (nq_b (decide (t (20 * p + k) < 100))) (nq_b (decide (130 ≤ t (20 * p + k)))) (nI (20 * p + nq_ss p t k)) (nI (20 * p + nq_en p t k)) x7 (nI (nq_tbl (t (20 * p + k)))) f (nq_c (nq_sv cv hv t (t (20 * p + k)) (20 * p + nq_en p t k) (nq_en p t k - nq_ss p t k) a 0)) 0 sc od nc (nI R.length) cc gc ac (fun j => nq_e (cv j)) Rc St Jl Tk Tn Su Ne Ha Sk Cb Jd Va Go Fm An Ov := by
    intro x7 hx7
    have hp0 : 0 < P.length := by
      by_cases z : t (20 * p + k) < 100
      · obtain ⟨v, rfl⟩ := hP1 z; simp
      · obtain ⟨v, rfl⟩ := hP2 z; simp
    have := nq_x140 (post := post) (M := R.map nq_mx) (x7 := x7) (a := a) hT hW hp hc g1 (by omega) (by omega) g2 g3 (by rw [List.length_map]; omega) (by rw [List.length_map]; omega) hH h3 hR hsub hx7 (by rw [List.length_map]; exact H) (rw (nq_tbl (t (20 * p + k))) + 1) 0 (by omega) (by omega) Ha Sk (fun _ _ => rfl) (nq_St_a hS)
    rw [List.length_map] at this
    exact ⟨_, this⟩
  have n3 : ¬ (3 : Int32) = 0 := by decide
  have nt : ¬ (1 : Int32) = 0 := by decide
  rcases Nat.lt_or_ge (t (20 * p + k)) 100 with l | l
  · obtain ⟨v, rfl⟩ := hP1 l
    have l2 : ¬ 100 ≤ t (20 * p + k) := by omega
    have m1 : t (20 * p + k) < 130 := by omega
    have m2 : ¬ 130 ≤ t (20 * p + k) := by omega
    have es : nq_ss p t k = k + 1 := if_pos l
    have et : nq_tbl (t (20 * p + k)) = t (20 * p + k) - 90 := if_pos l
    have ez : nq_c (nq_sv cv hv t (t (20 * p + k)) (20 * p + nq_en p t k) (nq_en p t k - nq_ss p t k) a 0) = 0 := by simp only [nq_sv, m1, if_true]; rfl
    have d1 : nI (20 * p + k) + 1 = nI (20 * p + nq_ss p t k) := by rw [es]; exact nI_add _ 1
    have d2 : nI (t (20 * p + k)) - 90 = nI (nq_tbl (t (20 * p + k))) := by rw [et]; exact pk_sub (b := 90) (by omega)
    have d3 : nI ([(3, v)].length + R.length) - 1 = nI R.length := by
      rw [List.length_cons, List.length_nil, show 0 + 1 + R.length = R.length + 1 by omega, nI_pred]
    have mm := main (-1099511627776) (fun z => absurd z l2)
    simp only [l, decide_true, nq_bt, m2, decide_false, nq_bf, ez] at mm
    simp only [wpX_applySubquery, i1, c1, (hT p hp).2 k hk, show (nI (t (20 * p + k)) < (100 : Int32)) = ((t (20 * p + k)) < 100) from propext (nI_ltI (b := 100) (tlt) (by decide)), show ((100 : Int32) < nI (t (20 * p + k))) = (100 < (t (20 * p + k))) from propext (nI_ltI (a := 100) (by decide) (tlt)), show (nI (t (20 * p + k)) ≤ (100 : Int32)) = ((t (20 * p + k)) ≤ 100) from propext (nI_leI (b := 100) (tlt) (by decide)), show ((100 : Int32) ≤ nI (t (20 * p + k))) = (100 ≤ (t (20 * p + k))) from propext (nI_leI (a := 100) (by decide) (tlt)), show (nI (t (20 * p + k)) = (100 : Int32)) = ((t (20 * p + k)) = 100) from propext (nI_eq (b := 100) (tlt) (by decide)), show (nI (t (20 * p + k)) < (130 : Int32)) = ((t (20 * p + k)) < 130) from propext (nI_ltI (b := 130) (tlt) (by decide)), show ((130 : Int32) < nI (t (20 * p + k))) = (130 < (t (20 * p + k))) from propext (nI_ltI (a := 130) (by decide) (tlt)), show (nI (t (20 * p + k)) ≤ (130 : Int32)) = ((t (20 * p + k)) ≤ 130) from propext (nI_leI (b := 130) (tlt) (by decide)), show ((130 : Int32) ≤ nI (t (20 * p + k))) = (130 ≤ (t (20 * p + k))) from propext (nI_leI (a := 130) (by decide) (tlt)), show (nI (t (20 * p + k)) = (130 : Int32)) = ((t (20 * p + k)) = 130) from propext (nI_eq (b := 130) (tlt) (by decide)), l2, m1, wX_applySubquery_18, wX_applySubquery_31, wX_applySubquery_50, wX_applySubquery_81, wX_applySubquery_97, wX_applySubquery_121, nt, d1, forall_eq, not_true_eq_false, not_false_eq_true, true_implies, false_implies, implies_true, and_true, true_and, and_self]
    refine nq_xEnd hT hW hp g2 g3 ?_
    simp only [d2, d3]
    exact mm
  · obtain ⟨v, rfl⟩ := hP2 (by omega)
    have l2 : ¬ t (20 * p + k) < 100 := by omega
    have et : nq_tbl (t (20 * p + k)) = (t (20 * p + k) - 100) / 10 % 3 := if_neg l2
    have d0 : nI (20 * p + k) + 1 = nI (20 * p + (k + 1)) := nI_add _ 1
    have d2 : (nI (t (20 * p + k)) - 100) / 10 - (nI (t (20 * p + k)) - 100) / 10 / 3 * 3 = nI (nq_tbl (t (20 * p + k))) := by
      rw [et, show nI (t (20 * p + k)) - 100 = nI (t (20 * p + k) - 100) from pk_sub (b := 100) l, nq_div (by omega)]
      exact pk_rem (d := 3) (by omega) (by decide) (by decide)
    have d3 : nI ([((0 : Nat), a), (3, v)].length + R.length) - 2 = nI R.length := by
      rw [List.length_cons, List.length_cons, List.length_nil, show 0 + 1 + 1 + R.length = R.length + 2 by omega]
      exact (pk_sub (b := 2) (by omega)).trans (congrArg nI (by omega))
    have d4 : nI ([((0 : Nat), a), (3, v)].length + R.length) - 1 = nI (R.length + 1) := by
      rw [List.length_cons, List.length_cons, List.length_nil, show 0 + 1 + 1 + R.length = R.length + 1 + 1 by omega, nI_pred]
    simp only [List.length_cons, List.length_nil] at hl
    have i2 : vp_in (nI (R.length + 1)) 20 := vp_in_nI (by omega) (by decide)
    have c2 : (nI (R.length + 1)).toNatClampNeg = R.length + 1 := nI_clamp (by omega)
    have s1 : Sk (R.length + 1) = nq_e a := by
      have h := hS
      rw [List.map_cons, List.map_cons, List.map_nil, List.cons_append, List.cons_append, List.nil_append] at h
      have := h.1
      rw [List.length_cons, List.length_map] at this
      exact this
    have mm := main (nq_e a) (fun _ => rfl)
    simp only [l2, decide_false, nq_bf] at mm
    rcases Nat.lt_or_ge (t (20 * p + k)) 130 with m | m
    · have m2 : ¬ 130 ≤ t (20 * p + k) := by omega
      have ez : nq_c (nq_sv cv hv t (t (20 * p + k)) (20 * p + nq_en p t k) (nq_en p t k - nq_ss p t k) a 0) = 0 := by simp only [nq_sv, m, if_true]; rfl
      simp only [m2, decide_false, nq_bf, ez] at mm
      simp only [wpX_applySubquery, i1, c1, (hT p hp).2 k hk, show (nI (t (20 * p + k)) < (100 : Int32)) = ((t (20 * p + k)) < 100) from propext (nI_ltI (b := 100) (tlt) (by decide)), show ((100 : Int32) < nI (t (20 * p + k))) = (100 < (t (20 * p + k))) from propext (nI_ltI (a := 100) (by decide) (tlt)), show (nI (t (20 * p + k)) ≤ (100 : Int32)) = ((t (20 * p + k)) ≤ 100) from propext (nI_leI (b := 100) (tlt) (by decide)), show ((100 : Int32) ≤ nI (t (20 * p + k))) = (100 ≤ (t (20 * p + k))) from propext (nI_leI (a := 100) (by decide) (tlt)), show (nI (t (20 * p + k)) = (100 : Int32)) = ((t (20 * p + k)) = 100) from propext (nI_eq (b := 100) (tlt) (by decide)), show (nI (t (20 * p + k)) < (130 : Int32)) = ((t (20 * p + k)) < 130) from propext (nI_ltI (b := 130) (tlt) (by decide)), show ((130 : Int32) < nI (t (20 * p + k))) = (130 < (t (20 * p + k))) from propext (nI_ltI (a := 130) (by decide) (tlt)), show (nI (t (20 * p + k)) ≤ (130 : Int32)) = ((t (20 * p + k)) ≤ 130) from propext (nI_leI (b := 130) (tlt) (by decide)), show ((130 : Int32) ≤ nI (t (20 * p + k))) = (130 ≤ (t (20 * p + k))) from propext (nI_leI (a := 130) (by decide) (tlt)), show (nI (t (20 * p + k)) = (130 : Int32)) = ((t (20 * p + k)) = 130) from propext (nI_eq (b := 130) (tlt) (by decide)), l, m, wX_applySubquery_18, wX_applySubquery_31, d0, forall_eq, not_true_eq_false, not_false_eq_true, true_implies, false_implies, implies_true, and_true, true_and, and_self]
      obtain ⟨q1, q2⟩ := g6 l2
      refine nq_xEnd hT hW hp q1 q2 ?_
      simp only [wX_applySubquery_50]
      refine nq_xEnd hT hW hp g2 g3 ?_
      simp only [wX_applySubquery_81, wX_applySubquery_97, wX_applySubquery_121, d2, d3, d4, i2, c2, s1, n3, nq_tn0, forall_eq, not_true_eq_false, not_false_eq_true, true_implies, false_implies, implies_true, and_true, true_and, and_self]
      exact mm
    · have m2 : ¬ t (20 * p + k) < 130 := by omega
      have ez : nq_c (nq_sv cv hv t (t (20 * p + k)) (20 * p + nq_en p t k) (nq_en p t k - nq_ss p t k) a 0) = 2 := by simp only [nq_sv, m2, if_false]; rfl
      simp only [m, decide_true, nq_bt, ez] at mm
      simp only [wpX_applySubquery, i1, c1, (hT p hp).2 k hk, show (nI (t (20 * p + k)) < (100 : Int32)) = ((t (20 * p + k)) < 100) from propext (nI_ltI (b := 100) (tlt) (by decide)), show ((100 : Int32) < nI (t (20 * p + k))) = (100 < (t (20 * p + k))) from propext (nI_ltI (a := 100) (by decide) (tlt)), show (nI (t (20 * p + k)) ≤ (100 : Int32)) = ((t (20 * p + k)) ≤ 100) from propext (nI_leI (b := 100) (tlt) (by decide)), show ((100 : Int32) ≤ nI (t (20 * p + k))) = (100 ≤ (t (20 * p + k))) from propext (nI_leI (a := 100) (by decide) (tlt)), show (nI (t (20 * p + k)) = (100 : Int32)) = ((t (20 * p + k)) = 100) from propext (nI_eq (b := 100) (tlt) (by decide)), show (nI (t (20 * p + k)) < (130 : Int32)) = ((t (20 * p + k)) < 130) from propext (nI_ltI (b := 130) (tlt) (by decide)), show ((130 : Int32) < nI (t (20 * p + k))) = (130 < (t (20 * p + k))) from propext (nI_ltI (a := 130) (by decide) (tlt)), show (nI (t (20 * p + k)) ≤ (130 : Int32)) = ((t (20 * p + k)) ≤ 130) from propext (nI_leI (b := 130) (tlt) (by decide)), show ((130 : Int32) ≤ nI (t (20 * p + k))) = (130 ≤ (t (20 * p + k))) from propext (nI_leI (a := 130) (by decide) (tlt)), show (nI (t (20 * p + k)) = (130 : Int32)) = ((t (20 * p + k)) = 130) from propext (nI_eq (b := 130) (tlt) (by decide)), l, m2, wX_applySubquery_18, wX_applySubquery_31, d0, forall_eq, not_true_eq_false, not_false_eq_true, true_implies, false_implies, implies_true, and_true, true_and, and_self]
      obtain ⟨q1, q2⟩ := g6 l2
      refine nq_xEnd hT hW hp q1 q2 ?_
      simp only [wX_applySubquery_50]
      refine nq_xEnd hT hW hp g2 g3 ?_
      simp only [wX_applySubquery_81, wX_applySubquery_97, wX_applySubquery_121, d2, d3, d4, i2, c2, s1, n3, nt, nq_tn0, forall_eq, not_true_eq_false, not_false_eq_true, true_implies, false_implies, implies_true, and_true, true_and, and_self]
      exact mm
/-- what the needs say of the next step back: the parts of token k among the pairs, and what stays -/
theorem nq_sel {k w : Nat} {L : List (Nat × nq_V)} (hW : nq_WF n t) (hp : p < 10) (hk : k < n p) (hw : nq_ws p t k = w :: r) (hL : L.map Prod.fst = nq_ws p t (k + 1)) : ∃ K R, L = K ++ R ∧ K.map Prod.fst = nq_kids (t (20 * p + k)) w ∧ R.map Prod.fst = r ∧ K.length = nq_ar (t (20 * p + k)) := by
  obtain ⟨w', r', f1, f2, ff, w4, t153, kl, es, rl, a3⟩ := nq_wsS hW hp hk
  rw [hw] at f1
  obtain ⟨rfl, rfl⟩ := List.cons.inj f1
  rw [f2] at hL
  obtain ⟨K, R, h1, h2, h3, h4, h5⟩ := nq_step (lf := fun _ => none) kl hL
  exact ⟨K, R, h1, h2, h3, h4⟩
def nq_fl (L : List (Nat × nq_V)) : List nq_V := (L.filter (fun q => decide (q.1 < 2))).map Prod.snd
theorem nq_fl_a (K R : List (Nat × nq_V)) : nq_fl (K ++ R) = nq_fl K ++ nq_fl R := by
  unfold nq_fl
  rw [List.filter_append, List.map_append]
theorem nq_fl_in {K : List (Nat × nq_V)} {l : List Nat} (h : K.map Prod.fst = l) (h2 : ∀ x, x ∈ l → 2 ≤ x) : nq_fl K = [] := by
  subst h
  unfold nq_fl
  rw [List.filter_eq_nil_iff.mpr]
  · rfl
  · intro q hq
    have := h2 q.1 (List.mem_map_of_mem hq)
    rw [decide_eq_true_eq]
    omega
theorem nq_fl_out {K : List (Nat × nq_V)} {l : List Nat} (h : K.map Prod.fst = l) (h2 : ∀ x, x ∈ l → x < 2) : nq_fl K = K.map Prod.snd := by
  subst h
  unfold nq_fl
  rw [List.filter_eq_self.mpr]
  intro q hq
  rw [decide_eq_true_eq]
  exact h2 q.1 (List.mem_map_of_mem hq)
theorem nq_xEval {post : Int64 → SX → Prop} (hT : nq_TT n t Tn Tk) (hW : nq_WF n t) (hp : p < 10) (hc : 0 < n p → nq_ws p t (n p) = []) (hH : nq_HX Ha hv) (h3 : Ha 3 = -1) (hR : ∀ i, i < 3 → rw i ≤ 6 ∧ Rc i = nI (rw i)) (H : ∀ tp' Sk', post (nq_x (if p ≤ 3 then 1 else 0) (nq_pv cv rw n t p hv)) (sc, od, nc, tp', cc, gc, ac, (fun j => nq_e (cv j)), Rc, St, Jl, Tk, Tn, Su, Ne, Ha, Sk', Cb, Jd, Va, Go, Fm, An, Ov)) : wpX_evaluate post (sc, od, nc, tp, cc, gc, ac, (fun j => nq_e (cv j)), Rc, St, Jl, Tk, Tn, Su, Ne, Ha, Sk, Cb, Jd, Va, Go, Fm, An, Ov) (nI p) := by
  have hn := (hW p hp).1
  have ip : vp_in (nI p) 10 := vp_in_nI hp (by decide)
  have cp : (nI p).toNatClampNeg = p := nI_clamp (by omega)
  have nt : ¬ (1 : Int32) = 0 := by decide
  unfold nq_pv at H
  rcases Nat.eq_zero_or_pos (n p) with h0 | h0
  · simp only [h0, if_true] at H
    simp only [wpX_evaluate, ip, cp, (hT p hp).1, h0, nI_0, nq_xCp hp, nq_b0, decide_eq_false_iff_not, forall_eq, not_true_eq_false, not_false_eq_true, true_implies, false_implies, implies_true, and_true, true_and, and_self]
    by_cases z : p ≤ 3
    · simp only [z, if_true] at H
      simp only [z, forall_eq, not_true_eq_false, not_false_eq_true, true_implies, false_implies, implies_true, and_true, true_and, and_self]
      exact H _ _
    · simp only [z, if_false] at H
      simp only [z, forall_eq, not_true_eq_false, not_false_eq_true, true_implies, false_implies, implies_true, and_true, true_and, and_self]
      exact H _ _
  · have hc := hc h0
    have h0' : ¬ n p = 0 := by omega
    have n0 : ¬ nI (n p) = 0 := nI_ne0 h0 (by omega)
    have e1 : nI p * 20 = nI (20 * p) := by
      simp only [nq_i20, pk_mul]
      exact congrArg nI (by omega)
    simp only [h0', if_false] at H
    simp only [wpX_evaluate, ip, cp, (hT p hp).1, n0, e1, nI_add, forall_eq, not_true_eq_false, not_false_eq_true, true_implies, false_implies, implies_true, and_true, true_and, and_self]
    have key : ∀ k, k ≤ n p → ∀ f, k < f → ∀ (L : List (Nat × nq_V)) Sk, L.map Prod.fst = nq_ws p t k → nq_fl L = nq_ps cv hv rw p t (n p) (n p - k) → nq_St Sk (L.map nq_mx) → wX_evaluate_45 post (nI (20 * p)) f (nI (20 * p + k) - 1) sc od nc (nI L.length) cc gc ac (fun j => nq_e (cv j)) Rc St Jl Tk Tn Su Ne Ha Sk Cb Jd Va Go Fm An Ov := by
      intro k
      induction k with
      | zero =>
        intro _ f hf L Sk hL hv2 hS
        obtain ⟨f, rfl⟩ : ∃ g, f = g + 1 := ⟨f - 1, by omega⟩
        have x1 : nI (20 * p + 0) - 1 < nI (20 * p) := by
          rw [Nat.add_zero]
          rcases Nat.eq_zero_or_pos (20 * p) with z | z
          · rw [z]; decide
          · rw [show nI (20 * p) - 1 = nI (20 * p - 1) from pk_sub (b := 1) z]
            exact nI_lt (by omega) (by omega)
        have hL2 : L.map Prod.fst = [if p ≤ 3 then 1 else 0] := hL
        obtain ⟨⟨w, v⟩, rfl, hwe⟩ := nq_1l hL2
        have hw2 : w < 2 := by
          have : w = if p ≤ 3 then 1 else 0 := hwe
          rw [this]; split <;> omega
        have hv3 : nq_ps cv hv rw p t (n p) (n p) = [v] := by
          rw [show n p - 0 = n p from rfl] at hv2
          rw [← hv2, nq_fl_out (l := [w]) rfl (fun x hx => by rw [List.mem_singleton] at hx; omega)]
          rfl
        rw [hv3] at H
        have s1 : Sk 0 = nq_x w v := hS.1
        simp only [wX_evaluate_45, x1, s1, forall_eq, not_true_eq_false, not_false_eq_true, true_implies, false_implies, implies_true, and_true, true_and, and_self]
        rw [show w = if p ≤ 3 then 1 else 0 from hwe]
        exact H _ _
      | succ k ih =>
        intro hk f hf L Sk hL hv2 hS
        obtain ⟨f, rfl⟩ : ∃ g, f = g + 1 := ⟨f - 1, by omega⟩
        obtain ⟨w, r', f1, f2, ff, w4, t153, kl, es, rl, a3⟩ := nq_wsS hW hp (show k < n p by omega)
        obtain ⟨K, R, rfl, gK, gR, gl⟩ := nq_sel hW hp (show k < n p by omega) f1 hL
        have o1 := nq_oplt hW hp hc (n p - (k + 1)) (by omega)
        have o2 := nq_oplt hW hp hc (n p - k) (by omega)
        unfold nq_op at o1 o2
        rw [show n p - (n p - (k + 1)) = k + 1 by omega, ← hL, List.length_map, List.length_append] at o1
        rw [show n p - (n p - k) = k by omega, f1, List.length_cons, ← gR, List.length_map] at o2
        have x0 : nI (20 * p + (k + 1)) - 1 = nI (20 * p + k) := nI_pred (20 * p + k)
        have x1 : ¬ nI (20 * p + k) < nI (20 * p) := nI_nlt (by omega) (by omega)
        have i1 : vp_in (nI (20 * p + k)) 200 := vp_in_nI (by omega) (by decide)
        have c1 : (nI (20 * p + k)).toNatClampNeg = 20 * p + k := nI_clamp (by omega)
        have e2 : nI (20 * p + k) + (-1) = nI (20 * p + k) - 1 := by grind
        have ej : n p - k = n p - (k + 1) + 1 := by omega
        have ek : n p - 1 - (n p - (k + 1)) = k := by omega
        have hh : (nq_ws p t k).headD 0 = w := by rw [f1]; rfl
        have tlt : t (20 * p + k) < 2147483648 := by omega
        rcases Bool.eq_false_or_eq_true (nq_sub (t (20 * p + k))) with hsub | hsub
        · have hw2 : w < 2 := es.resolve_left (by rw [hsub]; decide)
          obtain ⟨a1, a2⟩ := nq_subAr hsub
          rw [a2 w] at gK
          have w1 : w % 2 = 1 := by
            apply Classical.byContradiction
            intro hz
            have h4 := (nq_fitEC ff).2 hz
            have h5 := nq_subT hsub
            unfold nq_isE nq_col at h4
            rw [Bool.or_eq_true, decide_eq_true_eq, decide_eq_true_eq] at h4
            omega
          obtain ⟨a, hP1, hP2, hfl⟩ : ∃ a, (t (20 * p + k) < 100 → ∃ v, K = [(3, v)]) ∧ (¬ t (20 * p + k) < 100 → ∃ v, K = [(0, a), (3, v)]) ∧ nq_ps cv hv rw p t (n p) (n p - k) = nq_sv cv hv t (t (20 * p + k)) (20 * p + nq_en p t k) (nq_en p t k - nq_ss p t k) a (rw (nq_tbl (t (20 * p + k)))) :: nq_fl R := by
            rw [ej]
            simp only [nq_ps, ek, hh, show ¬ 2 ≤ w by omega, hsub, if_false, if_true, ← hv2, nq_fl_a]
            by_cases l : t (20 * p + k) < 100
            · rw [if_pos l] at gK
              obtain ⟨⟨w3, v⟩, rfl, h3⟩ := nq_1l gK
              cases h3
              exact ⟨_, fun _ => ⟨v, rfl⟩, fun z => absurd l z, by simp only [l, if_true, List.drop_zero]; rfl⟩
            · rw [if_neg l] at gK
              obtain ⟨⟨w2, a⟩, ⟨w3, v⟩, rfl, h2, h3⟩ := nq_2l gK
              cases h2
              cases h3
              exact ⟨a, fun z => absurd z l, fun _ => ⟨v, rfl⟩, by simp only [l, if_false]; rfl⟩
          simp only [wX_evaluate_45, x0, x1, i1, c1, (hT p hp).2 k (by omega), nq_xSub tlt, hsub, nq_bt, nt, e2, List.length_append, forall_eq, not_true_eq_false, not_false_eq_true, true_implies, false_implies, implies_true, and_true, true_and, and_self]
          refine nq_xSubq hT hW hp hc (by omega) f1 hsub hP1 hP2 gR (by omega) hH h3 hR hS fun Sk' hS' => ?_
          have := ih (by omega) f (by omega) ((w, nq_sv cv hv t (t (20 * p + k)) (20 * p + nq_en p t k) (nq_en p t k - nq_ss p t k) a (rw (nq_tbl (t (20 * p + k))))) :: R) Sk' (by rw [List.map_cons, gR, f1]) (by
            rw [hfl]
            unfold nq_fl
            rw [List.filter_cons_of_pos (by simp; omega)]
            rfl) (by
            rw [List.map_cons]
            unfold nq_mx nq_x
            simp only [w1, if_true]
            exact hS')
          rw [List.length_cons] at this
          exact this
        · simp only [wX_evaluate_45, x0, x1, i1, c1, (hT p hp).2 k (by omega), nq_xSub tlt, hsub, nq_bf, e2, forall_eq, not_true_eq_false, not_false_eq_true, true_implies, false_implies, implies_true, and_true, true_and, and_self]
          rw [List.map_append] at hS
          have ll : (K ++ R).length = K.length + (R.map nq_mx).length := by rw [List.length_append, List.length_map]
          rw [ll]
          refine nq_xApply hH ff hsub gK (by rw [List.length_map]; omega) (by rw [List.length_map]; omega) hS fun Sk' hS' => ?_
          have := ih (by omega) f (by omega) ((w, nq_rs (nq_leaf cv hv) (t (20 * p + k)) (K.map Prod.snd)) :: R) Sk' (by rw [List.map_cons, gR, f1]) (by
            rw [ej]
            simp only [nq_ps, ek, hh, hsub, ← hv2, nq_fl_a]
            by_cases hw2 : 2 ≤ w
            · rw [if_pos hw2, nq_fl_in gK (nq_kids2 _ t153 w w4 hw2 hsub), List.nil_append]
              unfold nq_fl
              rw [List.filter_cons_of_neg (by simp; omega)]
            · rw [if_neg hw2, if_neg (by decide), nq_fl_out gK (nq_kids1 _ t153 w (by omega) hsub)]
              unfold nq_st
              rw [List.take_left' (by rw [List.length_map, gl]), List.drop_left' (by rw [List.length_map, gl])]
              unfold nq_fl
              rw [List.filter_cons_of_pos (by simp; omega)]
              rfl) hS'
          rw [List.length_cons] at this
          rw [List.length_map]
          exact this
    have hcl : ([] : List (Nat × nq_V)).map Prod.fst = nq_ws p t (n p) := by rw [hc]; rfl
    have := key (n p) (Nat.le_refl _) (n p + 1) (by omega) [] Sk hcl (by rw [Nat.sub_self]; rfl) trivial
    exact ⟨_, this⟩
end
end
section
section
variable {sc od nc tp cc gc ac : Int32} {Ce Sk Va An Ov : Nat → Int64} {Rc St Jl Tk Tn Su Ne Ha Cb Jd Go Fm : Nat → Int32}
variable {src dis opn sbt sbr dep mny mor grs fnd kpt : Int32} {ySk yRe ySo yAn : Nat → Int64} {yRo yCe yTo yIl ySz yTk yIn yEn ySu yWc yWi yHa yCo yLo yGo yFi : Nat → Int32}
variable {n t : Nat → Nat} {p s e w0 : Nat} {r : List Nat} {cv : Nat → nq_V} {h hv : Nat → Option Nat} {rw tb : Nat → Nat}
theorem nq_y25 {post : SY → Prop} {J14 : Int32 → (Nat → Int32) → (Nat → Int32) → (Nat → Int32) → (Nat → Int32) → (Nat → Int32) → (Nat → Int32) → (Nat → Int32) → (Nat → Int32) → (Nat → Int32) → (Nat → Int32) → (Nat → Int32) → (Nat → Int32) → (Nat → Int64) → (Nat → Int32) → (Nat → Int32) → (Nat → Int32) → (Nat → Int32) → (Nat → Int64) → (Nat → Int64) → (Nat → Int64) → Prop} {i : Nat} (hT : nq_TT n t ySz yTk) (hW : nq_WF n t) (hp : p < 10) (hc : nq_ws p t (n p) = []) (hi : i < n p) (hA : ∀ k, i < k → k < n p → yEn (20 * p + k) = nI (nq_en p t k)) (H : J14 (nI i - 1) yRo yCe yTo yIl ySz yTk yIn (upd yEn (20 * p + i) (nI (nq_en p t i))) ySu yWc yWi yHa ySk yCo yLo yGo yFi yRe ySo yAn) : ∀ f c x, c ≤ nq_ar (t (20 * p + i)) → nq_ar (t (20 * p + i)) - c < f → nq_Ch n p t i c x → wY_mark_25 post J14 (nI p) (nI i) src dis opn sbt sbr dep mny mor grs fnd kpt yRo yCe yTo yIl ySz yTk yIn yEn ySu yWc yWi yHa ySk yCo yLo yGo yFi yRe ySo yAn f (nI x) (nI c) := by
  have hn := (hW p hp).1
  have t153 := (nq_opS hW hp hi).2.2
  have tlt : t (20 * p + i) < 2147483648 := by omega
  have a3 := nq_arle (t (20 * p + i))
  have e0 : 20 * nI p + nI i = nI (20 * p + i) := by simp only [nq_i20, pk_mul, nI_add]
  have i0 : vp_in (nI (20 * p + i)) 200 := vp_in_nI (by omega) (by decide)
  have c0 : (nI (20 * p + i)).toNatClampNeg = 20 * p + i := nI_clamp (by omega)
  have e2 : nI i + (-1) = nI i - 1 := by grind
  intro f
  induction f with
  | zero => intro c x _ h; omega
  | succ f ih =>
    intro c x hca hf hC
    rcases Nat.lt_or_ge c (nq_ar (t (20 * p + i))) with z | z
    · have z3 : ¬ nI (nq_ar (t (20 * p + i))) ≤ nI c := nI_ge z (by omega)
      have xl := nq_chlt hW hp hc hi hC z
      obtain ⟨en1, en2⟩ := nq_enE hW hp hc xl
      have e1 : 20 * nI p + nI x = nI (20 * p + x) := by simp only [nq_i20, pk_mul, nI_add]
      have i1 : vp_in (nI (20 * p + x)) 200 := vp_in_nI (by omega) (by decide)
      have c1 : (nI (20 * p + x)).toNatClampNeg = 20 * p + x := nI_clamp (by omega)
      simp only [wY_mark_25, e0, i0, c0, (hT p hp).2 i hi, nq_yAr tlt, z3, e1, i1, c1, hA x hC.1 xl, nI_1, forall_eq, not_true_eq_false, not_false_eq_true, true_implies, false_implies, implies_true, and_true, true_and, and_self]
      exact ih (c + 1) _ (by omega) (by omega) (nq_chs hC en1 en2)
    · have : c = nq_ar (t (20 * p + i)) := by omega
      subst this
      have z3 : nI (nq_ar (t (20 * p + i))) ≤ nI (nq_ar (t (20 * p + i))) := nI_le (Nat.le_refl _) (by omega)
      have ee := nq_IsEu (nq_chE hW hp hi hC) (nq_enE hW hp hc hi).1
      subst ee
      simp only [wY_mark_25, e0, i0, c0, (hT p hp).2 i hi, nq_yAr tlt, z3, e2, forall_eq, not_true_eq_false, not_false_eq_true, true_implies, false_implies, implies_true, and_true, true_and, and_self]
      exact H
theorem nq_yMark {post : SY → Prop} (hT : nq_TT n t ySz yTk) (hW : nq_WF n t) (hp : p < 10) (hc : 0 < n p → nq_ws p t (n p) = []) (H : ∀ opn' yIn' yWc' yWi' yEn', nq_In n t p yIn' → (∀ j, (j < 20 * p ∨ 20 * p + 20 ≤ j) → yIn' j = yIn j) → (∀ k, k < n p → yEn' (20 * p + k) = nI (nq_en p t k)) → (∀ j, (j < 20 * p ∨ 20 * p + 20 ≤ j) → yEn' j = yEn j) → post (src, dis, opn', sbt, sbr, dep, mny, mor, grs, fnd, kpt, yRo, yCe, yTo, yIl, ySz, yTk, yIn', yEn', ySu, yWc', yWi', yHa, ySk, yCo, yLo, yGo, yFi, yRe, ySo, yAn)) : wpY_mark post (src, dis, opn, sbt, sbr, dep, mny, mor, grs, fnd, kpt, yRo, yCe, yTo, yIl, ySz, yTk, yIn, yEn, ySu, yWc, yWi, yHa, ySk, yCo, yLo, yGo, yFi, yRe, ySo, yAn) (nI p) := by
  have hn := (hW p hp).1
  have ip : vp_in (nI p) 10 := vp_in_nI hp (by decide)
  have cp : (nI p).toNatClampNeg = p := nI_clamp (by omega)
  simp only [wpY_mark]
  refine nq_yScan hT hW hp fun yIn' yWc' yWi' hS' hI hO => ?_
  simp only [ip, cp, (hT p hp).1, forall_eq, not_true_eq_false, not_false_eq_true, true_implies, false_implies, implies_true, and_true, true_and, and_self]
  have key : ∀ i, i ≤ n p → ∀ f, i < f → ∀ yEn', (∀ k, i ≤ k → k < n p → yEn' (20 * p + k) = nI (nq_en p t k)) → (∀ j, (j < 20 * p ∨ 20 * p + 20 ≤ j) → yEn' j = yEn j) → wY_mark_14 post (nI p) src dis (nI (nq_ws p t (n p)).length) sbt sbr dep mny mor grs fnd kpt f (nI i - 1) yRo yCe yTo yIl ySz yTk yIn' yEn' ySu yWc' yWi' yHa ySk yCo yLo yGo yFi yRe ySo yAn := by
    intro i
    induction i with
    | zero =>
      intro _ f hf yEn' hA hB
      obtain ⟨f, rfl⟩ : ∃ g, f = g + 1 := ⟨f - 1, by omega⟩
      have x1 : nI 0 - 1 < 0 := by decide
      simp only [wY_mark_14, x1, forall_eq, not_true_eq_false, not_false_eq_true, true_implies, false_implies, implies_true, and_true, true_and, and_self]
      exact H _ _ _ _ _ hI hO (fun k hk => hA k (by omega) hk) hB
    | succ i ih =>
      intro hi f hf yEn' hA hB
      obtain ⟨f, rfl⟩ : ∃ g, f = g + 1 := ⟨f - 1, by omega⟩
      have x0 : nI (i + 1) - 1 = nI i := nI_pred i
      have x1 : ¬ nI i < 0 := nI_pos (by omega)
      simp only [wY_mark_14, x0, x1, nI_1, forall_eq, not_true_eq_false, not_false_eq_true, true_implies, false_implies, implies_true, and_true, true_and, and_self]
      refine ⟨4, nq_y25 hT hW hp (hc (by omega)) (show i < n p by omega) (fun k h1 h2 => hA k (by omega) h2) ?_ 4 0 (i + 1) (by omega) (by have := nq_arle (t (20 * p + i)); omega) (nq_ch0 (by omega))⟩
      refine ih (by omega) f (by omega) _ (fun k h1 h2 => ?_) (fun j hj => ?_)
      · by_cases z : k = i
        · rw [z, pk_us]
        · rw [pk_un (by omega)]
          exact hA k (by omega) h2
      · rw [pk_un (by omega)]
        exact hB j hj
  exact ⟨_, key (n p) (Nat.le_refl _) (n p + 1) (by omega) yEn (fun k h1 h2 => by omega) (fun j _ => rfl)⟩
/-! the reference's subquery -/
def nq_FL (tok : Nat) (so su un : Bool) (v : nq_V) : Prop :=
  if tok < 100 then v = nq_B so else if tok < 130 then v = (if su = true then some 1 else if un = true then none else some 0) else v = (if su = true then some 0 else if un = true then none else some 1)
def nq_told (v : nq_V) : Int32 := match v with
  | none => 2
  | some x => x
theorem nq_FLs {tok : Nat} {so su un : Bool} {v a c : nq_V} (h : nq_FL tok so su un v) : nq_FL tok true (su || decide (nq_told (if 130 ≤ tok then nq_less a c else nq_same a c) = if 130 ≤ tok then 0 else 1)) (un || decide (nq_told (if 130 ≤ tok then nq_less a c else nq_same a c) = 2)) (if tok < 100 then some 1 else if tok < 130 then nq_or v (nq_same a c) else nq_and v (nq_less a c)) := by
  unfold nq_FL at h ⊢
  by_cases l : tok < 100
  · simp only [l, if_true]
    rfl
  · simp only [l, if_false] at h ⊢
    by_cases m : tok < 130
    · have m2 : ¬ 130 ≤ tok := by omega
      simp only [m, m2, if_true, if_false] at h ⊢
      subst h
      rcases nq_same01 a c with h | h | h <;> rw [h] <;> cases su <;> cases un <;> decide
    · have m2 : 130 ≤ tok := by omega
      simp only [m, m2, if_true, if_false] at h ⊢
      subst h
      rcases nq_less01 a c with h | h | h <;> rw [h] <;> cases su <;> cases un <;> decide
theorem nq_y216 {post : Int64 → SY → Prop} {J121 : Int32 → Int32 → Int32 → Int32 → Int32 → Int32 → Int32 → Int32 → Int32 → Int32 → Int32 → Int32 → Int32 → Int32 → Int32 → (Nat → Int32) → (Nat → Int32) → (Nat → Int32) → (Nat → Int32) → (Nat → Int32) → (Nat → Int32) → (Nat → Int32) → (Nat → Int32) → (Nat → Int32) → (Nat → Int32) → (Nat → Int32) → (Nat → Int32) → (Nat → Int64) → (Nat → Int32) → (Nat → Int32) → (Nat → Int32) → (Nat → Int32) → (Nat → Int64) → (Nat → Int64) → (Nat → Int64) → Prop} {x1 x2 x4 x5 x6 x9 x13 told : Int32} {x7 : Int64} {tok : Nat} {su un : Bool} (ht : tok < 2147483648) (H : J121 1 (nq_b (su || decide (told = if 130 ≤ tok then 0 else 1))) (nq_b (un || decide (told = 2))) (x13 + 1) src dis opn sbt sbr dep mny mor grs fnd kpt yRo yCe yTo yIl ySz yTk yIn yEn ySu yWc yWi yHa ySk yCo yLo yGo yFi yRe ySo yAn) : wY_subquery_216 post J121 x1 x2 (nI tok) x4 x5 x6 x7 x9 (nq_b su) (nq_b un) x13 told src dis opn sbt sbr dep mny mor grs fnd kpt yRo yCe yTo yIl ySz yTk yIn yEn ySu yWc yWi yHa ySk yCo yLo yGo yFi yRe ySo yAn := by
  simp only [wY_subquery_216, wY_subquery_240, wY_subquery_243, wY_subquery_248, nq_b0, show (nI (tok) < (130 : Int32)) = ((tok) < 130) from propext (nI_ltI (b := 130) (ht) (by decide)), show ((130 : Int32) < nI (tok)) = (130 < (tok)) from propext (nI_ltI (a := 130) (by decide) (ht)), show (nI (tok) ≤ (130 : Int32)) = ((tok) ≤ 130) from propext (nI_leI (b := 130) (ht) (by decide)), show ((130 : Int32) ≤ nI (tok)) = (130 ≤ (tok)) from propext (nI_leI (a := 130) (by decide) (ht)), show (nI (tok) = (130 : Int32)) = ((tok) = 130) from propext (nI_eq (b := 130) (ht) (by decide)), forall_eq, not_true_eq_false, not_false_eq_true, true_implies, false_implies, implies_true, and_true, true_and, and_self]
  by_cases m : 130 ≤ tok
  · simp only [m, if_true] at H
    simp only [m, forall_eq, not_true_eq_false, not_false_eq_true, true_implies, false_implies, implies_true, and_true, true_and, and_self]
    cases su
    · by_cases t0 : told = 0
      · simp only [t0, decide_true, Bool.or_true] at H
        simp only [t0, forall_eq, not_true_eq_false, not_false_eq_true, true_implies, false_implies, implies_true, and_true, true_and, and_self]
        cases un
        · simp only [show ¬ (0 : Int32) = 2 from by decide, decide_false, Bool.or_false] at H
          simp only [show ¬ (0 : Int32) = 2 from by decide, forall_eq, not_true_eq_false, not_false_eq_true, true_implies, false_implies, implies_true, and_true, true_and, and_self]
          exact H
        · simp only [Bool.true_or] at H
          simp only [reduceCtorEq, forall_eq, not_true_eq_false, not_false_eq_true, true_implies, false_implies, implies_true, and_true, true_and, and_self]
          exact H
      · simp only [t0, decide_false, Bool.or_false] at H
        simp only [t0, forall_eq, not_true_eq_false, not_false_eq_true, true_implies, false_implies, implies_true, and_true, true_and, and_self]
        cases un
        · by_cases t2 : told = 2
          · simp only [t2, decide_true, Bool.or_true] at H
            simp only [t2, forall_eq, not_true_eq_false, not_false_eq_true, true_implies, false_implies, implies_true, and_true, true_and, and_self]
            exact H
          · simp only [t2, decide_false, Bool.or_false] at H
            simp only [t2, forall_eq, not_true_eq_false, not_false_eq_true, true_implies, false_implies, implies_true, and_true, true_and, and_self]
            exact H
        · simp only [Bool.true_or] at H
          simp only [reduceCtorEq, forall_eq, not_true_eq_false, not_false_eq_true, true_implies, false_implies, implies_true, and_true, true_and, and_self]
          exact H
    · simp only [Bool.true_or] at H
      simp only [reduceCtorEq, forall_eq, not_true_eq_false, not_false_eq_true, true_implies, false_implies, implies_true, and_true, true_and, and_self]
      cases un
      · by_cases t2 : told = 2
        · simp only [t2, decide_true, Bool.or_true] at H
          simp only [t2, forall_eq, not_true_eq_false, not_false_eq_true, true_implies, false_implies, implies_true, and_true, true_and, and_self]
          exact H
        · simp only [t2, decide_false, Bool.or_false] at H
          simp only [t2, forall_eq, not_true_eq_false, not_false_eq_true, true_implies, false_implies, implies_true, and_true, true_and, and_self]
          exact H
      · simp only [Bool.true_or] at H
        simp only [reduceCtorEq, forall_eq, not_true_eq_false, not_false_eq_true, true_implies, false_implies, implies_true, and_true, true_and, and_self]
        exact H
  · simp only [m, if_false] at H
    simp only [m, forall_eq, not_true_eq_false, not_false_eq_true, true_implies, false_implies, implies_true, and_true, true_and, and_self]
    cases su
    · by_cases t0 : told = 1
      · simp only [t0, decide_true, Bool.or_true] at H
        simp only [t0, forall_eq, not_true_eq_false, not_false_eq_true, true_implies, false_implies, implies_true, and_true, true_and, and_self]
        cases un
        · simp only [show ¬ (1 : Int32) = 2 from by decide, decide_false, Bool.or_false] at H
          simp only [show ¬ (1 : Int32) = 2 from by decide, forall_eq, not_true_eq_false, not_false_eq_true, true_implies, false_implies, implies_true, and_true, true_and, and_self]
          exact H
        · simp only [Bool.true_or] at H
          simp only [reduceCtorEq, forall_eq, not_true_eq_false, not_false_eq_true, true_implies, false_implies, implies_true, and_true, true_and, and_self]
          exact H
      · simp only [t0, decide_false, Bool.or_false] at H
        simp only [t0, forall_eq, not_true_eq_false, not_false_eq_true, true_implies, false_implies, implies_true, and_true, true_and, and_self]
        cases un
        · by_cases t2 : told = 2
          · simp only [t2, decide_true, Bool.or_true] at H
            simp only [t2, forall_eq, not_true_eq_false, not_false_eq_true, true_implies, false_implies, implies_true, and_true, true_and, and_self]
            exact H
          · simp only [t2, decide_false, Bool.or_false] at H
            simp only [t2, forall_eq, not_true_eq_false, not_false_eq_true, true_implies, false_implies, implies_true, and_true, true_and, and_self]
            exact H
        · simp only [Bool.true_or] at H
          simp only [reduceCtorEq, forall_eq, not_true_eq_false, not_false_eq_true, true_implies, false_implies, implies_true, and_true, true_and, and_self]
          exact H
    · simp only [Bool.true_or] at H
      simp only [reduceCtorEq, forall_eq, not_true_eq_false, not_false_eq_true, true_implies, false_implies, implies_true, and_true, true_and, and_self]
      cases un
      · by_cases t2 : told = 2
        · simp only [t2, decide_true, Bool.or_true] at H
          simp only [t2, forall_eq, not_true_eq_false, not_false_eq_true, true_implies, false_implies, implies_true, and_true, true_and, and_self]
          exact H
        · simp only [t2, decide_false, Bool.or_false] at H
          simp only [t2, forall_eq, not_true_eq_false, not_false_eq_true, true_implies, false_implies, implies_true, and_true, true_and, and_self]
          exact H
      · simp only [Bool.true_or] at H
        simp only [reduceCtorEq, forall_eq, not_true_eq_false, not_false_eq_true, true_implies, false_implies, implies_true, and_true, true_and, and_self]
        exact H
end
end
section
section
variable {sc od nc tp cc gc ac : Int32} {Ce Sk Va An Ov : Nat → Int64} {Rc St Jl Tk Tn Su Ne Ha Cb Jd Go Fm : Nat → Int32}
variable {src dis opn sbt sbr dep mny mor grs fnd kpt : Int32} {ySk yRe ySo yAn : Nat → Int64} {yRo yCe yTo yIl ySz yTk yIn yEn ySu yWc yWi yHa yCo yLo yGo yFi : Nat → Int32}
variable {n t : Nat → Nat} {p s e w0 : Nat} {r : List Nat} {cv : Nat → nq_V} {h hv : Nat → Option Nat} {rw tb : Nat → Nat}
theorem nq_HY3 {q : Nat} (hH : nq_HY yHa yTo tb h hv) : nq_HY yHa yTo tb h (nq_h3 hv q) := by
  intro s hs
  obtain ⟨a1, a2, a3, a4, a5⟩ := hH s hs
  refine ⟨a1, a2, a3, a4, ?_⟩
  unfold nq_h3
  rw [if_neg (by omega), a5]
theorem nq_svx {tok e d : Nat} {a a' : nq_V} (h1 : tok < 100) : ∀ i, nq_sv cv hv t tok e d a i = nq_sv cv hv t tok e d a' i := by
  intro i
  induction i with
  | zero => rfl
  | succ i ih => simp only [nq_sv, h1, if_true, ih]
theorem nq_toldm (v : nq_V) : (match v with | none => (2 : Int32) | some x => x) = nq_told v := by cases v <;> rfl
theorem nq_y121 {post : Int64 → SY → Prop} {k tok code : Nat} {a : nq_V} {M : List Int64} (hT : nq_TT n t ySz yTk) (hW : nq_WF n t) (hp : p < 10) (hc : nq_ws p t (n p) = []) (hk : k < n p) (hs : nq_ws p t s = w0 :: r) (hw0 : 2 ≤ w0) (hw1 : w0 % 2 = 1) (hE : nq_IsE p t s e) (hen : e ≤ n p) (hM : M.length ≤ r.length) (hcv : ∀ j, cv j ≠ some 1000) (hH : nq_HY yHa yTo tb h hv) (hR : ∀ i, i < 3 → rw i ≤ 6 ∧ yRo i = nI (rw i)) (hsub : nq_sub tok = true) (hend : yEn (20 * p + k) = nI e) (hcd : code < 1000) (hcode : code % 10 < 3 ∧ (¬ tok < 100 → code % 10 = tok % 10))
    (H : ∀ sbt' sbr' ySk', nq_St ySk' M → post (nq_d (nq_sv cv hv t tok (20 * p + e) (e - s) a (rw (nq_tbl tok)))) (src, dis, opn, sbt', sbr', (nI M.length), mny, mor, grs, fnd, kpt, yRo, (fun j => nq_k (cv j)), yTo, yIl, ySz, yTk, yIn, yEn, ySu, yWc, yWi, yHa, ySk', yCo, yLo, yGo, yFi, yRe, ySo, yAn)) :
    ∀ f i, i ≤ rw (nq_tbl tok) → rw (nq_tbl tok) - i < f → ∀ so su un sbt sbr ySk, nq_FL tok so su un (nq_sv cv hv t tok (20 * p + e) (e - s) a i) → nq_St ySk M → wY_subquery_121 post (nI p) (nI k) (nI tok) (nq_b (decide (tok < 100))) (nI s) (nI code) (nq_f a) (nI (nq_tbl tok)) f (nq_b so) (nq_b su) (nq_b un) (nI i) src dis opn sbt sbr (nI M.length) mny mor grs fnd kpt yRo (fun j => nq_k (cv j)) yTo yIl ySz yTk yIn yEn ySu yWc yWi yHa ySk yCo yLo yGo yFi yRe ySo yAn := by
  have hn := (hW p hp).1
  obtain ⟨t3, tc⟩ := nq_tbl3 hsub
  have tokr := nq_subT hsub
  have tlt : tok < 2147483648 := by omega
  have i3 : vp_in (nI (nq_tbl tok)) 3 := vp_in_nI t3 (by decide)
  have c3 : (nI (nq_tbl tok)).toNatClampNeg = nq_tbl tok := nI_clamp (by omega)
  obtain ⟨r6, hr⟩ := hR (nq_tbl tok) t3
  have ek : 20 * nI p + nI k = nI (20 * p + k) := by simp only [nq_i20, pk_mul, nI_add]
  have ik : vp_in (nI (20 * p + k)) 200 := vp_in_nI (by omega) (by decide)
  have ck : (nI (20 * p + k)).toNatClampNeg = 20 * p + k := nI_clamp (by omega)
  have e1 : 20 * nI p + nI s = nI (20 * p + s) := by simp only [nq_i20, pk_mul, nI_add]
  have e2 : 20 * nI p + nI e = nI (20 * p + e) := by simp only [nq_i20, pk_mul, nI_add]
  intro f
  induction f with
  | zero => intro q _ h; omega
  | succ f ih =>
    intro i hi hf so su un sbt sbr ySk hF hS
    rcases Nat.lt_or_ge i (rw (nq_tbl tok)) with z | z
    · have z3 : ¬ nI (rw (nq_tbl tok)) ≤ nI i := nI_ge z (by omega)
      simp only [wY_subquery_121, i3, c3, hr, z3, ek, ik, ck, e1, hend, e2, nI_1, forall_eq, not_true_eq_false, not_false_eq_true, true_implies, false_implies, implies_true, and_true, true_and, and_self]
      refine nq_yTI (hv := nq_h3 hv (18 * nq_tbl tok + 3 * i)) hT hW hp hc hs hw0 hw1 hE hen hM hcv (nq_HY3 hH) ⟨nq_tbl tok, i, rfl, rfl, t3, by omega, if_pos rfl⟩ (fun ySk' hS' => ?_) hS
      rcases Bool.eq_false_or_eq_true (nq_ct cv hv t tok (20 * p + e) (e - s) i) with hct | hct
      · have hct' := hct
        unfold nq_ct at hct'
        have en : nq_sv cv hv t tok (20 * p + e) (e - s) a (i + 1) = (if tok < 100 then some 1 else if tok < 130 then nq_or (nq_sv cv hv t tok (20 * p + e) (e - s) a i) (nq_same a (cv (18 * nq_tbl tok + 3 * i + code % 10))) else nq_and (nq_sv cv hv t tok (20 * p + e) (e - s) a i) (nq_less a (cv (18 * nq_tbl tok + 3 * i + code % 10)))) := by
          simp only [nq_sv, hct, if_true]
          by_cases l : tok < 100
          · rw [if_pos l, if_pos l]
          · rw [if_neg l, if_neg l, hcode.2 l]
        have hF2 := nq_FLs (a := a) (c := cv (18 * nq_tbl tok + 3 * i + code % 10)) hF
        rw [← en] at hF2
        have nxt := ih (i + 1) (by omega) (by omega) _ _ _ (nI (nq_tbl tok)) (nI i) ySk' hF2 hS'
        rw [← nI_1] at nxt
        simp only [hct', nq_b0, reduceCtorEq, nq_tn0, nq_rem (show code < 2147483648 by omega), nq_yCell hcv (show 18 * nq_tbl tok + 3 * i + code % 10 < 54 by omega), show (nI (tok) < (130 : Int32)) = ((tok) < 130) from propext (nI_ltI (b := 130) (tlt) (by decide)), show ((130 : Int32) < nI (tok)) = (130 < (tok)) from propext (nI_ltI (a := 130) (by decide) (tlt)), show (nI (tok) ≤ (130 : Int32)) = ((tok) ≤ 130) from propext (nI_leI (b := 130) (tlt) (by decide)), show ((130 : Int32) ≤ nI (tok)) = (130 ≤ (tok)) from propext (nI_leI (a := 130) (by decide) (tlt)), show (nI (tok) = (130 : Int32)) = ((tok) = 130) from propext (nI_eq (b := 130) (tlt) (by decide)), forall_eq, not_true_eq_false, not_false_eq_true, true_implies, false_implies, implies_true, and_true, true_and, and_self]
        by_cases m : 130 ≤ tok
        · simp only [m, if_true] at nxt
          simp only [m, nq_yLess, nq_toldm, forall_eq, not_true_eq_false, not_false_eq_true, true_implies, false_implies, implies_true, and_true, true_and, and_self]
          refine nq_y216 tlt ?_
          simp only [m, if_true]
          exact nxt
        · simp only [m, if_false] at nxt
          simp only [m, nq_yEq, nq_toldm, forall_eq, not_true_eq_false, not_false_eq_true, true_implies, false_implies, implies_true, and_true, true_and, and_self]
          refine nq_y216 tlt ?_
          simp only [m, if_false]
          exact nxt
      · have hct' := hct
        unfold nq_ct at hct'
        have en : nq_sv cv hv t tok (20 * p + e) (e - s) a (i + 1) = nq_sv cv hv t tok (20 * p + e) (e - s) a i := by simp only [nq_sv, hct, reduceCtorEq, if_false]
        rw [← en] at hF
        have nxt := ih (i + 1) (by omega) (by omega) _ _ _ (nI (nq_tbl tok)) (nI i) ySk' hF hS'
        simp only [hct', nq_b0, forall_eq, not_true_eq_false, not_false_eq_true, true_implies, false_implies, implies_true, and_true, true_and, and_self]
        exact nxt
    · have : i = rw (nq_tbl tok) := by omega
      subst this
      have z3 : nI (rw (nq_tbl tok)) ≤ nI (rw (nq_tbl tok)) := nI_le (Nat.le_refl _) (by omega)
      have HH := H sbt sbr ySk hS
      unfold nq_FL at hF
      simp only [wY_subquery_121, i3, c3, hr, z3, nq_b0, show (nI (tok) < (130 : Int32)) = ((tok) < 130) from propext (nI_ltI (b := 130) (tlt) (by decide)), show ((130 : Int32) < nI (tok)) = (130 < (tok)) from propext (nI_ltI (a := 130) (by decide) (tlt)), show (nI (tok) ≤ (130 : Int32)) = ((tok) ≤ 130) from propext (nI_leI (b := 130) (tlt) (by decide)), show ((130 : Int32) ≤ nI (tok)) = (130 ≤ (tok)) from propext (nI_leI (a := 130) (by decide) (tlt)), show (nI (tok) = (130 : Int32)) = ((tok) = 130) from propext (nI_eq (b := 130) (tlt) (by decide)), decide_eq_false_iff_not, forall_eq, not_true_eq_false, not_false_eq_true, true_implies, false_implies, implies_true, and_true, true_and, and_self]
      by_cases l : tok < 100
      · simp only [l, if_true] at hF
        rw [hF] at HH
        simp only [l, forall_eq, not_true_eq_false, not_false_eq_true, true_implies, false_implies, implies_true, and_true, true_and, and_self]
        cases so
        · simp only [forall_eq, not_true_eq_false, not_false_eq_true, true_implies, false_implies, implies_true, and_true, true_and, and_self]
          exact HH
        · simp only [reduceCtorEq, forall_eq, not_true_eq_false, not_false_eq_true, true_implies, false_implies, implies_true, and_true, true_and, and_self]
          exact HH
      · simp only [l, if_false] at hF
        simp only [l, forall_eq, not_true_eq_false, not_false_eq_true, true_implies, false_implies, implies_true, and_true, true_and, and_self]
        by_cases m : 130 ≤ tok
        · have m2 : ¬ tok < 130 := by omega
          simp only [m2, if_false] at hF
          rw [hF] at HH
          simp only [m, forall_eq, not_true_eq_false, not_false_eq_true, true_implies, false_implies, implies_true, and_true, true_and, and_self]
          cases su <;> cases un <;> simp only [reduceCtorEq, forall_eq, not_true_eq_false, not_false_eq_true, true_implies, false_implies, implies_true, and_true, true_and, and_self] <;> exact HH
        · have m2 : tok < 130 := by omega
          simp only [m2, if_true] at hF
          rw [hF] at HH
          simp only [m, forall_eq, not_true_eq_false, not_false_eq_true, true_implies, false_implies, implies_true, and_true, true_and, and_self]
          cases su <;> cases un <;> simp only [reduceCtorEq, forall_eq, not_true_eq_false, not_false_eq_true, true_implies, false_implies, implies_true, and_true, true_and, and_self] <;> exact HH
theorem nq_ySubq {post : Int64 → SY → Prop} {k w : Nat} {a : nq_V} {N M : List Int64} (hT : nq_TT n t ySz yTk) (hW : nq_WF n t) (hp : p < 10) (hc : nq_ws p t (n p) = []) (hk : k < n p) (hw : nq_ws p t k = w :: r) (hsub : nq_sub (t (20 * p + k)) = true) (hN1 : t (20 * p + k) < 100 → N = M) (hN2 : ¬ t (20 * p + k) < 100 → N = nq_f a :: M) (hM : M.length ≤ r.length) (hM2 : M.length < 60) (hcv : ∀ j, cv j ≠ some 1000) (hH : nq_HY yHa yTo tb h hv) (hR : ∀ i, i < 3 → rw i ≤ 6 ∧ yRo i = nI (rw i)) (hEn : ∀ k, k < n p → yEn (20 * p + k) = nI (nq_en p t k)) (hS : nq_St ySk N)
    (H : ∀ sbt' sbr' ySk', nq_St ySk' M → post (nq_d (nq_sv cv hv t (t (20 * p + k)) (20 * p + nq_en p t k) (nq_en p t k - nq_ss p t k) a (rw (nq_tbl (t (20 * p + k)))))) (src, dis, opn, sbt', sbr', (nI M.length), mny, mor, grs, fnd, kpt, yRo, (fun j => nq_k (cv j)), yTo, yIl, ySz, yTk, yIn, yEn, ySu, yWc, yWi, yHa, ySk', yCo, yLo, yGo, yFi, yRe, ySo, yAn)) : wpY_subquery post (src, dis, opn, sbt, sbr, (nI N.length), mny, mor, grs, fnd, kpt, yRo, (fun j => nq_k (cv j)), yTo, yIl, ySz, yTk, yIn, yEn, ySu, yWc, yWi, yHa, ySk, yCo, yLo, yGo, yFi, yRe, ySo, yAn) (nI p) (nI k) := by
  have hn := (hW p hp).1
  obtain ⟨g1, g2, g3, g4, g5, g6⟩ := nq_subE hW hp hc hk hw hsub
  have tokr := nq_subT hsub
  obtain ⟨t3, tc⟩ := nq_tbl3 hsub
  have tlt : t (20 * p + k) < 2147483648 := by omega
  have ek : 20 * nI p + nI k = nI (20 * p + k) := by simp only [nq_i20, pk_mul, nI_add]
  have ik : vp_in (nI (20 * p + k)) 200 := vp_in_nI (by omega) (by decide)
  have ck : (nI (20 * p + k)).toNatClampNeg = 20 * p + k := nI_clamp (by omega)
  have nt : ¬ (1 : Int32) = 0 := by decide
  rcases Nat.lt_or_ge (t (20 * p + k)) 100 with l | l
  · have l2 : ¬ 100 ≤ t (20 * p + k) := by omega
    have hN := hN1 l
    subst hN
    have es : nq_ss p t k = k + 1 := if_pos l
    have et : nq_tbl (t (20 * p + k)) = t (20 * p + k) - 90 := if_pos l
    have d1 : nI k + 1 = nI (nq_ss p t k) := by rw [es]; exact nI_add _ 1
    have d2 : 10 * (nI (t (20 * p + k)) - 90) = nI (10 * (t (20 * p + k) - 90)) := by
      rw [show nI (t (20 * p + k)) - 90 = nI (t (20 * p + k) - 90) from pk_sub (b := 90) (by omega)]
      exact pk_mul 10 _
    have d3 : nI (10 * (t (20 * p + k) - 90)) / 10 = nI (nq_tbl (t (20 * p + k))) := by
      rw [nq_div (by omega), et]
      exact congrArg nI (by omega)
    have gg := nq_y121 (post := post) (M := N) (a := some 0) (code := 10 * (t (20 * p + k) - 90)) hT hW hp hc hk g1 (by omega) (by omega) g2 g3 hM hcv hH hR hsub (hEn k hk) (by omega) ⟨by omega, fun z => absurd l z⟩ (by
      rw [nq_svx l (a' := a)]
      exact H) (rw (nq_tbl (t (20 * p + k))) + 1) 0 (by omega) (by omega) false false false sbt sbr ySk (by
        unfold nq_FL
        simp only [nq_sv, l, show t (20 * p + k) < 130 by omega, if_true]
        rfl) hS
    simp only [l, decide_true, nq_bt] at gg
    simp only [wpY_subquery, wY_subquery_23, wY_subquery_49, wY_subquery_85, wY_subquery_100, ek, ik, ck, (hT p hp).2 k hk, show (nI (t (20 * p + k)) < (100 : Int32)) = ((t (20 * p + k)) < 100) from propext (nI_ltI (b := 100) (tlt) (by decide)), show ((100 : Int32) < nI (t (20 * p + k))) = (100 < (t (20 * p + k))) from propext (nI_ltI (a := 100) (by decide) (tlt)), show (nI (t (20 * p + k)) ≤ (100 : Int32)) = ((t (20 * p + k)) ≤ 100) from propext (nI_leI (b := 100) (tlt) (by decide)), show ((100 : Int32) ≤ nI (t (20 * p + k))) = (100 ≤ (t (20 * p + k))) from propext (nI_leI (a := 100) (by decide) (tlt)), show (nI (t (20 * p + k)) = (100 : Int32)) = ((t (20 * p + k)) = 100) from propext (nI_eq (b := 100) (tlt) (by decide)), show (nI (t (20 * p + k)) < (130 : Int32)) = ((t (20 * p + k)) < 130) from propext (nI_ltI (b := 130) (tlt) (by decide)), show ((130 : Int32) < nI (t (20 * p + k))) = (130 < (t (20 * p + k))) from propext (nI_ltI (a := 130) (by decide) (tlt)), show (nI (t (20 * p + k)) ≤ (130 : Int32)) = ((t (20 * p + k)) ≤ 130) from propext (nI_leI (b := 130) (tlt) (by decide)), show ((130 : Int32) ≤ nI (t (20 * p + k))) = (130 ≤ (t (20 * p + k))) from propext (nI_leI (a := 130) (by decide) (tlt)), show (nI (t (20 * p + k)) = (130 : Int32)) = ((t (20 * p + k)) = 130) from propext (nI_eq (b := 130) (tlt) (by decide)), l2, nt, d1, d2, d3, nq_tn0, forall_eq, not_true_eq_false, not_false_eq_true, true_implies, false_implies, implies_true, and_true, true_and, and_self]
    exact ⟨_, gg⟩
  · have l2 : ¬ t (20 * p + k) < 100 := by omega
    have hN := hN2 l2
    subst hN
    obtain ⟨q1, q2⟩ := g6 l2
    have es : nq_ss p t k = nq_en p t (k + 1) := if_neg l2
    have et : nq_tbl (t (20 * p + k)) = (t (20 * p + k) - 100) / 10 % 3 := if_neg l2
    have qlt : k + 1 < n p := by have := q1.1; omega
    have e1 : nI (20 * p + k) + 1 = nI (20 * p + (k + 1)) := nI_add _ 1
    have i1 : vp_in (nI (20 * p + (k + 1))) 200 := vp_in_nI (by omega) (by decide)
    have c1 : (nI (20 * p + (k + 1))).toNatClampNeg = 20 * p + (k + 1) := nI_clamp (by omega)
    have s1 := hEn (k + 1) qlt
    rw [← es] at s1
    have main : ∀ code, code < 1000 → (code % 10 < 3 ∧ (¬ t (20 * p + k) < 100 → code % 10 = t (20 * p + k) % 10)) → nI code / 10 = nI (nq_tbl (t (20 * p + k))) → ∃ f, wY_subquery_121 post (nI p) (nI k) (nI (t (20 * p + k))) 0 (nI (nq_ss p t k)) (nI code) (nq_f a) (nI (nq_tbl (t (20 * p + k)))) f 0 0 0 0 src dis opn sbt sbr (nI M.length) mny mor grs fnd kpt yRo (fun j => nq_k (cv j)) yTo yIl ySz yTk yIn yEn ySu yWc yWi yHa ySk yCo yLo yGo yFi yRe ySo yAn := by
      intro code hcd hcode _
      have gg := nq_y121 (post := post) (M := M) (a := a) (code := code) hT hW hp hc hk g1 (by omega) (by omega) g2 g3 hM hcv hH hR hsub (hEn k hk) hcd hcode H (rw (nq_tbl (t (20 * p + k))) + 1) 0 (by omega) (by omega) false false false sbt sbr ySk (by
        unfold nq_FL
        by_cases m : t (20 * p + k) < 130
        · simp only [nq_sv, l2, m, if_true, if_false, reduceCtorEq]
        · simp only [nq_sv, l2, m, if_false, reduceCtorEq]) hS.2
      simp only [l2, decide_false, nq_bf] at gg
      exact ⟨_, gg⟩
    by_cases m : 130 ≤ t (20 * p + k)
    · have d2 : nI (t (20 * p + k)) - 130 = nI (t (20 * p + k) - 130) := pk_sub (b := 130) m
      have d3 : nI (t (20 * p + k) - 130) / 10 = nI (nq_tbl (t (20 * p + k))) := by
        rw [nq_div (by omega), et]
        exact congrArg nI (by omega)
      have mm := main (t (20 * p + k) - 130) (by omega) ⟨by omega, fun _ => by omega⟩ d3
      simp only [wpY_subquery, wY_subquery_23, wY_subquery_49, wY_subquery_85, wY_subquery_100, ek, ik, ck, (hT p hp).2 k hk, show (nI (t (20 * p + k)) < (100 : Int32)) = ((t (20 * p + k)) < 100) from propext (nI_ltI (b := 100) (tlt) (by decide)), show ((100 : Int32) < nI (t (20 * p + k))) = (100 < (t (20 * p + k))) from propext (nI_ltI (a := 100) (by decide) (tlt)), show (nI (t (20 * p + k)) ≤ (100 : Int32)) = ((t (20 * p + k)) ≤ 100) from propext (nI_leI (b := 100) (tlt) (by decide)), show ((100 : Int32) ≤ nI (t (20 * p + k))) = (100 ≤ (t (20 * p + k))) from propext (nI_leI (a := 100) (by decide) (tlt)), show (nI (t (20 * p + k)) = (100 : Int32)) = ((t (20 * p + k)) = 100) from propext (nI_eq (b := 100) (tlt) (by decide)), show (nI (t (20 * p + k)) < (130 : Int32)) = ((t (20 * p + k)) < 130) from propext (nI_ltI (b := 130) (tlt) (by decide)), show ((130 : Int32) < nI (t (20 * p + k))) = (130 < (t (20 * p + k))) from propext (nI_ltI (a := 130) (by decide) (tlt)), show (nI (t (20 * p + k)) ≤ (130 : Int32)) = ((t (20 * p + k)) ≤ 130) from propext (nI_leI (b := 130) (tlt) (by decide)), show ((130 : Int32) ≤ nI (t (20 * p + k))) = (130 ≤ (t (20 * p + k))) from propext (nI_leI (a := 130) (by decide) (tlt)), show (nI (t (20 * p + k)) = (130 : Int32)) = ((t (20 * p + k)) = 130) from propext (nI_eq (b := 130) (tlt) (by decide)), l, m, e1, i1, c1, s1, d2, d3, List.length_cons, nq_yPop (k := M.length) hS rfl (by omega), nq_tn0, forall_eq, not_true_eq_false, not_false_eq_true, true_implies, false_implies, implies_true, and_true, true_and, and_self]
      exact mm
    · have d2 : nI (t (20 * p + k)) - 100 = nI (t (20 * p + k) - 100) := pk_sub (b := 100) l
      have d3 : nI (t (20 * p + k) - 100) / 10 = nI (nq_tbl (t (20 * p + k))) := by
        rw [nq_div (by omega), et]
        exact congrArg nI (by omega)
      have mm := main (t (20 * p + k) - 100) (by omega) ⟨by omega, fun _ => by omega⟩ d3
      simp only [wpY_subquery, wY_subquery_23, wY_subquery_49, wY_subquery_85, wY_subquery_100, ek, ik, ck, (hT p hp).2 k hk, show (nI (t (20 * p + k)) < (100 : Int32)) = ((t (20 * p + k)) < 100) from propext (nI_ltI (b := 100) (tlt) (by decide)), show ((100 : Int32) < nI (t (20 * p + k))) = (100 < (t (20 * p + k))) from propext (nI_ltI (a := 100) (by decide) (tlt)), show (nI (t (20 * p + k)) ≤ (100 : Int32)) = ((t (20 * p + k)) ≤ 100) from propext (nI_leI (b := 100) (tlt) (by decide)), show ((100 : Int32) ≤ nI (t (20 * p + k))) = (100 ≤ (t (20 * p + k))) from propext (nI_leI (a := 100) (by decide) (tlt)), show (nI (t (20 * p + k)) = (100 : Int32)) = ((t (20 * p + k)) = 100) from propext (nI_eq (b := 100) (tlt) (by decide)), show (nI (t (20 * p + k)) < (130 : Int32)) = ((t (20 * p + k)) < 130) from propext (nI_ltI (b := 130) (tlt) (by decide)), show ((130 : Int32) < nI (t (20 * p + k))) = (130 < (t (20 * p + k))) from propext (nI_ltI (a := 130) (by decide) (tlt)), show (nI (t (20 * p + k)) ≤ (130 : Int32)) = ((t (20 * p + k)) ≤ 130) from propext (nI_leI (b := 130) (tlt) (by decide)), show ((130 : Int32) ≤ nI (t (20 * p + k))) = (130 ≤ (t (20 * p + k))) from propext (nI_leI (a := 130) (by decide) (tlt)), show (nI (t (20 * p + k)) = (130 : Int32)) = ((t (20 * p + k)) = 130) from propext (nI_eq (b := 130) (tlt) (by decide)), l, m, e1, i1, c1, s1, d2, d3, List.length_cons, nq_yPop (k := M.length) hS rfl (by omega), nq_tn0, forall_eq, not_true_eq_false, not_false_eq_true, true_implies, false_implies, implies_true, and_true, true_and, and_self]
      exact mm
end
end
section
section
variable {sc od nc tp cc gc ac : Int32} {Ce Sk Va An Ov : Nat → Int64} {Rc St Jl Tk Tn Su Ne Ha Cb Jd Go Fm : Nat → Int32}
variable {src dis opn sbt sbr dep mny mor grs fnd kpt : Int32} {ySk yRe ySo yAn : Nat → Int64} {yRo yCe yTo yIl ySz yTk yIn yEn ySu yWc yWi yHa yCo yLo yGo yFi : Nat → Int32}
variable {n t : Nat → Nat} {p s e w0 : Nat} {r : List Nat} {cv : Nat → nq_V} {h hv : Nat → Option Nat} {rw tb : Nat → Nat}
theorem nq_yWork {post : Int64 → SY → Prop} (hT : nq_TT n t ySz yTk) (hW : nq_WF n t) (hp : p < 10) (h0 : 0 < n p) (hc : nq_ws p t (n p) = []) (hcv : ∀ j, cv j ≠ some 1000) (hH : nq_HY yHa yTo tb h hv) (hR : ∀ i, i < 3 → rw i ≤ 6 ∧ yRo i = nI (rw i)) (hIn : nq_In n t p yIn) (hEn : ∀ k, k < n p → yEn (20 * p + k) = nI (nq_en p t k)) (H : ∀ sbt' sbr' ySk', post (nq_y (if p ≤ 3 then 1 else 0) (nq_pv cv rw n t p hv)) (src, dis, opn, sbt', sbr', (nI 0), mny, mor, grs, fnd, kpt, yRo, (fun j => nq_k (cv j)), yTo, yIl, ySz, yTk, yIn, yEn, ySu, yWc, yWi, yHa, ySk', yCo, yLo, yGo, yFi, yRe, ySo, yAn)) : wpY_work post (src, dis, opn, sbt, sbr, (nI 0), mny, mor, grs, fnd, kpt, yRo, (fun j => nq_k (cv j)), yTo, yIl, ySz, yTk, yIn, yEn, ySu, yWc, yWi, yHa, ySk, yCo, yLo, yGo, yFi, yRe, ySo, yAn) (nI p) := by
  have hn := (hW p hp).1
  have ip : vp_in (nI p) 10 := vp_in_nI hp (by decide)
  have cp : (nI p).toNatClampNeg = p := nI_clamp (by omega)
  have nt : ¬ (1 : Int32) = 0 := by decide
  unfold nq_pv at H
  have h0' : ¬ n p = 0 := by omega
  simp only [h0', if_false] at H
  simp only [wpY_work, ip, cp, (hT p hp).1, forall_eq, not_true_eq_false, not_false_eq_true, true_implies, false_implies, implies_true, and_true, true_and, and_self]
  have key : ∀ k, k ≤ n p → ∀ f, k < f → ∀ (L : List (Nat × nq_V)) sbt sbr ySk, L.map Prod.fst = (nq_ws p t k).filter (fun x => decide (x < 2)) → L.map Prod.snd = nq_ps cv hv rw p t (n p) (n p - k) → nq_St ySk (L.map nq_my) → wY_work_9 post (nI p) f (nI k - 1) src dis opn sbt sbr (nI L.length) mny mor grs fnd kpt yRo (fun j => nq_k (cv j)) yTo yIl ySz yTk yIn yEn ySu yWc yWi yHa ySk yCo yLo yGo yFi yRe ySo yAn := by
    intro k
    induction k with
    | zero =>
      intro _ f hf L sbt sbr ySk hL hv2 hS
      obtain ⟨f, rfl⟩ : ∃ g, f = g + 1 := ⟨f - 1, by omega⟩
      have x1 : nI 0 - 1 < 0 := by decide
      have hw2 : (if p ≤ 3 then 1 else 0) < 2 := by split <;> omega
      have hL2 : L.map Prod.fst = [if p ≤ 3 then 1 else 0] := by
        rw [hL]
        show List.filter _ [if p ≤ 3 then 1 else 0] = _
        rw [List.filter_cons_of_pos (by rw [decide_eq_true_eq]; exact hw2)]
        rfl
      obtain ⟨⟨w, v⟩, rfl, hwe⟩ := nq_1l hL2
      have hv3 : nq_ps cv hv rw p t (n p) (n p) = [v] := by
        rw [show n p - 0 = n p from rfl] at hv2
        rw [← hv2]
        rfl
      rw [hv3] at H
      have hS' : nq_St ySk [nq_y w v] := hS
      rw [show [(w, v)].length = 0 + 1 from rfl]
      simp only [wY_work_9, x1, nq_yPop (k := 0) hS' rfl (by omega), forall_eq, not_true_eq_false, not_false_eq_true, true_implies, false_implies, implies_true, and_true, true_and, and_self]
      rw [show w = if p ≤ 3 then 1 else 0 from hwe]
      exact H _ _ _
    | succ k ih =>
      intro hk f hf L sbt sbr ySk hL hv2 hS
      obtain ⟨f, rfl⟩ : ∃ g, f = g + 1 := ⟨f - 1, by omega⟩
      obtain ⟨w, r', f1, f2, ff, w4, t153, kl, es, rl, a3⟩ := nq_wsS hW hp (show k < n p by omega)
      rw [f2, List.filter_append] at hL
      have hin := hIn k (by omega) w r' f1
      have o2 := nq_oplt hW hp hc (n p - k) (by omega)
      unfold nq_op at o2
      rw [show n p - (n p - k) = k by omega, f1, List.length_cons] at o2
      have fl : (r'.filter (fun x => decide (x < 2))).length ≤ r'.length := List.length_filter_le _ _
      have x0 : nI (k + 1) - 1 = nI k := nI_pred k
      have x1 : ¬ nI k < 0 := nI_pos (by omega)
      have e0 : 20 * nI p + nI k = nI (20 * p + k) := by simp only [nq_i20, pk_mul, nI_add]
      have i1 : vp_in (nI (20 * p + k)) 200 := vp_in_nI (by omega) (by decide)
      have c1 : (nI (20 * p + k)).toNatClampNeg = 20 * p + k := nI_clamp (by omega)
      have e2 : nI k + (-1) = nI k - 1 := by grind
      have ej : n p - k = n p - (k + 1) + 1 := by omega
      have ek : n p - 1 - (n p - (k + 1)) = k := by omega
      have hh : (nq_ws p t k).headD 0 = w := by rw [f1]; rfl
      have tlt : t (20 * p + k) < 2147483648 := by omega
      by_cases hw2 : 2 ≤ w
      · have hsub : nq_sub (t (20 * p + k)) = false := es.resolve_right (by omega)
        have hne : ¬ nI (w / 2) = 0 := nI_ne0 (by omega) (by omega)
        simp only [wY_work_9, x0, x1, e0, i1, c1, hin, hne, e2, forall_eq, not_true_eq_false, not_false_eq_true, true_implies, false_implies, implies_true, and_true, true_and, and_self]
        refine ih (by omega) f (by omega) L sbt sbr ySk ?_ ?_ hS
        · rw [hL, f1, List.filter_cons_of_neg (by simp; omega), List.filter_eq_nil_iff.mpr, List.nil_append]
          intro x hx
          have := nq_kids2 _ t153 w w4 hw2 hsub x hx
          rw [decide_eq_true_eq]
          omega
        · rw [hv2, ej]
          simp only [nq_ps, ek, hh, hw2, if_true]
      · have heq : nI (w / 2) = 0 := by rw [show w / 2 = 0 by omega]; rfl
        have hfw : (nq_ws p t k).filter (fun x => decide (x < 2)) = w :: r'.filter (fun x => decide (x < 2)) := by
          rw [f1, List.filter_cons_of_pos (by simp; omega)]
        rcases Bool.eq_false_or_eq_true (nq_sub (t (20 * p + k))) with hsub | hsub
        · have w1 : w % 2 = 1 := by
            apply Classical.byContradiction
            intro hz
            have h4 := (nq_fitEC ff).2 hz
            have h5 := nq_subT hsub
            unfold nq_isE nq_col at h4
            rw [Bool.or_eq_true, decide_eq_true_eq, decide_eq_true_eq] at h4
            omega
          obtain ⟨a1, a2⟩ := nq_subAr hsub
          rw [a2 w] at hL
          obtain ⟨a, R, hN1, hN2, gR, hfl⟩ : ∃ a R, (t (20 * p + k) < 100 → L.map nq_my = List.map nq_my R) ∧ (¬ t (20 * p + k) < 100 → L.map nq_my = nq_f a :: List.map nq_my R) ∧ R.map Prod.fst = r'.filter (fun x => decide (x < 2)) ∧ nq_ps cv hv rw p t (n p) (n p - k) = nq_sv cv hv t (t (20 * p + k)) (20 * p + nq_en p t k) (nq_en p t k - nq_ss p t k) a (rw (nq_tbl (t (20 * p + k)))) :: R.map Prod.snd := by
            rw [ej]
            simp only [nq_ps, ek, hh, hw2, hsub, if_false, if_true, ← hv2]
            by_cases l : t (20 * p + k) < 100
            · rw [if_pos l] at hL
              exact ⟨_, L, fun _ => rfl, fun z => absurd l z, hL, by simp only [l, if_true, List.drop_zero]; rfl⟩
            · rw [if_neg l] at hL
              have hL3 : L.map Prod.fst = 0 :: r'.filter (fun x => decide (x < 2)) := hL
              match L, hL3 with
              | (w2, a) :: R, hL3 =>
                rw [List.map_cons] at hL3
                obtain ⟨h1, h2⟩ := List.cons.inj hL3
                cases h1
                exact ⟨a, R, fun z => absurd z l, fun _ => rfl, h2, by simp only [l, if_false]; rfl⟩
          have rle : R.length ≤ r'.length := by
            have : R.length = (r'.filter (fun x => decide (x < 2))).length := by rw [← gR, List.length_map]
            omega
          simp only [wY_work_9, x0, x1, e0, i1, c1, hin, heq, (hT p hp).2 k (by omega), nq_ySub tlt, hsub, nq_bt, nt, e2, forall_eq, not_true_eq_false, not_false_eq_true, true_implies, false_implies, implies_true, and_true, true_and, and_self]
          have gg := nq_ySubq (post := fun r_107 u => match u with | (src1, dis1, opn1, sbt1, sbr1, dep1, mny1, mor1, grs1, fnd1, kpt1, yRo1, yCe1, yTo1, yIl1, ySz1, yTk1, yIn1, yEn1, ySu1, yWc1, yWi1, yHa1, ySk1, yCo1, yLo1, yGo1, yFi1, yRe1, ySo1, yAn1) => wpY_push (fun u => match u with | (src2, dis2, opn2, sbt2, sbr2, dep2, mny2, mor2, grs2, fnd2, kpt2, yRo2, yCe2, yTo2, yIl2, ySz2, yTk2, yIn2, yEn2, ySu2, yWc2, yWi2, yHa2, ySk2, yCo2, yLo2, yGo2, yFi2, yRe2, ySo2, yAn2) => wY_work_9 post (nI p) f (nI k - 1) src2 dis2 opn2 sbt2 sbr2 dep2 mny2 mor2 grs2 fnd2 kpt2 yRo2 yCe2 yTo2 yIl2 ySz2 yTk2 yIn2 yEn2 ySu2 yWc2 yWi2 yHa2 ySk2 yCo2 yLo2 yGo2 yFi2 yRe2 ySo2 yAn2) (src1, dis1, opn1, sbt1, sbr1, dep1, mny1, mor1, grs1, fnd1, kpt1, yRo1, yCe1, yTo1, yIl1, ySz1, yTk1, yIn1, yEn1, ySu1, yWc1, yWi1, yHa1, ySk1, yCo1, yLo1, yGo1, yFi1, yRe1, ySo1, yAn1) r_107) (M := R.map nq_my) (N := L.map nq_my) (a := a) (src := src) (dis := dis) (opn := opn) (sbt := sbt) (sbr := sbr) (mny := mny) (mor := mor) (grs := grs) (fnd := fnd) (kpt := kpt) (yRo := yRo) (yTo := yTo) (yIl := yIl) (ySz := ySz) (yTk := yTk) (yIn := yIn) (yEn := yEn) (ySu := ySu) (yWc := yWc) (yWi := yWi) (yHa := yHa) (ySk := ySk) (yCo := yCo) (yLo := yLo) (yGo := yGo) (yFi := yFi) (yRe := yRe) (ySo := ySo) (yAn := yAn) (cv := cv) (rw := rw) hT hW hp hc (show k < n p by omega) f1 hsub hN1 hN2 (by rw [List.length_map]; exact rle) (by rw [List.length_map]; omega) hcv hH hR hEn hS (fun sbt' sbr' ySk' hS' => by
            refine nq_yPush hS' (by rw [List.length_map]; omega) fun ySk'' hS'' => ?_
            have := ih (by omega) f (by omega) ((w, nq_sv cv hv t (t (20 * p + k)) (20 * p + nq_en p t k) (nq_en p t k - nq_ss p t k) a (rw (nq_tbl (t (20 * p + k))))) :: R) sbt' sbr' ySk'' (by rw [List.map_cons, gR, hfw]) (by rw [hfl]; rfl) (by
              rw [List.map_cons]
              unfold nq_my nq_y
              simp only [w1, if_true]
              exact hS'')
            rw [List.length_cons] at this
            rw [List.length_map]
            exact this)
          rw [List.length_map] at gg
          exact gg
        · simp only [wY_work_9, x0, x1, e0, i1, c1, hin, heq, (hT p hp).2 k (by omega), nq_ySub tlt, hsub, nq_bf, e2, forall_eq, not_true_eq_false, not_false_eq_true, true_implies, false_implies, implies_true, and_true, true_and, and_self]
          have kf : (nq_kids (t (20 * p + k)) w).filter (fun x => decide (x < 2)) = nq_kids (t (20 * p + k)) w := by
            rw [List.filter_eq_self]
            intro x hx
            rw [decide_eq_true_eq]
            exact nq_kids1 _ t153 w (by omega) hsub x hx
          rw [kf] at hL
          obtain ⟨K, R, rfl, gK, gR, gl, gs⟩ := nq_step (lf := nq_leaf cv hv) kl hL
          rw [List.map_append] at hS
          have ll : (K ++ R).length = K.length + (R.map nq_my).length := by rw [List.length_append, List.length_map]
          have rle : R.length ≤ r'.length := by
            have : R.length = (r'.filter (fun x => decide (x < 2))).length := by rw [← gR, List.length_map]
            omega
          rw [ll]
          have h3 : t (20 * p + k) / 10 = 3 → nq_H3 sbt sbr hv := by
            intro z
            exfalso
            have fff := ff
            unfold nq_fit nq_col at fff
            by_cases zz : w % 2 = 1
            · rw [if_pos zz, decide_eq_true_eq] at fff
              rcases fff with y | y
              · omega
              · rw [hsub] at y; exact absurd y.1 (by decide)
            · rw [if_neg zz] at fff
              by_cases zc : t (20 * p + k) ≤ 32 ∧ t (20 * p + k) % 10 < 3
              · rw [if_pos (by rw [decide_eq_true_eq]; exact zc), if_pos z, decide_eq_true_eq] at fff
                omega
              · rw [if_neg (by rw [decide_eq_true_eq]; exact zc), decide_eq_true_eq] at fff
                omega
          refine nq_ySimple hcv hH h3 ff hsub gK (by rw [List.length_map]; omega) hS fun ySk' hS' => ?_
          have := ih (by omega) f (by omega) ((w, nq_rs (nq_leaf cv hv) (t (20 * p + k)) (K.map Prod.snd)) :: R) sbt sbr ySk' (by rw [List.map_cons, gR, hfw]) (by
            rw [List.map_cons, ← gs, hv2, ej]
            simp only [nq_ps, ek, hh, hw2, hsub, if_false, reduceCtorEq]) hS'
          rw [List.length_cons] at this
          rw [List.length_map]
          exact this
  have hcl : ([] : List (Nat × nq_V)).map Prod.fst = (nq_ws p t (n p)).filter (fun x => decide (x < 2)) := by rw [hc]; rfl
  exact ⟨_, key (n p) (Nat.le_refl _) (n p + 1) (by omega) [] sbt sbr ySk hcl (by rw [Nat.sub_self]; rfl) trivial⟩
end
end
section
section
variable {sc od nc tp cc gc ac : Int32} {Ce Sk Va An Ov : Nat → Int64} {Rc St Jl Tk Tn Su Ne Ha Cb Jd Go Fm : Nat → Int32}
variable {src dis opn sbt sbr dep mny mor grs fnd kpt : Int32} {ySk yRe ySo yAn : Nat → Int64} {yRo yCe yTo yIl ySz yTk yIn yEn ySu yWc yWi yHa yCo yLo yGo yFi : Nat → Int32}
variable {n t : Nat → Nat} {p : Nat} {cv : Nat → nq_V} {h hv : Nat → Option Nat} {rw tb : Nat → Nat}
theorem nq_xTake {post : SX → Prop} {c : Nat} (hc : c < 216) (H : ∀ Ha', (∀ s, s < 3 → Ha' s = Cb (3 * c + s)) → (∀ s, 3 ≤ s → Ha' s = Ha s) → post (sc, od, nc, tp, cc, gc, ac, Ce, Rc, St, Jl, Tk, Tn, Su, Ne, Ha', Sk, Cb, Jd, Va, Go, Fm, An, Ov)) : wpX_takeInHand post (sc, od, nc, tp, cc, gc, ac, Ce, Rc, St, Jl, Tk, Tn, Su, Ne, Ha, Sk, Cb, Jd, Va, Go, Fm, An, Ov) (nI c) := by
  have key : ∀ f i Ha', i ≤ 3 → 3 - i < f → (∀ s, s < i → Ha' s = Cb (3 * c + s)) → (∀ s, 3 ≤ s → Ha' s = Ha s) → wX_takeInHand_2 post (nI c) sc od nc tp cc gc ac f (nI i) Ce Rc St Jl Tk Tn Su Ne Ha' Sk Cb Jd Va Go Fm An Ov := by
    intro f
    induction f with
    | zero => intro i _ _ h; omega
    | succ f ih =>
      intro i Ha' hi hf hA hB
      rcases Nat.lt_or_ge i 3 with z | z
      · have z3 : ¬ 3 ≤ nI i := nI_ge (b := 3) z (by decide)
        have e1 : nI c * 3 + nI i = nI (3 * c + i) := by
          simp only [nq_i3, pk_mul, nI_add]
          exact congrArg nI (by omega)
        have i1 : vp_in (nI (3 * c + i)) 648 := vp_in_nI (by omega) (by decide)
        have c1 : (nI (3 * c + i)).toNatClampNeg = 3 * c + i := nI_clamp (by omega)
        have i2 : vp_in (nI i) 4 := vp_in_nI (by omega) (by decide)
        have c2 : (nI i).toNatClampNeg = i := nI_clamp (by omega)
        simp only [wX_takeInHand_2, z3, e1, i1, c1, i2, c2, nI_1, forall_eq, not_true_eq_false, not_false_eq_true, true_implies, false_implies, implies_true, and_true, true_and, and_self]
        refine ih (i + 1) _ (by omega) (by omega) (fun s hs => ?_) (fun s hs => ?_)
        · by_cases e : s = i
          · rw [e, pk_us]
          · rw [pk_un e]
            exact hA s (by omega)
        · rw [pk_un (by omega)]
          exact hB s hs
      · have : i = 3 := by omega
        subst this
        simp only [wX_takeInHand_2, show (3 : Int32) ≤ nI 3 from by decide, forall_eq, not_true_eq_false, not_false_eq_true, true_implies, false_implies, implies_true, and_true, true_and, and_self]
        exact H _ hA hB
  exact ⟨_, key 4 0 Ha (by omega) (by omega) (fun s hs => by omega) (fun s _ => rfl)⟩
theorem nq_xPut {post : SX → Prop} {c : Nat} (hc : c < 216) (H : ∀ Jd', (∀ s, s < 3 → Jd' (3 * c + s) = Ha s) → (∀ j, j < 3 * c → Jd' j = Jd j) → post (sc, od, nc, tp, cc, gc, ac, Ce, Rc, St, Jl, Tk, Tn, Su, Ne, Ha, Sk, Cb, Jd', Va, Go, Fm, An, Ov)) : wpX_putJoined post (sc, od, nc, tp, cc, gc, ac, Ce, Rc, St, Jl, Tk, Tn, Su, Ne, Ha, Sk, Cb, Jd, Va, Go, Fm, An, Ov) (nI c) := by
  have key : ∀ f i Jd', i ≤ 3 → 3 - i < f → (∀ s, s < i → Jd' (3 * c + s) = Ha s) → (∀ j, j < 3 * c → Jd' j = Jd j) → wX_putJoined_2 post (nI c) sc od nc tp cc gc ac f (nI i) Ce Rc St Jl Tk Tn Su Ne Ha Sk Cb Jd' Va Go Fm An Ov := by
    intro f
    induction f with
    | zero => intro i _ _ h; omega
    | succ f ih =>
      intro i Jd' hi hf hA hB
      rcases Nat.lt_or_ge i 3 with z | z
      · have z3 : ¬ 3 ≤ nI i := nI_ge (b := 3) z (by decide)
        have e1 : nI c * 3 + nI i = nI (3 * c + i) := by
          simp only [nq_i3, pk_mul, nI_add]
          exact congrArg nI (by omega)
        have i1 : vp_in (nI (3 * c + i)) 648 := vp_in_nI (by omega) (by decide)
        have c1 : (nI (3 * c + i)).toNatClampNeg = 3 * c + i := nI_clamp (by omega)
        have i2 : vp_in (nI i) 4 := vp_in_nI (by omega) (by decide)
        have c2 : (nI i).toNatClampNeg = i := nI_clamp (by omega)
        simp only [wX_putJoined_2, z3, e1, i1, c1, i2, c2, nI_1, forall_eq, not_true_eq_false, not_false_eq_true, true_implies, false_implies, implies_true, and_true, true_and, and_self]
        refine ih (i + 1) _ (by omega) (by omega) (fun s hs => ?_) (fun s hs => ?_)
        · by_cases e : s = i
          · rw [e, pk_us]
          · rw [pk_un (by omega)]
            exact hA s (by omega)
        · rw [pk_un (by omega)]
          exact hB s hs
      · have : i = 3 := by omega
        subst this
        simp only [wX_putJoined_2, show (3 : Int32) ≤ nI 3 from by decide, forall_eq, not_true_eq_false, not_false_eq_true, true_implies, false_implies, implies_true, and_true, true_and, and_self]
        exact H _ hA hB
  exact ⟨_, key 4 0 Jd (by omega) (by omega) (fun s hs => by omega) (fun s _ => rfl)⟩
theorem nq_xEmpty {post : SX → Prop} (H : ∀ Cb', (∀ s, s < 3 → Cb' s = -1) → post (sc, od, nc, tp, cc, gc, ac, Ce, Rc, St, Jl, Tk, Tn, Su, Ne, Ha, Sk, Cb', Jd, Va, Go, Fm, An, Ov)) : wpX_emptyFirstCombination post (sc, od, nc, tp, cc, gc, ac, Ce, Rc, St, Jl, Tk, Tn, Su, Ne, Ha, Sk, Cb, Jd, Va, Go, Fm, An, Ov) := by
  have key : ∀ f i Cb', i ≤ 3 → 3 - i < f → (∀ s, s < i → Cb' s = -1) → wX_emptyFirstCombination_2 post sc od nc tp cc gc ac f (nI i) Ce Rc St Jl Tk Tn Su Ne Ha Sk Cb' Jd Va Go Fm An Ov := by
    intro f
    induction f with
    | zero => intro i _ _ h; omega
    | succ f ih =>
      intro i Cb' hi hf hA
      rcases Nat.lt_or_ge i 3 with z | z
      · have z3 : ¬ 3 ≤ nI i := nI_ge (b := 3) z (by decide)
        have i2 : vp_in (nI i) 648 := vp_in_nI (by omega) (by decide)
        have c2 : (nI i).toNatClampNeg = i := nI_clamp (by omega)
        simp only [wX_emptyFirstCombination_2, z3, i2, c2, nI_1, forall_eq, not_true_eq_false, not_false_eq_true, true_implies, false_implies, implies_true, and_true, true_and, and_self]
        refine ih (i + 1) _ (by omega) (by omega) (fun s hs => ?_)
        by_cases e : s = i
        · rw [e, pk_us]
        · rw [pk_un e]
          exact hA s (by omega)
      · have : i = 3 := by omega
        subst this
        simp only [wX_emptyFirstCombination_2, show (3 : Int32) ≤ nI 3 from by decide, forall_eq, not_true_eq_false, not_false_eq_true, true_implies, false_implies, implies_true, and_true, true_and, and_self]
        exact H _ hA
  exact ⟨_, key 4 0 Cb (by omega) (by omega) (fun s hs => by omega)⟩
theorem nq_x129 {post : SX → Prop} {m : Nat} (hm : m ≤ 216) (H : ∀ Cb', (∀ j, j < 3 * m → Cb' j = Jd j) → post (sc, od, nc, tp, (nI m), gc, ac, Ce, Rc, St, Jl, Tk, Tn, Su, Ne, Ha, Sk, Cb', Jd, Va, Go, Fm, An, Ov)) : ∀ f i Cb', i ≤ 3 * m → 3 * m - i < f → (∀ j, j < i → Cb' j = Jd j) → wX_join_129 post (nI m) sc od nc tp cc gc ac f (nI i) Ce Rc St Jl Tk Tn Su Ne Ha Sk Cb' Jd Va Go Fm An Ov := by
  have e1 : nI m * 3 = nI (3 * m) := by
    simp only [nq_i3, pk_mul]
    exact congrArg nI (by omega)
  intro f
  induction f with
  | zero => intro i _ _ h; omega
  | succ f ih =>
    intro i Cb' hi hf hA
    rcases Nat.lt_or_ge i (3 * m) with z | z
    · have z3 : ¬ nI (3 * m) ≤ nI i := nI_ge z (by omega)
      have i2 : vp_in (nI i) 648 := vp_in_nI (by omega) (by decide)
      have c2 : (nI i).toNatClampNeg = i := nI_clamp (by omega)
      simp only [wX_join_129, e1, z3, i2, c2, nI_1, forall_eq, not_true_eq_false, not_false_eq_true, true_implies, false_implies, implies_true, and_true, true_and, and_self]
      refine ih (i + 1) _ (by omega) (by omega) (fun s hs => ?_)
      by_cases e : s = i
      · rw [e, pk_us]
      · rw [pk_un e]
        exact hA s (by omega)
    · have : i = 3 * m := by omega
      subst this
      have z3 : nI (3 * m) ≤ nI (3 * m) := nI_le (Nat.le_refl _) (by omega)
      simp only [wX_join_129, e1, z3, forall_eq, not_true_eq_false, not_false_eq_true, true_implies, false_implies, implies_true, and_true, true_and, and_self]
      exact H _ hA
theorem nq_x31 {post : SX → Prop} {J4 : Int32 → Int32 → Int32 → Int32 → Int32 → Int32 → Int32 → Int32 → Int32 → (Nat → Int64) → (Nat → Int32) → (Nat → Int32) → (Nat → Int32) → (Nat → Int32) → (Nat → Int32) → (Nat → Int32) → (Nat → Int32) → (Nat → Int32) → (Nat → Int64) → (Nat → Int32) → (Nat → Int32) → (Nat → Int64) → (Nat → Int32) → (Nat → Int32) → (Nat → Int64) → (Nat → Int64) → Prop} {c : Nat} {x2 : Int32} (hc : c < 216) (H : ∀ Cb', (∀ s, s < 3 → Cb' (3 * c + s) = Ha s) → (∀ j, (j < 3 * c ∨ 3 * c + 3 ≤ j) → Cb' j = Cb j) → J4 (nI (c + 1)) (x2 + 1) sc od nc tp cc gc ac Ce Rc St Jl Tk Tn Su Ne Ha Sk Cb' Jd Va Go Fm An Ov) : ∀ f i Cb', i ≤ 3 → 3 - i < f → (∀ s, s < i → Cb' (3 * c + s) = Ha s) → (∀ j, (j < 3 * c ∨ 3 * c + 3 ≤ j) → Cb' j = Cb j) → wX_keepWhere_31 post J4 (nI c) x2 sc od nc tp cc gc ac f (nI i) Ce Rc St Jl Tk Tn Su Ne Ha Sk Cb' Jd Va Go Fm An Ov := by
  intro f
  induction f with
  | zero => intro i _ _ h; omega
  | succ f ih =>
    intro i Cb' hi hf hA hB
    rcases Nat.lt_or_ge i 3 with z | z
    · have z3 : ¬ 3 ≤ nI i := nI_ge (b := 3) z (by decide)
      have e1 : nI c * 3 + nI i = nI (3 * c + i) := by
        simp only [nq_i3, pk_mul, nI_add]
        exact congrArg nI (by omega)
      have i1 : vp_in (nI (3 * c + i)) 648 := vp_in_nI (by omega) (by decide)
      have c1 : (nI (3 * c + i)).toNatClampNeg = 3 * c + i := nI_clamp (by omega)
      have i2 : vp_in (nI i) 4 := vp_in_nI (by omega) (by decide)
      have c2 : (nI i).toNatClampNeg = i := nI_clamp (by omega)
      simp only [wX_keepWhere_31, z3, e1, i1, c1, i2, c2, nI_1, forall_eq, not_true_eq_false, not_false_eq_true, true_implies, false_implies, implies_true, and_true, true_and, and_self]
      refine ih (i + 1) _ (by omega) (by omega) (fun s hs => ?_) (fun s hs => ?_)
      · by_cases e : s = i
        · rw [e, pk_us]
        · rw [pk_un (by omega)]
          exact hA s (by omega)
      · rw [pk_un (by omega)]
        exact hB s hs
    · have : i = 3 := by omega
      subst this
      simp only [wX_keepWhere_31, show (3 : Int32) ≤ nI 3 from by decide, nI_1, forall_eq, not_true_eq_false, not_false_eq_true, true_implies, false_implies, implies_true, and_true, true_and, and_self]
      exact H _ hA hB
theorem nq_yTake {post : SY → Prop} {c : Nat} (hc : c < 216) (H : ∀ yHa', (∀ s, s < 3 → yHa' s = yCo (3 * c + s)) → post (src, dis, opn, sbt, sbr, dep, mny, mor, grs, fnd, kpt, yRo, yCe, yTo, yIl, ySz, yTk, yIn, yEn, ySu, yWc, yWi, yHa', ySk, yCo, yLo, yGo, yFi, yRe, ySo, yAn)) : wpY_takeUp post (src, dis, opn, sbt, sbr, dep, mny, mor, grs, fnd, kpt, yRo, yCe, yTo, yIl, ySz, yTk, yIn, yEn, ySu, yWc, yWi, yHa, ySk, yCo, yLo, yGo, yFi, yRe, ySo, yAn) (nI c) := by
  have c0 : 0 ≤ nI c := nI_pos' (by omega)
  have key : ∀ f i yHa', i ≤ 3 → 3 - i < f → (∀ s, s < i → yHa' s = yCo (3 * c + s)) → wY_takeUp_2 post (nI c) src dis opn sbt sbr dep mny mor grs fnd kpt f (nI i) yRo yCe yTo yIl ySz yTk yIn yEn ySu yWc yWi yHa' ySk yCo yLo yGo yFi yRe ySo yAn := by
    intro f
    induction f with
    | zero => intro i _ _ h; omega
    | succ f ih =>
      intro i yHa' hi hf hA
      rcases Nat.lt_or_ge i 3 with z | z
      · have z3 : ¬ 3 ≤ nI i := nI_ge (b := 3) z (by decide)
        have e1 : 3 * nI c + nI i = nI (3 * c + i) := by simp only [nq_i3, pk_mul, nI_add]
        have i1 : vp_in (nI (3 * c + i)) 648 := vp_in_nI (by omega) (by decide)
        have c1 : (nI (3 * c + i)).toNatClampNeg = 3 * c + i := nI_clamp (by omega)
        have i2 : vp_in (nI i) 3 := vp_in_nI (by omega) (by decide)
        have c2 : (nI i).toNatClampNeg = i := nI_clamp (by omega)
        simp only [wY_takeUp_2, z3, c0, e1, i1, c1, i2, c2, nI_1, forall_eq, not_true_eq_false, not_false_eq_true, true_implies, false_implies, implies_true, and_true, true_and, and_self]
        refine ih (i + 1) _ (by omega) (by omega) (fun s hs => ?_)
        by_cases e : s = i
        · rw [e, pk_us]
        · rw [pk_un e]
          exact hA s (by omega)
      · have : i = 3 := by omega
        subst this
        simp only [wY_takeUp_2, show (3 : Int32) ≤ nI 3 from by decide, forall_eq, not_true_eq_false, not_false_eq_true, true_implies, false_implies, implies_true, and_true, true_and, and_self]
        exact H _ hA
  exact ⟨_, key 4 0 yHa (by omega) (by omega) (fun s hs => by omega)⟩
theorem nq_yTakeN {post : SY → Prop} (H : ∀ yHa', (∀ s, s < 3 → yHa' s = -1) → post (src, dis, opn, sbt, sbr, dep, mny, mor, grs, fnd, kpt, yRo, yCe, yTo, yIl, ySz, yTk, yIn, yEn, ySu, yWc, yWi, yHa', ySk, yCo, yLo, yGo, yFi, yRe, ySo, yAn)) : wpY_takeUp post (src, dis, opn, sbt, sbr, dep, mny, mor, grs, fnd, kpt, yRo, yCe, yTo, yIl, ySz, yTk, yIn, yEn, ySu, yWc, yWi, yHa, ySk, yCo, yLo, yGo, yFi, yRe, ySo, yAn) (-1) := by
  have c0 : ¬ (0 : Int32) ≤ -1 := by decide
  have key : ∀ f i yHa', i ≤ 3 → 3 - i < f → (∀ s, s < i → yHa' s = -1) → wY_takeUp_2 post (-1) src dis opn sbt sbr dep mny mor grs fnd kpt f (nI i) yRo yCe yTo yIl ySz yTk yIn yEn ySu yWc yWi yHa' ySk yCo yLo yGo yFi yRe ySo yAn := by
    intro f
    induction f with
    | zero => intro i _ _ h; omega
    | succ f ih =>
      intro i yHa' hi hf hA
      rcases Nat.lt_or_ge i 3 with z | z
      · have z3 : ¬ 3 ≤ nI i := nI_ge (b := 3) z (by decide)
        have i2 : vp_in (nI i) 3 := vp_in_nI (by omega) (by decide)
        have c2 : (nI i).toNatClampNeg = i := nI_clamp (by omega)
        simp only [wY_takeUp_2, z3, c0, i2, c2, nI_1, forall_eq, not_true_eq_false, not_false_eq_true, true_implies, false_implies, implies_true, and_true, true_and, and_self]
        refine ih (i + 1) _ (by omega) (by omega) (fun s hs => ?_)
        by_cases e : s = i
        · rw [e, pk_us]
        · rw [pk_un e]
          exact hA s (by omega)
      · have : i = 3 := by omega
        subst this
        simp only [wY_takeUp_2, show (3 : Int32) ≤ nI 3 from by decide, forall_eq, not_true_eq_false, not_false_eq_true, true_implies, false_implies, implies_true, and_true, true_and, and_self]
        exact H _ hA
  exact ⟨_, key 4 0 yHa (by omega) (by omega) (fun s hs => by omega)⟩
theorem nq_yKeep {post : SY → Prop} {c : Nat} (hc : c < 216) (H : ∀ yLo', (∀ s, s < 3 → yLo' (3 * c + s) = yHa s) → (∀ j, j < 3 * c → yLo' j = yLo j) → post (src, dis, opn, sbt, sbr, dep, mny, (nI (c + 1)), grs, fnd, kpt, yRo, yCe, yTo, yIl, ySz, yTk, yIn, yEn, ySu, yWc, yWi, yHa, ySk, yCo, yLo', yGo, yFi, yRe, ySo, yAn)) : wpY_keepHand post (src, dis, opn, sbt, sbr, dep, mny, (nI c), grs, fnd, kpt, yRo, yCe, yTo, yIl, ySz, yTk, yIn, yEn, ySu, yWc, yWi, yHa, ySk, yCo, yLo, yGo, yFi, yRe, ySo, yAn) := by
  have key : ∀ f i yLo', i ≤ 3 → 3 - i < f → (∀ s, s < i → yLo' (3 * c + s) = yHa s) → (∀ j, j < 3 * c → yLo' j = yLo j) → wY_keepHand_2 post src dis opn sbt sbr dep mny (nI c) grs fnd kpt f (nI i) yRo yCe yTo yIl ySz yTk yIn yEn ySu yWc yWi yHa ySk yCo yLo' yGo yFi yRe ySo yAn := by
    intro f
    induction f with
    | zero => intro i _ _ h; omega
    | succ f ih =>
      intro i yLo' hi hf hA hB
      rcases Nat.lt_or_ge i 3 with z | z
      · have z3 : ¬ 3 ≤ nI i := nI_ge (b := 3) z (by decide)
        have e1 : 3 * nI c + nI i = nI (3 * c + i) := by simp only [nq_i3, pk_mul, nI_add]
        have i1 : vp_in (nI (3 * c + i)) 648 := vp_in_nI (by omega) (by decide)
        have c1 : (nI (3 * c + i)).toNatClampNeg = 3 * c + i := nI_clamp (by omega)
        have i2 : vp_in (nI i) 3 := vp_in_nI (by omega) (by decide)
        have c2 : (nI i).toNatClampNeg = i := nI_clamp (by omega)
        simp only [wY_keepHand_2, z3, e1, i1, c1, i2, c2, nI_1, forall_eq, not_true_eq_false, not_false_eq_true, true_implies, false_implies, implies_true, and_true, true_and, and_self]
        refine ih (i + 1) _ (by omega) (by omega) (fun s hs => ?_) (fun s hs => ?_)
        · by_cases e : s = i
          · rw [e, pk_us]
          · rw [pk_un (by omega)]
            exact hA s (by omega)
        · rw [pk_un (by omega)]
          exact hB s hs
      · have : i = 3 := by omega
        subst this
        simp only [wY_keepHand_2, show (3 : Int32) ≤ nI 3 from by decide, nI_1, forall_eq, not_true_eq_false, not_false_eq_true, true_implies, false_implies, implies_true, and_true, true_and, and_self]
        exact H _ hA hB
  exact ⟨_, key 4 0 yLo (by omega) (by omega) (fun s hs => by omega) (fun s _ => rfl)⟩
theorem nq_ySwap {post : SY → Prop} {m : Nat} (hm : m ≤ 216) (H : ∀ yCo', (∀ j, j < 3 * m → yCo' j = yLo j) → post (src, dis, opn, sbt, sbr, dep, (nI m), (nI m), grs, fnd, kpt, yRo, yCe, yTo, yIl, ySz, yTk, yIn, yEn, ySu, yWc, yWi, yHa, ySk, yCo', yLo, yGo, yFi, yRe, ySo, yAn)) : wpY_swap post (src, dis, opn, sbt, sbr, dep, mny, (nI m), grs, fnd, kpt, yRo, yCe, yTo, yIl, ySz, yTk, yIn, yEn, ySu, yWc, yWi, yHa, ySk, yCo, yLo, yGo, yFi, yRe, ySo, yAn) := by
  have e1 : 3 * nI m = nI (3 * m) := by simp only [nq_i3, pk_mul]
  have key : ∀ f i yCo', i ≤ 3 * m → 3 * m - i < f → (∀ j, j < i → yCo' j = yLo j) → wY_swap_2 post src dis opn sbt sbr dep mny (nI m) grs fnd kpt f (nI i) yRo yCe yTo yIl ySz yTk yIn yEn ySu yWc yWi yHa ySk yCo' yLo yGo yFi yRe ySo yAn := by
    intro f
    induction f with
    | zero => intro i _ _ h; omega
    | succ f ih =>
      intro i yCo' hi hf hA
      rcases Nat.lt_or_ge i (3 * m) with z | z
      · have z3 : ¬ nI (3 * m) ≤ nI i := nI_ge z (by omega)
        have i2 : vp_in (nI i) 648 := vp_in_nI (by omega) (by decide)
        have c2 : (nI i).toNatClampNeg = i := nI_clamp (by omega)
        simp only [wY_swap_2, e1, z3, i2, c2, nI_1, forall_eq, not_true_eq_false, not_false_eq_true, true_implies, false_implies, implies_true, and_true, true_and, and_self]
        refine ih (i + 1) _ (by omega) (by omega) (fun s hs => ?_)
        by_cases e : s = i
        · rw [e, pk_us]
        · rw [pk_un e]
          exact hA s (by omega)
      · have : i = 3 * m := by omega
        subst this
        have z3 : nI (3 * m) ≤ nI (3 * m) := nI_le (Nat.le_refl _) (by omega)
        simp only [wY_swap_2, e1, z3, forall_eq, not_true_eq_false, not_false_eq_true, true_implies, false_implies, implies_true, and_true, true_and, and_self]
        exact H _ hA
  exact ⟨_, key (3 * m + 1) 0 yCo (by omega) (by omega) (fun s hs => by omega)⟩
end
end
section
section
variable {sc od nc tp cc gc ac : Int32} {Ce Sk Va An Ov : Nat → Int64} {Rc St Jl Tk Tn Su Ne Ha Cb Jd Go Fm : Nat → Int32}
variable {src dis opn sbt sbr dep mny mor grs fnd kpt : Int32} {ySk yRe ySo yAn : Nat → Int64} {yRo yCe yTo yIl ySz yTk yIn yEn ySu yWc yWi yHa yCo yLo yGo yFi : Nat → Int32}
variable {n t : Nat → Nat} {p : Nat} {cv : Nat → nq_V} {h hv : Nat → Option Nat} {rw tb : Nat → Nat}
def nq_hv (tb : Nat → Nat) (h : Nat → Option Nat) : Nat → Option Nat := fun s => if s = 3 then none else (h s).map (fun r => 18 * tb s + 3 * r)
def nq_Hok (h : Nat → Option Nat) : Prop := ∀ s, s < 3 → ∀ r, h s = some r → r < 6
def nq_ex (tb : Nat → Nat) (h : Nat → Option Nat) (s : Nat) : Int32 := nq_hx (nq_hv tb h s)
def nq_ey (h : Nat → Option Nat) (s : Nat) : Int32 := nq_hx (h s)
/-- combinations in an array -/
def nq_CA (enc : (Nat → Option Nat) → Nat → Int32) (A : Nat → Int32) (C : List (Nat → Option Nat)) : Prop := ∀ i h, C[i]? = some h → ∀ s, s < 3 → A (3 * i + s) = enc h s
def nq_Cok (C : List (Nat → Option Nat)) : Prop := ∀ h, h ∈ C → nq_Hok h
def nq_TB (tb : Nat → Nat) (St : Nat → Int32) : Prop := ∀ s, s < 3 → tb s < 3 ∧ St s = nI (tb s)
def nq_RW (rw : Nat → Nat) (Rc : Nat → Int32) : Prop := ∀ i, i < 3 → rw i ≤ 6 ∧ Rc i = nI (rw i)
def nq_Full (n t : Nat → Nat) : Prop := ∀ p, p < 10 → 0 < n p → nq_ws p t (n p) = []
/-- a part's value at a combination -/
def nq_val (cv : Nat → nq_V) (rw tb n t : Nat → Nat) (p : Nat) (h : Nat → Option Nat) : nq_V := nq_pv cv rw n t p (nq_hv tb h)
theorem nq_HXof (hTb : nq_TB tb St) (hok : nq_Hok h) (hA : ∀ s, s < 3 → Ha s = nq_ex tb h s) (h3 : Ha 3 = -1) : nq_HX Ha (nq_hv tb h) := by
  intro s hs
  by_cases e : s = 3
  · subst e
    refine ⟨by rw [h3]; rfl, fun q hq => ?_⟩
    have : nq_hv tb h 3 = none := rfl
    rw [this] at hq
    cases hq
  · refine ⟨hA s (by omega), fun q hq => ?_⟩
    unfold nq_hv at hq
    rw [if_neg e] at hq
    cases hh : h s with
    | none => rw [hh] at hq; cases hq
    | some r =>
      rw [hh] at hq
      have hq2 : 18 * tb s + 3 * r = q := Option.some.inj hq
      have := hok s (by omega) r hh
      have := (hTb s (by omega)).1
      omega
theorem nq_HYof (hTb : nq_TB tb yTo) (hok : nq_Hok h) (hA : ∀ s, s < 3 → yHa s = nq_ey h s) : nq_HY yHa yTo tb h (nq_hv tb h) := by
  intro s hs
  refine ⟨hA s hs, (hTb s hs).2, (hTb s hs).1, hok s hs, ?_⟩
  unfold nq_hv
  rw [if_neg (by omega)]
def nq_hs (h : Nat → Option Nat) (s : Nat) (o : Option Nat) : Nat → Option Nat := fun s' => if s' = s then o else h s'
theorem nq_hs_ok {s : Nat} {o : Option Nat} (hok : nq_Hok h) (ho : ∀ r, o = some r → r < 6) : nq_Hok (nq_hs h s o) := by
  intro s' hs' r hr
  unfold nq_hs at hr
  by_cases e : s' = s
  · rw [if_pos e] at hr
    exact ho r hr
  · rw [if_neg e] at hr
    exact hok s' hs' r hr
theorem nq_ex_s {s r : Nat} (hs : s < 3) : nq_ex tb (nq_hs h s (some r)) s = nI (18 * tb s + 3 * r) := by
  unfold nq_ex nq_hv nq_hs
  rw [if_neg (by omega)]
  simp only [if_true, Option.map_some, nq_hx]
theorem nq_ex_n {s : Nat} (hs : s < 3) : nq_ex tb (nq_hs h s none) s = -1 := by
  unfold nq_ex nq_hv nq_hs
  rw [if_neg (by omega)]
  simp only [if_true, Option.map_none, nq_hx]
theorem nq_ex_o {s s' : Nat} {o : Option Nat} (hs : s' ≠ s) : nq_ex tb (nq_hs h s o) s' = nq_ex tb h s' := by
  unfold nq_ex nq_hv nq_hs
  simp only [if_neg hs]
/-- the rows 0 .. r - 1 of a source joined to h -/
def nq_jr (ok : (Nat → Option Nat) → Bool) (s : Nat) (h : Nat → Option Nat) : Nat → List (Nat → Option Nat)
  | 0 => []
  | r + 1 => nq_jr ok s h r ++ (if ok (nq_hs h s (some r)) = true then [nq_hs h s (some r)] else [])
def nq_jo (ok : (Nat → Option Nat) → Bool) (s : Nat) (left : Bool) (R : Nat) (h : Nat → Option Nat) : List (Nat → Option Nat) :=
  if ((nq_jr ok s h R).length = 0 ∧ left = true) then [nq_hs h s none] else nq_jr ok s h R
def nq_jn (ok : (Nat → Option Nat) → Bool) (s : Nat) (left : Bool) (R : Nat) (C : List (Nat → Option Nat)) : List (Nat → Option Nat) := C.flatMap (nq_jo ok s left R)
theorem nq_jr_l {ok : (Nat → Option Nat) → Bool} {s : Nat} : ∀ r, (nq_jr ok s h r).length ≤ r := by
  intro r
  induction r with
  | zero => exact Nat.le_refl _
  | succ r ih =>
    simp only [nq_jr, List.length_append]
    split
    · rw [List.length_singleton]; omega
    · rw [List.length_nil]; omega
theorem nq_jo_l {ok : (Nat → Option Nat) → Bool} {s R : Nat} {left : Bool} (hR : R ≤ 6) : (nq_jo ok s left R h).length ≤ 6 := by
  unfold nq_jo
  split
  · rw [List.length_singleton]; omega
  · have := nq_jr_l (ok := ok) (s := s) (h := h) R
    omega
theorem nq_jn_l {ok : (Nat → Option Nat) → Bool} {s R : Nat} {left : Bool} (hR : R ≤ 6) : ∀ C, (nq_jn ok s left R C).length ≤ 6 * C.length := by
  intro C
  induction C with
  | nil => exact Nat.le_refl _
  | cons h C ih =>
    unfold nq_jn at ih ⊢
    rw [List.flatMap_cons, List.length_append, List.length_cons]
    have := nq_jo_l (ok := ok) (s := s) (left := left) (h := h) hR
    omega
theorem nq_jr_ok {ok : (Nat → Option Nat) → Bool} {s : Nat} (hok : nq_Hok h) : ∀ r, r ≤ 6 → nq_Cok (nq_jr ok s h r) := by
  intro r
  induction r with
  | zero => intro _ g hg; cases hg
  | succ r ih =>
    intro hr g hg
    simp only [nq_jr] at hg
    rcases List.mem_append.mp hg with z | z
    · exact ih (by omega) g z
    · split at z
      · rw [List.mem_singleton] at z
        rw [z]
        exact nq_hs_ok hok (fun q hq => by cases hq; omega)
      · cases z
theorem nq_jn_ok {ok : (Nat → Option Nat) → Bool} {s R : Nat} {left : Bool} {C : List (Nat → Option Nat)} (hR : R ≤ 6) (hC : nq_Cok C) : nq_Cok (nq_jn ok s left R C) := by
  intro g hg
  unfold nq_jn at hg
  rw [List.mem_flatMap] at hg
  obtain ⟨h, h1, h2⟩ := hg
  unfold nq_jo at h2
  split at h2
  · rw [List.mem_singleton] at h2
    rw [h2]
    exact nq_hs_ok (hC h h1) (fun q hq => by cases hq)
  · exact nq_jr_ok (hC h h1) R hR g h2
theorem nq_CA_a {enc : (Nat → Option Nat) → Nat → Int32} {A A' : Nat → Int32} {D : List (Nat → Option Nat)} (hD : nq_CA enc A D) (h1 : ∀ s, s < 3 → A' (3 * D.length + s) = enc h s) (h2 : ∀ j, j < 3 * D.length → A' j = A j) : nq_CA enc A' (D ++ [h]) := by
  intro i g hg s hs
  rcases Nat.lt_trichotomy i D.length with z | z | z
  · rw [List.getElem?_append_left z] at hg
    rw [h2 _ (by omega)]
    exact hD i g hg s hs
  · subst z
    rw [List.getElem?_append_right (Nat.le_refl _), Nat.sub_self] at hg
    cases hg
    exact h1 s hs
  · rw [List.getElem?_append_right (by omega)] at hg
    obtain ⟨k, hk⟩ : ∃ k, i - D.length = k + 1 := ⟨i - D.length - 1, by omega⟩
    rw [hk] at hg
    cases hg
theorem nq_xEv {post : Int64 → SX → Prop} (hT : nq_TT n t Tn Tk) (hW : nq_WF n t) (hF : nq_Full n t) (hRw : nq_RW rw Rc) (hTb : nq_TB tb St) (hp : p < 10) (hok : nq_Hok h) (hA : ∀ s, s < 3 → Ha s = nq_ex tb h s) (h3 : Ha 3 = -1) (H : ∀ tp' Sk', post (nq_x (if p ≤ 3 then 1 else 0) (nq_val cv rw tb n t p h)) (sc, od, nc, tp', cc, gc, ac, (fun j => nq_e (cv j)), Rc, St, Jl, Tk, Tn, Su, Ne, Ha, Sk', Cb, Jd, Va, Go, Fm, An, Ov)) : wpX_evaluate post (sc, od, nc, tp, cc, gc, ac, (fun j => nq_e (cv j)), Rc, St, Jl, Tk, Tn, Su, Ne, Ha, Sk, Cb, Jd, Va, Go, Fm, An, Ov) (nI p) :=
  nq_xEval hT hW hp (hF p hp) (nq_HXof hTb hok hA h3) h3 hRw H
theorem nq_x33 {post : SX → Prop} {J12 : Int32 → Int32 → Int32 → Int32 → Int32 → Int32 → Int32 → Int32 → Int32 → (Nat → Int64) → (Nat → Int32) → (Nat → Int32) → (Nat → Int32) → (Nat → Int32) → (Nat → Int32) → (Nat → Int32) → (Nat → Int32) → (Nat → Int32) → (Nat → Int64) → (Nat → Int32) → (Nat → Int32) → (Nat → Int64) → (Nat → Int32) → (Nat → Int32) → (Nat → Int64) → (Nat → Int64) → Prop} {s i : Nat} {ok : (Nat → Option Nat) → Bool} {left : Bool} {D : List (Nat → Option Nat)} (hT : nq_TT n t Tn Tk) (hW : nq_WF n t) (hF : nq_Full n t) (hRw : nq_RW rw Rc) (hTb : nq_TB tb St) (hs : s < 3) (hok : nq_Hok h) (hD : D.length ≤ 210)
    (ok0 : s = 0 → ∀ g, ok g = true) (ok1 : s ≠ 0 → ∀ g, ok g = nq_T (nq_val cv rw tb n t s g)) (lf0 : s = 0 → left = false) (lf1 : s ≠ 0 → left = decide (Jl s ≠ 0))
    (H : ∀ tp' Ha' Sk' Jd', Ha' 3 = -1 → nq_CA (nq_ex tb) Jd' (D ++ nq_jo ok s left (rw (tb s)) h) → J12 (nI (D ++ nq_jo ok s left (rw (tb s)) h).length) (nI (i + 1)) sc od nc tp' cc gc ac (fun j => nq_e (cv j)) Rc St Jl Tk Tn Su Ne Ha' Sk' Cb Jd' Va Go Fm An Ov) :
    ∀ f r, r ≤ rw (tb s) → rw (tb s) - r < f → ∀ tp Ha Sk Jd, (∀ s', s' < 3 → s' ≠ s → Ha s' = nq_ex tb h s') → Ha 3 = -1 → nq_CA (nq_ex tb) Jd (D ++ nq_jr ok s h r) → wX_join_33 post J12 (nI s) (nI (tb s)) (nI i) (nI D.length) f (nI (D ++ nq_jr ok s h r).length) (nI r) sc od nc tp cc gc ac (fun j => nq_e (cv j)) Rc St Jl Tk Tn Su Ne Ha Sk Cb Jd Va Go Fm An Ov := by
  obtain ⟨tb3, hSt⟩ := hTb s hs
  obtain ⟨r6, hr⟩ := hRw (tb s) tb3
  have it : vp_in (nI (tb s)) 3 := vp_in_nI tb3 (by decide)
  have ct : (nI (tb s)).toNatClampNeg = tb s := nI_clamp (by omega)
  have is3 : vp_in (nI s) 3 := vp_in_nI hs (by decide)
  have is4 : vp_in (nI s) 4 := vp_in_nI (by omega) (by decide)
  have cs : (nI s).toNatClampNeg = s := nI_clamp (by omega)
  intro f
  induction f with
  | zero => intro r _ h; omega
  | succ f ih =>
    intro r hr1 hf tp Ha Sk Jd hA h3 hC
    have jl := nq_jr_l (ok := ok) (s := s) (h := h) r
    rcases Nat.lt_or_ge r (rw (tb s)) with z | z
    · have z3 : ¬ nI (rw (tb s)) ≤ nI r := nI_ge z (by omega)
      have e1 : (nI (tb s) * 6 + nI r) * 3 = nI (18 * tb s + 3 * r) := by
        simp only [nq_i6, nq_i3, pk_mul, nI_add]
        exact congrArg nI (by omega)
      have hA' : ∀ s', s' < 3 → upd Ha s (nI (18 * tb s + 3 * r)) s' = nq_ex tb (nq_hs h s (some r)) s' := by
        intro s' hs'
        by_cases e : s' = s
        · rw [e, pk_us, nq_ex_s hs]
        · rw [pk_un e, nq_ex_o e]
          exact hA s' hs' e
      have h3' : upd Ha s (nI (18 * tb s + 3 * r)) 3 = -1 := by rw [pk_un (by omega)]; exact h3
      have hok' : nq_Hok (nq_hs h s (some r)) := nq_hs_ok hok (fun q hq => by cases hq; omega)
      have hlen : (D ++ nq_jr ok s h r).length < 216 := by rw [List.length_append]; omega
      have put : ok (nq_hs h s (some r)) = true → ∀ tp' Sk', wX_join_72 post J12 (wX_join_33 post J12 (nI s) (nI (tb s)) (nI i) (nI D.length) f) (nI s) (nI (tb s)) (nI (D ++ nq_jr ok s h r).length) (nI i) (nI D.length) (nI r) sc od nc tp' cc gc ac (fun j => nq_e (cv j)) Rc St Jl Tk Tn Su Ne (upd Ha s (nI (18 * tb s + 3 * r))) Sk' Cb Jd Va Go Fm An Ov := by
        intro hk tp' Sk'
        simp only [wX_join_72, nI_1, forall_eq, not_true_eq_false, not_false_eq_true, true_implies, false_implies, implies_true, and_true, true_and, and_self]
        refine nq_xPut hlen fun Jd' g1 g2 => ?_
        have ee : D ++ nq_jr ok s h (r + 1) = (D ++ nq_jr ok s h r) ++ [nq_hs h s (some r)] := by
          simp only [nq_jr, hk, if_true, List.append_assoc]
        have := ih (r + 1) (by omega) (by omega) tp' (upd Ha s (nI (18 * tb s + 3 * r))) Sk' Jd' (fun s' a b => by rw [pk_un b]; exact hA s' a b) h3' (by
          rw [ee]
          exact nq_CA_a hC (fun s' hs' => by rw [g1 s' hs']; exact hA' s' hs') g2)
        rw [ee, List.length_append, List.length_singleton] at this
        exact this
      have skip : ok (nq_hs h s (some r)) = false → ∀ tp' Sk', wX_join_33 post J12 (nI s) (nI (tb s)) (nI i) (nI D.length) f (nI (D ++ nq_jr ok s h r).length) (nI (r + 1)) sc od nc tp' cc gc ac (fun j => nq_e (cv j)) Rc St Jl Tk Tn Su Ne (upd Ha s (nI (18 * tb s + 3 * r))) Sk' Cb Jd Va Go Fm An Ov := by
        intro hk tp' Sk'
        have ee : D ++ nq_jr ok s h (r + 1) = D ++ nq_jr ok s h r := by
          simp only [nq_jr, hk, reduceCtorEq, if_false, List.append_nil]
        have := ih (r + 1) (by omega) (by omega) tp' (upd Ha s (nI (18 * tb s + 3 * r))) Sk' Jd (fun s' a b => by rw [pk_un b]; exact hA s' a b) h3' (by
          rw [ee]
          exact hC)
        rw [ee] at this
        exact this
      by_cases s0 : s = 0
      · simp only [wX_join_33, it, ct, hr, z3, wpX_placeOf, e1, is4, cs, show (nI (s) < (0 : Int32)) = ((s) < 0) from propext (nI_ltI (b := 0) (by omega) (by decide)), show ((0 : Int32) < nI (s)) = (0 < (s)) from propext (nI_ltI (a := 0) (by decide) (by omega)), show (nI (s) ≤ (0 : Int32)) = ((s) ≤ 0) from propext (nI_leI (b := 0) (by omega) (by decide)), show ((0 : Int32) ≤ nI (s)) = (0 ≤ (s)) from propext (nI_leI (a := 0) (by decide) (by omega)), show (nI (s) = (0 : Int32)) = ((s) = 0) from propext (nI_eq (b := 0) (by omega) (by decide)), forall_eq, not_true_eq_false, not_false_eq_true, true_implies, false_implies, implies_true, and_true, true_and, and_self]
        exact br_t s0 (put (ok0 s0 _) tp Sk)
      · have es0 : ¬ nI s = 0 := nI_ne0 (by omega) (by omega)
        simp only [wX_join_33, it, ct, hr, z3, wpX_placeOf, e1, is4, cs, es0, nI_1, forall_eq, not_true_eq_false, not_false_eq_true, true_implies, false_implies, implies_true, and_true, true_and, and_self]
        refine nq_xEv hT hW hF hRw hTb (show s < 10 by omega) hok' hA' h3' fun tp' Sk' => ?_
        have s3 : s ≤ 3 := by omega
        simp only [s3, if_true, nq_x, show (1 % 2 = 1) from rfl, nq_cT]
        rw [← ok1 s0]
        rcases Bool.eq_false_or_eq_true (ok (nq_hs h s (some r))) with hk | hk
        · simp only [hk, forall_eq, not_true_eq_false, not_false_eq_true, true_implies, false_implies, implies_true, and_true, true_and, and_self]
          exact put hk tp' Sk'
        · simp only [hk, reduceCtorEq, forall_eq, not_true_eq_false, not_false_eq_true, true_implies, false_implies, implies_true, and_true, true_and, and_self]
          exact skip hk tp' Sk'
    · have : r = rw (tb s) := by omega
      subst this
      have z3 : nI (rw (tb s)) ≤ nI (rw (tb s)) := nI_le (Nat.le_refl _) (by omega)
      simp only [wX_join_33, it, ct, hr, z3, nI_1, forall_eq, not_true_eq_false, not_false_eq_true, true_implies, false_implies, implies_true, and_true, true_and, and_self]
      have hll : (D ++ nq_jr ok s h (rw (tb s))).length = D.length + (nq_jr ok s h (rw (tb s))).length := List.length_append
      by_cases q0 : (nq_jr ok s h (rw (tb s))).length = 0
      · have e5 : nI (D ++ nq_jr ok s h (rw (tb s))).length = nI D.length := by rw [hll, q0, Nat.add_zero]
        by_cases hl : left = true
        · have s0 : ¬ s = 0 := fun e => by rw [lf0 e] at hl; cases hl
          have hj := lf1 s0
          rw [hl] at hj
          have hj2 : ¬ Jl s = 0 := of_decide_eq_true hj.symm
          have es0 : ¬ nI s ≤ 0 := nI_nle (by omega) (by omega)
          simp only [e5, es0, is3, is4, cs, hj2, forall_eq, not_true_eq_false, not_false_eq_true, true_implies, false_implies, implies_true, and_true, true_and, and_self]
          have ee : D ++ nq_jo ok s left (rw (tb s)) h = D ++ [nq_hs h s none] := by
            unfold nq_jo
            rw [if_pos ⟨q0, hl⟩]
          have ed : D ++ nq_jr ok s h (rw (tb s)) = D := by rw [List.eq_nil_of_length_eq_zero q0, List.append_nil]
          rw [ed] at hC ⊢
          refine nq_xPut (by omega) fun Jd' g1 g2 => ?_
          have := H tp (upd Ha s (-1)) Sk Jd' (by rw [pk_un (by omega)]; exact h3) (by
            rw [ee]
            refine nq_CA_a hC (fun s' hs' => ?_) g2
            rw [g1 s' hs']
            by_cases e : s' = s
            · rw [e, pk_us, nq_ex_n hs]
            · rw [pk_un e, nq_ex_o e]
              exact hA s' hs' e)
          rw [ee, List.length_append, List.length_singleton] at this
          exact this
        · have ee : nq_jo ok s left (rw (tb s)) h = nq_jr ok s h (rw (tb s)) := by
            unfold nq_jo
            rw [if_neg (fun z => hl z.2)]
          rw [ee] at H
          have HH := H tp Ha Sk Jd h3 hC
          rw [e5] at HH ⊢
          by_cases s0 : s = 0
          · have es0 : nI s ≤ 0 := by rw [s0]; decide
            simp only [es0, forall_eq, not_true_eq_false, not_false_eq_true, true_implies, false_implies, implies_true, and_true, true_and, and_self]
            exact HH
          · have es0 : ¬ nI s ≤ 0 := nI_nle (by omega) (by omega)
            have hj2 : Jl s = 0 := by
              apply Classical.byContradiction
              intro hz
              exact hl ((lf1 s0).trans (decide_eq_true hz))
            simp only [es0, is3, cs, hj2, forall_eq, not_true_eq_false, not_false_eq_true, true_implies, false_implies, implies_true, and_true, true_and, and_self]
            exact HH
      · have e5 : ¬ nI (D ++ nq_jr ok s h (rw (tb s))).length = nI D.length := by
          intro e
          have := (nI_eq (by omega) (by omega)).mp e
          omega
        have ee : nq_jo ok s left (rw (tb s)) h = nq_jr ok s h (rw (tb s)) := by
          unfold nq_jo
          rw [if_neg (fun z => q0 z.1)]
        rw [ee] at H
        simp only [e5, forall_eq, not_true_eq_false, not_false_eq_true, true_implies, false_implies, implies_true, and_true, true_and, and_self]
        exact H tp Ha Sk Jd h3 hC
theorem nq_xJoin {post : SX → Prop} {s : Nat} {ok : (Nat → Option Nat) → Bool} {left : Bool} {C : List (Nat → Option Nat)} (hT : nq_TT n t Tn Tk) (hW : nq_WF n t) (hF : nq_Full n t) (hRw : nq_RW rw Rc) (hTb : nq_TB tb St) (hs : s < 3) (hC : nq_CA (nq_ex tb) Cb C) (hCo : nq_Cok C) (hCl : C.length ≤ 36) (h3 : Ha 3 = -1)
    (ok0 : s = 0 → ∀ g, ok g = true) (ok1 : s ≠ 0 → ∀ g, ok g = nq_T (nq_val cv rw tb n t s g)) (lf0 : s = 0 → left = false) (lf1 : s ≠ 0 → left = decide (Jl s ≠ 0))
    (H : ∀ tp' Ha' Sk' Cb' Jd', Ha' 3 = -1 → nq_CA (nq_ex tb) Cb' (nq_jn ok s left (rw (tb s)) C) → post (sc, od, nc, tp', (nI (nq_jn ok s left (rw (tb s)) C).length), gc, ac, (fun j => nq_e (cv j)), Rc, St, Jl, Tk, Tn, Su, Ne, Ha', Sk', Cb', Jd', Va, Go, Fm, An, Ov)) : wpX_join post (sc, od, nc, tp, (nI C.length), gc, ac, (fun j => nq_e (cv j)), Rc, St, Jl, Tk, Tn, Su, Ne, Ha, Sk, Cb, Jd, Va, Go, Fm, An, Ov) (nI s) := by
  obtain ⟨tb3, hSt⟩ := hTb s hs
  obtain ⟨r6, hr⟩ := hRw (tb s) tb3
  have is3 : vp_in (nI s) 3 := vp_in_nI hs (by decide)
  have cs : (nI s).toNatClampNeg = s := nI_clamp (by omega)
  simp only [wpX_join, is3, cs, hSt, forall_eq, not_true_eq_false, not_false_eq_true, true_implies, false_implies, implies_true, and_true, true_and, and_self]
  have key : ∀ f i, i ≤ C.length → C.length - i < f → ∀ tp Ha Sk Jd, Ha 3 = -1 → nq_CA (nq_ex tb) Jd (nq_jn ok s left (rw (tb s)) (C.take i)) → wX_join_12 post (nI s) (nI (tb s)) f (nI (nq_jn ok s left (rw (tb s)) (C.take i)).length) (nI i) sc od nc tp (nI C.length) gc ac (fun j => nq_e (cv j)) Rc St Jl Tk Tn Su Ne Ha Sk Cb Jd Va Go Fm An Ov := by
    intro f
    induction f with
    | zero => intro i _ h; omega
    | succ f ih =>
      intro i hi hf tp Ha Sk Jd h3 hJ
      have l1 := nq_jn_l (ok := ok) (s := s) (left := left) r6 (C.take i)
      rw [List.length_take] at l1
      rcases Nat.lt_or_ge i C.length with z | z
      · have z3 : ¬ nI C.length ≤ nI i := nI_ge z (by omega)
        simp only [wX_join_12, z3, forall_eq, not_true_eq_false, not_false_eq_true, true_implies, false_implies, implies_true, and_true, true_and, and_self]
        have hg : C[i]? = some C[i] := List.getElem?_eq_getElem z
        refine nq_xTake (by omega) fun Ha' g1 g2 => ?_
        have gg := nq_x33 (post := post) (J12 := wX_join_12 post (nI s) (nI (tb s)) f) (i := i) (h := C[i]) (cv := cv) (D := nq_jn ok s left (rw (tb s)) (C.take i)) (left := left) (ok := ok) (sc := sc) (od := od) (nc := nc) (cc := (nI C.length)) (gc := gc) (ac := ac) (Rc := Rc) (St := St) (Jl := Jl) (Tk := Tk) (Tn := Tn) (Su := Su) (Ne := Ne) (Cb := Cb) (Va := Va) (Go := Go) (Fm := Fm) (An := An) (Ov := Ov) hT hW hF hRw hTb hs (hCo _ (List.getElem_mem z)) (by omega) ok0 ok1 lf0 lf1 (by
          intro tp' Ha'' Sk' Jd' a1 a2
          have et : C.take (i + 1) = C.take i ++ [C[i]] := by rw [List.take_succ, hg]; rfl
          have en : nq_jn ok s left (rw (tb s)) (C.take (i + 1)) = nq_jn ok s left (rw (tb s)) (C.take i) ++ nq_jo ok s left (rw (tb s)) C[i] := by
            rw [et]
            unfold nq_jn
            rw [List.flatMap_append, List.flatMap_cons, List.flatMap_nil, List.append_nil]
          have := ih (i + 1) (by omega) (by omega) tp' Ha'' Sk' Jd' a1 (by rw [en]; exact a2)
          rw [en] at this
          exact this) (rw (tb s) + 1) 0 (by omega) (by omega) tp Ha' Sk Jd (fun s' a _ => by rw [g1 s' a]; exact hC i _ hg s' a) (by rw [g2 3 (by omega)]; exact h3) (by
            show nq_CA (nq_ex tb) Jd (_ ++ [])
            rw [List.append_nil]
            exact hJ)
        rw [show nq_jn ok s left (rw (tb s)) (C.take i) ++ nq_jr ok s C[i] 0 = nq_jn ok s left (rw (tb s)) (C.take i) from List.append_nil _] at gg
        exact ⟨_, gg⟩
      · have : i = C.length := by omega
        subst this
        have z3 : nI C.length ≤ nI C.length := nI_le (Nat.le_refl _) (by omega)
        rw [List.take_length] at hJ l1 ⊢
        simp only [wX_join_12, z3, forall_eq, not_true_eq_false, not_false_eq_true, true_implies, false_implies, implies_true, and_true, true_and, and_self]
        refine ⟨_, nq_x129 (by omega) (fun Cb' g1 => ?_) (3 * (nq_jn ok s left (rw (tb s)) C).length + 1) 0 Cb (by omega) (by omega) (fun j hj => by omega)⟩
        refine H _ _ _ _ _ h3 ?_
        intro i' g hg s' hs'
        have hi' : i' < (nq_jn ok s left (rw (tb s)) C).length := by
          rw [List.getElem?_eq_some_iff] at hg
          exact hg.1
        rw [g1 _ (by omega)]
        exact hJ i' g hg s' hs'
  exact ⟨_, key (C.length + 1) 0 (by omega) (by omega) tp Ha Sk Jd h3 (fun i g hg => by cases hg)⟩
end
end
section
section
variable {sc od nc tp cc gc ac : Int32} {Ce Sk Va An Ov : Nat → Int64} {Rc St Jl Tk Tn Su Ne Ha Cb Jd Go Fm : Nat → Int32}
variable {src dis opn sbt sbr dep mny mor grs fnd kpt : Int32} {ySk yRe ySo yAn : Nat → Int64} {yRo yCe yTo yIl ySz yTk yIn yEn ySu yWc yWi yHa yCo yLo yGo yFi : Nat → Int32}
variable {n t : Nat → Nat} {p : Nat} {cv : Nat → nq_V} {h hv : Nat → Option Nat} {rw tb : Nat → Nat}
def nq_YE (cv : Nat → nq_V) (rw tb n t : Nat → Nat) (yRo yTo ySz yTk yIn yEn : Nat → Int32) : Prop := nq_TT n t ySz yTk ∧ nq_WF n t ∧ nq_Full n t ∧ (∀ j, cv j ≠ some 1000) ∧ nq_RW rw yRo ∧ nq_TB tb yTo ∧ (∀ p, p < 10 → nq_In n t p yIn) ∧ (∀ p, p < 10 → ∀ k, k < n p → yEn (20 * p + k) = nI (nq_en p t k))
theorem nq_yWk {post : Int64 → SY → Prop} (E : nq_YE cv rw tb n t yRo yTo ySz yTk yIn yEn) (hp : p < 10) (h0 : 0 < n p) (hok : nq_Hok h) (hA : ∀ s, s < 3 → yHa s = nq_ey h s) (H : ∀ sbt' sbr' ySk', post (nq_y (if p ≤ 3 then 1 else 0) (nq_val cv rw tb n t p h)) (src, dis, opn, sbt', sbr', 0, mny, mor, grs, fnd, kpt, yRo, (fun j => nq_k (cv j)), yTo, yIl, ySz, yTk, yIn, yEn, ySu, yWc, yWi, yHa, ySk', yCo, yLo, yGo, yFi, yRe, ySo, yAn)) : wpY_work post (src, dis, opn, sbt, sbr, 0, mny, mor, grs, fnd, kpt, yRo, (fun j => nq_k (cv j)), yTo, yIl, ySz, yTk, yIn, yEn, ySu, yWc, yWi, yHa, ySk, yCo, yLo, yGo, yFi, yRe, ySo, yAn) (nI p) := by
  obtain ⟨e1, e2, e3, e4, e5, e6, e7, e8⟩ := E
  exact nq_yWork e1 e2 hp h0 (e3 p hp h0) e4 (nq_HYof e6 hok hA) e5 (e7 p hp) (e8 p hp) H
theorem nq_yTrue {post : Int32 → SY → Prop} (E : nq_YE cv rw tb n t yRo yTo ySz yTk yIn yEn) (hp : p ≤ 3) (hok : nq_Hok h) (hA : ∀ s, s < 3 → yHa s = nq_ey h s) (H : ∀ sbt' sbr' ySk', post (nq_b (nq_T (nq_val cv rw tb n t p h))) (src, dis, opn, sbt', sbr', 0, mny, mor, grs, fnd, kpt, yRo, (fun j => nq_k (cv j)), yTo, yIl, ySz, yTk, yIn, yEn, ySu, yWc, yWi, yHa, ySk', yCo, yLo, yGo, yFi, yRe, ySo, yAn)) : wpY_isTrue post (src, dis, opn, sbt, sbr, 0, mny, mor, grs, fnd, kpt, yRo, (fun j => nq_k (cv j)), yTo, yIl, ySz, yTk, yIn, yEn, ySu, yWc, yWi, yHa, ySk, yCo, yLo, yGo, yFi, yRe, ySo, yAn) (nI p) := by
  have ip : vp_in (nI p) 10 := vp_in_nI (by omega) (by decide)
  have cp : (nI p).toNatClampNeg = p := nI_clamp (by omega)
  have e1 := (E.1 p (by omega)).1
  have hn := (E.2.1 p (by omega)).1
  rcases Nat.eq_zero_or_pos (n p) with h0 | h0
  · have hv : nq_val cv rw tb n t p h = some 1 := by
      unfold nq_val nq_pv
      rw [if_pos h0, if_pos hp]
    rw [hv] at H
    simp only [wpY_isTrue, ip, cp, e1, h0, nI_0, forall_eq, not_true_eq_false, not_false_eq_true, true_implies, false_implies, implies_true, and_true, true_and, and_self]
    exact H _ _ _
  · have n0 : ¬ nI (n p) = 0 := nI_ne0 h0 (by omega)
    simp only [wpY_isTrue, ip, cp, e1, n0, forall_eq, not_true_eq_false, not_false_eq_true, true_implies, false_implies, implies_true, and_true, true_and, and_self]
    refine nq_yWk E (by omega) h0 hok hA fun sbt' sbr' ySk' => ?_
    have HH := H sbt' sbr' ySk'
    simp only [hp, if_true, nq_y, show (1 % 2 = 1) from rfl, nq_dT]
    rcases Bool.eq_false_or_eq_true (nq_T (nq_val cv rw tb n t p h)) with hk | hk
    · rw [hk] at HH
      simp only [hk, forall_eq, not_true_eq_false, not_false_eq_true, true_implies, false_implies, implies_true, and_true, true_and, and_self]
      exact HH
    · rw [hk] at HH
      simp only [hk, reduceCtorEq, forall_eq, not_true_eq_false, not_false_eq_true, true_implies, false_implies, implies_true, and_true, true_and, and_self]
      exact HH
theorem nq_yVal1 {post : Int64 → SY → Prop} (E : nq_YE cv rw tb n t yRo yTo ySz yTk yIn yEn) (hp : 4 ≤ p) (hp2 : p < 10) (hok : nq_Hok h) (hA : ∀ s, s < 3 → yHa s = nq_ey h s) (H : ∀ sbt' sbr' ySk', post (nq_f (nq_val cv rw tb n t p h)) (src, dis, opn, sbt', sbr', 0, mny, mor, grs, fnd, kpt, yRo, (fun j => nq_k (cv j)), yTo, yIl, ySz, yTk, yIn, yEn, ySu, yWc, yWi, yHa, ySk', yCo, yLo, yGo, yFi, yRe, ySo, yAn)) : vp_in (nI p) 10 ∧ ((ySz (nI p).toNatClampNeg = 0 → post 1099511627776 (src, dis, opn, sbt, sbr, 0, mny, mor, grs, fnd, kpt, yRo, (fun j => nq_k (cv j)), yTo, yIl, ySz, yTk, yIn, yEn, ySu, yWc, yWi, yHa, ySk, yCo, yLo, yGo, yFi, yRe, ySo, yAn)) ∧ (¬ ySz (nI p).toNatClampNeg = 0 → wpY_work post (src, dis, opn, sbt, sbr, 0, mny, mor, grs, fnd, kpt, yRo, (fun j => nq_k (cv j)), yTo, yIl, ySz, yTk, yIn, yEn, ySu, yWc, yWi, yHa, ySk, yCo, yLo, yGo, yFi, yRe, ySo, yAn) (nI p))) := by
  have ip : vp_in (nI p) 10 := vp_in_nI (by omega) (by decide)
  have cp : (nI p).toNatClampNeg = p := nI_clamp (by omega)
  have e1 := (E.1 p (by omega)).1
  have hn := (E.2.1 p (by omega)).1
  rw [cp, e1]
  refine ⟨ip, ?_⟩
  rcases Nat.eq_zero_or_pos (n p) with h0 | h0
  · have hv : nq_val cv rw tb n t p h = none := by
      unfold nq_val nq_pv
      rw [if_pos h0, if_neg (by omega)]
    rw [hv] at H
    simp only [h0, nI_0, forall_eq, not_true_eq_false, not_false_eq_true, true_implies, false_implies, implies_true, and_true, true_and, and_self]
    exact H _ _ _
  · have n0 : ¬ nI (n p) = 0 := nI_ne0 h0 (by omega)
    simp only [n0, forall_eq, not_true_eq_false, not_false_eq_true, true_implies, false_implies, implies_true, and_true, true_and, and_self]
    refine nq_yWk E (by omega) h0 hok hA fun sbt' sbr' ySk' => ?_
    have HH := H sbt' sbr' ySk'
    simp only [show ¬ p ≤ 3 by omega, if_false, nq_y, show ¬ (0 % 2 = 1) from by decide]
    exact HH
theorem nq_yVal {post : Int64 → SY → Prop} {c : Nat} {C : List (Nat → Option Nat)} (E : nq_YE cv rw tb n t yRo yTo ySz yTk yIn yEn) (hp : 4 ≤ p) (hp2 : p < 10) (hC : nq_CA nq_ey yCo C) (hCo : nq_Cok C) (hc : C[c]? = some h) (hc2 : c < 216) (H : ∀ yHa' sbt' sbr' ySk', post (nq_f (nq_val cv rw tb n t p h)) (src, dis, opn, sbt', sbr', 0, mny, mor, grs, fnd, kpt, yRo, (fun j => nq_k (cv j)), yTo, yIl, ySz, yTk, yIn, yEn, ySu, yWc, yWi, yHa', ySk', yCo, yLo, yGo, yFi, yRe, ySo, yAn)) : wpY_valueFor post (src, dis, opn, sbt, sbr, 0, mny, mor, grs, fnd, kpt, yRo, (fun j => nq_k (cv j)), yTo, yIl, ySz, yTk, yIn, yEn, ySu, yWc, yWi, yHa, ySk, yCo, yLo, yGo, yFi, yRe, ySo, yAn) (nI p) (nI c) := by
  simp only [wpY_valueFor]
  refine nq_yTake hc2 fun yHa' g1 => ?_
  exact nq_yVal1 E hp hp2 (hCo h (List.mem_of_getElem? hc)) (fun s hs => (g1 s hs).trans (hC c h hc s hs)) fun sbt' sbr' ySk' => H _ _ _ _
theorem nq_yValN {post : Int64 → SY → Prop} (E : nq_YE cv rw tb n t yRo yTo ySz yTk yIn yEn) (hp : 4 ≤ p) (hp2 : p < 10) (H : ∀ yHa' sbt' sbr' ySk', post (nq_f (nq_val cv rw tb n t p (fun _ => none))) (src, dis, opn, sbt', sbr', 0, mny, mor, grs, fnd, kpt, yRo, (fun j => nq_k (cv j)), yTo, yIl, ySz, yTk, yIn, yEn, ySu, yWc, yWi, yHa', ySk', yCo, yLo, yGo, yFi, yRe, ySo, yAn)) : wpY_valueFor post (src, dis, opn, sbt, sbr, 0, mny, mor, grs, fnd, kpt, yRo, (fun j => nq_k (cv j)), yTo, yIl, ySz, yTk, yIn, yEn, ySu, yWc, yWi, yHa, ySk, yCo, yLo, yGo, yFi, yRe, ySo, yAn) (nI p) (-1) := by
  simp only [wpY_valueFor]
  refine nq_yTakeN fun yHa' g1 => ?_
  exact nq_yVal1 (h := fun _ => none) E hp hp2 (fun s _ r hr => by cases hr) (fun s hs => g1 s hs) fun sbt' sbr' ySk' => H _ _ _ _
theorem nq_ey_s {s r : Nat} : nq_ey (nq_hs h s (some r)) s = nI r := by
  unfold nq_ey nq_hs
  simp only [if_true, nq_hx]
theorem nq_ey_o {s s' : Nat} {o : Option Nat} (hs : s' ≠ s) : nq_ey (nq_hs h s o) s' = nq_ey h s' := by
  unfold nq_ey nq_hs
  simp only [if_neg hs]
theorem nq_hs_n {s : Nat} (hn : h s = none) : nq_hs h s none = h := by
  funext s'
  unfold nq_hs
  by_cases e : s' = s
  · rw [if_pos e, e, hn]
  · rw [if_neg e]
theorem nq_y23 {post : SY → Prop} {J7 : Int32 → Int32 → Int32 → Int32 → Int32 → Int32 → Int32 → Int32 → Int32 → Int32 → Int32 → Int32 → (Nat → Int32) → (Nat → Int32) → (Nat → Int32) → (Nat → Int32) → (Nat → Int32) → (Nat → Int32) → (Nat → Int32) → (Nat → Int32) → (Nat → Int32) → (Nat → Int32) → (Nat → Int32) → (Nat → Int32) → (Nat → Int64) → (Nat → Int32) → (Nat → Int32) → (Nat → Int32) → (Nat → Int32) → (Nat → Int64) → (Nat → Int64) → (Nat → Int64) → Prop} {s i : Nat} {ok : (Nat → Option Nat) → Bool} {left : Bool} {C D : List (Nat → Option Nat)} (E : nq_YE cv rw tb n t yRo yTo ySz yTk yIn yEn) (hs : s < 3) (hC : nq_CA nq_ey yCo C) (hCo : nq_Cok C) (hi : C[i]? = some h) (hi2 : i < 36) (hD : D.length ≤ 210) (hns : h s = none)
    (ok1 : ∀ g, ok g = nq_T (nq_val cv rw tb n t s g)) (lf1 : left = decide (yIl s ≠ 0))
    (H : ∀ yHa' sbt' sbr' ySk' yLo', nq_CA nq_ey yLo' (D ++ nq_jo ok s left (rw (tb s)) h) → J7 (nI (i + 1)) src dis opn sbt' sbr' 0 mny (nI (D ++ nq_jo ok s left (rw (tb s)) h).length) grs fnd kpt yRo (fun j => nq_k (cv j)) yTo yIl ySz yTk yIn yEn ySu yWc yWi yHa' ySk' yCo yLo' yGo yFi yRe ySo yAn) :
    ∀ f r, r ≤ rw (tb s) → rw (tb s) - r < f → ∀ yHa sbt sbr ySk yLo, nq_CA nq_ey yLo (D ++ nq_jr ok s h r) → wY_join_23 post J7 (nI s) (nI i) (nI D.length) f (nI r) src dis opn sbt sbr 0 mny (nI (D ++ nq_jr ok s h r).length) grs fnd kpt yRo (fun j => nq_k (cv j)) yTo yIl ySz yTk yIn yEn ySu yWc yWi yHa ySk yCo yLo yGo yFi yRe ySo yAn := by
  have E0 := E
  obtain ⟨e1, e2, e3, e4, e5, e6, e7, e8⟩ := E
  obtain ⟨tb3, hSt⟩ := e6 s hs
  obtain ⟨r6, hr⟩ := e5 (tb s) tb3
  have it : vp_in (nI (tb s)) 3 := vp_in_nI tb3 (by decide)
  have ct : (nI (tb s)).toNatClampNeg = tb s := nI_clamp (by omega)
  have is3 : vp_in (nI s) 3 := vp_in_nI hs (by decide)
  have cs : (nI s).toNatClampNeg = s := nI_clamp (by omega)
  have hok : nq_Hok h := hCo h (List.mem_of_getElem? hi)
  intro f
  induction f with
  | zero => intro r _ h; omega
  | succ f ih =>
    intro r hr1 hf yHa sbt sbr ySk yLo hL
    have jl := nq_jr_l (ok := ok) (s := s) (h := h) r
    have hll : (D ++ nq_jr ok s h r).length = D.length + (nq_jr ok s h r).length := List.length_append
    rcases Nat.lt_or_ge r (rw (tb s)) with z | z
    · have z3 : ¬ nI (rw (tb s)) ≤ nI r := nI_ge z (by omega)
      simp only [wY_join_23, is3, cs, hSt, it, ct, hr, z3, nI_1, forall_eq, not_true_eq_false, not_false_eq_true, true_implies, false_implies, implies_true, and_true, true_and, and_self]
      refine nq_yTake (by omega) fun yHa' g1 => ?_
      have hok' : nq_Hok (nq_hs h s (some r)) := nq_hs_ok hok (fun q hq => by cases hq; omega)
      have hA' : ∀ s', s' < 3 → upd yHa' s (nI r) s' = nq_ey (nq_hs h s (some r)) s' := by
        intro s' hs'
        by_cases e : s' = s
        · rw [e, pk_us, nq_ey_s]
        · rw [pk_un e, nq_ey_o e, g1 s' hs']
          exact hC i h hi s' hs'
      refine nq_yTrue E0 (show s ≤ 3 by omega) hok' hA' fun sbt' sbr' ySk' => ?_
      rw [← ok1]
      rcases Bool.eq_false_or_eq_true (ok (nq_hs h s (some r))) with hk | hk
      · simp only [hk, nq_bt, show ¬ (1 : Int32) = 0 from by decide, forall_eq, not_true_eq_false, not_false_eq_true, true_implies, false_implies, implies_true, and_true, true_and, and_self]
        refine nq_yKeep (by omega) fun yLo' g2 g3 => ?_
        have ee : D ++ nq_jr ok s h (r + 1) = (D ++ nq_jr ok s h r) ++ [nq_hs h s (some r)] := by
          simp only [nq_jr, hk, if_true, List.append_assoc]
        have := ih (r + 1) (by omega) (by omega) (upd yHa' s (nI r)) sbt' sbr' ySk' yLo' (by
          rw [ee]
          exact nq_CA_a hL (fun s' hs' => by rw [g2 s' hs']; exact hA' s' hs') g3)
        rw [ee, List.length_append, List.length_singleton] at this
        exact this
      · simp only [hk, nq_bf, forall_eq, not_true_eq_false, not_false_eq_true, true_implies, false_implies, implies_true, and_true, true_and, and_self]
        have ee : D ++ nq_jr ok s h (r + 1) = D ++ nq_jr ok s h r := by
          simp only [nq_jr, hk, reduceCtorEq, if_false, List.append_nil]
        have := ih (r + 1) (by omega) (by omega) (upd yHa' s (nI r)) sbt' sbr' ySk' yLo (by
          rw [ee]
          exact hL)
        rw [ee] at this
        exact this
    · have : r = rw (tb s) := by omega
      subst this
      have z3 : nI (rw (tb s)) ≤ nI (rw (tb s)) := nI_le (Nat.le_refl _) (by omega)
      simp only [wY_join_23, is3, cs, hSt, it, ct, hr, z3, nI_1, forall_eq, not_true_eq_false, not_false_eq_true, true_implies, false_implies, implies_true, and_true, true_and, and_self]
      refine nq_yTake (by omega) fun yHa' g1 => ?_
      have hA' : ∀ s', s' < 3 → yHa' s' = nq_ey h s' := fun s' hs' => by rw [g1 s' hs']; exact hC i h hi s' hs'
      by_cases q0 : (nq_jr ok s h (rw (tb s))).length = 0
      · have ed : D ++ nq_jr ok s h (rw (tb s)) = D := by rw [List.eq_nil_of_length_eq_zero q0, List.append_nil]
        rw [ed] at hL
        simp only [ed, forall_eq, not_true_eq_false, not_false_eq_true, true_implies, false_implies, implies_true, and_true, true_and, and_self]
        by_cases hl : left = true
        · rw [hl] at lf1
          have hj2 : ¬ yIl s = 0 := of_decide_eq_true lf1.symm
          simp only [hj2, forall_eq, not_true_eq_false, not_false_eq_true, true_implies, false_implies, implies_true, and_true, true_and, and_self]
          have ee : D ++ nq_jo ok s left (rw (tb s)) h = D ++ [h] := by
            unfold nq_jo
            rw [if_pos ⟨q0, hl⟩, nq_hs_n hns]
          refine nq_yKeep (by omega) fun yLo' g2 g3 => ?_
          have := H yHa' sbt sbr ySk yLo' (by
            rw [ee]
            exact nq_CA_a hL (fun s' hs' => by rw [g2 s' hs']; exact hA' s' hs') g3)
          rw [ee, List.length_append, List.length_singleton] at this
          exact this
        · have hj2 : yIl s = 0 := by
            apply Classical.byContradiction
            intro hz
            exact hl (lf1.trans (decide_eq_true hz))
          have ee : D ++ nq_jo ok s left (rw (tb s)) h = D := by
            unfold nq_jo
            rw [if_neg (fun z => hl z.2), ed]
          rw [ee] at H
          simp only [hj2, forall_eq, not_true_eq_false, not_false_eq_true, true_implies, false_implies, implies_true, and_true, true_and, and_self]
          exact H _ _ _ _ _ hL
      · have e5 : ¬ nI (D ++ nq_jr ok s h (rw (tb s))).length = nI D.length := by
          intro e
          have := (nI_eq (by omega) (by omega)).mp e
          omega
        have ee : nq_jo ok s left (rw (tb s)) h = nq_jr ok s h (rw (tb s)) := by
          unfold nq_jo
          rw [if_neg (fun z => q0 z.1)]
        rw [ee] at H
        simp only [e5, forall_eq, not_true_eq_false, not_false_eq_true, true_implies, false_implies, implies_true, and_true, true_and, and_self]
        exact H _ _ _ _ _ hL
theorem nq_yJoin {post : SY → Prop} {s : Nat} {ok : (Nat → Option Nat) → Bool} {left : Bool} {C : List (Nat → Option Nat)} (E : nq_YE cv rw tb n t yRo yTo ySz yTk yIn yEn) (hs : s < 3) (hC : nq_CA nq_ey yCo C) (hCo : nq_Cok C) (hCl : C.length ≤ 36) (hns : ∀ g, g ∈ C → g s = none)
    (ok1 : ∀ g, ok g = nq_T (nq_val cv rw tb n t s g)) (lf1 : left = decide (yIl s ≠ 0))
    (H : ∀ yHa' sbt' sbr' ySk' yLo' yCo', nq_CA nq_ey yCo' (nq_jn ok s left (rw (tb s)) C) → post (src, dis, opn, sbt', sbr', 0, (nI (nq_jn ok s left (rw (tb s)) C).length), (nI (nq_jn ok s left (rw (tb s)) C).length), grs, fnd, kpt, yRo, (fun j => nq_k (cv j)), yTo, yIl, ySz, yTk, yIn, yEn, ySu, yWc, yWi, yHa', ySk', yCo', yLo', yGo, yFi, yRe, ySo, yAn)) : wpY_join post (src, dis, opn, sbt, sbr, 0, (nI C.length), mor, grs, fnd, kpt, yRo, (fun j => nq_k (cv j)), yTo, yIl, ySz, yTk, yIn, yEn, ySu, yWc, yWi, yHa, ySk, yCo, yLo, yGo, yFi, yRe, ySo, yAn) (nI s) := by
  have r6 := (E.2.2.2.2.1 (tb s) (E.2.2.2.2.2.1 s hs).1).1
  simp only [wpY_join]
  have key : ∀ f i, i ≤ C.length → C.length - i < f → ∀ yHa sbt sbr ySk yLo, nq_CA nq_ey yLo (nq_jn ok s left (rw (tb s)) (C.take i)) → wY_join_7 post (nI s) f (nI i) src dis opn sbt sbr 0 (nI C.length) (nI (nq_jn ok s left (rw (tb s)) (C.take i)).length) grs fnd kpt yRo (fun j => nq_k (cv j)) yTo yIl ySz yTk yIn yEn ySu yWc yWi yHa ySk yCo yLo yGo yFi yRe ySo yAn := by
    intro f
    induction f with
    | zero => intro i _ h; omega
    | succ f ih =>
      intro i hi hf yHa sbt sbr ySk yLo hJ
      have l1 := nq_jn_l (ok := ok) (s := s) (left := left) r6 (C.take i)
      rw [List.length_take] at l1
      rcases Nat.lt_or_ge i C.length with z | z
      · have z3 : ¬ nI C.length ≤ nI i := nI_ge z (by omega)
        simp only [wY_join_7, z3, forall_eq, not_true_eq_false, not_false_eq_true, true_implies, false_implies, implies_true, and_true, true_and, and_self]
        have hg : C[i]? = some C[i] := List.getElem?_eq_getElem z
        have gg := nq_y23 (post := post) (J7 := wY_join_7 post (nI s) f) (i := i) (h := C[i]) (cv := cv) (C := C) (D := nq_jn ok s left (rw (tb s)) (C.take i)) (left := left) (ok := ok) (src := src) (dis := dis) (opn := opn) (mny := (nI C.length)) (grs := grs) (fnd := fnd) (kpt := kpt) (yRo := yRo) (yTo := yTo) (yIl := yIl) (ySz := ySz) (yTk := yTk) (yIn := yIn) (yEn := yEn) (ySu := ySu) (yWc := yWc) (yWi := yWi) (yCo := yCo) (yGo := yGo) (yFi := yFi) (yRe := yRe) (ySo := ySo) (yAn := yAn) E hs hC hCo hg (by omega) (by omega) (hns _ (List.getElem_mem z)) ok1 lf1 (by
          intro yHa' sbt' sbr' ySk' yLo' a2
          have et : C.take (i + 1) = C.take i ++ [C[i]] := by rw [List.take_succ, hg]; rfl
          have en : nq_jn ok s left (rw (tb s)) (C.take (i + 1)) = nq_jn ok s left (rw (tb s)) (C.take i) ++ nq_jo ok s left (rw (tb s)) C[i] := by
            rw [et]
            unfold nq_jn
            rw [List.flatMap_append, List.flatMap_cons, List.flatMap_nil, List.append_nil]
          have := ih (i + 1) (by omega) (by omega) yHa' sbt' sbr' ySk' yLo' (by rw [en]; exact a2)
          rw [en] at this
          exact this) (rw (tb s) + 1) 0 (by omega) (by omega) yHa sbt sbr ySk yLo (by
            show nq_CA nq_ey yLo (_ ++ [])
            rw [List.append_nil]
            exact hJ)
        rw [show nq_jn ok s left (rw (tb s)) (C.take i) ++ nq_jr ok s C[i] 0 = nq_jn ok s left (rw (tb s)) (C.take i) from List.append_nil _] at gg
        exact ⟨_, gg⟩
      · have : i = C.length := by omega
        subst this
        have z3 : nI C.length ≤ nI C.length := nI_le (Nat.le_refl _) (by omega)
        rw [List.take_length] at hJ l1 ⊢
        simp only [wY_join_7, z3, forall_eq, not_true_eq_false, not_false_eq_true, true_implies, false_implies, implies_true, and_true, true_and, and_self]
        refine nq_ySwap (by omega) fun yCo' g1 => ?_
        refine H _ _ _ _ _ _ ?_
        intro i' g hg s' hs'
        have hi' : i' < (nq_jn ok s left (rw (tb s)) C).length := by
          rw [List.getElem?_eq_some_iff] at hg
          exact hg.1
        exact (g1 _ (by omega)).trans (hJ i' g hg s' hs')
  exact ⟨_, key (C.length + 1) 0 (by omega) (by omega) yHa sbt sbr ySk yLo (fun i g hg => by cases hg)⟩
end
end
section
section
variable {sc od nc tp cc gc ac : Int32} {Ce Sk Va An Ov : Nat → Int64} {Rc St Jl Tk Tn Su Ne Ha Cb Jd Go Fm : Nat → Int32}
variable {src dis opn sbt sbr dep mny mor grs fnd kpt : Int32} {ySk yRe ySo yAn : Nat → Int64} {yRo yCe yTo yIl ySz yTk yIn yEn ySu yWc yWi yHa yCo yLo yGo yFi : Nat → Int32}
variable {n t : Nat → Nat} {p : Nat} {cv : Nat → nq_V} {h hv : Nat → Option Nat} {rw tb : Nat → Nat} {vf : Nat → (Nat → Option Nat) → nq_V} {lf : Nat → Bool}
/-- the combinations of the first sources -/
def nq_okf (vf : Nat → (Nat → Option Nat) → nq_V) (s : Nat) (h : Nat → Option Nat) : Bool := if s = 0 then true else nq_T (vf s h)
def nq_lff (lf : Nat → Bool) (s : Nat) : Bool := if s = 0 then false else lf s
def nq_cmb (vf : Nat → (Nat → Option Nat) → nq_V) (lf : Nat → Bool) (rw tb : Nat → Nat) : Nat → List (Nat → Option Nat)
  | 0 => [fun _ => none]
  | s + 1 => nq_jn (nq_okf vf s) s (nq_lff lf s) (rw (tb s)) (nq_cmb vf lf rw tb s)
def nq_cwh (vf : Nat → (Nat → Option Nat) → nq_V) (lf : Nat → Bool) (rw tb : Nat → Nat) (s : Nat) : List (Nat → Option Nat) := (nq_cmb vf lf rw tb s).filter (fun h => nq_T (vf 0 h))
theorem nq_cmb_ok (hR : ∀ s, s < 3 → rw (tb s) ≤ 6) : ∀ s, s ≤ 3 → nq_Cok (nq_cmb vf lf rw tb s) ∧ (nq_cmb vf lf rw tb s).length ≤ 6 ^ s ∧ ∀ g, g ∈ nq_cmb vf lf rw tb s → ∀ s', s ≤ s' → g s' = none := by
  intro s
  induction s with
  | zero =>
    intro _
    refine ⟨fun g hg => ?_, Nat.le_refl _, fun g hg s' _ => ?_⟩
    · rw [List.mem_singleton.mp hg]
      intro s _ r hr
      cases hr
    · rw [List.mem_singleton.mp hg]
  | succ s ih =>
    intro hs
    obtain ⟨a, b, c⟩ := ih (by omega)
    refine ⟨nq_jn_ok (hR s (by omega)) a, ?_, fun g hg s' hs' => ?_⟩
    · have := nq_jn_l (ok := nq_okf vf s) (s := s) (left := nq_lff lf s) (hR s (by omega)) (nq_cmb vf lf rw tb s)
      simp only [nq_cmb]
      rw [Nat.pow_succ]
      omega
    · simp only [nq_cmb, nq_jn] at hg
      rw [List.mem_flatMap] at hg
      obtain ⟨h, h1, h2⟩ := hg
      have hn := c h h1 s' (by omega)
      have hj : ∀ r g, g ∈ nq_jr (nq_okf vf s) s h r → g s' = none := by
        intro r
        induction r with
        | zero => intro g hg; cases hg
        | succ r ihr =>
          intro g hg
          simp only [nq_jr] at hg
          rcases List.mem_append.mp hg with z | z
          · exact ihr g z
          · split at z
            · rw [List.mem_singleton.mp z]
              unfold nq_hs
              rw [if_neg (by omega)]
              exact hn
            · cases z
      unfold nq_jo at h2
      split at h2
      · rw [List.mem_singleton.mp h2]
        unfold nq_hs
        rw [if_neg (by omega)]
        exact hn
      · exact hj _ g h2
theorem nq_cmb_216 (hR : ∀ s, s < 3 → rw (tb s) ≤ 6) {s : Nat} (hs : s ≤ 3) : (nq_cmb vf lf rw tb s).length ≤ 216 := by
  have h1 := (nq_cmb_ok (vf := vf) (lf := lf) hR s hs).2.1
  have h2 : 6 ^ s ≤ 6 ^ 3 := Nat.pow_le_pow_right (by decide) hs
  omega
theorem nq_cmb_36 (hR : ∀ s, s < 3 → rw (tb s) ≤ 6) {s : Nat} (hs : s ≤ 2) : (nq_cmb vf lf rw tb s).length ≤ 36 := by
  have h1 := (nq_cmb_ok (vf := vf) (lf := lf) hR s (by omega)).2.1
  have h2 : 6 ^ s ≤ 6 ^ 2 := Nat.pow_le_pow_right (by decide) hs
  omega
theorem nq_xKeepW {post : SX → Prop} {C : List (Nat → Option Nat)} (hT : nq_TT n t Tn Tk) (hW : nq_WF n t) (hF : nq_Full n t) (hRw : nq_RW rw Rc) (hTb : nq_TB tb St) (hC : nq_CA (nq_ex tb) Cb C) (hCo : nq_Cok C) (hCl : C.length ≤ 216) (h3 : Ha 3 = -1)
    (H : ∀ tp' Ha' Sk' Cb', Ha' 3 = -1 → nq_CA (nq_ex tb) Cb' (C.filter (fun h => nq_T (nq_val cv rw tb n t 0 h))) → post (sc, od, nc, tp', (nI (C.filter (fun h => nq_T (nq_val cv rw tb n t 0 h))).length), gc, ac, (fun j => nq_e (cv j)), Rc, St, Jl, Tk, Tn, Su, Ne, Ha', Sk', Cb', Jd, Va, Go, Fm, An, Ov)) : wpX_keepWhere post (sc, od, nc, tp, (nI C.length), gc, ac, (fun j => nq_e (cv j)), Rc, St, Jl, Tk, Tn, Su, Ne, Ha, Sk, Cb, Jd, Va, Go, Fm, An, Ov) := by
  simp only [wpX_keepWhere]
  have key : ∀ f i, i ≤ C.length → C.length - i < f → ∀ tp Ha Sk Cb, Ha 3 = -1 → nq_CA (nq_ex tb) Cb ((C.take i).filter (fun h => nq_T (nq_val cv rw tb n t 0 h))) → (∀ i' g, i ≤ i' → C[i']? = some g → ∀ s, s < 3 → Cb (3 * i' + s) = nq_ex tb g s) → wX_keepWhere_4 post f (nI ((C.take i).filter (fun h => nq_T (nq_val cv rw tb n t 0 h))).length) (nI i) sc od nc tp (nI C.length) gc ac (fun j => nq_e (cv j)) Rc St Jl Tk Tn Su Ne Ha Sk Cb Jd Va Go Fm An Ov := by
    intro f
    induction f with
    | zero => intro i _ h; omega
    | succ f ih =>
      intro i hi hf tp Ha Sk Cb h3 hJ hB
      have l1 : ((C.take i).filter (fun h => nq_T (nq_val cv rw tb n t 0 h))).length ≤ i := by
        have a := List.length_filter_le (fun h => nq_T (nq_val cv rw tb n t 0 h)) (C.take i)
        rw [List.length_take] at a
        omega
      rcases Nat.lt_or_ge i C.length with z | z
      · have z3 : ¬ nI C.length ≤ nI i := nI_ge z (by omega)
        simp only [wX_keepWhere_4, z3, forall_eq, not_true_eq_false, not_false_eq_true, true_implies, false_implies, implies_true, and_true, true_and, and_self]
        have hg : C[i]? = some C[i] := List.getElem?_eq_getElem z
        have et : C.take (i + 1) = C.take i ++ [C[i]] := by rw [List.take_succ, hg]; rfl
        refine nq_xTake (by omega) fun Ha' g1 g2 => ?_
        have hA' : ∀ s', s' < 3 → Ha' s' = nq_ex tb C[i] s' := fun s' hs' => (g1 s' hs').trans (hB i _ (Nat.le_refl _) hg s' hs')
        have h3' : Ha' 3 = -1 := (g2 3 (by omega)).trans h3
        refine nq_xEv (p := 0) hT hW hF hRw hTb (by decide) (hCo _ (List.getElem_mem z)) hA' h3' fun tp' Sk' => ?_
        simp only [show 0 ≤ 3 from by decide, if_true, nq_x, show (1 % 2 = 1) from rfl, nq_cT]
        rcases Bool.eq_false_or_eq_true (nq_T (nq_val cv rw tb n t 0 C[i])) with hk | hk
        · simp only [hk, forall_eq, not_true_eq_false, not_false_eq_true, true_implies, false_implies, implies_true, and_true, true_and, and_self]
          have en : (C.take (i + 1)).filter (fun h => nq_T (nq_val cv rw tb n t 0 h)) = (C.take i).filter (fun h => nq_T (nq_val cv rw tb n t 0 h)) ++ [C[i]] := by
            rw [et, List.filter_append, List.filter_cons_of_pos (p := fun h => nq_T (nq_val cv rw tb n t 0 h)) hk, List.filter_nil]
          refine ⟨4, nq_x31 (by omega) (fun Cb' a1 a2 => ?_) 4 0 Cb (by omega) (by omega) (fun s hs => by omega) (fun j _ => rfl)⟩
          have := ih (i + 1) (by omega) (by omega) tp' Ha' Sk' Cb' h3' (by
            rw [en]
            exact nq_CA_a hJ (fun s' hs' => (a1 s' hs').trans (hA' s' hs')) (fun j hj => a2 j (Or.inl hj))) (fun i' g b1 b2 s hs => by
            rw [a2 _ (Or.inr (by omega))]
            exact hB i' g (by omega) b2 s hs)
          rw [en, List.length_append, List.length_singleton, ← nI_1 i] at this
          exact this
        · simp only [hk, reduceCtorEq, nI_1, forall_eq, not_true_eq_false, not_false_eq_true, true_implies, false_implies, implies_true, and_true, true_and, and_self]
          have en : (C.take (i + 1)).filter (fun h => nq_T (nq_val cv rw tb n t 0 h)) = (C.take i).filter (fun h => nq_T (nq_val cv rw tb n t 0 h)) := by
            rw [et, List.filter_append, List.filter_cons_of_neg (by rw [hk]; decide), List.filter_nil, List.append_nil]
          have := ih (i + 1) (by omega) (by omega) tp' Ha' Sk' Cb h3' (by
            rw [en]
            exact hJ) (fun i' g b1 b2 s hs => hB i' g (by omega) b2 s hs)
          rw [en] at this
          exact this
      · have : i = C.length := by omega
        subst this
        have z3 : nI C.length ≤ nI C.length := nI_le (Nat.le_refl _) (by omega)
        rw [List.take_length] at hJ ⊢
        simp only [wX_keepWhere_4, z3, forall_eq, not_true_eq_false, not_false_eq_true, true_implies, false_implies, implies_true, and_true, true_and, and_self]
        exact H _ _ _ _ h3 hJ
  exact ⟨_, key (C.length + 1) 0 (by omega) (by omega) tp Ha Sk Cb h3 (fun i g hg => by cases hg) (fun i' g _ hg s hs => hC i' g hg s hs)⟩
theorem nq_y85 {post : SY → Prop} {C : List (Nat → Option Nat)} (E : nq_YE cv rw tb n t yRo yTo ySz yTk yIn yEn) (hC : nq_CA nq_ey yCo C) (hCo : nq_Cok C) (hCl : C.length ≤ 216)
    (H : ∀ yHa' sbt' sbr' ySk' yLo' yCo', nq_CA nq_ey yCo' (C.filter (fun h => nq_T (nq_val cv rw tb n t 0 h))) → post (src, dis, opn, sbt', sbr', 0, (nI (C.filter (fun h => nq_T (nq_val cv rw tb n t 0 h))).length), (nI (C.filter (fun h => nq_T (nq_val cv rw tb n t 0 h))).length), grs, fnd, kpt, yRo, (fun j => nq_k (cv j)), yTo, yIl, ySz, yTk, yIn, yEn, ySu, yWc, yWi, yHa', ySk', yCo', yLo', yGo, yFi, yRe, ySo, yAn)) :
    ∀ f i, i ≤ C.length → C.length - i < f → ∀ yHa sbt sbr ySk yLo, nq_CA nq_ey yLo ((C.take i).filter (fun h => nq_T (nq_val cv rw tb n t 0 h))) → wY_combine_85 post f (nI i) src dis opn sbt sbr 0 (nI C.length) (nI ((C.take i).filter (fun h => nq_T (nq_val cv rw tb n t 0 h))).length) grs fnd kpt yRo (fun j => nq_k (cv j)) yTo yIl ySz yTk yIn yEn ySu yWc yWi yHa ySk yCo yLo yGo yFi yRe ySo yAn := by
  intro f
  induction f with
  | zero => intro i _ h; omega
  | succ f ih =>
    intro i hi hf yHa sbt sbr ySk yLo hJ
    have l1 : ((C.take i).filter (fun h => nq_T (nq_val cv rw tb n t 0 h))).length ≤ i := by
      have a := List.length_filter_le (fun h => nq_T (nq_val cv rw tb n t 0 h)) (C.take i)
      rw [List.length_take] at a
      omega
    rcases Nat.lt_or_ge i C.length with z | z
    · have z3 : ¬ nI C.length ≤ nI i := nI_ge z (by omega)
      simp only [wY_combine_85, z3, nI_1, forall_eq, not_true_eq_false, not_false_eq_true, true_implies, false_implies, implies_true, and_true, true_and, and_self]
      have hg : C[i]? = some C[i] := List.getElem?_eq_getElem z
      have et : C.take (i + 1) = C.take i ++ [C[i]] := by rw [List.take_succ, hg]; rfl
      refine nq_yTake (by omega) fun yHa' g1 => ?_
      have hA' : ∀ s', s' < 3 → yHa' s' = nq_ey C[i] s' := fun s' hs' => (g1 s' hs').trans (hC i _ hg s' hs')
      refine nq_yTrue (p := 0) E (by decide) (hCo _ (List.getElem_mem z)) hA' fun sbt' sbr' ySk' => ?_
      rcases Bool.eq_false_or_eq_true (nq_T (nq_val cv rw tb n t 0 C[i])) with hk | hk
      · simp only [hk, nq_bt, show ¬ (1 : Int32) = 0 from by decide, forall_eq, not_true_eq_false, not_false_eq_true, true_implies, false_implies, implies_true, and_true, true_and, and_self]
        have en : (C.take (i + 1)).filter (fun h => nq_T (nq_val cv rw tb n t 0 h)) = (C.take i).filter (fun h => nq_T (nq_val cv rw tb n t 0 h)) ++ [C[i]] := by
          rw [et, List.filter_append, List.filter_cons_of_pos (p := fun h => nq_T (nq_val cv rw tb n t 0 h)) hk, List.filter_nil]
        refine nq_yKeep (by omega) fun yLo' a1 a2 => ?_
        have := ih (i + 1) (by omega) (by omega) yHa' sbt' sbr' ySk' yLo' (by
          rw [en]
          exact nq_CA_a hJ (fun s' hs' => (a1 s' hs').trans (hA' s' hs')) a2)
        rw [en, List.length_append, List.length_singleton] at this
        exact this
      · simp only [hk, nq_bf, forall_eq, not_true_eq_false, not_false_eq_true, true_implies, false_implies, implies_true, and_true, true_and, and_self]
        have en : (C.take (i + 1)).filter (fun h => nq_T (nq_val cv rw tb n t 0 h)) = (C.take i).filter (fun h => nq_T (nq_val cv rw tb n t 0 h)) := by
          rw [et, List.filter_append, List.filter_cons_of_neg (by rw [hk]; decide), List.filter_nil, List.append_nil]
        have := ih (i + 1) (by omega) (by omega) yHa' sbt' sbr' ySk' yLo (by
          rw [en]
          exact hJ)
        rw [en] at this
        exact this
    · have : i = C.length := by omega
      subst this
      have z3 : nI C.length ≤ nI C.length := nI_le (Nat.le_refl _) (by omega)
      rw [List.take_length] at hJ l1 ⊢
      simp only [wY_combine_85, z3, forall_eq, not_true_eq_false, not_false_eq_true, true_implies, false_implies, implies_true, and_true, true_and, and_self]
      refine nq_ySwap (by omega) fun yCo' g1 => ?_
      refine H _ _ _ _ _ _ ?_
      intro i' g hg s' hs'
      have hi' : i' < (C.filter (fun h => nq_T (nq_val cv rw tb n t 0 h))).length := by
        rw [List.getElem?_eq_some_iff] at hg
        exact hg.1
      exact (g1 _ (by omega)).trans (hJ i' g hg s' hs')
theorem nq_yComb {post : SY → Prop} {S : Nat} (E : nq_YE cv rw tb n t yRo yTo ySz yTk yIn yEn) (hS : S ≤ 3) (hS1 : 1 ≤ S) (hlf : ∀ s, lf s = decide (yIl s ≠ 0)) (hvf : vf = nq_val cv rw tb n t)
    (H : ∀ yHa' sbt' sbr' ySk' yLo' yCo' mor', nq_CA nq_ey yCo' (nq_cwh vf lf rw tb S) → post ((nI S), dis, opn, sbt', sbr', 0, (nI (nq_cwh vf lf rw tb S).length), mor', grs, fnd, kpt, yRo, (fun j => nq_k (cv j)), yTo, yIl, ySz, yTk, yIn, yEn, ySu, yWc, yWi, yHa', ySk', yCo', yLo', yGo, yFi, yRe, ySo, yAn)) : wpY_combine post ((nI S), dis, opn, sbt, sbr, 0, mny, mor, grs, fnd, kpt, yRo, (fun j => nq_k (cv j)), yTo, yIl, ySz, yTk, yIn, yEn, ySu, yWc, yWi, yHa, ySk, yCo, yLo, yGo, yFi, yRe, ySo, yAn) := by
  have E0 := E
  obtain ⟨e1, e2, e3, e4, e5, e6, e7, e8⟩ := E
  have hR : ∀ s, s < 3 → rw (tb s) ≤ 6 := fun s hs => (e5 (tb s) (e6 s hs).1).1
  have key59 : ∀ f s, 1 ≤ s → s ≤ S → S - s < f → ∀ yHa sbt sbr ySk yLo yCo mor, nq_CA nq_ey yCo (nq_cmb vf lf rw tb s) → wY_combine_59 post f (nI s) (nI S) dis opn sbt sbr 0 (nI (nq_cmb vf lf rw tb s).length) mor grs fnd kpt yRo (fun j => nq_k (cv j)) yTo yIl ySz yTk yIn yEn ySu yWc yWi yHa ySk yCo yLo yGo yFi yRe ySo yAn := by
    intro f
    induction f with
    | zero => intro s _ _ h; omega
    | succ f ih =>
      intro s hs1 hs2 hf yHa sbt sbr ySk yLo yCo mor hC
      obtain ⟨k1, k2, k3⟩ := nq_cmb_ok (vf := vf) (lf := lf) hR s (by omega)
      rcases Nat.lt_or_ge s S with z | z
      · have z3 : ¬ nI S ≤ nI s := nI_ge z (by omega)
        simp only [wY_combine_59, z3, nI_1, forall_eq, not_true_eq_false, not_false_eq_true, true_implies, false_implies, implies_true, and_true, true_and, and_self]
        refine nq_yJoin (ok := nq_okf vf s) (left := nq_lff lf s) E0 (by omega) hC k1 (nq_cmb_36 hR (by omega)) (fun g hg => k3 g hg s (Nat.le_refl _)) (fun g => ?_) ?_ fun yHa' sbt' sbr' ySk' yLo' yCo' hC' => ?_
        · unfold nq_okf
          rw [if_neg (by omega), hvf]
        · unfold nq_lff
          rw [if_neg (by omega), hlf]
        · exact ih (s + 1) (by omega) (by omega) (by omega) yHa' sbt' sbr' ySk' yLo' yCo' _ hC'
      · have : s = S := by omega
        subst this
        have z3 : nI s ≤ nI s := nI_le (Nat.le_refl _) (by omega)
        simp only [wY_combine_59, z3, forall_eq, not_true_eq_false, not_false_eq_true, true_implies, false_implies, implies_true, and_true, true_and, and_self]
        unfold nq_cwh at H
        rw [hvf] at H hC k1 ⊢
        exact ⟨_, nq_y85 E0 hC k1 (nq_cmb_216 hR (by omega)) (fun a b c d e' f' g => H a b c d e' f' _ g) ((nq_cmb (nq_val cv rw tb n t) lf rw tb s).length + 1) 0 (by omega) (by omega) yHa sbt sbr ySk yLo (fun i g hg => by cases hg)⟩
  obtain ⟨tb3, hSt⟩ := e6 0 (by omega)
  obtain ⟨r6, hr⟩ := e5 (tb 0) tb3
  have it : vp_in (nI (tb 0)) 3 := vp_in_nI tb3 (by decide)
  have ct : (nI (tb 0)).toNatClampNeg = tb 0 := nI_clamp (by omega)
  have jall : ∀ r, (nq_jr (nq_okf vf 0) 0 (fun _ => none) r).length = r := by
    intro r
    induction r with
    | zero => rfl
    | succ r ih =>
      simp only [nq_jr, nq_okf, if_true, List.length_append, List.length_singleton]
      rw [ih]
  have ec1 : nq_cmb vf lf rw tb 1 = nq_jr (nq_okf vf 0) 0 (fun _ => none) (rw (tb 0)) := by
    show nq_jn _ _ _ _ [fun _ => none] = _
    unfold nq_jn nq_jo nq_lff
    simp only [List.flatMap_cons, List.flatMap_nil, List.append_nil, if_true, reduceCtorEq, and_false, if_false]
  have key7 : ∀ f r, r ≤ rw (tb 0) → rw (tb 0) - r < f → ∀ yHa yLo, nq_CA nq_ey yLo (nq_jr (nq_okf vf 0) 0 (fun _ => none) r) → wY_combine_7 post f (nI r) (nI S) dis opn sbt sbr 0 mny (nI r) grs fnd kpt yRo (fun j => nq_k (cv j)) yTo yIl ySz yTk yIn yEn ySu yWc yWi yHa ySk yCo yLo yGo yFi yRe ySo yAn := by
    intro f
    induction f with
    | zero => intro r _ h; omega
    | succ f ih =>
      intro r hr1 hf yHa yLo hJ
      rcases Nat.lt_or_ge r (rw (tb 0)) with z | z
      · have z3 : ¬ nI (rw (tb 0)) ≤ nI r := nI_ge z (by omega)
        simp only [wY_combine_7, hSt, it, ct, hr, z3, nI_1, forall_eq, not_true_eq_false, not_false_eq_true, true_implies, false_implies, implies_true, and_true, true_and, and_self]
        refine nq_yKeep (by omega) fun yLo' a1 a2 => ?_
        have en : nq_jr (nq_okf vf 0) 0 (fun _ => none) (r + 1) = nq_jr (nq_okf vf 0) 0 (fun _ => none) r ++ [nq_hs (fun _ => none) 0 (some r)] := by
          simp only [nq_jr, nq_okf, if_true]
        refine ih (r + 1) (by omega) (by omega) _ yLo' ?_
        rw [en]
        refine nq_CA_a hJ (fun s' hs' => ?_) (fun j hj => a2 j (by rw [jall] at hj; exact hj))
        rw [jall]
        refine (a1 s' hs').trans ?_
        match s', hs' with
        | 0, _ => rfl
        | 1, _ => rfl
        | 2, _ => rfl
      · have : r = rw (tb 0) := by omega
        subst this
        have z3 : nI (rw (tb 0)) ≤ nI (rw (tb 0)) := nI_le (Nat.le_refl _) (by omega)
        simp only [wY_combine_7, hSt, it, ct, hr, z3, forall_eq, not_true_eq_false, not_false_eq_true, true_implies, false_implies, implies_true, and_true, true_and, and_self]
        refine nq_ySwap (by omega) fun yCo' g1 => ?_
        have hC1 : nq_CA nq_ey yCo' (nq_cmb vf lf rw tb 1) := by
          rw [ec1]
          intro i' g hg s' hs'
          have hi' : i' < (nq_jr (nq_okf vf 0) 0 (fun _ => none) (rw (tb 0))).length := by
            rw [List.getElem?_eq_some_iff] at hg
            exact hg.1
          rw [jall] at hi'
          exact (g1 _ (by omega)).trans (hJ i' g hg s' hs')
        have := key59 S 1 (by omega) hS1 (by omega) yHa sbt sbr ySk yLo yCo' (nI (rw (tb 0))) hC1
        rw [ec1, jall] at this
        exact ⟨_, this⟩
  simp only [wpY_combine]
  exact ⟨_, key7 (rw (tb 0) + 1) 0 (by omega) (by omega) yHa yLo (fun i g hg => by cases hg)⟩
end
end
section
section
variable {sc od nc tp cc gc ac : Int32} {Ce Sk Va An Ov : Nat → Int64} {Rc St Jl Tk Tn Su Ne Ha Cb Jd Go Fm : Nat → Int32}
variable {src dis opn sbt sbr dep mny mor grs fnd kpt : Int32} {ySk yRe ySo yAn : Nat → Int64} {yRo yCe yTo yIl ySz yTk yIn yEn ySu yWc yWi yHa yCo yLo yGo yFi : Nat → Int32}
variable {n t : Nat → Nat} {p : Nat} {cv : Nat → nq_V} {h hv : Nat → Option Nat} {rw tb su : Nat → Nat} {vf : Nat → (Nat → Option Nat) → nq_V} {ka : Nat → Nat → nq_V}
/-- without a combination there is one without rows -/
def nq_c1 (C : List (Nat → Option Nat)) : List (Nat → Option Nat) := if C.length = 0 then [fun _ => none] else C
def nq_ka (vf : Nat → (Nat → Option Nat) → nq_V) (C : List (Nat → Option Nat)) (p i : Nat) : nq_V := vf p (C.getD i (fun _ => none))
theorem nq_ka_i {C : List (Nat → Option Nat)} {i : Nat} (hi : C[i]? = some h) : nq_ka vf C p i = vf p h := by
  unfold nq_ka
  rw [List.getD_eq_getElem?_getD, hi]
  rfl
def nq_VA (ka : Nat → Nat → nq_V) (m : Nat) (Va : Nat → Int64) : Prop := ∀ i, i < m → ∀ p, 3 ≤ p → p < 10 → Va ((p - 3) * 216 + i) = nq_x (if p ≤ 3 then 1 else 0) (ka p i)
theorem nq_vp {post : Int32 → Prop} {p i : Nat} (hp : 3 ≤ p) : wpX_valuePlace post (nI p) (nI i) ↔ post (nI ((p - 3) * 216 + i)) := by
  unfold wpX_valuePlace
  rw [show nI p - 3 = nI (p - 3) from pk_sub (b := 3) hp, show (216 : Int32) = nI 216 from rfl, pk_mul, nI_add]
theorem nq_xEvC1 {post : SX → Prop} {C : List (Nat → Option Nat)} (hT : nq_TT n t Tn Tk) (hW : nq_WF n t) (hF : nq_Full n t) (hRw : nq_RW rw Rc) (hTb : nq_TB tb St) (hC : nq_CA (nq_ex tb) Cb C) (hCo : nq_Cok C) (hCl : C.length ≤ 216)
    (H : ∀ tp' Ha' Sk' Va', Ha' 3 = -1 → nq_VA (nq_ka (nq_val cv rw tb n t) C) C.length Va' → post (sc, od, nc, tp', cc, gc, ac, (fun j => nq_e (cv j)), Rc, St, Jl, Tk, Tn, Su, Ne, Ha', Sk', Cb, Jd, Va', Go, Fm, An, Ov)) :
    ∀ f i, i ≤ C.length → C.length - i < f → ∀ tp Ha Sk Va, Ha 3 = -1 → nq_VA (nq_ka (nq_val cv rw tb n t) C) i Va → wX_evaluateCombinations_17 post (nI C.length) f (nI i) sc od nc tp cc gc ac (fun j => nq_e (cv j)) Rc St Jl Tk Tn Su Ne Ha Sk Cb Jd Va Go Fm An Ov := by
  intro f
  induction f with
  | zero => intro i _ h; omega
  | succ f ih =>
    intro i hi hf tp Ha Sk Va h3 hV
    rcases Nat.lt_or_ge i C.length with z | z
    · have z3 : ¬ nI C.length ≤ nI i := nI_ge z (by omega)
      simp only [wX_evaluateCombinations_17, z3, forall_eq, not_true_eq_false, not_false_eq_true, true_implies, false_implies, implies_true, and_true, true_and, and_self]
      have hg : C[i]? = some C[i] := List.getElem?_eq_getElem z
      refine nq_xTake (by omega) fun Ha' g1 g2 => ?_
      have hA' : ∀ s', s' < 3 → Ha' s' = nq_ex tb C[i] s' := fun s' hs' => (g1 s' hs').trans (hC i _ hg s' hs')
      have h3' : Ha' 3 = -1 := (g2 3 (by omega)).trans h3
      have key : ∀ f2 p, 3 ≤ p → p ≤ 10 → 10 - p < f2 → ∀ tp Sk Va, nq_VA (nq_ka (nq_val cv rw tb n t) C) i Va → (∀ q, 3 ≤ q → q < p → Va ((q - 3) * 216 + i) = nq_x (if q ≤ 3 then 1 else 0) (nq_ka (nq_val cv rw tb n t) C q i)) → wX_evaluateCombinations_29 post (wX_evaluateCombinations_17 post (nI C.length) f) (nI C.length) (nI i) f2 (nI p) sc od nc tp cc gc ac (fun j => nq_e (cv j)) Rc St Jl Tk Tn Su Ne Ha' Sk Cb Jd Va Go Fm An Ov := by
        intro f2
        induction f2 with
        | zero => intro p _ _ h; omega
        | succ f2 ih2 =>
          intro p hp1 hp2 hf2 tp Sk Va hV2 hP
          rcases Nat.lt_or_ge p 10 with y | y
          · have y3 : ¬ 10 ≤ nI p := nI_ge (b := 10) y (by decide)
            have i1 : vp_in (nI ((p - 3) * 216 + i)) 1512 := vp_in_nI (by omega) (by decide)
            have c1 : (nI ((p - 3) * 216 + i)).toNatClampNeg = (p - 3) * 216 + i := nI_clamp (by omega)
            simp only [wX_evaluateCombinations_29, y3, nq_vp hp1, forall_eq, not_true_eq_false, not_false_eq_true, true_implies, false_implies, implies_true, and_true, true_and, and_self]
            refine nq_xEv hT hW hF hRw hTb (show p < 10 by omega) (hCo _ (List.getElem_mem z)) hA' h3' fun tp' Sk' => ?_
            simp only [i1, c1, nI_1, forall_eq, not_true_eq_false, not_false_eq_true, true_implies, false_implies, implies_true, and_true, true_and, and_self]
            refine ih2 (p + 1) (by omega) (by omega) (by omega) tp' Sk' _ (fun i' hi' q hq1 hq2 => ?_) (fun q hq1 hq2 => ?_)
            · rw [pk_uLn (by omega)]
              exact hV2 i' hi' q hq1 hq2
            · by_cases e : q = p
              · rw [e, pk_uLs, nq_ka_i hg]
              · rw [pk_uLn (by omega)]
                exact hP q hq1 (by omega)
          · have : p = 10 := by omega
            subst this
            have y3 : (10 : Int32) ≤ nI 10 := by decide
            simp only [wX_evaluateCombinations_29, y3, nI_1, forall_eq, not_true_eq_false, not_false_eq_true, true_implies, false_implies, implies_true, and_true, true_and, and_self]
            refine ih (i + 1) (by omega) (by omega) tp Ha' Sk Va h3' (fun i' hi' q hq1 hq2 => ?_)
            by_cases e : i' = i
            · rw [e]
              exact hP q hq1 hq2
            · exact hV2 i' (by omega) q hq1 hq2
      exact ⟨_, key 8 3 (by omega) (by omega) (by omega) tp Sk Va hV (fun q hq1 hq2 => by omega)⟩
    · have : i = C.length := by omega
      subst this
      have z3 : nI C.length ≤ nI C.length := nI_le (Nat.le_refl _) (by omega)
      simp only [wX_evaluateCombinations_17, z3, forall_eq, not_true_eq_false, not_false_eq_true, true_implies, false_implies, implies_true, and_true, true_and, and_self]
      exact H _ _ _ _ h3 hV
theorem nq_xEvC {post : SX → Prop} {C : List (Nat → Option Nat)} (hT : nq_TT n t Tn Tk) (hW : nq_WF n t) (hF : nq_Full n t) (hRw : nq_RW rw Rc) (hTb : nq_TB tb St) (hC : nq_CA (nq_ex tb) Cb C) (hCo : nq_Cok C) (hCl : C.length ≤ 216) (h3 : Ha 3 = -1)
    (H : ∀ tp' Ha' Sk' Cb' Va', nq_VA (nq_ka (nq_val cv rw tb n t) (nq_c1 C)) (nq_c1 C).length Va' → post (sc, od, nc, tp', (nI C.length), gc, ac, (fun j => nq_e (cv j)), Rc, St, Jl, Tk, Tn, Su, Ne, Ha', Sk', Cb', Jd, Va', Go, Fm, An, Ov)) : wpX_evaluateCombinations post (sc, od, nc, tp, (nI C.length), gc, ac, (fun j => nq_e (cv j)), Rc, St, Jl, Tk, Tn, Su, Ne, Ha, Sk, Cb, Jd, Va, Go, Fm, An, Ov) := by
  unfold nq_c1 at H
  by_cases h0 : C.length = 0
  · have e0 : nI C.length = 0 := by rw [h0]; rfl
    simp only [h0, if_true] at H
    simp only [wpX_evaluateCombinations, e0, forall_eq, not_true_eq_false, not_false_eq_true, true_implies, false_implies, implies_true, and_true, true_and, and_self]
    refine nq_xEmpty fun Cb' g1 => ?_
    exact ⟨_, nq_xEvC1 (C := [fun _ => none]) hT hW hF hRw hTb (fun i g hg s hs => by
      match i, hg with
      | 0, hg =>
        cases hg
        have := g1 s hs
        rw [show 3 * 0 + s = s by omega, this]
        unfold nq_ex nq_hv
        rw [if_neg (by omega)]
        rfl) (fun g hg s _ r hr => by rw [List.mem_singleton.mp hg] at hr; cases hr) (by decide) (fun tp' Ha' Sk' Va' a b => H tp' Ha' Sk' Cb' Va' b) 2 0 (by decide) (by decide) tp Ha Sk Va h3 (fun i hi => by omega)⟩
  · have e0 : ¬ nI C.length = 0 := nI_ne0 (by omega) (by omega)
    simp only [h0, if_false] at H
    simp only [wpX_evaluateCombinations, e0, forall_eq, not_true_eq_false, not_false_eq_true, true_implies, false_implies, implies_true, and_true, true_and, and_self]
    exact ⟨_, nq_xEvC1 hT hW hF hRw hTb hC hCo hCl (fun tp' Ha' Sk' Va' a b => H tp' Ha' Sk' Cb Va' b) (C.length + 1) 0 (by omega) (by omega) tp Ha Sk Va h3 (fun i hi => by omega)⟩
/-! groups, pure -/
def nq_gl (eq : Nat → Bool) (c : Nat) : Nat → Nat → Nat
  | 0, g => g
  | f + 1, g => if eq g = true then g else nq_gl eq c f (g + 1)
theorem nq_gl_l {eq : Nat → Bool} {c : Nat} : ∀ f g, g + f = c → g ≤ nq_gl eq c f g ∧ nq_gl eq c f g ≤ c := by
  intro f
  induction f with
  | zero => intro g h; exact ⟨Nat.le_refl _, by simp only [nq_gl]; omega⟩
  | succ f ih =>
    intro g h
    simp only [nq_gl]
    split
    · exact ⟨Nat.le_refl _, by omega⟩
    · have := ih (g + 1) (by omega)
      omega
def nq_eq (ka : Nat → Nat → nq_V) (a b : Nat) : Bool := decide (ka 7 a = ka 7 b) && decide (ka 8 a = ka 8 b)
/-- groups after i combinations: how many, their first members, whose group -/
def nq_gs (gr : Bool) (ka : Nat → Nat → nq_V) : Nat → Nat × (Nat → Nat) × (Nat → Nat)
  | 0 => (0, fun _ => 0, fun _ => 0)
  | i + 1 =>
    let q := nq_gs gr ka i
    let g := if gr = true then nq_gl (fun g => nq_eq ka (q.2.1 g) i) q.1 q.1 0 else q.1
    (if g = q.1 then q.1 + 1 else q.1, if g = q.1 then nq_un q.2.1 g i else q.2.1, nq_un q.2.2 i g)
theorem nq_gsI {gr : Bool} : ∀ i, (nq_gs gr ka i).1 ≤ i ∧ (∀ g, g < (nq_gs gr ka i).1 → (nq_gs gr ka i).2.1 g < i) ∧ (∀ j, j < i → (nq_gs gr ka i).2.2 j < (nq_gs gr ka i).1) := by
  intro i
  induction i with
  | zero => exact ⟨Nat.le_refl _, fun g hg => absurd hg (Nat.not_lt_zero _), fun j hj => absurd hj (Nat.not_lt_zero _)⟩
  | succ i ih =>
    obtain ⟨h1, h2, h3⟩ := ih
    have gle : (if gr = true then nq_gl (fun g => nq_eq ka ((nq_gs gr ka i).2.1 g) i) (nq_gs gr ka i).1 (nq_gs gr ka i).1 0 else (nq_gs gr ka i).1) ≤ (nq_gs gr ka i).1 := by
      split
      · exact (nq_gl_l _ 0 (by omega)).2
      · exact Nat.le_refl _
    simp only [nq_gs]
    generalize (if gr = true then nq_gl (fun g => nq_eq ka ((nq_gs gr ka i).2.1 g) i) (nq_gs gr ka i).1 (nq_gs gr ka i).1 0 else (nq_gs gr ka i).1) = g0 at gle
    by_cases e : g0 = (nq_gs gr ka i).1
    · simp only [e, if_true]
      refine ⟨by omega, fun g hg => ?_, fun j hj => ?_⟩
      · unfold nq_un
        by_cases z : g = (nq_gs gr ka i).1
        · rw [if_pos z]; omega
        · rw [if_neg z]
          have := h2 g (by omega)
          omega
      · unfold nq_un
        by_cases z : j = i
        · rw [if_pos z]; omega
        · rw [if_neg z]
          have := h3 j (by omega)
          omega
    · simp only [e, if_false]
      refine ⟨by omega, fun g hg => ?_, fun j hj => ?_⟩
      · have := h2 g hg
        omega
      · unfold nq_un
        by_cases z : j = i
        · rw [if_pos z]; omega
        · rw [if_neg z]
          exact h3 j (by omega)
def nq_gr (n su : Nat → Nat) : Bool := decide (0 < n 3 ∨ 0 < n 7 ∨ 0 < n 8 ∨ 0 < su 0 ∨ 0 < su 1 ∨ 0 < su 2)
def nq_SU (su : Nat → Nat) (Su : Nat → Int32) : Prop := ∀ i, i < 3 → su i ≤ 5 ∧ Su i = nI (su i)
theorem nq_xHasKey {post : Int32 → Prop} (hT : nq_TT n t Tn Tk) (hW : nq_WF n t) : wpX_hasKey post (sc, od, nc, tp, cc, gc, ac, Ce, Rc, St, Jl, Tk, Tn, Su, Ne, Ha, Sk, Cb, Jd, Va, Go, Fm, An, Ov) ↔ post (nq_b (decide (0 < n 7 ∨ 0 < n 8))) := by
  have h7 := (hT 7 (by omega)).1
  have h8 := (hT 8 (by omega)).1
  have l7 := (hW 7 (by omega)).1
  have l8 := (hW 8 (by omega)).1
  simp only [wpX_hasKey, h7, h8, show (nI (n 7) < (0 : Int32)) = ((n 7) < 0) from propext (nI_ltI (b := 0) (by omega) (by decide)), show ((0 : Int32) < nI (n 7)) = (0 < (n 7)) from propext (nI_ltI (a := 0) (by decide) (by omega)), show (nI (n 7) ≤ (0 : Int32)) = ((n 7) ≤ 0) from propext (nI_leI (b := 0) (by omega) (by decide)), show ((0 : Int32) ≤ nI (n 7)) = (0 ≤ (n 7)) from propext (nI_leI (a := 0) (by decide) (by omega)), show (nI (n 7) = (0 : Int32)) = ((n 7) = 0) from propext (nI_eq (b := 0) (by omega) (by decide)), show (nI (n 8) < (0 : Int32)) = ((n 8) < 0) from propext (nI_ltI (b := 0) (by omega) (by decide)), show ((0 : Int32) < nI (n 8)) = (0 < (n 8)) from propext (nI_ltI (a := 0) (by decide) (by omega)), show (nI (n 8) ≤ (0 : Int32)) = ((n 8) ≤ 0) from propext (nI_leI (b := 0) (by omega) (by decide)), show ((0 : Int32) ≤ nI (n 8)) = (0 ≤ (n 8)) from propext (nI_leI (a := 0) (by decide) (by omega)), show (nI (n 8) = (0 : Int32)) = ((n 8) = 0) from propext (nI_eq (b := 0) (by omega) (by decide)), nq_ite post]
  refine iff_of_eq (congrArg post ?_)
  simp only [nq_b, decide_eq_true_eq]
  repeat' split
  all_goals first | rfl | (exfalso; omega)
theorem nq_xGr {post : Int32 → Prop} (hT : nq_TT n t Tn Tk) (hW : nq_WF n t) (hS : nq_SU su Su) : wpX_isGrouped post (sc, od, nc, tp, cc, gc, ac, Ce, Rc, St, Jl, Tk, Tn, Su, Ne, Ha, Sk, Cb, Jd, Va, Go, Fm, An, Ov) ↔ post (nq_b (nq_gr n su)) := by
  have h3 := (hT 3 (by omega)).1
  have l3 := (hW 3 (by omega)).1
  obtain ⟨a0, b0⟩ := hS 0 (by omega)
  obtain ⟨a1, b1⟩ := hS 1 (by omega)
  obtain ⟨a2, b2⟩ := hS 2 (by omega)
  simp only [wpX_isGrouped, wX_isGrouped_27, wX_isGrouped_32, nq_xHasKey hT hW, nq_b0, h3, b0, b1, b2, show ¬ (1 : Int32) = 0 from by decide, show (nI (n 3) < (0 : Int32)) = ((n 3) < 0) from propext (nI_ltI (b := 0) (by omega) (by decide)), show ((0 : Int32) < nI (n 3)) = (0 < (n 3)) from propext (nI_ltI (a := 0) (by decide) (by omega)), show (nI (n 3) ≤ (0 : Int32)) = ((n 3) ≤ 0) from propext (nI_leI (b := 0) (by omega) (by decide)), show ((0 : Int32) ≤ nI (n 3)) = (0 ≤ (n 3)) from propext (nI_leI (a := 0) (by decide) (by omega)), show (nI (n 3) = (0 : Int32)) = ((n 3) = 0) from propext (nI_eq (b := 0) (by omega) (by decide)), show (nI (su 0) < (0 : Int32)) = ((su 0) < 0) from propext (nI_ltI (b := 0) (by omega) (by decide)), show ((0 : Int32) < nI (su 0)) = (0 < (su 0)) from propext (nI_ltI (a := 0) (by decide) (by omega)), show (nI (su 0) ≤ (0 : Int32)) = ((su 0) ≤ 0) from propext (nI_leI (b := 0) (by omega) (by decide)), show ((0 : Int32) ≤ nI (su 0)) = (0 ≤ (su 0)) from propext (nI_leI (a := 0) (by decide) (by omega)), show (nI (su 0) = (0 : Int32)) = ((su 0) = 0) from propext (nI_eq (b := 0) (by omega) (by decide)), show (nI (su 1) < (0 : Int32)) = ((su 1) < 0) from propext (nI_ltI (b := 0) (by omega) (by decide)), show ((0 : Int32) < nI (su 1)) = (0 < (su 1)) from propext (nI_ltI (a := 0) (by decide) (by omega)), show (nI (su 1) ≤ (0 : Int32)) = ((su 1) ≤ 0) from propext (nI_leI (b := 0) (by omega) (by decide)), show ((0 : Int32) ≤ nI (su 1)) = (0 ≤ (su 1)) from propext (nI_leI (a := 0) (by decide) (by omega)), show (nI (su 1) = (0 : Int32)) = ((su 1) = 0) from propext (nI_eq (b := 0) (by omega) (by decide)), show (nI (su 2) < (0 : Int32)) = ((su 2) < 0) from propext (nI_ltI (b := 0) (by omega) (by decide)), show ((0 : Int32) < nI (su 2)) = (0 < (su 2)) from propext (nI_ltI (a := 0) (by decide) (by omega)), show (nI (su 2) ≤ (0 : Int32)) = ((su 2) ≤ 0) from propext (nI_leI (b := 0) (by omega) (by decide)), show ((0 : Int32) ≤ nI (su 2)) = (0 ≤ (su 2)) from propext (nI_leI (a := 0) (by decide) (by omega)), show (nI (su 2) = (0 : Int32)) = ((su 2) = 0) from propext (nI_eq (b := 0) (by omega) (by decide)), decide_eq_false_iff_not, nq_ite post, forall_eq, not_true_eq_false, not_false_eq_true, true_implies, false_implies, implies_true, and_true, true_and, and_self]
  refine iff_of_eq (congrArg post ?_)
  simp only [nq_b, nq_gr, decide_eq_true_eq]
  repeat' split
  all_goals first | rfl | (exfalso; omega)
theorem nq_yGr {post : Int32 → Prop} (hT : nq_TT n t ySz yTk) (hW : nq_WF n t) (hS : nq_SU su ySu) : wpY_isGrouped post (src, dis, opn, sbt, sbr, dep, mny, mor, grs, fnd, kpt, yRo, yCe, yTo, yIl, ySz, yTk, yIn, yEn, ySu, yWc, yWi, yHa, ySk, yCo, yLo, yGo, yFi, yRe, ySo, yAn) ↔ post (nq_b (nq_gr n su)) := by
  have h3 := (hT 3 (by omega)).1
  have l3 := (hW 3 (by omega)).1
  have h7 := (hT 7 (by omega)).1
  have h8 := (hT 8 (by omega)).1
  have l7 := (hW 7 (by omega)).1
  have l8 := (hW 8 (by omega)).1
  obtain ⟨a0, b0⟩ := hS 0 (by omega)
  obtain ⟨a1, b1⟩ := hS 1 (by omega)
  obtain ⟨a2, b2⟩ := hS 2 (by omega)
  simp only [wpY_isGrouped, wY_isGrouped_29, wY_isGrouped_34, h3, h7, h8, b0, b1, b2, show ¬ (1 : Int32) = 0 from by decide, show (nI (n 3) < (0 : Int32)) = ((n 3) < 0) from propext (nI_ltI (b := 0) (by omega) (by decide)), show ((0 : Int32) < nI (n 3)) = (0 < (n 3)) from propext (nI_ltI (a := 0) (by decide) (by omega)), show (nI (n 3) ≤ (0 : Int32)) = ((n 3) ≤ 0) from propext (nI_leI (b := 0) (by omega) (by decide)), show ((0 : Int32) ≤ nI (n 3)) = (0 ≤ (n 3)) from propext (nI_leI (a := 0) (by decide) (by omega)), show (nI (n 3) = (0 : Int32)) = ((n 3) = 0) from propext (nI_eq (b := 0) (by omega) (by decide)), show (nI (n 7) < (0 : Int32)) = ((n 7) < 0) from propext (nI_ltI (b := 0) (by omega) (by decide)), show ((0 : Int32) < nI (n 7)) = (0 < (n 7)) from propext (nI_ltI (a := 0) (by decide) (by omega)), show (nI (n 7) ≤ (0 : Int32)) = ((n 7) ≤ 0) from propext (nI_leI (b := 0) (by omega) (by decide)), show ((0 : Int32) ≤ nI (n 7)) = (0 ≤ (n 7)) from propext (nI_leI (a := 0) (by decide) (by omega)), show (nI (n 7) = (0 : Int32)) = ((n 7) = 0) from propext (nI_eq (b := 0) (by omega) (by decide)), show (nI (n 8) < (0 : Int32)) = ((n 8) < 0) from propext (nI_ltI (b := 0) (by omega) (by decide)), show ((0 : Int32) < nI (n 8)) = (0 < (n 8)) from propext (nI_ltI (a := 0) (by decide) (by omega)), show (nI (n 8) ≤ (0 : Int32)) = ((n 8) ≤ 0) from propext (nI_leI (b := 0) (by omega) (by decide)), show ((0 : Int32) ≤ nI (n 8)) = (0 ≤ (n 8)) from propext (nI_leI (a := 0) (by decide) (by omega)), show (nI (n 8) = (0 : Int32)) = ((n 8) = 0) from propext (nI_eq (b := 0) (by omega) (by decide)), show (nI (su 0) < (0 : Int32)) = ((su 0) < 0) from propext (nI_ltI (b := 0) (by omega) (by decide)), show ((0 : Int32) < nI (su 0)) = (0 < (su 0)) from propext (nI_ltI (a := 0) (by decide) (by omega)), show (nI (su 0) ≤ (0 : Int32)) = ((su 0) ≤ 0) from propext (nI_leI (b := 0) (by omega) (by decide)), show ((0 : Int32) ≤ nI (su 0)) = (0 ≤ (su 0)) from propext (nI_leI (a := 0) (by decide) (by omega)), show (nI (su 0) = (0 : Int32)) = ((su 0) = 0) from propext (nI_eq (b := 0) (by omega) (by decide)), show (nI (su 1) < (0 : Int32)) = ((su 1) < 0) from propext (nI_ltI (b := 0) (by omega) (by decide)), show ((0 : Int32) < nI (su 1)) = (0 < (su 1)) from propext (nI_ltI (a := 0) (by decide) (by omega)), show (nI (su 1) ≤ (0 : Int32)) = ((su 1) ≤ 0) from propext (nI_leI (b := 0) (by omega) (by decide)), show ((0 : Int32) ≤ nI (su 1)) = (0 ≤ (su 1)) from propext (nI_leI (a := 0) (by decide) (by omega)), show (nI (su 1) = (0 : Int32)) = ((su 1) = 0) from propext (nI_eq (b := 0) (by omega) (by decide)), show (nI (su 2) < (0 : Int32)) = ((su 2) < 0) from propext (nI_ltI (b := 0) (by omega) (by decide)), show ((0 : Int32) < nI (su 2)) = (0 < (su 2)) from propext (nI_ltI (a := 0) (by decide) (by omega)), show (nI (su 2) ≤ (0 : Int32)) = ((su 2) ≤ 0) from propext (nI_leI (b := 0) (by omega) (by decide)), show ((0 : Int32) ≤ nI (su 2)) = (0 ≤ (su 2)) from propext (nI_leI (a := 0) (by decide) (by omega)), show (nI (su 2) = (0 : Int32)) = ((su 2) = 0) from propext (nI_eq (b := 0) (by omega) (by decide)), nq_ite post, forall_eq, not_true_eq_false, not_false_eq_true, true_implies, false_implies, implies_true, and_true, true_and, and_self]
  refine iff_of_eq (congrArg post ?_)
  simp only [nq_b, nq_gr, decide_eq_true_eq]
  repeat' split
  all_goals first | rfl | (exfalso; omega)
end
end
section
section
variable {sc od nc tp cc gc ac : Int32} {Ce Sk Va An Ov : Nat → Int64} {Rc St Jl Tk Tn Su Ne Ha Cb Jd Go Fm : Nat → Int32}
variable {src dis opn sbt sbr dep mny mor grs fnd kpt : Int32} {ySk yRe ySo yAn : Nat → Int64} {yRo yCe yTo yIl ySz yTk yIn yEn ySu yWc yWi yHa yCo yLo yGo yFi : Nat → Int32}
variable {n t : Nat → Nat} {p : Nat} {cv : Nat → nq_V} {h hv : Nat → Option Nat} {rw tb su : Nat → Nat} {vf : Nat → (Nat → Option Nat) → nq_V} {ka : Nat → Nat → nq_V}
theorem nq_VAe {m i p : Nat} (hV : nq_VA ka m Va) (hi : i < m) (hp1 : 4 ≤ p) (hp2 : p < 10) : Va ((p - 3) * 216 + i) = nq_e (ka p i) := by
  rw [hV i hi p (by omega) hp2, if_neg (by omega)]
  exact if_neg (by decide)
theorem nq_xGL {post : Int32 → Prop} {c i m : Nat} {F : Nat → Nat} (hV : nq_VA ka m Va) (hm : m ≤ 216) (hi : i < m) (hc : c ≤ 216) (hF : ∀ g, g < c → Fm g = nI (F g) ∧ F g < m) (H : post (nI (nq_gl (fun g => nq_eq ka (F g) i) c c 0))) : wpX_groupLike post (sc, od, nc, tp, cc, (nI c), ac, Ce, Rc, St, Jl, Tk, Tn, Su, Ne, Ha, Sk, Cb, Jd, Va, Go, Fm, An, Ov) (nI i) := by
  have j7 : vp_in (nI ((7 - 3) * 216 + i)) 1512 := vp_in_nI (by omega) (by decide)
  have d7 : (nI ((7 - 3) * 216 + i)).toNatClampNeg = (7 - 3) * 216 + i := nI_clamp (by omega)
  have j8 : vp_in (nI ((8 - 3) * 216 + i)) 1512 := vp_in_nI (by omega) (by decide)
  have d8 : (nI ((8 - 3) * 216 + i)).toNatClampNeg = (8 - 3) * 216 + i := nI_clamp (by omega)
  have v7 := nq_VAe hV hi (p := 7) (by omega) (by omega)
  have v8 := nq_VAe hV hi (p := 8) (by omega) (by omega)
  have key : ∀ f g, g ≤ c → c - g < f → post (nI (nq_gl (fun g => nq_eq ka (F g) i) c (c - g) g)) → wX_groupLike_17 post (nI ((7 - 3) * 216 + i)) (nI ((8 - 3) * 216 + i)) sc od nc tp cc (nI c) ac Ce Rc St Jl Tk Tn Su Ne Ha Sk Cb Jd Va Go Fm An Ov f (nI g) := by
    intro f
    induction f with
    | zero => intro g _ h; omega
    | succ f ih =>
      intro g hg hf HH
      rcases Nat.lt_or_ge g c with z | z
      · have z3 : ¬ nI c ≤ nI g := nI_ge z (by omega)
        obtain ⟨f1, f2⟩ := hF g z
        have ig : vp_in (nI g) 216 := vp_in_nI (by omega) (by decide)
        have cg : (nI g).toNatClampNeg = g := nI_clamp (by omega)
        have k7 : vp_in (nI ((7 - 3) * 216 + F g)) 1512 := vp_in_nI (by omega) (by decide)
        have e7 : (nI ((7 - 3) * 216 + F g)).toNatClampNeg = (7 - 3) * 216 + F g := nI_clamp (by omega)
        have k8 : vp_in (nI ((8 - 3) * 216 + F g)) 1512 := vp_in_nI (by omega) (by decide)
        have e8 : (nI ((8 - 3) * 216 + F g)).toNatClampNeg = (8 - 3) * 216 + F g := nI_clamp (by omega)
        have w7 := nq_VAe hV f2 (p := 7) (by omega) (by omega)
        have w8 := nq_VAe hV f2 (p := 8) (by omega) (by omega)
        rw [show c - g = c - (g + 1) + 1 by omega] at HH
        simp only [nq_gl] at HH
        simp only [wX_groupLike_17, z3, ig, cg, f1, nq_i7, nq_i8, nq_vp (show 3 ≤ 7 by omega), nq_vp (show 3 ≤ 8 by omega), j7, d7, j8, d8, k7, e7, k8, e8, v7, v8, w7, w8, nq_e_i, nI_1, forall_eq, not_true_eq_false, not_false_eq_true, true_implies, false_implies, implies_true, and_true, true_and, and_self]
        by_cases q7 : ka 7 (F g) = ka 7 i
        · by_cases q8 : ka 8 (F g) = ka 8 i
          · have qq : nq_eq ka (F g) i = true := by unfold nq_eq; rw [decide_eq_true q7, decide_eq_true q8]; rfl
            simp only [qq, if_true] at HH
            simp only [q7.symm, q8.symm, forall_eq, not_true_eq_false, not_false_eq_true, true_implies, false_implies, implies_true, and_true, true_and, and_self]
            exact HH
          · have q8' : ¬ ka 8 i = ka 8 (F g) := fun e => q8 e.symm
            have qq : nq_eq ka (F g) i = false := by unfold nq_eq; rw [decide_eq_false q8, Bool.and_false]
            simp only [qq, reduceCtorEq, if_false] at HH
            simp only [q7.symm, q8', forall_eq, not_true_eq_false, not_false_eq_true, true_implies, false_implies, implies_true, and_true, true_and, and_self]
            exact ih (g + 1) (by omega) (by omega) HH
        · have q7' : ¬ ka 7 i = ka 7 (F g) := fun e => q7 e.symm
          have qq : nq_eq ka (F g) i = false := by unfold nq_eq; rw [decide_eq_false q7, Bool.false_and]
          simp only [qq, reduceCtorEq, if_false] at HH
          simp only [q7', forall_eq, not_true_eq_false, not_false_eq_true, true_implies, false_implies, implies_true, and_true, true_and, and_self]
          exact ih (g + 1) (by omega) (by omega) HH
      · have : g = c := by omega
        subst this
        have z3 : nI g ≤ nI g := nI_le (Nat.le_refl _) (by omega)
        rw [Nat.sub_self] at HH
        simp only [wX_groupLike_17, z3, forall_eq, not_true_eq_false, not_false_eq_true, true_implies, false_implies, implies_true, and_true, true_and, and_self]
        exact HH
  simp only [wpX_groupLike, nq_i7, nq_i8, nq_vp (show 3 ≤ 7 by omega), nq_vp (show 3 ≤ 8 by omega)]
  exact ⟨_, key (c + 1) 0 (by omega) (by omega) (by rw [Nat.sub_zero]; exact H)⟩
/-- is there a group without members? -/
def nq_e0 (n su : Nat → Nat) (m : Nat) : Bool := decide (m = 0 ∧ nq_gr n su = true ∧ n 7 = 0 ∧ n 8 = 0)
def nq_gN (n su : Nat → Nat) (ka : Nat → Nat → nq_V) (m : Nat) : Nat := if nq_e0 n su m = true then 1 else (nq_gs (nq_gr n su) ka m).1
theorem nq_xForm {post : SX → Prop} {m m1 : Nat} (hT : nq_TT n t Tn Tk) (hW : nq_WF n t) (hS : nq_SU su Su) (hV : nq_VA ka m1 Va) (hm1 : m1 ≤ 216) (hm : m ≤ m1) (H : ∀ Go' Fm', (∀ g, g < nq_gN n su ka m → Fm' g = nI ((nq_gs (nq_gr n su) ka m).2.1 g)) → (∀ j, j < m → Go' j = nI ((nq_gs (nq_gr n su) ka m).2.2 j)) → post (sc, od, nc, tp, (nI m), (nI (nq_gN n su ka m)), ac, Ce, Rc, St, Jl, Tk, Tn, Su, Ne, Ha, Sk, Cb, Jd, Va, Go', Fm', An, Ov)) : wpX_formGroups post (sc, od, nc, tp, (nI m), gc, ac, Ce, Rc, St, Jl, Tk, Tn, Su, Ne, Ha, Sk, Cb, Jd, Va, Go, Fm, An, Ov) := by
  simp only [wpX_formGroups, nq_xGr hT hW hS]
  have key : ∀ f i, i ≤ m → m - i < f → ∀ Go Fm, (∀ g, g < (nq_gs (nq_gr n su) ka i).1 → Fm g = nI ((nq_gs (nq_gr n su) ka i).2.1 g)) → (∀ j, j < i → Go j = nI ((nq_gs (nq_gr n su) ka i).2.2 j)) → wX_formGroups_12 post (nq_b (nq_gr n su)) sc od nc tp (nI m) ac f (nI i) (nI (nq_gs (nq_gr n su) ka i).1) Ce Rc St Jl Tk Tn Su Ne Ha Sk Cb Jd Va Go Fm An Ov := by
    intro f
    induction f with
    | zero => intro i _ h; omega
    | succ f ih =>
      intro i hi hf Go Fm hF hG
      obtain ⟨b1, b2, b3⟩ := nq_gsI (gr := nq_gr n su) (ka := ka) i
      rcases Nat.lt_or_ge i m with z | z
      · have z3 : ¬ nI m ≤ nI i := nI_ge z (by omega)
        have ii : vp_in (nI i) 216 := vp_in_nI (by omega) (by decide)
        have ci : (nI i).toNatClampNeg = i := nI_clamp (by omega)
        have nxt : ∀ g0, g0 = (if nq_gr n su = true then nq_gl (fun g => nq_eq ka ((nq_gs (nq_gr n su) ka i).2.1 g) i) (nq_gs (nq_gr n su) ka i).1 (nq_gs (nq_gr n su) ka i).1 0 else (nq_gs (nq_gr n su) ka i).1) → g0 ≤ (nq_gs (nq_gr n su) ka i).1 → wX_formGroups_36 post (wX_formGroups_12 post (nq_b (nq_gr n su)) sc od nc tp (nI m) ac f) (nq_b (nq_gr n su)) (nI i) (nI g0) sc od nc tp (nI m) (nI (nq_gs (nq_gr n su) ka i).1) ac Ce Rc St Jl Tk Tn Su Ne Ha Sk Cb Jd Va Go Fm An Ov := by
          intro g0 eg lg
          have ig : vp_in (nI g0) 216 := vp_in_nI (by omega) (by decide)
          have cg : (nI g0).toNatClampNeg = g0 := nI_clamp (by omega)
          have nn := ih (i + 1) (by omega) (by omega)
          simp only [nq_gs] at nn
          rw [← eg] at nn
          by_cases e : g0 = (nq_gs (nq_gr n su) ka i).1
          · have e' : nI g0 = nI (nq_gs (nq_gr n su) ka i).1 := by rw [e]
            simp only [e, if_true] at nn
            simp only [wX_formGroups_36, e', ii, ci, nI_1, forall_eq, not_true_eq_false, not_false_eq_true, true_implies, false_implies, implies_true, and_true, true_and, and_self]
            rw [e] at ig cg
            simp only [ig, cg, forall_eq, not_true_eq_false, not_false_eq_true, true_implies, false_implies, implies_true, and_true, true_and, and_self]
            refine nn _ _ (fun g hg => ?_) (fun j hj => ?_)
            · unfold nq_un
              by_cases y : g = (nq_gs (nq_gr n su) ka i).1
              · rw [if_pos y, y, pk_us]
              · rw [if_neg y, pk_un y]
                exact hF g (by omega)
            · unfold nq_un
              by_cases y : j = i
              · rw [if_pos y, y, pk_us]
              · rw [if_neg y, pk_un y]
                exact hG j (by omega)
          · have e' : ¬ nI g0 = nI (nq_gs (nq_gr n su) ka i).1 := fun y => e ((nI_eq (by omega) (by omega)).mp y)
            simp only [e, if_false] at nn
            simp only [wX_formGroups_36, e', ii, ci, nI_1, forall_eq, not_true_eq_false, not_false_eq_true, true_implies, false_implies, implies_true, and_true, true_and, and_self]
            refine nn _ _ hF (fun j hj => ?_)
            unfold nq_un
            by_cases y : j = i
            · rw [if_pos y, y, pk_us]
            · rw [if_neg y, pk_un y]
              exact hG j (by omega)
        rcases Bool.eq_false_or_eq_true (nq_gr n su) with hg | hg
        · simp only [wX_formGroups_12, z3, nq_b0, forall_eq, not_true_eq_false, not_false_eq_true, true_implies, false_implies, implies_true, and_true, true_and, and_self]
          refine br_f (by rw [hg]; decide) ?_
          refine nq_xGL (c := (nq_gs (nq_gr n su) ka i).1) hV hm1 (by omega) (by omega) (fun g hg => ⟨hF g hg, by have := b2 g hg; omega⟩) ?_
          exact nxt _ (by rw [if_pos hg]) (nq_gl_l _ 0 (by omega)).2
        · simp only [wX_formGroups_12, z3, nq_b0, forall_eq, not_true_eq_false, not_false_eq_true, true_implies, false_implies, implies_true, and_true, true_and, and_self]
          refine br_t hg ?_
          exact nxt _ (by rw [if_neg (by rw [hg]; decide)]) (Nat.le_refl _)
      · have : i = m := by omega
        subst this
        have z3 : nI i ≤ nI i := nI_le (Nat.le_refl _) (by omega)
        simp only [wX_formGroups_12, z3, nq_b0, nq_xHasKey hT hW, show (nI (i) < (0 : Int32)) = ((i) < 0) from propext (nI_ltI (b := 0) (by omega) (by decide)), show ((0 : Int32) < nI (i)) = (0 < (i)) from propext (nI_ltI (a := 0) (by decide) (by omega)), show (nI (i) ≤ (0 : Int32)) = ((i) ≤ 0) from propext (nI_leI (b := 0) (by omega) (by decide)), show ((0 : Int32) ≤ nI (i)) = (0 ≤ (i)) from propext (nI_leI (a := 0) (by decide) (by omega)), show (nI (i) = (0 : Int32)) = ((i) = 0) from propext (nI_eq (b := 0) (by omega) (by decide)), decide_eq_false_iff_not, forall_eq, not_true_eq_false, not_false_eq_true, true_implies, false_implies, implies_true, and_true, true_and, and_self]
        unfold nq_gN at H
        have fin : nq_e0 n su i = false → post (sc, od, nc, tp, (nI i), (nI (nq_gs (nq_gr n su) ka i).1), ac, Ce, Rc, St, Jl, Tk, Tn, Su, Ne, Ha, Sk, Cb, Jd, Va, Go, Fm, An, Ov) := by
          intro e
          rw [e] at H
          exact H Go Fm hF hG
        have nn : ∀ {P : Prop}, ¬ P → (m1 = m1 ∧ ¬ P) := fun h => ⟨rfl, h⟩
        refine ⟨fun y => ⟨fun hg => ?_, fun hg => ⟨fun hk => ?_, fun hk => ?_⟩⟩, fun y => ?_⟩
        · exact fin (by unfold nq_e0; rw [decide_eq_false_iff_not, hg]; exact fun a => absurd a.2.1 (by decide))
        · have ee : nq_e0 n su i = true := by
            unfold nq_e0
            rw [decide_eq_true_eq]
            refine ⟨y, ?_, by omega, by omega⟩
            rcases Bool.eq_false_or_eq_true (nq_gr n su) with q | q
            · exact q
            · exact absurd q hg
          rw [ee] at H
          refine H Go (upd Fm 0 0) (fun g hgg => ?_) hG
          have : g = 0 := by
            rw [if_pos rfl] at hgg
            omega
          subst this
          rw [pk_us]
          rw [y]
          rfl
        · exact fin (by unfold nq_e0; rw [decide_eq_false_iff_not]; omega)
        · exact fin (by unfold nq_e0; rw [decide_eq_false_iff_not]; omega)
  exact ⟨_, key (m + 1) 0 (by omega) (by omega) Go Fm (fun g hg => absurd hg (Nat.not_lt_zero _)) (fun j hj => absurd hj (Nat.not_lt_zero _))⟩
theorem nq_yForm {post : SY → Prop} {C : List (Nat → Option Nat)} (E : nq_YE cv rw tb n t yRo yTo ySz yTk yIn yEn) (hS : nq_SU su ySu) (hC : nq_CA nq_ey yCo C) (hCo : nq_Cok C) (hCl : C.length ≤ 216) (hka : ka = nq_ka (nq_val cv rw tb n t) (nq_c1 C)) (H : ∀ yHa' sbt' sbr' ySk' yGo' yFi', (∀ g, g < nq_gN n su ka C.length → yFi' g = if C.length = 0 then -1 else nI ((nq_gs (nq_gr n su) ka C.length).2.1 g)) → (∀ j, j < C.length → yGo' j = nI ((nq_gs (nq_gr n su) ka C.length).2.2 j)) → post (src, dis, opn, sbt', sbr', 0, (nI C.length), mor, (nI (nq_gN n su ka C.length)), fnd, kpt, yRo, (fun j => nq_k (cv j)), yTo, yIl, ySz, yTk, yIn, yEn, ySu, yWc, yWi, yHa', ySk', yCo, yLo, yGo', yFi', yRe, ySo, yAn)) : wpY_group post (src, dis, opn, sbt, sbr, 0, (nI C.length), mor, grs, fnd, kpt, yRo, (fun j => nq_k (cv j)), yTo, yIl, ySz, yTk, yIn, yEn, ySu, yWc, yWi, yHa, ySk, yCo, yLo, yGo, yFi, yRe, ySo, yAn) := by
  have hT := E.1
  have hW := E.2.1
  simp only [wpY_group, nq_yGr hT hW hS]
  have kav : ∀ i, i < C.length → ∀ p, ∃ g, C[i]? = some g ∧ nq_val cv rw tb n t p g = ka p i := by
    intro i hi p
    have hg : C[i]? = some C[i] := List.getElem?_eq_getElem hi
    refine ⟨C[i], hg, ?_⟩
    have hc1 : nq_c1 C = C := if_neg (by omega)
    rw [hka, hc1, nq_ka_i hg]
  have yv : ∀ (post : Int64 → SY → Prop) i p, i < C.length → 4 ≤ p → p < 10 → ∀ yHa sbt sbr ySk grs yGo yFi, (∀ yHa' sbt' sbr' ySk', post (nq_f (ka p i)) (src, dis, opn, sbt', sbr', 0, (nI C.length), mor, grs, fnd, kpt, yRo, (fun j => nq_k (cv j)), yTo, yIl, ySz, yTk, yIn, yEn, ySu, yWc, yWi, yHa', ySk', yCo, yLo, yGo, yFi, yRe, ySo, yAn)) → wpY_valueFor post (src, dis, opn, sbt, sbr, 0, (nI C.length), mor, grs, fnd, kpt, yRo, (fun j => nq_k (cv j)), yTo, yIl, ySz, yTk, yIn, yEn, ySu, yWc, yWi, yHa, ySk, yCo, yLo, yGo, yFi, yRe, ySo, yAn) (nI p) (nI i) := by
    intro post i p hi hp1 hp2 yHa sbt sbr ySk grs yGo yFi HH
    obtain ⟨g, a1, a2⟩ := kav i hi p
    refine nq_yVal E hp1 hp2 hC hCo a1 (by omega) ?_
    rw [a2]
    exact HH
  have key : ∀ f i, i ≤ C.length → C.length - i < f → ∀ yHa sbt sbr ySk yGo yFi, (∀ g, g < (nq_gs (nq_gr n su) ka i).1 → yFi g = nI ((nq_gs (nq_gr n su) ka i).2.1 g)) → (∀ j, j < i → yGo j = nI ((nq_gs (nq_gr n su) ka i).2.2 j)) → wY_group_12 post (nq_b (nq_gr n su)) f (nI i) src dis opn sbt sbr 0 (nI C.length) mor (nI (nq_gs (nq_gr n su) ka i).1) fnd kpt yRo (fun j => nq_k (cv j)) yTo yIl ySz yTk yIn yEn ySu yWc yWi yHa ySk yCo yLo yGo yFi yRe ySo yAn := by
    intro f
    induction f with
    | zero => intro i _ h; omega
    | succ f ih =>
      intro i hi hf yHa sbt sbr ySk yGo yFi hF hG
      obtain ⟨b1, b2, b3⟩ := nq_gsI (gr := nq_gr n su) (ka := ka) i
      rcases Nat.lt_or_ge i C.length with z | z
      · have z3 : ¬ nI C.length ≤ nI i := nI_ge z (by omega)
        have ii : vp_in (nI i) 216 := vp_in_nI (by omega) (by decide)
        have ci : (nI i).toNatClampNeg = i := nI_clamp (by omega)
        have nxt : ∀ g0, g0 = (if nq_gr n su = true then nq_gl (fun g => nq_eq ka ((nq_gs (nq_gr n su) ka i).2.1 g) i) (nq_gs (nq_gr n su) ka i).1 (nq_gs (nq_gr n su) ka i).1 0 else (nq_gs (nq_gr n su) ka i).1) → g0 ≤ (nq_gs (nq_gr n su) ka i).1 → ∀ yHa sbt sbr ySk, wY_group_93 post (wY_group_12 post (nq_b (nq_gr n su)) f) (nq_b (nq_gr n su)) (nI i) (nI g0) src dis opn sbt sbr 0 (nI C.length) mor (nI (nq_gs (nq_gr n su) ka i).1) fnd kpt yRo (fun j => nq_k (cv j)) yTo yIl ySz yTk yIn yEn ySu yWc yWi yHa ySk yCo yLo yGo yFi yRe ySo yAn := by
          intro g0 eg lg yHa sbt sbr ySk
          have ig : vp_in (nI g0) 216 := vp_in_nI (by omega) (by decide)
          have cg : (nI g0).toNatClampNeg = g0 := nI_clamp (by omega)
          have nn := ih (i + 1) (by omega) (by omega) yHa sbt sbr ySk
          simp only [nq_gs] at nn
          rw [← eg] at nn
          by_cases e : g0 = (nq_gs (nq_gr n su) ka i).1
          · have e' : nI g0 = nI (nq_gs (nq_gr n su) ka i).1 := by rw [e]
            simp only [e, if_true] at nn
            simp only [wY_group_93, e', ii, ci, nI_1, forall_eq, not_true_eq_false, not_false_eq_true, true_implies, false_implies, implies_true, and_true, true_and, and_self]
            rw [e] at ig cg
            simp only [ig, cg, forall_eq, not_true_eq_false, not_false_eq_true, true_implies, false_implies, implies_true, and_true, true_and, and_self]
            refine nn _ _ (fun g hg => ?_) (fun j hj => ?_)
            · unfold nq_un
              by_cases y : g = (nq_gs (nq_gr n su) ka i).1
              · rw [if_pos y, y, pk_us]
              · rw [if_neg y, pk_un y]
                exact hF g (by omega)
            · unfold nq_un
              by_cases y : j = i
              · rw [if_pos y, y, pk_us]
              · rw [if_neg y, pk_un y]
                exact hG j (by omega)
          · have e' : ¬ nI g0 = nI (nq_gs (nq_gr n su) ka i).1 := fun y => e ((nI_eq (by omega) (by omega)).mp y)
            simp only [e, if_false] at nn
            simp only [wY_group_93, e', ii, ci, nI_1, forall_eq, not_true_eq_false, not_false_eq_true, true_implies, false_implies, implies_true, and_true, true_and, and_self]
            refine nn _ _ hF (fun j hj => ?_)
            unfold nq_un
            by_cases y : j = i
            · rw [if_pos y, y, pk_us]
            · rw [if_neg y, pk_un y]
              exact hG j (by omega)
        rcases Bool.eq_false_or_eq_true (nq_gr n su) with hg | hg
        · simp only [wY_group_12, z3, nq_b0, forall_eq, not_true_eq_false, not_false_eq_true, true_implies, false_implies, implies_true, and_true, true_and, and_self]
          refine br_f (by rw [hg]; decide) ?_
          have key2 : ∀ f2 g, g ≤ (nq_gs (nq_gr n su) ka i).1 → (nq_gs (nq_gr n su) ka i).1 - g < f2 → nq_gl (fun g => nq_eq ka ((nq_gs (nq_gr n su) ka i).2.1 g) i) (nq_gs (nq_gr n su) ka i).1 (nq_gs (nq_gr n su) ka i).1 0 = nq_gl (fun g => nq_eq ka ((nq_gs (nq_gr n su) ka i).2.1 g) i) (nq_gs (nq_gr n su) ka i).1 ((nq_gs (nq_gr n su) ka i).1 - g) g → ∀ yHa sbt sbr ySk, wY_group_33 post (wY_group_12 post (nq_b (nq_gr n su)) f) (nq_b (nq_gr n su)) (nI i) f2 (nI g) src dis opn sbt sbr 0 (nI C.length) mor (nI (nq_gs (nq_gr n su) ka i).1) fnd kpt yRo (fun j => nq_k (cv j)) yTo yIl ySz yTk yIn yEn ySu yWc yWi yHa ySk yCo yLo yGo yFi yRe ySo yAn := by
            intro f2
            induction f2 with
            | zero => intro g _ h; omega
            | succ f2 ih2 =>
              intro g hg1 hf2 hgl yHa sbt sbr ySk
              rcases Nat.lt_or_ge g (nq_gs (nq_gr n su) ka i).1 with y | y
              · have y3 : ¬ nI (nq_gs (nq_gr n su) ka i).1 ≤ nI g := nI_ge y (by omega)
                have ig : vp_in (nI g) 216 := vp_in_nI (by omega) (by decide)
                have cg : (nI g).toNatClampNeg = g := nI_clamp (by omega)
                have f1 := hF g y
                have f2' := b2 g y
                rw [show (nq_gs (nq_gr n su) ka i).1 - g = (nq_gs (nq_gr n su) ka i).1 - (g + 1) + 1 by omega] at hgl
                simp only [nq_gl] at hgl
                simp only [wY_group_33, y3, ig, cg, f1, nI_1, forall_eq, not_true_eq_false, not_false_eq_true, true_implies, false_implies, implies_true, and_true, true_and, and_self]
                refine yv _ _ 7 (by omega) (by omega) (by omega) _ _ _ _ _ _ _ fun yHa1 sbt1 sbr1 ySk1 => ?_
                refine yv _ _ 7 (by omega) (by omega) (by omega) _ _ _ _ _ _ _ fun yHa2 sbt2 sbr2 ySk2 => ?_
                simp only [nq_f_i, f1]
                by_cases q7 : ka 7 ((nq_gs (nq_gr n su) ka i).2.1 g) = ka 7 i
                · refine br_t q7 ?_
                  refine yv _ _ 8 (by omega) (by omega) (by omega) _ _ _ _ _ _ _ fun yHa3 sbt3 sbr3 ySk3 => ?_
                  refine yv _ _ 8 (by omega) (by omega) (by omega) _ _ _ _ _ _ _ fun yHa4 sbt4 sbr4 ySk4 => ?_
                  simp only [nq_f_i]
                  by_cases q8 : ka 8 ((nq_gs (nq_gr n su) ka i).2.1 g) = ka 8 i
                  · have qq : nq_eq ka ((nq_gs (nq_gr n su) ka i).2.1 g) i = true := by unfold nq_eq; rw [decide_eq_true q7, decide_eq_true q8]; rfl
                    simp only [qq, if_true] at hgl
                    refine br_t q8 ?_
                    exact nxt g (by rw [if_pos hg, hgl]) (by omega) _ _ _ _
                  · have qq : nq_eq ka ((nq_gs (nq_gr n su) ka i).2.1 g) i = false := by unfold nq_eq; rw [decide_eq_false q8, Bool.and_false]
                    simp only [qq, reduceCtorEq, if_false] at hgl
                    refine br_f q8 ?_
                    exact ih2 (g + 1) (by omega) (by omega) hgl _ _ _ _
                · have qq : nq_eq ka ((nq_gs (nq_gr n su) ka i).2.1 g) i = false := by unfold nq_eq; rw [decide_eq_false q7, Bool.false_and]
                  simp only [qq, reduceCtorEq, if_false] at hgl
                  refine br_f q7 ?_
                  exact ih2 (g + 1) (by omega) (by omega) hgl _ _ _ _
              · have : g = (nq_gs (nq_gr n su) ka i).1 := by omega
                have y3 : nI (nq_gs (nq_gr n su) ka i).1 ≤ nI g := by rw [this]; exact nI_le (Nat.le_refl _) (by omega)
                rw [this, Nat.sub_self] at hgl
                simp only [nq_gl] at hgl
                simp only [wY_group_33, y3, forall_eq, not_true_eq_false, not_false_eq_true, true_implies, false_implies, implies_true, and_true, true_and, and_self]
                exact nxt g (by rw [if_pos hg, hgl, this]) (by omega) _ _ _ _
          exact ⟨_, key2 ((nq_gs (nq_gr n su) ka i).1 + 1) 0 (by omega) (by omega) (by rw [Nat.sub_zero]) yHa sbt sbr ySk⟩
        · simp only [wY_group_12, z3, nq_b0, forall_eq, not_true_eq_false, not_false_eq_true, true_implies, false_implies, implies_true, and_true, true_and, and_self]
          refine br_t hg ⟨1, ?_⟩
          have y3 : nI (nq_gs (nq_gr n su) ka i).1 ≤ nI (nq_gs (nq_gr n su) ka i).1 := nI_le (Nat.le_refl _) (by omega)
          simp only [wY_group_33, y3, forall_eq, not_true_eq_false, not_false_eq_true, true_implies, false_implies, implies_true, and_true, true_and, and_self]
          exact nxt _ (by rw [if_neg (by rw [hg]; decide)]) (Nat.le_refl _) _ _ _ _
      · have : i = C.length := by omega
        subst this
        have z3 : nI C.length ≤ nI C.length := nI_le (Nat.le_refl _) (by omega)
        have h7 := (hT 7 (by omega)).1
        have h8 := (hT 8 (by omega)).1
        have l7 := (hW 7 (by omega)).1
        have l8 := (hW 8 (by omega)).1
        simp only [wY_group_12, z3, nq_b0, h7, h8, show (nI (C.length) < (0 : Int32)) = ((C.length) < 0) from propext (nI_ltI (b := 0) (by omega) (by decide)), show ((0 : Int32) < nI (C.length)) = (0 < (C.length)) from propext (nI_ltI (a := 0) (by decide) (by omega)), show (nI (C.length) ≤ (0 : Int32)) = ((C.length) ≤ 0) from propext (nI_leI (b := 0) (by omega) (by decide)), show ((0 : Int32) ≤ nI (C.length)) = (0 ≤ (C.length)) from propext (nI_leI (a := 0) (by decide) (by omega)), show (nI (C.length) = (0 : Int32)) = ((C.length) = 0) from propext (nI_eq (b := 0) (by omega) (by decide)), show (nI (n 7) < (0 : Int32)) = ((n 7) < 0) from propext (nI_ltI (b := 0) (by omega) (by decide)), show ((0 : Int32) < nI (n 7)) = (0 < (n 7)) from propext (nI_ltI (a := 0) (by decide) (by omega)), show (nI (n 7) ≤ (0 : Int32)) = ((n 7) ≤ 0) from propext (nI_leI (b := 0) (by omega) (by decide)), show ((0 : Int32) ≤ nI (n 7)) = (0 ≤ (n 7)) from propext (nI_leI (a := 0) (by decide) (by omega)), show (nI (n 7) = (0 : Int32)) = ((n 7) = 0) from propext (nI_eq (b := 0) (by omega) (by decide)), show (nI (n 8) < (0 : Int32)) = ((n 8) < 0) from propext (nI_ltI (b := 0) (by omega) (by decide)), show ((0 : Int32) < nI (n 8)) = (0 < (n 8)) from propext (nI_ltI (a := 0) (by decide) (by omega)), show (nI (n 8) ≤ (0 : Int32)) = ((n 8) ≤ 0) from propext (nI_leI (b := 0) (by omega) (by decide)), show ((0 : Int32) ≤ nI (n 8)) = (0 ≤ (n 8)) from propext (nI_leI (a := 0) (by decide) (by omega)), show (nI (n 8) = (0 : Int32)) = ((n 8) = 0) from propext (nI_eq (b := 0) (by omega) (by decide)), forall_eq, not_true_eq_false, not_false_eq_true, true_implies, false_implies, implies_true, and_true, true_and, and_self]
        unfold nq_gN at H
        have fin : nq_e0 n su C.length = false → post (src, dis, opn, sbt, sbr, 0, (nI C.length), mor, (nI (nq_gs (nq_gr n su) ka C.length).1), fnd, kpt, yRo, (fun j => nq_k (cv j)), yTo, yIl, ySz, yTk, yIn, yEn, ySu, yWc, yWi, yHa, ySk, yCo, yLo, yGo, yFi, yRe, ySo, yAn) := by
          intro e
          rw [e] at H
          refine H yHa sbt sbr ySk yGo yFi (fun g hg => ?_) hG
          have hg' : g < (nq_gs (nq_gr n su) ka C.length).1 := hg
          rw [if_neg (by omega)]
          exact hF g hg'
        refine ⟨fun hg => ?_, fun hg => ⟨fun y => ⟨fun k7 => ⟨fun k8 => ?_, fun k8 => ?_⟩, fun k7 => ?_⟩, fun y => ?_⟩⟩
        · exact fin (by unfold nq_e0; rw [decide_eq_false_iff_not, hg]; exact fun a => absurd a.2.1 (by decide))
        · have ee : nq_e0 n su C.length = true := by
            unfold nq_e0
            rw [decide_eq_true_eq]
            refine ⟨y, ?_, k7, k8⟩
            rcases Bool.eq_false_or_eq_true (nq_gr n su) with q | q
            · exact q
            · exact absurd q hg
          rw [ee] at H
          refine H yHa sbt sbr ySk yGo (upd yFi 0 (-1)) (fun g hgg => ?_) hG
          have : g = 0 := by
            rw [if_pos rfl] at hgg
            omega
          subst this
          rw [pk_us, if_pos y]
        · exact fin (by unfold nq_e0; rw [decide_eq_false_iff_not]; omega)
        · exact fin (by unfold nq_e0; rw [decide_eq_false_iff_not]; omega)
        · exact fin (by unfold nq_e0; rw [decide_eq_false_iff_not]; omega)
  exact ⟨_, key (C.length + 1) 0 (by omega) (by omega) yHa sbt sbr ySk yGo yFi (fun g hg => absurd hg (Nat.not_lt_zero _)) (fun j hj => absurd hj (Nat.not_lt_zero _))⟩
end
end
section
section
variable {sc od nc tp cc gc ac : Int32} {Ce Sk Va An Ov : Nat → Int64} {Rc St Jl Tk Tn Su Ne Ha Cb Jd Go Fm : Nat → Int32}
variable {src dis opn sbt sbr dep mny mor grs fnd kpt : Int32} {ySk yRe ySo yAn : Nat → Int64} {yRo yCe yTo yIl ySz yTk yIn yEn ySu yWc yWi yHa yCo yLo yGo yFi : Nat → Int32}
variable {n t : Nat → Nat} {p : Nat} {cv : Nat → nq_V} {h hv : Nat → Option Nat} {rw tb su : Nat → Nat} {vf : Nat → (Nat → Option Nat) → nq_V} {ka : Nat → Nat → nq_V} {F G : Nat → Nat} {v : Nat → nq_V}
/-! summaries, pure -/
def nq_mc (G : Nat → Nat) (g : Nat) : Nat → Nat
  | 0 => 0
  | i + 1 => if G i = g then nq_mc G g i + 1 else nq_mc G g i
def nq_kc (G : Nat → Nat) (v : Nat → nq_V) (g : Nat) : Nat → Nat
  | 0 => 0
  | i + 1 => if G i = g ∧ v i ≠ none then nq_kc G v g i + 1 else nq_kc G v g i
def nq_b2f (f : Int32 → Int32 → Int32) (b a : nq_V) : nq_V := match a with
  | none => b
  | some x => match b with
    | none => some x
    | some y => some (f y x)
def nq_bs (f : Int32 → Int32 → Int32) (G : Nat → Nat) (v : Nat → nq_V) (g : Nat) : Nat → nq_V
  | 0 => none
  | i + 1 => if G i = g then nq_b2f f (nq_bs f G v g i) (v i) else nq_bs f G v g i
def nq_f3 (y x : Int32) : Int32 := y + x
def nq_f4 (y x : Int32) : Int32 := if y ≤ x then y else x
def nq_f5 (y x : Int32) : Int32 := if x ≤ y then y else x
def nq_fk (k : Nat) : Int32 → Int32 → Int32 := if k = 3 then nq_f3 else if k = 4 then nq_f4 else nq_f5
theorem nq_mc_l {g : Nat} : ∀ i, nq_mc G g i ≤ i := by
  intro i
  induction i with
  | zero => exact Nat.le_refl _
  | succ i ih => simp only [nq_mc]; split <;> omega
theorem nq_kc_l {g : Nat} : ∀ i, nq_kc G v g i ≤ i := by
  intro i
  induction i with
  | zero => exact Nat.le_refl _
  | succ i ih => simp only [nq_kc]; split <;> omega
theorem nq_kc_0 {f : Int32 → Int32 → Int32} {g : Nat} : ∀ i, nq_kc G v g i = 0 ↔ nq_bs f G v g i = none := by
  intro i
  induction i with
  | zero => exact ⟨fun _ => rfl, fun _ => rfl⟩
  | succ i ih =>
    simp only [nq_kc, nq_bs]
    by_cases e : G i = g
    · cases hv : v i with
      | none => simp only [e, nq_b2f, ne_eq, not_true_eq_false, and_false, if_false, if_true]; exact ih
      | some x =>
        simp only [e, ne_eq, reduceCtorEq, not_false_eq_true, and_self, if_true, nq_b2f]
        cases nq_bs f G v g i with
        | none => exact ⟨fun h => h.elim, fun h => nomatch h⟩
        | some y => exact ⟨fun h => h.elim, fun h => nomatch h⟩
    · simp only [e, false_and, if_false]; exact ih
/-- an output of a group -/
def nq_out (n su : Nat → Nat) (ka : Nat → Nat → nq_V) (F G : Nat → Nat) (m g o : Nat) : nq_V :=
  if su o = 0 then ka (4 + o) (F g) else if su o = 1 then some (nI (nq_mc G g m)) else if n (4 + o) = 0 then none else if su o = 2 then some (nI (nq_kc G (ka (4 + o)) g m)) else nq_bs (nq_fk (su o)) G (ka (4 + o)) g m
theorem nq_xMem {post : Int32 → Prop} {m g : Nat} (hm : m ≤ 216) (hg : g < 216) (hG : ∀ j, j < m → Go j = nI (G j) ∧ G j < 216) (H : post (nI (nq_mc G g m))) : wpX_membersOf post (sc, od, nc, tp, (nI m), gc, ac, Ce, Rc, St, Jl, Tk, Tn, Su, Ne, Ha, Sk, Cb, Jd, Va, Go, Fm, An, Ov) (nI g) := by
  have key : ∀ f i, i ≤ m → m - i < f → wX_membersOf_4 post (nI g) sc od nc tp (nI m) gc ac Ce Rc St Jl Tk Tn Su Ne Ha Sk Cb Jd Va Go Fm An Ov f (nI (nq_mc G g i)) (nI i) := by
    intro f
    induction f with
    | zero => intro i _ h; omega
    | succ f ih =>
      intro i hi hf
      rcases Nat.lt_or_ge i m with z | z
      · have z3 : ¬ nI m ≤ nI i := nI_ge z (by omega)
        have ii : vp_in (nI i) 216 := vp_in_nI (by omega) (by decide)
        have ci : (nI i).toNatClampNeg = i := nI_clamp (by omega)
        obtain ⟨g1, g2⟩ := hG i z
        have nn := ih (i + 1) (by omega) (by omega)
        simp only [nq_mc] at nn
        simp only [wX_membersOf_4, z3, ii, ci, g1, show (nI (G i) = nI g) = (G i = g) from propext (nI_eq (by omega) (by omega)), nI_1, forall_eq, not_true_eq_false, not_false_eq_true, true_implies, false_implies, implies_true, and_true, true_and, and_self]
        by_cases e : G i = g
        · rw [if_pos e] at nn
          exact br_t e nn
        · rw [if_neg e] at nn
          exact br_f e nn
      · have : i = m := by omega
        subst this
        have z3 : nI i ≤ nI i := nI_le (Nat.le_refl _) (by omega)
        simp only [wX_membersOf_4, z3, forall_eq, not_true_eq_false, not_false_eq_true, true_implies, false_implies, implies_true, and_true, true_and, and_self]
        exact H
  exact ⟨_, key (m + 1) 0 (by omega) (by omega)⟩
theorem nq_xle {x y : Int32} : (nq_e (some x) ≤ nq_e (some y)) = (x ≤ y) := propext Int32.toInt64_le
theorem nq_xSum {post : Int64 → Prop} {m m1 g o k : Nat} (hV : nq_VA ka m1 Va) (hm1 : m1 ≤ 216) (hm : m ≤ m1) (hg : g < 216) (ho : o < 3) (hk : k ≤ 5) (hG : ∀ j, j < m → Go j = nI (G j) ∧ G j < 216) (H : post (nq_e (if k = 2 then some (nI (nq_kc G (ka (4 + o)) g m)) else nq_bs (nq_fk k) G (ka (4 + o)) g m))) : wpX_summaryOf post (sc, od, nc, tp, (nI m), gc, ac, Ce, Rc, St, Jl, Tk, Tn, Su, Ne, Ha, Sk, Cb, Jd, Va, Go, Fm, An, Ov) (nI g) (nI o) (nI k) := by
  have e4 : 4 + nI o = nI (4 + o) := nI_add 4 o
  have key : ∀ f i, i ≤ m → m - i < f → wX_summaryOf_19 post (nI g) (nI o) (nI k) sc od nc tp (nI m) gc ac Ce Rc St Jl Tk Tn Su Ne Ha Sk Cb Jd Va Go Fm An Ov f (nI (nq_kc G (ka (4 + o)) g i)) (nq_0 (nq_bs nq_f3 G (ka (4 + o)) g i)) (nq_e (nq_bs nq_f4 G (ka (4 + o)) g i)) (nq_e (nq_bs nq_f5 G (ka (4 + o)) g i)) (nI i) := by
    intro f
    induction f with
    | zero => intro i _ h; omega
    | succ f ih =>
      intro i hi hf
      have kl := nq_kc_l (G := G) (v := ka (4 + o)) (g := g) i
      rcases Nat.lt_or_ge i m with z | z
      · have z3 : ¬ nI m ≤ nI i := nI_ge z (by omega)
        have ii : vp_in (nI i) 216 := vp_in_nI (by omega) (by decide)
        have ci : (nI i).toNatClampNeg = i := nI_clamp (by omega)
        have ip : vp_in (nI ((4 + o - 3) * 216 + i)) 1512 := vp_in_nI (by omega) (by decide)
        have cp : (nI ((4 + o - 3) * 216 + i)).toNatClampNeg = (4 + o - 3) * 216 + i := nI_clamp (by omega)
        have vv := nq_VAe hV (show i < m1 by omega) (p := 4 + o) (by omega) (by omega)
        obtain ⟨g1, g2⟩ := hG i z
        have nn := ih (i + 1) (by omega) (by omega)
        simp only [nq_kc, nq_bs] at nn
        simp only [wX_summaryOf_19, z3, e4, nq_vp (show 3 ≤ 4 + o by omega), ii, ci, ip, cp, vv, nq_e_n, g1, show (nI (G i) = nI g) = (G i = g) from propext (nI_eq (by omega) (by omega)), nI_1, forall_eq, not_true_eq_false, not_false_eq_true, true_implies, false_implies, implies_true, and_true, true_and, and_self]
        by_cases e : G i = g
        · simp only [e, if_true, true_and] at nn
          refine br_t e ?_
          cases hq : ka (4 + o) i with
          | none =>
            simp only [hq, nq_b2f, ne_eq, not_true_eq_false, if_false] at nn
            simp only [forall_eq, not_true_eq_false, not_false_eq_true, true_implies, false_implies, implies_true, and_true, true_and, and_self]
            exact nn
          | some x =>
            simp only [hq, ne_eq, reduceCtorEq, not_false_eq_true, if_true, nq_b2f] at nn
            simp only [reduceCtorEq, forall_eq, not_true_eq_false, not_false_eq_true, true_implies, false_implies, implies_true, and_true, true_and, and_self]
            by_cases k0 : nq_kc G (ka (4 + o)) g i = 0
            · have b3 := (nq_kc_0 (f := nq_f3) (G := G) (v := ka (4 + o)) (g := g) i).mp k0
              have b4 := (nq_kc_0 (f := nq_f4) (G := G) (v := ka (4 + o)) (g := g) i).mp k0
              have b5 := (nq_kc_0 (f := nq_f5) (G := G) (v := ka (4 + o)) (g := g) i).mp k0
              simp only [k0, b3, b4, b5] at nn
              simp only [k0, b3, b4, b5, nI_0, wX_summaryOf_80, wX_summaryOf_87, wX_summaryOf_102, wX_summaryOf_109, nI_1, nq_e_s, nq_0, Int32.zero_add, forall_eq, not_true_eq_false, not_false_eq_true, true_implies, false_implies, implies_true, and_true, true_and, and_self]
              exact nn
            · have kn : ¬ nI (nq_kc G (ka (4 + o)) g i) = 0 := nI_ne0 (by omega) (by omega)
              have b3 : nq_bs nq_f3 G (ka (4 + o)) g i ≠ none := fun z => k0 ((nq_kc_0 i).mpr z)
              have b4 : nq_bs nq_f4 G (ka (4 + o)) g i ≠ none := fun z => k0 ((nq_kc_0 i).mpr z)
              have b5 : nq_bs nq_f5 G (ka (4 + o)) g i ≠ none := fun z => k0 ((nq_kc_0 i).mpr z)
              obtain ⟨y3, hy3⟩ := Option.ne_none_iff_exists'.mp b3
              obtain ⟨y4, hy4⟩ := Option.ne_none_iff_exists'.mp b4
              obtain ⟨y5, hy5⟩ := Option.ne_none_iff_exists'.mp b5
              simp only [hy3, hy4, hy5, nq_0, nq_f3, nq_f4, nq_f5] at nn
              simp only [kn, hy3, hy4, hy5, wX_summaryOf_80, wX_summaryOf_87, wX_summaryOf_102, wX_summaryOf_109, nI_1, nq_e_s, nq_0, nq_xle, forall_eq, not_true_eq_false, not_false_eq_true, true_implies, false_implies, implies_true, and_true, true_and, and_self]
              by_cases q4 : y4 ≤ x
              · rw [if_pos q4] at nn
                refine br_t q4 ?_
                by_cases q5 : x ≤ y5
                · rw [if_pos q5] at nn
                  exact br_t q5 nn
                · rw [if_neg q5] at nn
                  exact br_f q5 nn
              · rw [if_neg q4] at nn
                refine br_f q4 ?_
                by_cases q5 : x ≤ y5
                · rw [if_pos q5] at nn
                  exact br_t q5 nn
                · rw [if_neg q5] at nn
                  exact br_f q5 nn
        · simp only [e, if_false, false_and] at nn
          exact br_f e nn
      · have : i = m := by omega
        subst this
        have z3 : nI i ≤ nI i := nI_le (Nat.le_refl _) (by omega)
        simp only [wX_summaryOf_19, z3, show (nI (k) < (2 : Int32)) = ((k) < 2) from propext (nI_ltI (b := 2) (by omega) (by decide)), show ((2 : Int32) < nI (k)) = (2 < (k)) from propext (nI_ltI (a := 2) (by decide) (by omega)), show (nI (k) ≤ (2 : Int32)) = ((k) ≤ 2) from propext (nI_leI (b := 2) (by omega) (by decide)), show ((2 : Int32) ≤ nI (k)) = (2 ≤ (k)) from propext (nI_leI (a := 2) (by decide) (by omega)), show (nI (k) = (2 : Int32)) = ((k) = 2) from propext (nI_eq (b := 2) (by omega) (by decide)), show (nI (k) < (3 : Int32)) = ((k) < 3) from propext (nI_ltI (b := 3) (by omega) (by decide)), show ((3 : Int32) < nI (k)) = (3 < (k)) from propext (nI_ltI (a := 3) (by decide) (by omega)), show (nI (k) ≤ (3 : Int32)) = ((k) ≤ 3) from propext (nI_leI (b := 3) (by omega) (by decide)), show ((3 : Int32) ≤ nI (k)) = (3 ≤ (k)) from propext (nI_leI (a := 3) (by decide) (by omega)), show (nI (k) = (3 : Int32)) = ((k) = 3) from propext (nI_eq (b := 3) (by omega) (by decide)), show (nI (k) < (4 : Int32)) = ((k) < 4) from propext (nI_ltI (b := 4) (by omega) (by decide)), show ((4 : Int32) < nI (k)) = (4 < (k)) from propext (nI_ltI (a := 4) (by decide) (by omega)), show (nI (k) ≤ (4 : Int32)) = ((k) ≤ 4) from propext (nI_leI (b := 4) (by omega) (by decide)), show ((4 : Int32) ≤ nI (k)) = (4 ≤ (k)) from propext (nI_leI (a := 4) (by decide) (by omega)), show (nI (k) = (4 : Int32)) = ((k) = 4) from propext (nI_eq (b := 4) (by omega) (by decide)), show (nI (nq_kc G (ka (4 + o)) g i) < (0 : Int32)) = ((nq_kc G (ka (4 + o)) g i) < 0) from propext (nI_ltI (b := 0) (by omega) (by decide)), show ((0 : Int32) < nI (nq_kc G (ka (4 + o)) g i)) = (0 < (nq_kc G (ka (4 + o)) g i)) from propext (nI_ltI (a := 0) (by decide) (by omega)), show (nI (nq_kc G (ka (4 + o)) g i) ≤ (0 : Int32)) = ((nq_kc G (ka (4 + o)) g i) ≤ 0) from propext (nI_leI (b := 0) (by omega) (by decide)), show ((0 : Int32) ≤ nI (nq_kc G (ka (4 + o)) g i)) = (0 ≤ (nq_kc G (ka (4 + o)) g i)) from propext (nI_leI (a := 0) (by decide) (by omega)), show (nI (nq_kc G (ka (4 + o)) g i) = (0 : Int32)) = ((nq_kc G (ka (4 + o)) g i) = 0) from propext (nI_eq (b := 0) (by omega) (by decide)), forall_eq, not_true_eq_false, not_false_eq_true, true_implies, false_implies, implies_true, and_true, true_and, and_self]
        by_cases k2 : k = 2
        · rw [if_pos k2] at H
          exact br_t k2 H
        · rw [if_neg k2] at H
          refine br_f k2 ?_
          by_cases k0 : nq_kc G (ka (4 + o)) g i = 0
          · have bb := (nq_kc_0 (f := nq_fk k) (G := G) (v := ka (4 + o)) (g := g) i).mp k0
            rw [bb] at H
            exact br_t k0 H
          · refine br_f k0 ?_
            unfold nq_fk at H
            by_cases k3 : k = 3
            · rw [if_pos k3] at H
              refine br_t k3 ?_
              have b3 : nq_bs nq_f3 G (ka (4 + o)) g i ≠ none := fun z => k0 ((nq_kc_0 i).mpr z)
              obtain ⟨y3, hy3⟩ := Option.ne_none_iff_exists'.mp b3
              rw [hy3] at H ⊢
              exact H
            · rw [if_neg k3] at H
              refine br_f k3 ?_
              by_cases k4 : k = 4
              · rw [if_pos k4] at H
                exact br_t k4 H
              · rw [if_neg k4] at H
                exact br_f k4 H
  exact ⟨_, key (m + 1) 0 (by omega) (by omega)⟩
theorem nq_xOut {post : Int64 → Prop} {m m1 gN g o : Nat} (hT : nq_TT n t Tn Tk) (hW : nq_WF n t) (hS : nq_SU su Su) (hV : nq_VA ka m1 Va) (hm1 : m1 ≤ 216) (hm : m ≤ m1) (hgN : gN ≤ 216) (hg : g < gN) (ho : o < 3) (hF : ∀ g, g < gN → Fm g = nI (F g) ∧ F g < m1) (hG : ∀ j, j < m → Go j = nI (G j) ∧ G j < 216) (H : post (nq_e (nq_out n su ka F G m g o))) : wpX_outputOf post (sc, od, nc, tp, (nI m), gc, ac, Ce, Rc, St, Jl, Tk, Tn, Su, Ne, Ha, Sk, Cb, Jd, Va, Go, Fm, An, Ov) (nI g) (nI o) := by
  obtain ⟨s1, s2⟩ := hS o ho
  obtain ⟨f1, f2⟩ := hF g hg
  have io : vp_in (nI o) 3 := vp_in_nI ho (by decide)
  have co : (nI o).toNatClampNeg = o := nI_clamp (by omega)
  have ig : vp_in (nI g) 216 := vp_in_nI (by omega) (by decide)
  have cg : (nI g).toNatClampNeg = g := nI_clamp (by omega)
  have e4 : 4 + nI o = nI (4 + o) := nI_add 4 o
  have i4 : vp_in (nI (4 + o)) 10 := vp_in_nI (by omega) (by decide)
  have c4 : (nI (4 + o)).toNatClampNeg = 4 + o := nI_clamp (by omega)
  have ip : vp_in (nI ((4 + o - 3) * 216 + F g)) 1512 := vp_in_nI (by omega) (by decide)
  have cp : (nI ((4 + o - 3) * 216 + F g)).toNatClampNeg = (4 + o - 3) * 216 + F g := nI_clamp (by omega)
  have vv := nq_VAe hV f2 (p := 4 + o) (by omega) (by omega)
  have hn := (hT (4 + o) (by omega)).1
  have ln := (hW (4 + o) (by omega)).1
  unfold nq_out at H
  simp only [wpX_outputOf, io, co, s2, e4, i4, c4, ig, cg, f1, nq_vp (show 3 ≤ 4 + o by omega), ip, cp, vv, hn, show (nI (su o) < (0 : Int32)) = ((su o) < 0) from propext (nI_ltI (b := 0) (by omega) (by decide)), show ((0 : Int32) < nI (su o)) = (0 < (su o)) from propext (nI_ltI (a := 0) (by decide) (by omega)), show (nI (su o) ≤ (0 : Int32)) = ((su o) ≤ 0) from propext (nI_leI (b := 0) (by omega) (by decide)), show ((0 : Int32) ≤ nI (su o)) = (0 ≤ (su o)) from propext (nI_leI (a := 0) (by decide) (by omega)), show (nI (su o) = (0 : Int32)) = ((su o) = 0) from propext (nI_eq (b := 0) (by omega) (by decide)), show (nI (su o) < (1 : Int32)) = ((su o) < 1) from propext (nI_ltI (b := 1) (by omega) (by decide)), show ((1 : Int32) < nI (su o)) = (1 < (su o)) from propext (nI_ltI (a := 1) (by decide) (by omega)), show (nI (su o) ≤ (1 : Int32)) = ((su o) ≤ 1) from propext (nI_leI (b := 1) (by omega) (by decide)), show ((1 : Int32) ≤ nI (su o)) = (1 ≤ (su o)) from propext (nI_leI (a := 1) (by decide) (by omega)), show (nI (su o) = (1 : Int32)) = ((su o) = 1) from propext (nI_eq (b := 1) (by omega) (by decide)), show (nI (n (4 + o)) < (0 : Int32)) = ((n (4 + o)) < 0) from propext (nI_ltI (b := 0) (by omega) (by decide)), show ((0 : Int32) < nI (n (4 + o))) = (0 < (n (4 + o))) from propext (nI_ltI (a := 0) (by decide) (by omega)), show (nI (n (4 + o)) ≤ (0 : Int32)) = ((n (4 + o)) ≤ 0) from propext (nI_leI (b := 0) (by omega) (by decide)), show ((0 : Int32) ≤ nI (n (4 + o))) = (0 ≤ (n (4 + o))) from propext (nI_leI (a := 0) (by decide) (by omega)), show (nI (n (4 + o)) = (0 : Int32)) = ((n (4 + o)) = 0) from propext (nI_eq (b := 0) (by omega) (by decide)), forall_eq, not_true_eq_false, not_false_eq_true, true_implies, false_implies, implies_true, and_true, true_and, and_self]
  by_cases k0 : su o = 0
  · rw [if_pos k0] at H
    exact br_t k0 H
  · rw [if_neg k0] at H
    refine br_f k0 ?_
    by_cases k1 : su o = 1
    · rw [if_pos k1] at H
      exact br_t k1 (nq_xMem (by omega) (by omega) hG H)
    · rw [if_neg k1] at H
      refine br_f k1 ?_
      by_cases kn : n (4 + o) = 0
      · rw [if_pos kn] at H
        exact br_t kn H
      · rw [if_neg kn] at H
        exact br_f kn (nq_xSum hV hm1 hm (by omega) ho s1 hG H)
end
end
section
section
variable {sc od nc tp cc gc ac : Int32} {Ce Sk Va An Ov : Nat → Int64} {Rc St Jl Tk Tn Su Ne Ha Cb Jd Go Fm : Nat → Int32}
variable {src dis opn sbt sbr dep mny mor grs fnd kpt : Int32} {ySk yRe ySo yAn : Nat → Int64} {yRo yCe yTo yIl ySz yTk yIn yEn ySu yWc yWi yHa yCo yLo yGo yFi : Nat → Int32}
variable {n t : Nat → Nat} {p : Nat} {cv : Nat → nq_V} {h hv : Nat → Option Nat} {rw tb su : Nat → Nat} {vf : Nat → (Nat → Option Nat) → nq_V} {ka : Nat → Nat → nq_V} {F G : Nat → Nat} {v : Nat → nq_V}
/-- rows of answers in arrays: the groups L, one row each -/
def nq_RA (enc : nq_V → Int64) (ro : Nat → Nat → nq_V) (og : Nat → nq_V) (A O : Nat → Int64) (L : List Nat) : Prop := ∀ i g, L[i]? = some g → (∀ o, o < 3 → A (3 * i + o) = enc (ro g o)) ∧ O i = enc (og g)
theorem nq_RA_a {enc : nq_V → Int64} {ro : Nat → Nat → nq_V} {og : Nat → nq_V} {A O A' O' : Nat → Int64} {L : List Nat} {g : Nat} (hL : nq_RA enc ro og A O L) (h1 : ∀ o, o < 3 → A' (3 * L.length + o) = enc (ro g o)) (h2 : O' L.length = enc (og g)) (h3 : ∀ j, j < 3 * L.length → A' j = A j) (h4 : ∀ j, j < L.length → O' j = O j) : nq_RA enc ro og A' O' (L ++ [g]) := by
  intro i k hk
  rcases Nat.lt_trichotomy i L.length with z | z | z
  · rw [List.getElem?_append_left z] at hk
    obtain ⟨a, b⟩ := hL i k hk
    exact ⟨fun o ho => by rw [h3 _ (by omega)]; exact a o ho, by rw [h4 _ z]; exact b⟩
  · subst z
    rw [List.getElem?_append_right (Nat.le_refl _), Nat.sub_self] at hk
    cases hk
    exact ⟨h1, h2⟩
  · rw [List.getElem?_append_right (by omega)] at hk
    obtain ⟨m, hm⟩ : ∃ m, i - L.length = m + 1 := ⟨i - L.length - 1, by omega⟩
    rw [hm] at hk
    cases hk
/-- the groups that stay -/
def nq_gk (ka : Nat → Nat → nq_V) (F : Nat → Nat) (N : Nat) : List Nat := (List.range N).filter (fun g => nq_T (ka 3 (F g)))
theorem nq_gk_l {N : Nat} : (nq_gk ka F N).length ≤ N := by
  have := List.length_filter_le (fun g => nq_T (ka 3 (F g))) (List.range N)
  rw [List.length_range] at this
  exact this
theorem nq_gk_t {g : Nat} (h : nq_T (ka 3 (F g)) = true) : nq_gk ka F (g + 1) = nq_gk ka F g ++ [g] := by
  unfold nq_gk
  rw [List.range_succ, List.filter_append, List.filter_cons_of_pos (p := fun g => nq_T (ka 3 (F g))) h, List.filter_nil]
theorem nq_gk_f {g : Nat} (h : nq_T (ka 3 (F g)) = false) : nq_gk ka F (g + 1) = nq_gk ka F g := by
  unfold nq_gk
  rw [List.range_succ, List.filter_append, List.filter_cons_of_neg (by rw [h]; decide), List.filter_nil, List.append_nil]
theorem nq_vp3 {post : Int32 → Prop} {i : Nat} : wpX_valuePlace post 3 (nI i) ↔ post (nI ((3 - 3) * 216 + i)) := nq_vp (p := 3) (Nat.le_refl _)
theorem nq_vp9 {post : Int32 → Prop} {i : Nat} : wpX_valuePlace post 9 (nI i) ↔ post (nI ((9 - 3) * 216 + i)) := nq_vp (p := 9) (by omega)
theorem nq_xAnsw {post : SX → Prop} {m m1 gN : Nat} (hT : nq_TT n t Tn Tk) (hW : nq_WF n t) (hS : nq_SU su Su) (hV : nq_VA ka m1 Va) (hm1 : m1 ≤ 216) (hm : m ≤ m1) (hgN : gN ≤ 216) (hF : ∀ g, g < gN → Fm g = nI (F g) ∧ F g < m1) (hG : ∀ j, j < m → Go j = nI (G j) ∧ G j < 216) (H : ∀ An' Ov', nq_RA nq_e (nq_out n su ka F G m) (fun g => ka 9 (F g)) An' Ov' (nq_gk ka F gN) → post (sc, od, nc, tp, (nI m), (nI gN), (nI (nq_gk ka F gN).length), Ce, Rc, St, Jl, Tk, Tn, Su, Ne, Ha, Sk, Cb, Jd, Va, Go, Fm, An', Ov')) : wpX_answerGroups post (sc, od, nc, tp, (nI m), (nI gN), ac, Ce, Rc, St, Jl, Tk, Tn, Su, Ne, Ha, Sk, Cb, Jd, Va, Go, Fm, An, Ov) := by
  have key : ∀ f g, g ≤ gN → gN - g < f → ∀ An Ov, nq_RA nq_e (nq_out n su ka F G m) (fun g => ka 9 (F g)) An Ov (nq_gk ka F g) → wX_answerGroups_7 post sc od nc tp (nI m) (nI gN) f (nI g) (nI (nq_gk ka F g).length) Ce Rc St Jl Tk Tn Su Ne Ha Sk Cb Jd Va Go Fm An Ov := by
    intro f
    induction f with
    | zero => intro g _ h; omega
    | succ f ih =>
      intro g hg hf An Ov hA
      have gl := nq_gk_l (ka := ka) (F := F) (N := g)
      rcases Nat.lt_or_ge g gN with z | z
      · have z3 : ¬ nI gN ≤ nI g := nI_ge z (by omega)
        have ig : vp_in (nI g) 216 := vp_in_nI (by omega) (by decide)
        have cg : (nI g).toNatClampNeg = g := nI_clamp (by omega)
        obtain ⟨f1, f2⟩ := hF g z
        have i3 : vp_in (nI ((3 - 3) * 216 + F g)) 1512 := vp_in_nI (by omega) (by decide)
        have c3 : (nI ((3 - 3) * 216 + F g)).toNatClampNeg = (3 - 3) * 216 + F g := nI_clamp (by omega)
        have i9 : vp_in (nI ((9 - 3) * 216 + F g)) 1512 := vp_in_nI (by omega) (by decide)
        have c9 : (nI ((9 - 3) * 216 + F g)).toNatClampNeg = (9 - 3) * 216 + F g := nI_clamp (by omega)
        have v9 := nq_VAe hV f2 (p := 9) (by omega) (by omega)
        have v3 : Va ((3 - 3) * 216 + F g) = nq_c (ka 3 (F g)) := by
          rw [hV (F g) f2 3 (by omega) (by omega), if_pos (Nat.le_refl _)]
          exact if_pos rfl
        simp only [wX_answerGroups_7, z3, ig, cg, f1, nq_vp3, i3, c3, v3, nq_cT, nI_1, forall_eq, not_true_eq_false, not_false_eq_true, true_implies, false_implies, implies_true, and_true, true_and, and_self]
        rcases Bool.eq_false_or_eq_true (nq_T (ka 3 (F g))) with hk | hk
        · refine br_t hk ?_
          have il : vp_in (nI (nq_gk ka F g).length) 216 := vp_in_nI (by omega) (by decide)
          have cl : (nI (nq_gk ka F g).length).toNatClampNeg = (nq_gk ka F g).length := nI_clamp (by omega)
          have key2 : ∀ f2 o, o ≤ 3 → 3 - o < f2 → ∀ An', (∀ o', o' < o → An' (3 * (nq_gk ka F g).length + o') = nq_e (nq_out n su ka F G m g o')) → (∀ j, j < 3 * (nq_gk ka F g).length → An' j = An j) → wX_answerGroups_44 post (wX_answerGroups_7 post sc od nc tp (nI m) (nI gN) f) (nI g) sc od nc tp (nI m) (nI gN) (nI (nq_gk ka F g).length) f2 (nI o) Ce Rc St Jl Tk Tn Su Ne Ha Sk Cb Jd Va Go Fm An' Ov := by
            intro f2
            induction f2 with
            | zero => intro o _ h; omega
            | succ f2 ih2 =>
              intro o ho hf2 An' hA1 hA2
              rcases Nat.lt_or_ge o 3 with y | y
              · have y3 : ¬ 3 ≤ nI o := nI_ge (b := 3) y (by decide)
                have e1 : nI (nq_gk ka F g).length * 3 + nI o = nI (3 * (nq_gk ka F g).length + o) := by
                  simp only [nq_i3, pk_mul, nI_add]
                  exact congrArg nI (by omega)
                have ia : vp_in (nI (3 * (nq_gk ka F g).length + o)) 648 := vp_in_nI (by omega) (by decide)
                have ca : (nI (3 * (nq_gk ka F g).length + o)).toNatClampNeg = 3 * (nq_gk ka F g).length + o := nI_clamp (by omega)
                simp only [wX_answerGroups_44, y3, forall_eq, not_true_eq_false, not_false_eq_true, true_implies, false_implies, implies_true, and_true, true_and, and_self]
                refine nq_xOut (F := F) (G := G) (gN := gN) hT hW hS hV hm1 hm hgN z y hF hG ?_
                simp only [e1, ia, ca, nI_1, forall_eq, not_true_eq_false, not_false_eq_true, true_implies, false_implies, implies_true, and_true, true_and, and_self]
                refine ih2 (o + 1) (by omega) (by omega) _ (fun o' ho' => ?_) (fun j hj => ?_)
                · by_cases e : o' = o
                  · rw [e, pk_uLs]
                  · rw [pk_uLn (by omega)]
                    exact hA1 o' (by omega)
                · rw [pk_uLn (by omega)]
                  exact hA2 j hj
              · have : o = 3 := by omega
                subst this
                simp only [wX_answerGroups_44, show (3 : Int32) ≤ nI 3 from by decide, ig, cg, f1, nq_vp9, i9, c9, v9, il, cl, nI_1, forall_eq, not_true_eq_false, not_false_eq_true, true_implies, false_implies, implies_true, and_true, true_and, and_self]
                have nn := ih (g + 1) (by omega) (by omega) An' (vp_updL Ov (nq_gk ka F g).length (nq_e (ka 9 (F g)))) (by
                  rw [nq_gk_t hk]
                  exact nq_RA_a hA hA1 pk_uLs hA2 (fun j hj => pk_uLn (by omega)))
                rw [nq_gk_t hk, List.length_append, List.length_singleton] at nn
                exact nn
          exact ⟨_, key2 4 0 (by omega) (by omega) An (fun o' ho' => by omega) (fun j _ => rfl)⟩
        · refine br_f (by rw [hk]; decide) ?_
          have nn := ih (g + 1) (by omega) (by omega) An Ov (by rw [nq_gk_f hk]; exact hA)
          rw [nq_gk_f hk] at nn
          exact nn
      · have : g = gN := by omega
        subst this
        have z3 : nI g ≤ nI g := nI_le (Nat.le_refl _) (by omega)
        simp only [wX_answerGroups_7, z3, forall_eq, not_true_eq_false, not_false_eq_true, true_implies, false_implies, implies_true, and_true, true_and, and_self]
        exact H _ _ hA
  exact ⟨_, key (gN + 1) 0 (by omega) (by omega) An Ov (fun i g hg => by cases hg)⟩
/-! the reference -/
theorem nq_yVg {post : Int64 → SY → Prop} {C : List (Nat → Option Nat)} {q : Nat} {x : Int32} (E : nq_YE cv rw tb n t yRo yTo ySz yTk yIn yEn) (hC : nq_CA nq_ey yCo C) (hCo : nq_Cok C) (hCl : C.length ≤ 216) (hka : ka = nq_ka (nq_val cv rw tb n t) (nq_c1 C)) (hp1 : 4 ≤ p) (hp2 : p < 10) (hq : q < (nq_c1 C).length) (hx : x = if C.length = 0 then -1 else nI q) (H : ∀ yHa' sbt' sbr' ySk', post (nq_f (ka p q)) (src, dis, opn, sbt', sbr', 0, mny, mor, grs, fnd, kpt, yRo, (fun j => nq_k (cv j)), yTo, yIl, ySz, yTk, yIn, yEn, ySu, yWc, yWi, yHa', ySk', yCo, yLo, yGo, yFi, yRe, ySo, yAn)) : wpY_valueFor post (src, dis, opn, sbt, sbr, 0, mny, mor, grs, fnd, kpt, yRo, (fun j => nq_k (cv j)), yTo, yIl, ySz, yTk, yIn, yEn, ySu, yWc, yWi, yHa, ySk, yCo, yLo, yGo, yFi, yRe, ySo, yAn) (nI p) x := by
  by_cases h0 : C.length = 0
  · rw [if_pos h0] at hx
    subst hx
    have hc1 : nq_c1 C = [fun _ => none] := if_pos h0
    have hq0 : q = 0 := by rw [hc1, List.length_singleton] at hq; omega
    have ev : ka p q = nq_val cv rw tb n t p (fun _ => none) := by
      rw [hka, hc1, hq0, nq_ka_i (h := fun _ => none) rfl]
    refine nq_yValN E hp1 hp2 ?_
    rw [← ev]
    exact H
  · rw [if_neg h0] at hx
    subst hx
    have hc1 : nq_c1 C = C := if_neg h0
    rw [hc1] at hq
    have hg : C[q]? = some C[q] := List.getElem?_eq_getElem hq
    have ev : ka p q = nq_val cv rw tb n t p C[q] := by rw [hka, hc1, nq_ka_i hg]
    refine nq_yVal E hp1 hp2 hC hCo hg (by omega) ?_
    rw [← ev]
    exact H
theorem nq_ySum {post : Int64 → SY → Prop} {C : List (Nat → Option Nat)} {g o : Nat} (E : nq_YE cv rw tb n t yRo yTo ySz yTk yIn yEn) (hS : nq_SU su ySu) (hC : nq_CA nq_ey yCo C) (hCo : nq_Cok C) (hCl : C.length ≤ 216) (hka : ka = nq_ka (nq_val cv rw tb n t) (nq_c1 C)) (hg : g < 216) (ho : o < 3) (k0 : su o ≠ 0) (hG : ∀ j, j < C.length → yGo j = nI (G j) ∧ G j < 216) (H : ∀ yHa' sbt' sbr' ySk', post (nq_f (nq_out n su ka F G C.length g o)) (src, dis, opn, sbt', sbr', 0, (nI C.length), mor, grs, fnd, kpt, yRo, (fun j => nq_k (cv j)), yTo, yIl, ySz, yTk, yIn, yEn, ySu, yWc, yWi, yHa', ySk', yCo, yLo, yGo, yFi, yRe, ySo, yAn)) : wpY_summed post (src, dis, opn, sbt, sbr, 0, (nI C.length), mor, grs, fnd, kpt, yRo, (fun j => nq_k (cv j)), yTo, yIl, ySz, yTk, yIn, yEn, ySu, yWc, yWi, yHa, ySk, yCo, yLo, yGo, yFi, yRe, ySo, yAn) (nI o) (nI g) := by
  obtain ⟨s1, s2⟩ := hS o ho
  have io : vp_in (nI o) 3 := vp_in_nI ho (by decide)
  have co : (nI o).toNatClampNeg = o := nI_clamp (by omega)
  have e4 : 4 + nI o = nI (4 + o) := nI_add 4 o
  have i4 : vp_in (nI (4 + o)) 10 := vp_in_nI (by omega) (by decide)
  have c4 : (nI (4 + o)).toNatClampNeg = 4 + o := nI_clamp (by omega)
  have hn := (E.1 (4 + o) (by omega)).1
  have ln := (E.2.1 (4 + o) (by omega)).1
  simp only [wpY_summed, io, co, s2, forall_eq, not_true_eq_false, not_false_eq_true, true_implies, false_implies, implies_true, and_true, true_and, and_self]
  have key : ∀ f i, i ≤ C.length → C.length - i < f → ∀ yHa sbt sbr ySk, wY_summed_21 post (nI o) (nI g) (nI (su o)) f (nI (nq_mc G g i)) (nI (nq_kc G (ka (4 + o)) g i)) (nq_f (nq_bs (nq_fk (su o)) G (ka (4 + o)) g i)) (nI i) src dis opn sbt sbr 0 (nI C.length) mor grs fnd kpt yRo (fun j => nq_k (cv j)) yTo yIl ySz yTk yIn yEn ySu yWc yWi yHa ySk yCo yLo yGo yFi yRe ySo yAn := by
    intro f
    induction f with
    | zero => intro i _ h; omega
    | succ f ih =>
      intro i hi hf yHa sbt sbr ySk
      have kl := nq_kc_l (G := G) (v := ka (4 + o)) (g := g) i
      rcases Nat.lt_or_ge i C.length with z | z
      · have z3 : ¬ nI C.length ≤ nI i := nI_ge z (by omega)
        have ii : vp_in (nI i) 216 := vp_in_nI (by omega) (by decide)
        have ci : (nI i).toNatClampNeg = i := nI_clamp (by omega)
        obtain ⟨g1, g2⟩ := hG i z
        have nn := ih (i + 1) (by omega) (by omega)
        simp only [nq_mc, nq_kc, nq_bs] at nn
        simp only [wY_summed_21, z3, ii, ci, e4, g1, show (nI (G i) = nI g) = (G i = g) from propext (nI_eq (by omega) (by omega)), nI_1, forall_eq, not_true_eq_false, not_false_eq_true, true_implies, false_implies, implies_true, and_true, true_and, and_self]
        by_cases e : G i = g
        · simp only [e, if_true, true_and] at nn
          refine br_t e ?_
          have c1l : i < (nq_c1 C).length := by
            unfold nq_c1
            rw [if_neg (by omega)]
            exact z
          refine nq_yVg E hC hCo hCl hka (show 4 ≤ 4 + o by omega) (by omega) c1l (by rw [if_neg (by omega)]) fun yHa' sbt' sbr' ySk' => ?_
          have nn2 := nn yHa' sbt' sbr' ySk'
          cases hq : ka (4 + o) i with
          | none =>
            simp only [hq, nq_b2f, ne_eq, not_true_eq_false, if_false] at nn2
            simp only [nq_f, forall_eq, not_true_eq_false, not_false_eq_true, true_implies, false_implies, implies_true, and_true, true_and, and_self]
            exact nn2
          | some x =>
            simp only [hq, ne_eq, reduceCtorEq, not_false_eq_true, if_true, nq_b2f] at nn2
            simp only [nq_f_n, reduceCtorEq, forall_eq, not_true_eq_false, not_false_eq_true, true_implies, false_implies, implies_true, and_true, true_and, and_self]
            cases hb : nq_bs (nq_fk (su o)) G (ka (4 + o)) g i with
            | none =>
              simp only [hb] at nn2
              simp only [forall_eq, not_true_eq_false, not_false_eq_true, true_implies, false_implies, implies_true, and_true, true_and, and_self]
              exact nn2
            | some y =>
              simp only [hb] at nn2
              simp only [reduceCtorEq, nq_f_s, show (nI (su o) < (3 : Int32)) = ((su o) < 3) from propext (nI_ltI (b := 3) (by omega) (by decide)), show ((3 : Int32) < nI (su o)) = (3 < (su o)) from propext (nI_ltI (a := 3) (by decide) (by omega)), show (nI (su o) ≤ (3 : Int32)) = ((su o) ≤ 3) from propext (nI_leI (b := 3) (by omega) (by decide)), show ((3 : Int32) ≤ nI (su o)) = (3 ≤ (su o)) from propext (nI_leI (a := 3) (by decide) (by omega)), show (nI (su o) = (3 : Int32)) = ((su o) = 3) from propext (nI_eq (b := 3) (by omega) (by decide)), show (nI (su o) < (4 : Int32)) = ((su o) < 4) from propext (nI_ltI (b := 4) (by omega) (by decide)), show ((4 : Int32) < nI (su o)) = (4 < (su o)) from propext (nI_ltI (a := 4) (by decide) (by omega)), show (nI (su o) ≤ (4 : Int32)) = ((su o) ≤ 4) from propext (nI_leI (b := 4) (by omega) (by decide)), show ((4 : Int32) ≤ nI (su o)) = (4 ≤ (su o)) from propext (nI_leI (a := 4) (by decide) (by omega)), show (nI (su o) = (4 : Int32)) = ((su o) = 4) from propext (nI_eq (b := 4) (by omega) (by decide)), show (nq_f (some y) ≤ nq_f (some x)) = (y ≤ x) from propext Int32.toInt64_le, show (nq_f (some x) ≤ nq_f (some y)) = (x ≤ y) from propext Int32.toInt64_le, forall_eq, not_true_eq_false, not_false_eq_true, true_implies, false_implies, implies_true, and_true, true_and, and_self]
              unfold nq_fk at nn2
              by_cases k3 : su o = 3
              · rw [if_pos k3] at nn2
                exact br_t k3 nn2
              · rw [if_neg k3] at nn2
                refine br_f k3 ?_
                by_cases k4 : su o = 4
                · rw [if_pos k4] at nn2
                  refine br_t k4 ?_
                  unfold nq_f4 at nn2
                  by_cases q : y ≤ x
                  · rw [if_pos q] at nn2
                    exact br_t q nn2
                  · rw [if_neg q] at nn2
                    exact br_f q nn2
                · rw [if_neg k4] at nn2
                  refine br_f k4 ?_
                  unfold nq_f5 at nn2
                  by_cases q : x ≤ y
                  · rw [if_pos q] at nn2
                    exact br_t q nn2
                  · rw [if_neg q] at nn2
                    exact br_f q nn2
        · simp only [e, if_false, false_and] at nn
          exact br_f e (nn _ _ _ _)
      · have : i = C.length := by omega
        subst this
        have z3 : nI C.length ≤ nI C.length := nI_le (Nat.le_refl _) (by omega)
        unfold nq_out at H
        rw [if_neg k0] at H
        simp only [wY_summed_21, z3, e4, i4, c4, hn, show (nI (su o) < (1 : Int32)) = ((su o) < 1) from propext (nI_ltI (b := 1) (by omega) (by decide)), show ((1 : Int32) < nI (su o)) = (1 < (su o)) from propext (nI_ltI (a := 1) (by decide) (by omega)), show (nI (su o) ≤ (1 : Int32)) = ((su o) ≤ 1) from propext (nI_leI (b := 1) (by omega) (by decide)), show ((1 : Int32) ≤ nI (su o)) = (1 ≤ (su o)) from propext (nI_leI (a := 1) (by decide) (by omega)), show (nI (su o) = (1 : Int32)) = ((su o) = 1) from propext (nI_eq (b := 1) (by omega) (by decide)), show (nI (su o) < (2 : Int32)) = ((su o) < 2) from propext (nI_ltI (b := 2) (by omega) (by decide)), show ((2 : Int32) < nI (su o)) = (2 < (su o)) from propext (nI_ltI (a := 2) (by decide) (by omega)), show (nI (su o) ≤ (2 : Int32)) = ((su o) ≤ 2) from propext (nI_leI (b := 2) (by omega) (by decide)), show ((2 : Int32) ≤ nI (su o)) = (2 ≤ (su o)) from propext (nI_leI (a := 2) (by decide) (by omega)), show (nI (su o) = (2 : Int32)) = ((su o) = 2) from propext (nI_eq (b := 2) (by omega) (by decide)), show (nI (n (4 + o)) < (0 : Int32)) = ((n (4 + o)) < 0) from propext (nI_ltI (b := 0) (by omega) (by decide)), show ((0 : Int32) < nI (n (4 + o))) = (0 < (n (4 + o))) from propext (nI_ltI (a := 0) (by decide) (by omega)), show (nI (n (4 + o)) ≤ (0 : Int32)) = ((n (4 + o)) ≤ 0) from propext (nI_leI (b := 0) (by omega) (by decide)), show ((0 : Int32) ≤ nI (n (4 + o))) = (0 ≤ (n (4 + o))) from propext (nI_leI (a := 0) (by decide) (by omega)), show (nI (n (4 + o)) = (0 : Int32)) = ((n (4 + o)) = 0) from propext (nI_eq (b := 0) (by omega) (by decide)), forall_eq, not_true_eq_false, not_false_eq_true, true_implies, false_implies, implies_true, and_true, true_and, and_self]
        by_cases k1 : su o = 1
        · rw [if_pos k1] at H
          exact br_t k1 (H _ _ _ _)
        · rw [if_neg k1] at H
          refine br_f k1 ?_
          by_cases kn : n (4 + o) = 0
          · rw [if_pos kn] at H
            exact br_t kn (H _ _ _ _)
          · rw [if_neg kn] at H
            refine br_f kn ?_
            by_cases k2 : su o = 2
            · rw [if_pos k2] at H
              exact br_t k2 (H _ _ _ _)
            · rw [if_neg k2] at H
              exact br_f k2 (H _ _ _ _)
  exact ⟨_, key (C.length + 1) 0 (by omega) (by omega) yHa sbt sbr ySk⟩
end
end
section
section
variable {sc od nc tp cc gc ac : Int32} {Ce Sk Va An Ov : Nat → Int64} {Rc St Jl Tk Tn Su Ne Ha Cb Jd Go Fm : Nat → Int32}
variable {src dis opn sbt sbr dep mny mor grs fnd kpt : Int32} {ySk yRe ySo yAn : Nat → Int64} {yRo yCe yTo yIl ySz yTk yIn yEn ySu yWc yWi yHa yCo yLo yGo yFi : Nat → Int32}
variable {n t : Nat → Nat} {p : Nat} {cv : Nat → nq_V} {h hv : Nat → Option Nat} {rw tb su : Nat → Nat} {vf : Nat → (Nat → Option Nat) → nq_V} {ka : Nat → Nat → nq_V} {F G : Nat → Nat} {v : Nat → nq_V}
theorem nq_yTg {post : Int32 → SY → Prop} {C : List (Nat → Option Nat)} {q : Nat} {x : Int32} (E : nq_YE cv rw tb n t yRo yTo ySz yTk yIn yEn) (hC : nq_CA nq_ey yCo C) (hCo : nq_Cok C) (hCl : C.length ≤ 216) (hka : ka = nq_ka (nq_val cv rw tb n t) (nq_c1 C)) (hq : q < (nq_c1 C).length) (hx : x = if C.length = 0 then -1 else nI q) (H : ∀ yHa' sbt' sbr' ySk', post (nq_b (nq_T (ka 3 q))) (src, dis, opn, sbt', sbr', 0, mny, mor, grs, fnd, kpt, yRo, (fun j => nq_k (cv j)), yTo, yIl, ySz, yTk, yIn, yEn, ySu, yWc, yWi, yHa', ySk', yCo, yLo, yGo, yFi, yRe, ySo, yAn)) : wpY_takeUp (fun u => match u with | (src1, dis1, opn1, sbt1, sbr1, dep1, mny1, mor1, grs1, fnd1, kpt1, yRo1, yCe1, yTo1, yIl1, ySz1, yTk1, yIn1, yEn1, ySu1, yWc1, yWi1, yHa1, ySk1, yCo1, yLo1, yGo1, yFi1, yRe1, ySo1, yAn1) => wpY_isTrue post (src1, dis1, opn1, sbt1, sbr1, dep1, mny1, mor1, grs1, fnd1, kpt1, yRo1, yCe1, yTo1, yIl1, ySz1, yTk1, yIn1, yEn1, ySu1, yWc1, yWi1, yHa1, ySk1, yCo1, yLo1, yGo1, yFi1, yRe1, ySo1, yAn1) 3) (src, dis, opn, sbt, sbr, 0, mny, mor, grs, fnd, kpt, yRo, (fun j => nq_k (cv j)), yTo, yIl, ySz, yTk, yIn, yEn, ySu, yWc, yWi, yHa, ySk, yCo, yLo, yGo, yFi, yRe, ySo, yAn) x := by
  by_cases h0 : C.length = 0
  · rw [if_pos h0] at hx
    subst hx
    have hc1 : nq_c1 C = [fun _ => none] := if_pos h0
    have hq0 : q = 0 := by rw [hc1, List.length_singleton] at hq; omega
    have ev : ka 3 q = nq_val cv rw tb n t 3 (fun _ => none) := by
      rw [hka, hc1, hq0, nq_ka_i (h := fun _ => none) rfl]
    refine nq_yTakeN fun yHa' g1 => ?_
    rw [ev] at H
    exact nq_yTrue (p := 3) (h := fun _ => none) E (Nat.le_refl _) (fun s _ r hr => by cases hr) (fun s hs => g1 s hs) (fun a b c => H _ a b c)
  · rw [if_neg h0] at hx
    subst hx
    have hc1 : nq_c1 C = C := if_neg h0
    rw [hc1] at hq
    have hg : C[q]? = some C[q] := List.getElem?_eq_getElem hq
    have ev : ka 3 q = nq_val cv rw tb n t 3 C[q] := by rw [hka, hc1, nq_ka_i hg]
    refine nq_yTake (by omega) fun yHa' g1 => ?_
    rw [ev] at H
    exact nq_yTrue (p := 3) (h := C[q]) E (Nat.le_refl _) (hCo _ (List.getElem_mem hq)) (fun s hs => (g1 s hs).trans (hC q _ hg s hs)) (fun a b c => H _ a b c)
theorem nq_yAg {post : SY → Prop} {C : List (Nat → Option Nat)} {g gN : Nat} (E : nq_YE cv rw tb n t yRo yTo ySz yTk yIn yEn) (hS : nq_SU su ySu) (hC : nq_CA nq_ey yCo C) (hCo : nq_Cok C) (hCl : C.length ≤ 216) (hka : ka = nq_ka (nq_val cv rw tb n t) (nq_c1 C)) (hgN : gN ≤ 216) (hg : g < gN) (hF : ∀ g, g < gN → (yFi g = if C.length = 0 then -1 else nI (F g)) ∧ F g < (nq_c1 C).length) (hG : ∀ j, j < C.length → yGo j = nI (G j) ∧ G j < 216) (hA : nq_RA nq_f (nq_out n su ka F G C.length) (fun g => ka 9 (F g)) yRe ySo (nq_gk ka F g)) (H : ∀ yHa' sbt' sbr' ySk' yRe' ySo', nq_RA nq_f (nq_out n su ka F G C.length) (fun g => ka 9 (F g)) yRe' ySo' (nq_gk ka F (g + 1)) → post (src, dis, opn, sbt', sbr', 0, (nI C.length), mor, grs, (nI (nq_gk ka F (g + 1)).length), kpt, yRo, (fun j => nq_k (cv j)), yTo, yIl, ySz, yTk, yIn, yEn, ySu, yWc, yWi, yHa', ySk', yCo, yLo, yGo, yFi, yRe', ySo', yAn)) : wpY_answerGroup post (src, dis, opn, sbt, sbr, 0, (nI C.length), mor, grs, (nI (nq_gk ka F g).length), kpt, yRo, (fun j => nq_k (cv j)), yTo, yIl, ySz, yTk, yIn, yEn, ySu, yWc, yWi, yHa, ySk, yCo, yLo, yGo, yFi, yRe, ySo, yAn) (nI g) := by
  have gl := nq_gk_l (ka := ka) (F := F) (N := g)
  have ig : vp_in (nI g) 216 := vp_in_nI (by omega) (by decide)
  have cg : (nI g).toNatClampNeg = g := nI_clamp (by omega)
  obtain ⟨f1, f2⟩ := hF g hg
  simp only [wpY_answerGroup, ig, cg, forall_eq, not_true_eq_false, not_false_eq_true, true_implies, false_implies, implies_true, and_true, true_and, and_self]
  refine nq_yTg E hC hCo hCl hka f2 f1 fun yHa sbt sbr ySk => ?_
  simp only [nq_b0]
  rcases Bool.eq_false_or_eq_true (nq_T (ka 3 (F g))) with hk | hk
  · refine br_f (by rw [hk]; decide) ?_
    have il : vp_in (nI (nq_gk ka F g).length) 216 := vp_in_nI (by omega) (by decide)
    have cl : (nI (nq_gk ka F g).length).toNatClampNeg = (nq_gk ka F g).length := nI_clamp (by omega)
    have key2 : ∀ f2 o, o ≤ 3 → 3 - o < f2 → ∀ yHa sbt sbr ySk yRe', (∀ o', o' < o → yRe' (3 * (nq_gk ka F g).length + o') = nq_f (nq_out n su ka F G C.length g o')) → (∀ j, j < 3 * (nq_gk ka F g).length → yRe' j = yRe j) → wY_answerGroup_21 post (nI g) f2 (nI o) src dis opn sbt sbr 0 (nI C.length) mor grs (nI (nq_gk ka F g).length) kpt yRo (fun j => nq_k (cv j)) yTo yIl ySz yTk yIn yEn ySu yWc yWi yHa ySk yCo yLo yGo yFi yRe' ySo yAn := by
      intro f2'
      induction f2' with
      | zero => intro o _ h; omega
      | succ f2' ih2 =>
        intro o ho hf2 yHa sbt sbr ySk yRe' hA1 hA2
        rcases Nat.lt_or_ge o 3 with y | y
        · have y3 : ¬ 3 ≤ nI o := nI_ge (b := 3) y (by decide)
          obtain ⟨s1, s2⟩ := hS o y
          have io : vp_in (nI o) 3 := vp_in_nI y (by decide)
          have co : (nI o).toNatClampNeg = o := nI_clamp (by omega)
          have e4 : 4 + nI o = nI (4 + o) := nI_add 4 o
          have e1 : 3 * nI (nq_gk ka F g).length + nI o = nI (3 * (nq_gk ka F g).length + o) := by simp only [nq_i3, pk_mul, nI_add]
          have ia : vp_in (nI (3 * (nq_gk ka F g).length + o)) 648 := vp_in_nI (by omega) (by decide)
          have ca : (nI (3 * (nq_gk ka F g).length + o)).toNatClampNeg = 3 * (nq_gk ka F g).length + o := nI_clamp (by omega)
          have fin : ∀ yHa sbt sbr ySk x, x = nq_f (nq_out n su ka F G C.length g o) → wY_answerGroup_21 post (nI g) f2' (nI (o + 1)) src dis opn sbt sbr 0 (nI C.length) mor grs (nI (nq_gk ka F g).length) kpt yRo (fun j => nq_k (cv j)) yTo yIl ySz yTk yIn yEn ySu yWc yWi yHa ySk yCo yLo yGo yFi (vp_updL yRe' (3 * (nq_gk ka F g).length + o) x) ySo yAn := by
            intro yHa sbt sbr ySk x hx
            subst hx
            refine ih2 (o + 1) (by omega) (by omega) yHa sbt sbr ySk _ (fun o' ho' => ?_) (fun j hj => ?_)
            · by_cases e : o' = o
              · rw [e, pk_uLs]
              · rw [pk_uLn (by omega)]
                exact hA1 o' (by omega)
            · rw [pk_uLn (by omega)]
              exact hA2 j hj
          simp only [wY_answerGroup_21, y3, io, co, s2, ig, cg, e4, e1, ia, ca, show (nI (su o) < (0 : Int32)) = ((su o) < 0) from propext (nI_ltI (b := 0) (by omega) (by decide)), show ((0 : Int32) < nI (su o)) = (0 < (su o)) from propext (nI_ltI (a := 0) (by decide) (by omega)), show (nI (su o) ≤ (0 : Int32)) = ((su o) ≤ 0) from propext (nI_leI (b := 0) (by omega) (by decide)), show ((0 : Int32) ≤ nI (su o)) = (0 ≤ (su o)) from propext (nI_leI (a := 0) (by decide) (by omega)), show (nI (su o) = (0 : Int32)) = ((su o) = 0) from propext (nI_eq (b := 0) (by omega) (by decide)), nI_1, forall_eq, not_true_eq_false, not_false_eq_true, true_implies, false_implies, implies_true, and_true, true_and, and_self]
          by_cases k0 : su o = 0
          · refine br_t k0 ?_
            refine nq_yVg E hC hCo hCl hka (show 4 ≤ 4 + o by omega) (by omega) f2 f1 fun yHa' sbt' sbr' ySk' => ?_
            exact fin _ _ _ _ _ (by unfold nq_out; rw [if_pos k0])
          · refine br_f k0 ?_
            refine nq_ySum (F := F) E hS hC hCo hCl hka (by omega) y k0 hG fun yHa' sbt' sbr' ySk' => ?_
            exact fin _ _ _ _ _ rfl
        · have : o = 3 := by omega
          subst this
          simp only [wY_answerGroup_21, show (3 : Int32) ≤ nI 3 from by decide, ig, cg, il, cl, nI_1, forall_eq, not_true_eq_false, not_false_eq_true, true_implies, false_implies, implies_true, and_true, true_and, and_self]
          refine nq_yVg (p := 9) E hC hCo hCl hka (by omega) (by omega) f2 f1 fun yHa' sbt' sbr' ySk' => ?_
          rw [nq_gk_t hk] at H
          have := H yHa' sbt' sbr' ySk' yRe' (vp_updL ySo (nq_gk ka F g).length (nq_f (ka 9 (F g)))) (nq_RA_a hA hA1 pk_uLs hA2 (fun j hj => pk_uLn (by omega)))
          rw [List.length_append, List.length_singleton, ← nI_1] at this
          exact this
    exact ⟨_, key2 4 0 (by omega) (by omega) yHa sbt sbr ySk yRe (fun o' ho' => by omega) (fun j _ => rfl)⟩
  · refine br_t hk ?_
    rw [nq_gk_f hk] at H
    exact H _ _ _ _ _ _ hA
theorem nq_y97 {post : Int32 → SY → Prop} {C : List (Nat → Option Nat)} {gN : Nat} (E : nq_YE cv rw tb n t yRo yTo ySz yTk yIn yEn) (hS : nq_SU su ySu) (hC : nq_CA nq_ey yCo C) (hCo : nq_Cok C) (hCl : C.length ≤ 216) (hka : ka = nq_ka (nq_val cv rw tb n t) (nq_c1 C)) (hgN : gN ≤ 216) (hF : ∀ g, g < gN → (yFi g = if C.length = 0 then -1 else nI (F g)) ∧ F g < (nq_c1 C).length) (hG : ∀ j, j < C.length → yGo j = nI (G j) ∧ G j < 216) (H : ∀ yHa' sbt' sbr' ySk' yRe' ySo' (yGo' : Nat → Int32), (∀ j : Nat, j < 216 → yGo' j = 0) → nq_RA nq_f (nq_out n su ka F G C.length) (fun g => ka 9 (F g)) yRe' ySo' (nq_gk ka F gN) → wpY_order (fun u => match u with | (src1, dis1, opn1, sbt1, sbr1, dep1, mny1, mor1, grs1, fnd1, kpt1, yRo1, yCe1, yTo1, yIl1, ySz1, yTk1, yIn1, yEn1, ySu1, yWc1, yWi1, yHa1, ySk1, yCo1, yLo1, yGo1, yFi1, yRe1, ySo1, yAn1) => post kpt1 (src1, dis1, opn1, sbt1, sbr1, dep1, mny1, mor1, grs1, fnd1, kpt1, yRo1, yCe1, yTo1, yIl1, ySz1, yTk1, yIn1, yEn1, ySu1, yWc1, yWi1, yHa1, ySk1, yCo1, yLo1, yGo1, yFi1, yRe1, ySo1, yAn1)) (src, dis, opn, sbt', sbr', 0, (nI C.length), mor, (nI gN), (nI (nq_gk ka F gN).length), kpt, yRo, (fun j => nq_k (cv j)), yTo, yIl, ySz, yTk, yIn, yEn, ySu, yWc, yWi, yHa', ySk', yCo, yLo, yGo', yFi, yRe', ySo', yAn)) : ∃ f, wY_run_97 post f 0 src dis opn sbt sbr 0 (nI C.length) mor (nI gN) 0 kpt yRo (fun j => nq_k (cv j)) yTo yIl ySz yTk yIn yEn ySu yWc yWi yHa ySk yCo yLo yGo yFi yRe ySo yAn := by
  have key : ∀ f g, g ≤ gN → gN - g < f → ∀ yHa sbt sbr ySk yRe ySo, nq_RA nq_f (nq_out n su ka F G C.length) (fun g => ka 9 (F g)) yRe ySo (nq_gk ka F g) → wY_run_97 post f (nI g) src dis opn sbt sbr 0 (nI C.length) mor (nI gN) (nI (nq_gk ka F g).length) kpt yRo (fun j => nq_k (cv j)) yTo yIl ySz yTk yIn yEn ySu yWc yWi yHa ySk yCo yLo yGo yFi yRe ySo yAn := by
    intro f
    induction f with
    | zero => intro g _ h; omega
    | succ f ih =>
      intro g hg hf yHa sbt sbr ySk yRe ySo hA
      rcases Nat.lt_or_ge g gN with z | z
      · have z3 : ¬ nI gN ≤ nI g := nI_ge z (by omega)
        simp only [wY_run_97, z3, nI_1, forall_eq, not_true_eq_false, not_false_eq_true, true_implies, false_implies, implies_true, and_true, true_and, and_self]
        exact nq_yAg E hS hC hCo hCl hka hgN z hF hG hA fun yHa' sbt' sbr' ySk' yRe' ySo' hA' => ih (g + 1) (by omega) (by omega) yHa' sbt' sbr' ySk' yRe' ySo' hA'
      · have : g = gN := by omega
        subst this
        have z3 : nI g ≤ nI g := nI_le (Nat.le_refl _) (by omega)
        simp only [wY_run_97, z3, forall_eq, not_true_eq_false, not_false_eq_true, true_implies, false_implies, implies_true, and_true, true_and, and_self]
        have key2 : ∀ f2 j, j ≤ 216 → 216 - j < f2 → ∀ yGo', (∀ j', j' < j → yGo' j' = 0) → wY_run_118 post src dis opn sbt sbr 0 (nI C.length) mor (nI g) (nI (nq_gk ka F g).length) kpt f2 (nI j) yRo (fun j => nq_k (cv j)) yTo yIl ySz yTk yIn yEn ySu yWc yWi yHa ySk yCo yLo yGo' yFi yRe ySo yAn := by
          intro f2
          induction f2 with
          | zero => intro j _ h; omega
          | succ f2 ih2 =>
            intro j hj hf2 yGo' hZ
            rcases Nat.lt_or_ge j 216 with y | y
            · have y3 : ¬ 216 ≤ nI j := nI_ge (b := 216) y (by decide)
              have ij : vp_in (nI j) 216 := vp_in_nI y (by decide)
              have cj : (nI j).toNatClampNeg = j := nI_clamp (by omega)
              simp only [wY_run_118, y3, ij, cj, nI_1, forall_eq, not_true_eq_false, not_false_eq_true, true_implies, false_implies, implies_true, and_true, true_and, and_self]
              refine ih2 (j + 1) (by omega) (by omega) _ (fun j' hj' => ?_)
              by_cases e : j' = j
              · rw [e, pk_us]
              · rw [pk_un e]
                exact hZ j' (by omega)
            · have : j = 216 := by omega
              subst this
              simp only [wY_run_118, show (216 : Int32) ≤ nI 216 from by decide, forall_eq, not_true_eq_false, not_false_eq_true, true_implies, false_implies, implies_true, and_true, true_and, and_self]
              exact H _ _ _ _ _ _ _ hZ hA
        exact ⟨_, key2 217 0 (by omega) (by omega) yGo (fun j' hj' => by omega)⟩
  exact ⟨_, key (gN + 1) 0 (by omega) (by omega) yHa sbt sbr ySk yRe ySo (fun i g hg => by cases hg)⟩
end
end
section
section
variable {sc od nc tp cc gc ac : Int32} {Ce Sk Va An Ov : Nat → Int64} {Rc St Jl Tk Tn Su Ne Ha Cb Jd Go Fm : Nat → Int32}
variable {src dis opn sbt sbr dep mny mor grs fnd kpt : Int32} {ySk yRe ySo yAn : Nat → Int64} {yRo yCe yTo yIl ySz yTk yIn yEn ySu yWc yWi yHa yCo yLo yGo yFi : Nat → Int32}
variable {ro : Nat → Nat → nq_V} {og : Nat → nq_V}
/-! the order, pure -/
def nq_kv (v : nq_V) : Int := (nq_e v).toInt
theorem nq_kv_l {a b : nq_V} : nq_lt a b = true ↔ nq_kv a < nq_kv b := by rw [← nq_e_l, Int64.lt_iff_toInt_lt]; rfl
theorem nq_kv_e {a b : nq_V} : a = b ↔ nq_kv a = nq_kv b := by rw [← nq_e_i]; exact Int64.toInt_inj.symm
def nq_l2o (og : Nat → nq_V) (a b : Nat) : Prop := nq_kv (og a) < nq_kv (og b) ∨ (nq_kv (og a) = nq_kv (og b) ∧ a < b)
theorem nq_l2u {P Q : List Nat} (hP : P.Pairwise (nq_l2o og)) (hQ : Q.Pairwise (nq_l2o og)) (h : P.Perm Q) : P = Q :=
  List.Perm.eq_of_pairwise (fun a b _ _ h1 h2 => by unfold nq_l2o at h1 h2; omega) hP hQ h
theorem nq_ele {a b : nq_V} : (nq_e a ≤ nq_e b) ↔ nq_kv a ≤ nq_kv b := Int64.le_iff_toInt_le
theorem nq_xSwap {post : SX → Prop} {k : Nat} (hk1 : 1 ≤ k) (hk : k < 216) (H : ∀ An' Ov', (∀ o, o < 3 → An' (3 * k + o) = An (3 * (k - 1) + o) ∧ An' (3 * (k - 1) + o) = An (3 * k + o)) → (∀ j, (j < 3 * (k - 1) ∨ 3 * k + 3 ≤ j) → An' j = An j) → Ov' k = Ov (k - 1) → Ov' (k - 1) = Ov k → (∀ j, j ≠ k → j ≠ k - 1 → Ov' j = Ov j) → post (sc, od, nc, tp, cc, gc, ac, Ce, Rc, St, Jl, Tk, Tn, Su, Ne, Ha, Sk, Cb, Jd, Va, Go, Fm, An', Ov')) : wpX_swapWithBefore post (sc, od, nc, tp, cc, gc, ac, Ce, Rc, St, Jl, Tk, Tn, Su, Ne, Ha, Sk, Cb, Jd, Va, Go, Fm, An, Ov) (nI k) := by
  have ik : vp_in (nI k) 216 := vp_in_nI hk (by decide)
  have ck : (nI k).toNatClampNeg = k := nI_clamp (by omega)
  have e1 : nI k - 1 = nI (k - 1) := pk_sub (b := 1) hk1
  have ik1 : vp_in (nI (k - 1)) 216 := vp_in_nI (by omega) (by decide)
  have ck1 : (nI (k - 1)).toNatClampNeg = k - 1 := nI_clamp (by omega)
  have e3 : nI k * 3 = nI (3 * k) := by
    simp only [nq_i3, pk_mul]
    exact congrArg nI (by omega)
  have e4 : (nI k + 1) * 3 = nI (3 * k + 3) := by
    rw [nI_1]
    simp only [nq_i3, pk_mul]
    exact congrArg nI (by omega)
  simp only [wpX_swapWithBefore, ik, ck, e1, ik1, ck1, e3, forall_eq, not_true_eq_false, not_false_eq_true, true_implies, false_implies, implies_true, and_true, true_and, and_self]
  have key : ∀ f o, o ≤ 3 → 3 - o < f → ∀ An', (∀ o', o' < o → An' (3 * k + o') = An (3 * (k - 1) + o') ∧ An' (3 * (k - 1) + o') = An (3 * k + o')) → (∀ j, (∀ o', o' < o → j ≠ 3 * k + o' ∧ j ≠ 3 * (k - 1) + o') → An' j = An j) → wX_swapWithBefore_35 post (nI k) sc od nc tp cc gc ac f (nI (3 * k + o)) Ce Rc St Jl Tk Tn Su Ne Ha Sk Cb Jd Va Go Fm An' (vp_updL (vp_updL Ov k (Ov (k - 1))) (k - 1) (Ov k)) := by
    intro f
    induction f with
    | zero => intro o _ h; omega
    | succ f ih =>
      intro o ho hf An' h1 h2
      rcases Nat.lt_or_ge o 3 with z | z
      · have z3 : ¬ nI (3 * k + 3) ≤ nI (3 * k + o) := nI_ge (by omega) (by omega)
        have i1 : vp_in (nI (3 * k + o)) 648 := vp_in_nI (by omega) (by decide)
        have c1 : (nI (3 * k + o)).toNatClampNeg = 3 * k + o := nI_clamp (by omega)
        have e5 : nI (3 * k + o) - 3 = nI (3 * (k - 1) + o) := (pk_sub (b := 3) (by omega)).trans (congrArg nI (by omega))
        have i2 : vp_in (nI (3 * (k - 1) + o)) 648 := vp_in_nI (by omega) (by decide)
        have c2 : (nI (3 * (k - 1) + o)).toNatClampNeg = 3 * (k - 1) + o := nI_clamp (by omega)
        have a1 : An' (3 * k + o) = An (3 * k + o) := h2 _ (fun o' ho' => by omega)
        have a2 : An' (3 * (k - 1) + o) = An (3 * (k - 1) + o) := h2 _ (fun o' ho' => by omega)
        have e6 : nI (3 * k + o) + 1 = nI (3 * k + (o + 1)) := nI_1 _
        simp only [wX_swapWithBefore_35, e4, z3, i1, c1, e5, i2, c2, a1, a2, e6, forall_eq, not_true_eq_false, not_false_eq_true, true_implies, false_implies, implies_true, and_true, true_and, and_self]
        refine ih (o + 1) (by omega) (by omega) _ (fun o' ho' => ?_) (fun j hj => ?_)
        · by_cases e : o' = o
          · subst e
            refine ⟨?_, pk_uLs⟩
            rw [pk_uLn (by omega), pk_uLs]
          · obtain ⟨b1, b2⟩ := h1 o' (by omega)
            refine ⟨?_, ?_⟩
            · rw [pk_uLn (by omega), pk_uLn (by omega)]; exact b1
            · rw [pk_uLn (by omega), pk_uLn (by omega)]; exact b2
        · have := hj o (by omega)
          rw [pk_uLn this.2, pk_uLn this.1]
          exact h2 j (fun o' ho' => hj o' (by omega))
      · have : o = 3 := by omega
        subst this
        have z3 : nI (3 * k + 3) ≤ nI (3 * k + 3) := nI_le (Nat.le_refl _) (by omega)
        simp only [wX_swapWithBefore_35, e4, z3, forall_eq, not_true_eq_false, not_false_eq_true, true_implies, false_implies, implies_true, and_true, true_and, and_self]
        refine H _ _ h1 (fun j hj => h2 j (fun o' ho' => by omega)) ?_ pk_uLs (fun j j1 j2 => ?_)
        · rw [pk_uLn (by omega), pk_uLs]
        · rw [pk_uLn j2, pk_uLn j1]
  exact ⟨_, key 4 0 (by omega) (by omega) An (fun o' ho' => by omega) (fun j _ => rfl)⟩
theorem nq_RA_s {enc : nq_V → Int64} {A B A' B' : Nat → Int64} {T R : List Nat} {a x : Nat} (hT : nq_RA enc ro og A B (T ++ a :: x :: R)) (h1 : ∀ o, o < 3 → A' (3 * (T.length + 1) + o) = A (3 * T.length + o) ∧ A' (3 * T.length + o) = A (3 * (T.length + 1) + o)) (h2 : ∀ j, (j < 3 * T.length ∨ 3 * (T.length + 1) + 3 ≤ j) → A' j = A j) (h3 : B' (T.length + 1) = B T.length) (h4 : B' T.length = B (T.length + 1)) (h5 : ∀ j, j ≠ T.length + 1 → j ≠ T.length → B' j = B j) : nq_RA enc ro og A' B' (T ++ x :: a :: R) := by
  have ta : (T ++ a :: x :: R)[T.length]? = some a := by
    rw [List.getElem?_append_right (Nat.le_refl _), Nat.sub_self]; rfl
  have tx : (T ++ a :: x :: R)[T.length + 1]? = some x := by
    rw [List.getElem?_append_right (by omega), show T.length + 1 - T.length = 1 by omega]; rfl
  obtain ⟨a1, a2⟩ := hT _ _ ta
  obtain ⟨x1, x2⟩ := hT _ _ tx
  intro i g hg
  by_cases e1 : i = T.length
  · subst e1
    rw [List.getElem?_append_right (Nat.le_refl _), Nat.sub_self] at hg
    cases hg
    exact ⟨fun o ho => (h1 o ho).2.trans (x1 o ho), h4.trans x2⟩
  · by_cases e2 : i = T.length + 1
    · subst e2
      rw [List.getElem?_append_right (by omega), show T.length + 1 - T.length = 1 by omega] at hg
      cases hg
      exact ⟨fun o ho => (h1 o ho).1.trans (a1 o ho), h3.trans a2⟩
    · have hg' : (T ++ a :: x :: R)[i]? = some g := by
        rcases Nat.lt_or_ge i T.length with z | z
        · rw [List.getElem?_append_left z] at hg ⊢
          exact hg
        · rw [List.getElem?_append_right z] at hg ⊢
          obtain ⟨m, hm⟩ : ∃ m, i - T.length = m + 2 := ⟨i - T.length - 2, by omega⟩
          rw [hm] at hg ⊢
          exact hg
      obtain ⟨b1, b2⟩ := hT i g hg'
      exact ⟨fun o ho => (h2 _ (by omega)).trans (b1 o ho), (h5 i e2 e1).trans b2⟩
theorem nq_xIns {post : SX → Prop} {J2 : Int32 → Int32 → Int32 → Int32 → Int32 → Int32 → Int32 → Int32 → (Nat → Int64) → (Nat → Int32) → (Nat → Int32) → (Nat → Int32) → (Nat → Int32) → (Nat → Int32) → (Nat → Int32) → (Nat → Int32) → (Nat → Int32) → (Nat → Int64) → (Nat → Int32) → (Nat → Int32) → (Nat → Int64) → (Nat → Int32) → (Nat → Int32) → (Nat → Int64) → (Nat → Int64) → Prop} {i N : Nat} {R : List Nat} (hi : i < N) (hN : N ≤ 216) (H : ∀ An' Ov' S, S.Pairwise (nq_l2o og) → S.Perm (List.range (i + 1)) → nq_RA nq_e ro og An' Ov' (S ++ R) → J2 (nI (i + 1)) sc od nc tp cc gc (nI N) Ce Rc St Jl Tk Tn Su Ne Ha Sk Cb Jd Va Go Fm An' Ov') : ∀ k A, A.length = k → k ≤ i → ∀ f, k < f → ∀ B An Ov, (A ++ B).Pairwise (nq_l2o og) → (A ++ B).Perm (List.range i) → (∀ b, b ∈ B → nq_kv (og i) < nq_kv (og b)) → nq_RA nq_e ro og An Ov (A ++ i :: (B ++ R)) → wX_putInOrder_12 post J2 (nI i) f (nI k) sc od nc tp cc gc (nI N) Ce Rc St Jl Tk Tn Su Ne Ha Sk Cb Jd Va Go Fm An Ov := by
  have stop : ∀ A B An Ov, (A ++ B).Pairwise (nq_l2o og) → (A ++ B).Perm (List.range i) → (∀ b, b ∈ B → nq_kv (og i) < nq_kv (og b)) → (∀ a, a ∈ A → nq_kv (og a) ≤ nq_kv (og i)) → nq_RA nq_e ro og An Ov (A ++ i :: (B ++ R)) → J2 (nI (i + 1)) sc od nc tp cc gc (nI N) Ce Rc St Jl Tk Tn Su Ne Ha Sk Cb Jd Va Go Fm An Ov := by
    intro A B An Ov hP hQ hB hA hR
    refine H An Ov (A ++ i :: B) ?_ ?_ ?_
    · rw [List.pairwise_append] at hP ⊢
      obtain ⟨p1, p2, p3⟩ := hP
      refine ⟨p1, List.pairwise_cons.mpr ⟨fun b hb => Or.inl (hB b hb), p2⟩, fun a ha b hb => ?_⟩
      rcases List.mem_cons.mp hb with e | e
      · subst e
        have la : a < b := by
          have := hQ.subset (List.mem_append_left B ha)
          rw [List.mem_range] at this
          exact this
        have := hA a ha
        unfold nq_l2o
        omega
      · exact p3 a ha b e
    · rw [List.range_succ]
      refine List.perm_middle.trans ?_
      refine (List.Perm.cons i hQ).trans ?_
      exact (List.perm_append_comm (l₁ := [i]) (l₂ := List.range i))
    · rw [List.append_assoc, List.cons_append]
      exact hR
  intro k
  induction k with
  | zero =>
    intro A hA _ f hf B An Ov hP hQ hB hR
    obtain ⟨f, rfl⟩ : ∃ g, f = g + 1 := ⟨f - 1, by omega⟩
    have eA := List.eq_nil_of_length_eq_zero hA
    subst eA
    simp only [wX_putInOrder_12, nI_0, show (0 : Int32) ≤ 0 from by decide, nI_1, forall_eq, not_true_eq_false, not_false_eq_true, true_implies, false_implies, implies_true, and_true, true_and, and_self]
    exact stop [] B An Ov hP hQ hB (fun a ha => by cases ha) hR
  | succ k ih =>
    intro A hA hki f hf B An Ov hP hQ hB hR
    obtain ⟨f, rfl⟩ : ∃ g, f = g + 1 := ⟨f - 1, by omega⟩
    obtain ⟨A', a, rfl⟩ : ∃ A' a, A = A' ++ [a] := by
      have hne : A ≠ [] := by intro e; rw [e] at hA; cases hA
      exact ⟨A.dropLast, A.getLast hne, (List.dropLast_concat_getLast hne).symm⟩
    have hA' : A'.length = k := by rw [List.length_append, List.length_singleton] at hA; omega
    have z3 : ¬ nI (k + 1) ≤ 0 := nI_nle (by omega) (by omega)
    have i1 : vp_in (nI (k + 1)) 216 := vp_in_nI (by omega) (by decide)
    have c1 : (nI (k + 1)).toNatClampNeg = k + 1 := nI_clamp (by omega)
    have i2 : vp_in (nI k) 216 := vp_in_nI (by omega) (by decide)
    have c2 : (nI k).toNatClampNeg = k := nI_clamp (by omega)
    have e2 : nI (k + 1) + (-1) = nI k := pk_m1 k
    have hR' : nq_RA nq_e ro og An Ov (A' ++ a :: i :: (B ++ R)) := by
      rw [List.append_assoc] at hR
      exact hR
    have oa : Ov k = nq_e (og a) := by
      refine (hR' k a ?_).2
      rw [← hA', List.getElem?_append_right (Nat.le_refl _), Nat.sub_self]; rfl
    have oi : Ov (k + 1) = nq_e (og i) := by
      refine (hR' (k + 1) i ?_).2
      rw [← hA', List.getElem?_append_right (by omega), show A'.length + 1 - A'.length = 1 by omega]; rfl
    simp only [wX_putInOrder_12, z3, i1, nI_pred, i2, c1, c2, oa, oi, nq_ele, nI_1, e2, forall_eq, not_true_eq_false, not_false_eq_true, true_implies, false_implies, implies_true, and_true, true_and, and_self]
    by_cases q : nq_kv (og a) ≤ nq_kv (og i)
    · refine br_t q ?_
      refine stop (A' ++ [a]) B An Ov hP hQ hB (fun a' ha' => ?_) hR
      rcases List.mem_append.mp ha' with y | y
      · rw [List.append_assoc, List.pairwise_append] at hP
        have := hP.2.2 a' y a (by simp)
        unfold nq_l2o at this
        omega
      · rw [List.mem_singleton.mp y]
        exact q
    · refine br_f q ?_
      refine nq_xSwap (by omega) (by omega) fun An' Ov' s1 s2 s3 s4 s5 => ?_
      rw [Nat.add_sub_cancel] at s1 s2 s3 s4 s5
      refine ih A' hA' (by omega) f (by omega) (a :: B) An' Ov' ?_ ?_ ?_ ?_
      · rw [List.append_assoc] at hP; exact hP
      · rw [List.append_assoc] at hQ; exact hQ
      · intro b hb
        rcases List.mem_cons.mp hb with e | e
        · subst e; omega
        · exact hB b e
      · rw [List.cons_append]
        exact nq_RA_s hR' (by rw [hA']; exact s1) (by rw [hA']; exact s2) (by rw [hA']; exact s3) (by rw [hA']; exact s4) (by rw [hA']; exact s5)
theorem nq_xOrd {post : SX → Prop} {N : Nat} (hN : N ≤ 216) (hR : nq_RA nq_e ro og An Ov (List.range N)) (H : ∀ An' Ov' P, P.Pairwise (nq_l2o og) → P.Perm (List.range N) → nq_RA nq_e ro og An' Ov' P → post (sc, od, nc, tp, cc, gc, (nI N), Ce, Rc, St, Jl, Tk, Tn, Su, Ne, Ha, Sk, Cb, Jd, Va, Go, Fm, An', Ov')) : wpX_putInOrder post (sc, od, nc, tp, cc, gc, (nI N), Ce, Rc, St, Jl, Tk, Tn, Su, Ne, Ha, Sk, Cb, Jd, Va, Go, Fm, An, Ov) := by
  have key : ∀ f i, 1 ≤ i → i ≤ N → N - i < f → ∀ S An Ov, S.Pairwise (nq_l2o og) → S.Perm (List.range i) → nq_RA nq_e ro og An Ov (S ++ List.range' i (N - i)) → wX_putInOrder_2 post f (nI i) sc od nc tp cc gc (nI N) Ce Rc St Jl Tk Tn Su Ne Ha Sk Cb Jd Va Go Fm An Ov := by
    intro f
    induction f with
    | zero => intro i _ _ h; omega
    | succ f ih =>
      intro i hi1 hi hf S An Ov hP hQ hA
      rcases Nat.lt_or_ge i N with z | z
      · have z3 : ¬ nI N ≤ nI i := nI_ge z (by omega)
        simp only [wX_putInOrder_2, z3, forall_eq, not_true_eq_false, not_false_eq_true, true_implies, false_implies, implies_true, and_true, true_and, and_self]
        have er : List.range' i (N - i) = i :: List.range' (i + 1) (N - (i + 1)) := by
          rw [show N - i = N - (i + 1) + 1 by omega, List.range'_succ]
        rw [er] at hA
        have sl : S.length = i := by rw [hQ.length_eq, List.length_range]
        refine ⟨i + 1, nq_xIns z hN (R := List.range' (i + 1) (N - (i + 1))) (fun An' Ov' S' a1 a2 a3 => ?_) i S sl (Nat.le_refl _) (i + 1) (by omega) [] An Ov (by rw [List.append_nil]; exact hP) (by rw [List.append_nil]; exact hQ) (fun b hb => by cases hb) hA⟩
        exact ih (i + 1) (by omega) (by omega) (by omega) S' An' Ov' a1 a2 a3
      · have : i = N := by omega
        subst this
        have z3 : nI i ≤ nI i := nI_le (Nat.le_refl _) (by omega)
        simp only [wX_putInOrder_2, z3, forall_eq, not_true_eq_false, not_false_eq_true, true_implies, false_implies, implies_true, and_true, true_and, and_self]
        rw [Nat.sub_self, List.range'_zero, List.append_nil] at hA
        exact H An Ov S hP hQ hA
  rcases Nat.eq_zero_or_pos N with h0 | h0
  · subst h0
    refine ⟨1, ?_⟩
    simp only [wX_putInOrder_2, show nI 0 ≤ 1 from by decide, forall_eq, not_true_eq_false, not_false_eq_true, true_implies, false_implies, implies_true, and_true, true_and, and_self]
    exact H An Ov [] List.Pairwise.nil (List.Perm.refl _) hR
  · have := key N 1 (by omega) (by omega) (by omega) [0] An Ov (List.pairwise_singleton _ _) (List.Perm.refl _) (by
      have e : [0] ++ List.range' 1 (N - 1) = List.range N := by
        rw [List.range_eq_range', show N = N - 1 + 1 by omega, List.range'_succ]
        rfl
      rw [e]
      exact hR)
    exact ⟨_, this⟩
end
end
section
section
variable {sc od nc tp cc gc ac : Int32} {Ce Sk Va An Ov : Nat → Int64} {Rc St Jl Tk Tn Su Ne Ha Cb Jd Go Fm : Nat → Int32}
variable {src dis opn sbt sbr dep mny mor grs fnd kpt : Int32} {ySk yRe ySo yAn : Nat → Int64} {yRo yCe yTo yIl ySz yTk yIn yEn ySu yWc yWi yHa yCo yLo yGo yFi : Nat → Int32}
variable {ro : Nat → Nat → nq_V} {og : Nat → nq_V}
def nq_sm (ro : Nat → Nat → nq_V) (k x : Nat) : Bool := decide (ro k 0 = ro x 0) && (decide (ro k 1 = ro x 1) && decide (ro k 2 = ro x 2))
/-- what stays of a list of rows -/
def nq_ddf (ds : Bool) (ro : Nat → Nat → nq_V) (K : List Nat) (x : Nat) : List Nat := if ds = true ∧ K.any (fun k => nq_sm ro k x) = true then K else K ++ [x]
def nq_dd (ds : Bool) (ro : Nat → Nat → nq_V) (Q : List Nat) : List Nat := Q.foldl (nq_ddf ds ro) []
theorem nq_dd_s {ds : Bool} {Q : List Nat} {x : Nat} : nq_dd ds ro (Q ++ [x]) = nq_ddf ds ro (nq_dd ds ro Q) x := by
  unfold nq_dd
  rw [List.foldl_append]
  rfl
theorem nq_dd_f {Q : List Nat} : nq_dd false ro Q = Q := by
  unfold nq_dd
  suffices h : ∀ (Q K : List Nat), Q.foldl (nq_ddf false ro) K = K ++ Q by exact h Q []
  intro Q
  induction Q with
  | nil => intro K; simp
  | cons a Q ih =>
    intro K
    rw [List.foldl_cons, ih]
    unfold nq_ddf
    simp
theorem nq_dd_l {ds : Bool} : ∀ Q : List Nat, (nq_dd ds ro Q).length ≤ Q.length := by
  suffices h : ∀ (Q K : List Nat), (Q.foldl (nq_ddf ds ro) K).length ≤ K.length + Q.length by
    intro Q
    have := h Q []
    unfold nq_dd
    simpa using this
  intro Q
  induction Q with
  | nil => intro K; simp
  | cons a Q ih =>
    intro K
    rw [List.foldl_cons]
    have := ih (nq_ddf ds ro K a)
    have h2 : (nq_ddf ds ro K a).length ≤ K.length + 1 := by
      unfold nq_ddf
      split
      · omega
      · rw [List.length_append, List.length_singleton]; omega
    rw [List.length_cons]
    omega
/-- answers in an array -/
def nq_AA (enc : nq_V → Int64) (ro : Nat → Nat → nq_V) (A : Nat → Int64) (L : List Nat) : Prop := ∀ i g, L[i]? = some g → ∀ o, o < 3 → A (3 * i + o) = enc (ro g o)
theorem nq_AA_a {enc : nq_V → Int64} {A A' : Nat → Int64} {L : List Nat} {g : Nat} (hL : nq_AA enc ro A L) (h1 : ∀ o, o < 3 → A' (3 * L.length + o) = enc (ro g o)) (h3 : ∀ j, j < 3 * L.length → A' j = A j) : nq_AA enc ro A' (L ++ [g]) := by
  intro i k hk o ho
  rcases Nat.lt_trichotomy i L.length with z | z | z
  · rw [List.getElem?_append_left z] at hk
    rw [h3 _ (by omega)]
    exact hL i k hk o ho
  · subst z
    rw [List.getElem?_append_right (Nat.le_refl _), Nat.sub_self] at hk
    cases hk
    exact h1 o ho
  · rw [List.getElem?_append_right (by omega)] at hk
    obtain ⟨m, hm⟩ : ∃ m, i - L.length = m + 1 := ⟨i - L.length - 1, by omega⟩
    rw [hm] at hk
    cases hk
theorem nq_xAmong {post : Int32 → Prop} {K : List Nat} {i x : Nat} (hi : i < 216) (hKl : K.length ≤ i) (hK : nq_AA nq_e ro An K) (hx : ∀ o, o < 3 → An (3 * i + o) = nq_e (ro x o)) (H : post (nq_b (K.any (fun k => nq_sm ro k x)))) : wpX_isAmongFirst post (sc, od, nc, tp, cc, gc, ac, Ce, Rc, St, Jl, Tk, Tn, Su, Ne, Ha, Sk, Cb, Jd, Va, Go, Fm, An, Ov) (nI K.length) (nI i) := by
  have e5 : nI i * 3 = nI (3 * i) := by
    simp only [nq_i3, pk_mul]
    exact congrArg nI (by omega)
  have q0 : vp_in (nI (3 * i)) 648 := vp_in_nI (by omega) (by decide)
  have q1 : vp_in (nI (3 * i + 1)) 648 := vp_in_nI (by omega) (by decide)
  have q2 : vp_in (nI (3 * i + 2)) 648 := vp_in_nI (by omega) (by decide)
  have r0 : (nI (3 * i)).toNatClampNeg = 3 * i := nI_clamp (by omega)
  have r1 : (nI (3 * i + 1)).toNatClampNeg = 3 * i + 1 := nI_clamp (by omega)
  have r2 : (nI (3 * i + 2)).toNatClampNeg = 3 * i + 2 := nI_clamp (by omega)
  have x0 := hx 0 (by omega)
  have x1 := hx 1 (by omega)
  have x2 := hx 2 (by omega)
  rw [Nat.add_zero] at x0
  have key : ∀ f j, j ≤ K.length → K.length - j < f → post (nq_b ((K.drop j).any (fun k => nq_sm ro k x))) → wX_isAmongFirst_2 post (nI K.length) (nI i) sc od nc tp cc gc ac Ce Rc St Jl Tk Tn Su Ne Ha Sk Cb Jd Va Go Fm An Ov f (nI j) := by
    intro f
    induction f with
    | zero => intro j _ h; omega
    | succ f ih =>
      intro j hj hf HH
      rcases Nat.lt_or_ge j K.length with z | z
      · have z3 : ¬ nI K.length ≤ nI j := nI_ge z (by omega)
        have e4 : nI j * 3 = nI (3 * j) := by
          simp only [nq_i3, pk_mul]
          exact congrArg nI (by omega)
        have i0 : vp_in (nI (3 * j)) 648 := vp_in_nI (by omega) (by decide)
        have i1 : vp_in (nI (3 * j + 1)) 648 := vp_in_nI (by omega) (by decide)
        have i2 : vp_in (nI (3 * j + 2)) 648 := vp_in_nI (by omega) (by decide)
        have c0 : (nI (3 * j)).toNatClampNeg = 3 * j := nI_clamp (by omega)
        have c1 : (nI (3 * j + 1)).toNatClampNeg = 3 * j + 1 := nI_clamp (by omega)
        have c2 : (nI (3 * j + 2)).toNatClampNeg = 3 * j + 2 := nI_clamp (by omega)
        have hg : K[j]? = some K[j] := List.getElem?_eq_getElem z
        have k0 := hK j _ hg 0 (by omega)
        have k1 := hK j _ hg 1 (by omega)
        have k2 := hK j _ hg 2 (by omega)
        rw [Nat.add_zero] at k0
        have p1 : nI (3 * j) + 1 = nI (3 * j + 1) := nI_add _ 1
        have p2 : nI (3 * j) + 2 = nI (3 * j + 2) := nI_add _ 2
        have p3 : nI (3 * i) + 1 = nI (3 * i + 1) := nI_add _ 1
        have p4 : nI (3 * i) + 2 = nI (3 * i + 2) := nI_add _ 2
        have ed : K.drop j = K[j] :: K.drop (j + 1) := List.drop_eq_getElem_cons z
        rw [ed, List.any_cons] at HH
        simp only [wX_isAmongFirst_2, z3, e4, e5, i0, c0, q0, r0, p1, p2, p3, p4, i1, c1, i2, c2, q1, q2, r1, r2, k0, k1, k2, x0, x1, x2, nq_e_i, nI_1, forall_eq, not_true_eq_false, not_false_eq_true, true_implies, false_implies, implies_true, and_true, true_and, and_self]
        have nn := ih (j + 1) (by omega) (by omega)
        unfold nq_sm at HH
        by_cases d0 : ro K[j] 0 = ro x 0
        · refine br_t d0 ?_
          by_cases d1 : ro K[j] 1 = ro x 1
          · refine br_t d1 ?_
            by_cases d2 : ro K[j] 2 = ro x 2
            · refine br_t d2 ?_
              rw [decide_eq_true d0, decide_eq_true d1, decide_eq_true d2, Bool.true_and, Bool.true_and, Bool.true_or] at HH
              exact HH
            · refine br_f d2 ?_
              rw [decide_eq_false d2, Bool.and_false, Bool.and_false, Bool.false_or] at HH
              exact nn HH
          · refine br_f d1 ?_
            rw [decide_eq_false d1, Bool.false_and, Bool.and_false, Bool.false_or] at HH
            exact nn HH
        · refine br_f d0 ?_
          rw [decide_eq_false d0, Bool.false_and, Bool.false_or] at HH
          exact nn HH
      · have : j = K.length := by omega
        subst this
        have z3 : nI K.length ≤ nI K.length := nI_le (Nat.le_refl _) (by omega)
        rw [List.drop_length] at HH
        simp only [wX_isAmongFirst_2, z3, forall_eq, not_true_eq_false, not_false_eq_true, true_implies, false_implies, implies_true, and_true, true_and, and_self]
        exact HH
  exact ⟨_, key (K.length + 1) 0 (by omega) (by omega) (by rw [List.drop_zero]; exact H)⟩
theorem nq_xDrop {post : SX → Prop} {P : List Nat} (hN : P.length ≤ 216) (hA : nq_AA nq_e ro An P) (H : ∀ An', nq_AA nq_e ro An' (nq_dd true ro P) → post (sc, od, nc, tp, cc, gc, (nI (nq_dd true ro P).length), Ce, Rc, St, Jl, Tk, Tn, Su, Ne, Ha, Sk, Cb, Jd, Va, Go, Fm, An', Ov)) : wpX_dropRepeats post (sc, od, nc, tp, cc, gc, (nI P.length), Ce, Rc, St, Jl, Tk, Tn, Su, Ne, Ha, Sk, Cb, Jd, Va, Go, Fm, An, Ov) := by
  have key : ∀ f i, i ≤ P.length → P.length - i < f → ∀ An, nq_AA nq_e ro An (nq_dd true ro (P.take i)) → (∀ j g, i ≤ j → P[j]? = some g → ∀ o, o < 3 → An (3 * j + o) = nq_e (ro g o)) → wX_dropRepeats_4 post sc od nc tp cc gc (nI P.length) f (nI (nq_dd true ro (P.take i)).length) (nI i) Ce Rc St Jl Tk Tn Su Ne Ha Sk Cb Jd Va Go Fm An Ov := by
    intro f
    induction f with
    | zero => intro i _ h; omega
    | succ f ih =>
      intro i hi hf An hK hB
      have kl := nq_dd_l (ds := true) (ro := ro) (P.take i)
      rw [List.length_take] at kl
      rcases Nat.lt_or_ge i P.length with z | z
      · have z3 : ¬ nI P.length ≤ nI i := nI_ge z (by omega)
        have hg : P[i]? = some P[i] := List.getElem?_eq_getElem z
        have et : P.take (i + 1) = P.take i ++ [P[i]] := by rw [List.take_succ, hg]; rfl
        have hx := hB i _ (Nat.le_refl _) hg
        simp only [wX_dropRepeats_4, z3, forall_eq, not_true_eq_false, not_false_eq_true, true_implies, false_implies, implies_true, and_true, true_and, and_self]
        refine nq_xAmong (x := P[i]) (by omega) (by omega) hK hx ?_
        simp only [nq_b0, nI_1]
        have nn := ih (i + 1) (by omega) (by omega)
        rw [et, nq_dd_s] at nn
        unfold nq_ddf at nn
        rcases Bool.eq_false_or_eq_true ((nq_dd true ro (P.take i)).any (fun k => nq_sm ro k P[i])) with ha | ha
        · refine br_f (by rw [ha]; decide) ?_
          rw [if_pos ⟨rfl, ha⟩] at nn
          exact nn An hK (fun j g h1 h2 => hB j g (by omega) h2)
        · refine br_t ha ?_
          rw [if_neg (fun y => by rw [ha] at y; exact absurd y.2 (by decide))] at nn
          have key2 : ∀ f2 o, o ≤ 3 → 3 - o < f2 → ∀ An', (∀ o', o' < o → An' (3 * (nq_dd true ro (P.take i)).length + o') = An (3 * i + o')) → (∀ j, (j < 3 * (nq_dd true ro (P.take i)).length ∨ 3 * (nq_dd true ro (P.take i)).length + o ≤ j) → An' j = An j) → wX_dropRepeats_23 post (wX_dropRepeats_4 post sc od nc tp cc gc (nI P.length) f) (nI (nq_dd true ro (P.take i)).length) (nI i) sc od nc tp cc gc (nI P.length) f2 (nI o) Ce Rc St Jl Tk Tn Su Ne Ha Sk Cb Jd Va Go Fm An' Ov := by
            intro f2
            induction f2 with
            | zero => intro o _ h; omega
            | succ f2 ih2 =>
              intro o ho hf2 An' h1 h2
              rcases Nat.lt_or_ge o 3 with y | y
              · have y3 : ¬ 3 ≤ nI o := nI_ge (b := 3) y (by decide)
                have e1 : nI i * 3 + nI o = nI (3 * i + o) := by
                  simp only [nq_i3, pk_mul, nI_add]
                  exact congrArg nI (by omega)
                have e2 : nI (nq_dd true ro (P.take i)).length * 3 + nI o = nI (3 * (nq_dd true ro (P.take i)).length + o) := by
                  simp only [nq_i3, pk_mul, nI_add]
                  exact congrArg nI (by omega)
                have i1 : vp_in (nI (3 * i + o)) 648 := vp_in_nI (by omega) (by decide)
                have c1 : (nI (3 * i + o)).toNatClampNeg = 3 * i + o := nI_clamp (by omega)
                have i2 : vp_in (nI (3 * (nq_dd true ro (P.take i)).length + o)) 648 := vp_in_nI (by omega) (by decide)
                have c2 : (nI (3 * (nq_dd true ro (P.take i)).length + o)).toNatClampNeg = 3 * (nq_dd true ro (P.take i)).length + o := nI_clamp (by omega)
                simp only [wX_dropRepeats_23, y3, e1, e2, i1, c1, i2, c2, nI_1, forall_eq, not_true_eq_false, not_false_eq_true, true_implies, false_implies, implies_true, and_true, true_and, and_self]
                refine ih2 (o + 1) (by omega) (by omega) _ (fun o' ho' => ?_) (fun j hj => ?_)
                · by_cases e : o' = o
                  · rw [e, pk_uLs]
                    exact h2 _ (Or.inr (by omega))
                  · rw [pk_uLn (by omega)]
                    exact h1 o' (by omega)
                · rw [pk_uLn (by omega)]
                  exact h2 j (by omega)
              · have : o = 3 := by omega
                subst this
                simp only [wX_dropRepeats_23, show (3 : Int32) ≤ nI 3 from by decide, nI_1, forall_eq, not_true_eq_false, not_false_eq_true, true_implies, false_implies, implies_true, and_true, true_and, and_self]
                have := nn An' (nq_AA_a hK (fun o ho => (h1 o ho).trans (hx o ho)) (fun j hj => h2 j (Or.inl hj))) (fun j g a b o ho => by
                  rw [h2 _ (Or.inr (by omega))]
                  exact hB j g (by omega) b o ho)
                rw [List.length_append, List.length_singleton] at this
                exact this
          exact ⟨_, key2 4 0 (by omega) (by omega) An (fun o' ho' => by omega) (fun j _ => rfl)⟩
      · have : i = P.length := by omega
        subst this
        have z3 : nI P.length ≤ nI P.length := nI_le (Nat.le_refl _) (by omega)
        rw [List.take_length] at hK ⊢
        simp only [wX_dropRepeats_4, z3, forall_eq, not_true_eq_false, not_false_eq_true, true_implies, false_implies, implies_true, and_true, true_and, and_self]
        exact H An hK
  exact ⟨_, key (P.length + 1) 0 (by omega) (by omega) An (fun i g hg => by cases hg) (fun j g _ hg o ho => hA j g hg o ho)⟩
end
end
section
section
variable {sc od nc tp cc gc ac : Int32} {Ce Sk Va An Ov : Nat → Int64} {Rc St Jl Tk Tn Su Ne Ha Cb Jd Go Fm : Nat → Int32}
variable {src dis opn sbt sbr dep mny mor grs fnd kpt : Int32} {ySk yRe ySo yAn : Nat → Int64} {yRo yCe yTo yIl ySz yTk yIn yEn ySu yWc yWi yHa yCo yLo yGo yFi : Nat → Int32}
variable {ro : Nat → Nat → nq_V} {og : Nat → nq_V}
theorem nq_yBefore {post : Int32 → Prop} {a b : nq_V} : wpY_isBefore post (src, dis, opn, sbt, sbr, dep, mny, mor, grs, fnd, kpt, yRo, yCe, yTo, yIl, ySz, yTk, yIn, yEn, ySu, yWc, yWi, yHa, ySk, yCo, yLo, yGo, yFi, yRe, ySo, yAn) (nq_f a) (nq_f b) ↔ post (nq_b (decide (nq_kv a < nq_kv b))) := by
  have hl : decide (nq_kv a < nq_kv b) = nq_lt a b := by
    rcases Bool.eq_false_or_eq_true (nq_lt a b) with h | h
    · rw [h]; exact decide_eq_true (nq_kv_l.mp h)
    · rw [h]
      refine decide_eq_false (fun z => ?_)
      rw [nq_kv_l.mpr z] at h
      cases h
  rw [hl]
  cases a with
  | none => cases b with
    | none => simp only [wpY_isBefore, nq_lt, nq_bf, forall_eq, not_true_eq_false, not_false_eq_true, true_implies, false_implies, implies_true, and_true, true_and, and_self]
    | some y =>
      have : ¬ nq_f none = nq_f (some y) := fun z => by rw [nq_f_i] at z; cases z
      simp only [wpY_isBefore, this, nq_lt, nq_bt, forall_eq, not_true_eq_false, not_false_eq_true, true_implies, false_implies, implies_true, and_true, true_and, and_self]
      simp only [nq_f, forall_eq, not_true_eq_false, not_false_eq_true, true_implies, false_implies, implies_true, and_true, true_and, and_self]
  | some x => cases b with
    | none =>
      have : ¬ nq_f (some x) = nq_f none := fun z => by rw [nq_f_i] at z; cases z
      simp only [wpY_isBefore, this, nq_lt, nq_bf, nq_f_n, reduceCtorEq, forall_eq, not_true_eq_false, not_false_eq_true, true_implies, false_implies, implies_true, and_true, true_and, and_self]
    | some y =>
      simp only [wpY_isBefore, nq_f_i, nq_lt, nq_f_n, reduceCtorEq, Option.some.injEq, show (nq_f (some y) ≤ nq_f (some x)) = (y ≤ x) from propext Int32.toInt64_le, forall_eq, not_true_eq_false, not_false_eq_true, true_implies, false_implies, implies_true, and_true, true_and, and_self]
      by_cases e : x = y
      · subst e
        have h2 : ¬ x < x := by exact Int32.lt_irrefl
        simp only [h2, decide_false, nq_bf, forall_eq, not_true_eq_false, not_false_eq_true, true_implies, false_implies, implies_true, and_true, true_and, and_self]
      · by_cases q : y ≤ x
        · simp only [e, q, Int32.not_lt.mpr q, decide_false, nq_bf, forall_eq, not_true_eq_false, not_false_eq_true, true_implies, false_implies, implies_true, and_true, true_and, and_self]
        · simp only [e, q, Int32.not_le.mp q, decide_true, nq_bt, forall_eq, not_true_eq_false, not_false_eq_true, true_implies, false_implies, implies_true, and_true, true_and, and_self]
theorem nq_yKept {post : Int32 → Prop} {K : List Nat} {x : Nat} {ds : Bool} (hd : ds = decide (dis ≠ 0)) (hx : x < 216) (hKl : K.length ≤ 216) (hK : nq_AA nq_f ro yAn K) (hX : ∀ o, o < 3 → yRe (3 * x + o) = nq_f (ro x o)) (H : post (nq_b (!(ds && K.any (fun k => nq_sm ro k x))))) : wpY_isKept post (src, dis, opn, sbt, sbr, dep, mny, mor, grs, fnd, (nI K.length), yRo, yCe, yTo, yIl, ySz, yTk, yIn, yEn, ySu, yWc, yWi, yHa, ySk, yCo, yLo, yGo, yFi, yRe, ySo, yAn) (nI x) := by
  have key : ∀ f j, j ≤ K.length → K.length - j < f → post (nq_b (!(ds && (K.drop j).any (fun k => nq_sm ro k x)))) → wY_isKept_2 post (nI x) src dis opn sbt sbr dep mny mor grs fnd (nI K.length) yRo yCe yTo yIl ySz yTk yIn yEn ySu yWc yWi yHa ySk yCo yLo yGo yFi yRe ySo yAn f (nI j) := by
    intro f
    induction f with
    | zero => intro j _ h; omega
    | succ f ih =>
      intro j hj hf HH
      rcases Nat.lt_or_ge j K.length with z | z
      · have z3 : ¬ nI K.length ≤ nI j := nI_ge z (by omega)
        have hg : K[j]? = some K[j] := List.getElem?_eq_getElem z
        have ed : K.drop j = K[j] :: K.drop (j + 1) := List.drop_eq_getElem_cons z
        rw [ed, List.any_cons] at HH
        simp only [wY_isKept_2, z3, forall_eq, not_true_eq_false, not_false_eq_true, true_implies, false_implies, implies_true, and_true, true_and, and_self]
        have key2 : ∀ f2 o, o ≤ 3 → 3 - o < f2 → ∀ sm : Bool, (sm = true ↔ ∀ o', o' < o → ro K[j] o' = ro x o') → wY_isKept_15 post (wY_isKept_2 post (nI x) src dis opn sbt sbr dep mny mor grs fnd (nI K.length) yRo yCe yTo yIl ySz yTk yIn yEn ySu yWc yWi yHa ySk yCo yLo yGo yFi yRe ySo yAn f) (nI x) (nI j) src dis opn sbt sbr dep mny mor grs fnd (nI K.length) yRo yCe yTo yIl ySz yTk yIn yEn ySu yWc yWi yHa ySk yCo yLo yGo yFi yRe ySo yAn f2 (nq_b sm) (nI o) := by
          intro f2
          induction f2 with
          | zero => intro o _ h; omega
          | succ f2 ih2 =>
            intro o ho hf2 sm hsm
            rcases Nat.lt_or_ge o 3 with y | y
            · have y3 : ¬ 3 ≤ nI o := nI_ge (b := 3) y (by decide)
              have e1 : 3 * nI j + nI o = nI (3 * j + o) := by simp only [nq_i3, pk_mul, nI_add]
              have e2 : 3 * nI x + nI o = nI (3 * x + o) := by simp only [nq_i3, pk_mul, nI_add]
              have i1 : vp_in (nI (3 * j + o)) 648 := vp_in_nI (by omega) (by decide)
              have c1 : (nI (3 * j + o)).toNatClampNeg = 3 * j + o := nI_clamp (by omega)
              have i2 : vp_in (nI (3 * x + o)) 648 := vp_in_nI (by omega) (by decide)
              have c2 : (nI (3 * x + o)).toNatClampNeg = 3 * x + o := nI_clamp (by omega)
              simp only [wY_isKept_15, y3, e1, e2, i1, c1, i2, c2, hK j _ hg o y, hX o y, nq_f_i, nI_1, nq_b0, forall_eq, not_true_eq_false, not_false_eq_true, true_implies, false_implies, implies_true, and_true, true_and, and_self]
              cases sm with
              | false =>
                refine br_t rfl ?_
                refine ih2 (o + 1) (by omega) (by omega) false ⟨(fun h => by cases h), fun h => ?_⟩
                exact hsm.mpr (fun o' ho' => h o' (by omega))
              | true =>
                refine br_f (by decide) ?_
                by_cases d : ro K[j] o = ro x o
                · refine br_t d ?_
                  refine ih2 (o + 1) (by omega) (by omega) true ⟨fun _ o' ho' => ?_, fun _ => rfl⟩
                  by_cases e : o' = o
                  · rw [e]; exact d
                  · exact hsm.mp rfl o' (by omega)
                · refine br_f d ?_
                  exact ih2 (o + 1) (by omega) (by omega) false ⟨(fun h => by cases h), fun h => absurd (h o (by omega)) d⟩
            · have : o = 3 := by omega
              subst this
              have es : nq_sm ro K[j] x = sm := by
                unfold nq_sm
                cases sm with
                | true =>
                  have h := hsm.mp rfl
                  rw [decide_eq_true (h 0 (by omega)), decide_eq_true (h 1 (by omega)), decide_eq_true (h 2 (by omega))]
                  rfl
                | false =>
                  apply Bool.eq_false_iff.mpr
                  intro h
                  rw [Bool.and_eq_true, Bool.and_eq_true, decide_eq_true_eq, decide_eq_true_eq, decide_eq_true_eq] at h
                  have : false = true := hsm.mpr (fun o' ho' => by
                    match o', ho' with
                    | 0, _ => exact h.1
                    | 1, _ => exact h.2.1
                    | 2, _ => exact h.2.2)
                  cases this
              rw [es] at HH
              simp only [wY_isKept_15, show (3 : Int32) ≤ nI 3 from by decide, nq_b0, nI_1, forall_eq, not_true_eq_false, not_false_eq_true, true_implies, false_implies, implies_true, and_true, true_and, and_self]
              cases sm with
              | false =>
                refine br_t rfl ?_
                rw [Bool.false_or] at HH
                exact ih (j + 1) (by omega) (by omega) HH
              | true =>
                refine br_f (by decide) ?_
                by_cases d0 : dis = 0
                · refine br_t d0 ?_
                  have ed0 : ds = false := by rw [hd]; exact decide_eq_false (fun h => h d0)
                  rw [ed0] at HH ih
                  exact ih (j + 1) (by omega) (by omega) HH
                · refine br_f d0 ?_
                  have ed0 : ds = true := by rw [hd]; exact decide_eq_true d0
                  rw [ed0, Bool.true_or] at HH
                  exact HH
        exact ⟨_, key2 4 0 (by omega) (by omega) true ⟨fun _ o' ho' => by omega, fun _ => rfl⟩⟩
      · have : j = K.length := by omega
        subst this
        have z3 : nI K.length ≤ nI K.length := nI_le (Nat.le_refl _) (by omega)
        rw [List.drop_length, List.any_nil, Bool.and_false] at HH
        simp only [wY_isKept_2, z3, forall_eq, not_true_eq_false, not_false_eq_true, true_implies, false_implies, implies_true, and_true, true_and, and_self]
        exact HH
  exact ⟨_, key (K.length + 1) 0 (by omega) (by omega) (by rw [List.drop_zero]; exact H)⟩
theorem nq_yOrd {post : SY → Prop} {P : List Nat} {N : Nat} {ds : Bool} (hd : ds = decide (dis ≠ 0)) (hN : N ≤ 216) (hP : P.Pairwise (nq_l2o og)) (hQ : P.Perm (List.range N)) (hR : nq_RA nq_f ro og yRe ySo (List.range N)) (hG : ∀ j : Nat, j < 216 → yGo j = 0) (H : ∀ yGo' yAn', nq_AA nq_f ro yAn' (nq_dd ds ro P) → post (src, dis, opn, sbt, sbr, dep, mny, mor, grs, (nI N), (nI (nq_dd ds ro P).length), yRo, yCe, yTo, yIl, ySz, yTk, yIn, yEn, ySu, yWc, yWi, yHa, ySk, yCo, yLo, yGo', yFi, yRe, ySo, yAn')) : wpY_order post (src, dis, opn, sbt, sbr, dep, mny, mor, grs, (nI N), kpt, yRo, yCe, yTo, yIl, ySz, yTk, yIn, yEn, ySu, yWc, yWi, yHa, ySk, yCo, yLo, yGo, yFi, yRe, ySo, yAn) := by
  have pl : P.length = N := by rw [hQ.length_eq, List.length_range]
  have rr : ∀ i, i < N → (∀ o, o < 3 → yRe (3 * i + o) = nq_f (ro i o)) ∧ ySo i = nq_f (og i) := fun i hi => hR i i (by rw [List.getElem?_range hi])
  have pm : ∀ i, i < N → i ∈ P := fun i hi => hQ.symm.subset (List.mem_range.mpr hi)
  have pn : ∀ i, i ∈ P → i < N := fun i hi => List.mem_range.mp (hQ.subset hi)
  have nd : P.Nodup := hQ.symm.nodup List.nodup_range
  have key : ∀ f m, m ≤ N → N - m < f → ∀ yGo yAn, (∀ i, i < N → (i ∈ P.take m → yGo i = 1) ∧ (i ∉ P.take m → yGo i = 0)) → nq_AA nq_f ro yAn (nq_dd ds ro (P.take m)) → wY_order_7 post src dis opn sbt sbr dep mny mor grs (nI N) f (nI m) (nI (nq_dd ds ro (P.take m)).length) yRo yCe yTo yIl ySz yTk yIn yEn ySu yWc yWi yHa ySk yCo yLo yGo yFi yRe ySo yAn := by
    intro f
    induction f with
    | zero => intro m _ h; omega
    | succ f ih =>
      intro m hm hf yGo yAn hI hA
      have kl := nq_dd_l (ds := ds) (ro := ro) (P.take m)
      rw [List.length_take] at kl
      rcases Nat.lt_or_ge m N with z | z
      · have z3 : ¬ nI N ≤ nI m := nI_ge z (by omega)
        have hml : m < P.length := by omega
        have hg : P[m]? = some P[m] := List.getElem?_eq_getElem hml
        have et : P.take (m + 1) = P.take m ++ [P[m]] := by rw [List.take_succ, hg]; rfl
        have hxN := pn _ (List.getElem_mem hml)
        have hun : P[m] ∉ P.take m := by
          intro hmem
          have := nd.sublist (List.take_sublist (m + 1) P)
          rw [et, List.nodup_append] at this
          exact this.2.2 _ hmem _ (by simp) rfl
        have hmin : ∀ c, c < N → c ∉ P.take m → c ≠ P[m] → nq_l2o og P[m] c := by
          intro c hc h1 h2
          have h3 := pm c hc
          rw [← List.take_append_drop m P] at h3
          have h4 := (List.mem_append.mp h3).resolve_left h1
          rw [List.drop_eq_getElem_cons hml] at h4
          have h5 := (List.mem_cons.mp h4).resolve_left h2
          have h6 := hP.sublist (List.drop_sublist m P)
          rw [List.drop_eq_getElem_cons hml, List.pairwise_cons] at h6
          exact h6.1 c h5
        simp only [wY_order_7, z3, forall_eq, not_true_eq_false, not_false_eq_true, true_implies, false_implies, implies_true, and_true, true_and, and_self]
        have fin : ∀ b, b = P[m] → vp_in (nI b) 216 ∧ wpY_isKept (fun r_5 => ((r_5 = 0 → wY_order_7 post src dis opn sbt sbr dep mny mor grs (nI N) f (nI (m + 1)) (nI (nq_dd ds ro (P.take m)).length) yRo yCe yTo yIl ySz yTk yIn yEn ySu yWc yWi yHa ySk yCo yLo (upd yGo b 1) yFi yRe ySo yAn) ∧ (¬ r_5 = 0 → ∃ n96, wY_order_96 post (wY_order_7 post src dis opn sbt sbr dep mny mor grs (nI N) f) (nI m) (nI b) src dis opn sbt sbr dep mny mor grs (nI N) (nI (nq_dd ds ro (P.take m)).length) n96 0 yRo yCe yTo yIl ySz yTk yIn yEn ySu yWc yWi yHa ySk yCo yLo (upd yGo b 1) yFi yRe ySo yAn))) (src, dis, opn, sbt, sbr, dep, mny, mor, grs, (nI N), (nI (nq_dd ds ro (P.take m)).length), yRo, yCe, yTo, yIl, ySz, yTk, yIn, yEn, ySu, yWc, yWi, yHa, ySk, yCo, yLo, (upd yGo b 1), yFi, yRe, ySo, yAn) (nI b) := by
          intro b hb
          have hbN : b < N := by rw [hb]; exact hxN
          refine ⟨vp_in_nI (by omega) (by decide), ?_⟩
          have hI' : ∀ i, i < N → (i ∈ P.take (m + 1) → upd yGo b 1 i = 1) ∧ (i ∉ P.take (m + 1) → upd yGo b 1 i = 0) := by
            intro i hi
            rw [et, ← hb]
            by_cases e : i = b
            · subst e
              rw [pk_us]
              exact ⟨fun _ => rfl, fun h => absurd (List.mem_append_right _ (List.mem_singleton.mpr rfl)) h⟩
            · rw [pk_un e]
              refine ⟨fun h => (hI i hi).1 ?_, fun h => (hI i hi).2 (fun h2 => h (List.mem_append_left _ h2))⟩
              rcases List.mem_append.mp h with y | y
              · exact y
              · exact absurd (List.mem_singleton.mp y) e
          have nn := fun yAn => ih (m + 1) (by omega) (by omega) (upd yGo b 1) yAn hI'
          rw [et, nq_dd_s, ← hb] at nn
          unfold nq_ddf at nn
          refine nq_yKept hd (by omega) (by omega) hA (rr b hbN).1 ?_
          simp only [nq_b0]
          rcases Bool.eq_false_or_eq_true (ds && (nq_dd ds ro (P.take m)).any (fun k => nq_sm ro k b)) with ha | ha
          · refine br_t (by rw [ha]; rfl) ?_
            rw [Bool.and_eq_true] at ha
            simp only [if_pos ha] at nn
            exact nn yAn hA
          · refine br_f (by rw [ha]; decide) ?_
            have ha' : ¬ (ds = true ∧ (nq_dd ds ro (P.take m)).any (fun k => nq_sm ro k b) = true) := fun h => by
              rw [h.2, h.1] at ha
              cases ha
            simp only [if_neg ha'] at nn
            have key2 : ∀ f2 o, o ≤ 3 → 3 - o < f2 → ∀ yAn', (∀ o', o' < o → yAn' (3 * (nq_dd ds ro (P.take m)).length + o') = nq_f (ro b o')) → (∀ j, j < 3 * (nq_dd ds ro (P.take m)).length → yAn' j = yAn j) → wY_order_96 post (wY_order_7 post src dis opn sbt sbr dep mny mor grs (nI N) f) (nI m) (nI b) src dis opn sbt sbr dep mny mor grs (nI N) (nI (nq_dd ds ro (P.take m)).length) f2 (nI o) yRo yCe yTo yIl ySz yTk yIn yEn ySu yWc yWi yHa ySk yCo yLo (upd yGo b 1) yFi yRe ySo yAn' := by
              intro f2
              induction f2 with
              | zero => intro o _ h; omega
              | succ f2 ih2 =>
                intro o ho hf2 yAn' h1 h2
                rcases Nat.lt_or_ge o 3 with y | y
                · have y3 : ¬ 3 ≤ nI o := nI_ge (b := 3) y (by decide)
                  have e1 : 3 * nI b + nI o = nI (3 * b + o) := by simp only [nq_i3, pk_mul, nI_add]
                  have e2 : 3 * nI (nq_dd ds ro (P.take m)).length + nI o = nI (3 * (nq_dd ds ro (P.take m)).length + o) := by simp only [nq_i3, pk_mul, nI_add]
                  have i1 : vp_in (nI (3 * b + o)) 648 := vp_in_nI (by omega) (by decide)
                  have c1 : (nI (3 * b + o)).toNatClampNeg = 3 * b + o := nI_clamp (by omega)
                  have i2 : vp_in (nI (3 * (nq_dd ds ro (P.take m)).length + o)) 648 := vp_in_nI (by omega) (by decide)
                  have c2 : (nI (3 * (nq_dd ds ro (P.take m)).length + o)).toNatClampNeg = 3 * (nq_dd ds ro (P.take m)).length + o := nI_clamp (by omega)
                  simp only [wY_order_96, y3, e1, e2, i1, c1, i2, c2, (rr b hbN).1 o y, nI_1, forall_eq, not_true_eq_false, not_false_eq_true, true_implies, false_implies, implies_true, and_true, true_and, and_self]
                  refine ih2 (o + 1) (by omega) (by omega) _ (fun o' ho' => ?_) (fun j hj => ?_)
                  · by_cases e : o' = o
                    · rw [e, pk_uLs]
                    · rw [pk_uLn (by omega)]
                      exact h1 o' (by omega)
                  · rw [pk_uLn (by omega)]
                    exact h2 j hj
                · have : o = 3 := by omega
                  subst this
                  simp only [wY_order_96, show (3 : Int32) ≤ nI 3 from by decide, nI_1, forall_eq, not_true_eq_false, not_false_eq_true, true_implies, false_implies, implies_true, and_true, true_and, and_self]
                  have := nn yAn' (nq_AA_a hA h1 h2)
                  rw [List.length_append, List.length_singleton] at this
                  exact this
            exact ⟨_, key2 4 0 (by omega) (by omega) yAn (fun o' ho' => by omega) (fun j _ => rfl)⟩
        have scan : ∀ f3 j, j ≤ N → N - j < f3 → ∀ nx : Option Nat, (nx = none → ∀ c, c < j → c ∈ P.take m) → (∀ b, nx = some b → b < j ∧ b ∉ P.take m ∧ ∀ c, c < j → c ∉ P.take m → c ≠ b → nq_l2o og b c) → wY_order_19 post (wY_order_7 post src dis opn sbt sbr dep mny mor grs (nI N) f) (nI m) src dis opn sbt sbr dep mny mor grs (nI N) (nI (nq_dd ds ro (P.take m)).length) yRo yCe yTo yIl ySz yTk yIn yEn ySu yWc yWi yHa ySk yCo yLo yGo yFi yRe ySo yAn f3 (nq_hx nx) (nI j) := by
          intro f3
          induction f3 with
          | zero => intro j _ h; omega
          | succ f3 ih3 =>
            intro j hj hf3 nx hn hs
            rcases Nat.lt_or_ge j N with y | y
            · have y3 : ¬ nI N ≤ nI j := nI_ge y (by omega)
              have ij : vp_in (nI j) 216 := vp_in_nI (by omega) (by decide)
              have cj : (nI j).toNatClampNeg = j := nI_clamp (by omega)
              by_cases hp : j ∈ P.take m
              · have g1 := (hI j y).1 hp
                simp only [wY_order_19, y3, ij, cj, g1, show ¬ (1 : Int32) = 0 from by decide, wY_order_41, nI_1, forall_eq, not_true_eq_false, not_false_eq_true, true_implies, false_implies, implies_true, and_true, true_and, and_self]
                refine ih3 (j + 1) (by omega) (by omega) nx (fun e c hc => ?_) (fun b e => ?_)
                · by_cases ec : c = j
                  · rw [ec]; exact hp
                  · exact hn e c (by omega)
                · obtain ⟨b1, b2, b3⟩ := hs b e
                  refine ⟨by omega, b2, fun c hc h1 h2 => ?_⟩
                  by_cases ec : c = j
                  · rw [ec] at h1; exact absurd hp h1
                  · exact b3 c (by omega) h1 h2
              · have g1 := (hI j y).2 hp
                simp only [wY_order_19, y3, ij, cj, g1, show ¬ (1 : Int32) = 0 from by decide, wY_order_41, nI_1, forall_eq, not_true_eq_false, not_false_eq_true, true_implies, false_implies, implies_true, and_true, true_and, and_self]
                have takej : (∀ c, c < j → c ∉ P.take m → nq_l2o og j c) → wY_order_19 post (wY_order_7 post src dis opn sbt sbr dep mny mor grs (nI N) f) (nI m) src dis opn sbt sbr dep mny mor grs (nI N) (nI (nq_dd ds ro (P.take m)).length) yRo yCe yTo yIl ySz yTk yIn yEn ySu yWc yWi yHa ySk yCo yLo yGo yFi yRe ySo yAn f3 (nI j) (nI (j + 1)) := by
                  intro hall
                  refine ih3 (j + 1) (by omega) (by omega) (some j) (fun e => by cases e) (fun b e => ?_)
                  cases e
                  exact ⟨by omega, hp, fun c hc h1 h2 => hall c (by omega) h1⟩
                cases nx with
                | none =>
                  refine br_t (show nq_hx none < 0 by decide) ?_
                  exact takej (fun c hc h1 => absurd (hn rfl c hc) h1)
                | some b =>
                  obtain ⟨b1, b2, b3⟩ := hs b rfl
                  have ib : vp_in (nI b) 216 := vp_in_nI (by omega) (by decide)
                  have cb : (nI b).toNatClampNeg = b := nI_clamp (by omega)
                  refine br_f (show ¬ nq_hx (some b) < 0 from nI_pos (by omega)) ?_
                  simp only [nq_hx, ib, cb, (rr j y).2, (rr b (by omega)).2, nq_yBefore, nq_b0, decide_eq_false_iff_not, forall_eq, not_true_eq_false, not_false_eq_true, true_implies, false_implies, implies_true, and_true, true_and, and_self]
                  by_cases q : nq_kv (og j) < nq_kv (og b)
                  · refine br_f (fun h => h q) ?_
                    refine takej (fun c hc h1 => ?_)
                    by_cases ec : c = b
                    · rw [ec]; exact Or.inl q
                    · have := b3 c hc h1 ec
                      unfold nq_l2o at this ⊢
                      omega
                  · refine br_t q ?_
                    refine ih3 (j + 1) (by omega) (by omega) (some b) (fun e => by cases e) (fun b' e => ?_)
                    cases e
                    refine ⟨by omega, b2, fun c hc h1 h2 => ?_⟩
                    by_cases ec : c = j
                    · rw [ec]
                      unfold nq_l2o
                      omega
                    · exact b3 c (by omega) h1 h2
            · have : j = N := by omega
              subst this
              have y3 : nI j ≤ nI j := nI_le (Nat.le_refl _) (by omega)
              cases nx with
              | none => exact absurd (hn rfl _ hxN) hun
              | some b =>
                obtain ⟨b1, b2, b3⟩ := hs b rfl
                have eb : b = P[m] := by
                  apply Classical.byContradiction
                  intro hne
                  have h1 := hmin b b1 b2 hne
                  have h2 := b3 P[m] hxN hun (fun e => hne e.symm)
                  unfold nq_l2o at h1 h2
                  omega
                have cb : (nI b).toNatClampNeg = b := nI_clamp (by omega)
                simp only [wY_order_19, y3, nq_hx, cb, nI_1, forall_eq, not_true_eq_false, not_false_eq_true, true_implies, false_implies, implies_true, and_true, true_and, and_self]
                exact fin b eb
        exact ⟨_, scan (N + 1) 0 (by omega) (by omega) none (fun _ c hc => by omega) (fun b e => by cases e)⟩
      · have : m = N := by omega
        subst this
        have z3 : nI m ≤ nI m := nI_le (Nat.le_refl _) (by omega)
        rw [List.take_of_length_le (by omega)] at hA ⊢
        simp only [wY_order_7, z3, forall_eq, not_true_eq_false, not_false_eq_true, true_implies, false_implies, implies_true, and_true, true_and, and_self]
        exact H _ _ hA
  exact ⟨_, key (N + 1) 0 (by omega) (by omega) yGo yAn (fun i hi => ⟨(fun h => by cases h), fun _ => hG i (by omega)⟩) (fun i g hg => by cases hg)⟩
end
end
section
section
variable {sc od nc tp cc gc ac : Int32} {Ce Sk Va An Ov : Nat → Int64} {Rc St Jl Tk Tn Su Ne Ha Cb Jd Go Fm : Nat → Int32}
variable {src dis opn sbt sbr dep mny mor grs fnd kpt : Int32} {ySk yRe ySo yAn : Nat → Int64} {yRo yCe yTo yIl ySz yTk yIn yEn ySu yWc yWi yHa yCo yLo yGo yFi : Nat → Int32}
variable {n t : Nat → Nat} {p : Nat} {cv : Nat → nq_V} {rw tb su : Nat → Nat}
theorem nq_xUnf {post : Int32 → Prop} (hT : nq_TT n t Tn Tk) (hW : nq_WF n t) (H1 : ¬ nq_Full n t → post 1) (H0 : nq_Full n t → post 0) : wpX_hasUnfinishedPart post (sc, od, nc, tp, cc, gc, ac, Ce, Rc, St, Jl, Tk, Tn, Su, Ne, Ha, Sk, Cb, Jd, Va, Go, Fm, An, Ov) := by
  have key : ∀ f p, p ≤ 10 → 10 - p < f → (∀ q, q < p → 0 < n q → nq_ws q t (n q) = []) → wX_hasUnfinishedPart_2 post sc od nc tp cc gc ac Ce Rc St Jl Tk Tn Su Ne Ha Sk Cb Jd Va Go Fm An Ov f (nI p) := by
    intro f
    induction f with
    | zero => intro p _ h; omega
    | succ f ih =>
      intro p hp hf hQ
      rcases Nat.lt_or_ge p 10 with z | z
      · have z3 : ¬ 10 ≤ nI p := nI_ge (b := 10) z (by decide)
        have ip : vp_in (nI p) 10 := vp_in_nI z (by decide)
        have cp : (nI p).toNatClampNeg = p := nI_clamp (by omega)
        have hn := (hT p z).1
        have ln := (hW p z).1
        simp only [wX_hasUnfinishedPart_2, z3, ip, cp, hn, show (nI (n p) < (0 : Int32)) = ((n p) < 0) from propext (nI_ltI (b := 0) (by omega) (by decide)), show ((0 : Int32) < nI (n p)) = (0 < (n p)) from propext (nI_ltI (a := 0) (by decide) (by omega)), show (nI (n p) ≤ (0 : Int32)) = ((n p) ≤ 0) from propext (nI_leI (b := 0) (by omega) (by decide)), show ((0 : Int32) ≤ nI (n p)) = (0 ≤ (n p)) from propext (nI_leI (a := 0) (by decide) (by omega)), show (nI (n p) = (0 : Int32)) = ((n p) = 0) from propext (nI_eq (b := 0) (by omega) (by decide)), nI_1, forall_eq, not_true_eq_false, not_false_eq_true, true_implies, false_implies, implies_true, and_true, true_and, and_self]
        by_cases h0 : n p ≤ 0
        · refine br_t h0 ?_
          refine ih (p + 1) (by omega) (by omega) (fun q hq hn0 => ?_)
          by_cases e : q = p
          · subst e; omega
          · exact hQ q (by omega) hn0
        · refine br_f h0 ?_
          refine nq_xOpen hT hW z ?_
          cases hw : nq_ws p t (n p) with
          | nil =>
            simp only [List.length_nil, nI_0, show (0 : Int32) ≤ 0 from by decide, forall_eq, not_true_eq_false, not_false_eq_true, true_implies, false_implies, implies_true, and_true, true_and, and_self]
            refine ih (p + 1) (by omega) (by omega) (fun q hq hn0 => ?_)
            by_cases e : q = p
            · rw [e]; exact hw
            · exact hQ q (by omega) hn0
          | cons w r =>
            have hl := (nq_wsI hW z (n p) (Nat.le_refl _)).1
            rw [hw, List.length_cons] at hl
            have o1 : ¬ nI (r.length + 1) ≤ 0 := nI_nle (by omega) (by omega)
            simp only [List.length_cons, o1, forall_eq, not_true_eq_false, not_false_eq_true, true_implies, false_implies, implies_true, and_true, true_and, and_self]
            exact H1 (fun hF => by have := hF p z (by omega); rw [hw] at this; cases this)
      · have : p = 10 := by omega
        subst this
        simp only [wX_hasUnfinishedPart_2, show (10 : Int32) ≤ nI 10 from by decide, forall_eq, not_true_eq_false, not_false_eq_true, true_implies, false_implies, implies_true, and_true, true_and, and_self]
        exact H0 hQ
  exact ⟨_, key 11 0 (by omega) (by omega) (fun q hq => by omega)⟩
/-- does a part name a source that is missing? -/
def nq_mis (n t : Nat → Nat) (S p : Nat) : Prop := ∃ k, k < n p ∧ nq_col (t (20 * p + k)) = true ∧ t (20 * p + k) / 10 ≠ 3 ∧ S ≤ t (20 * p + k) / 10
theorem nq_col4 {t : Nat} (h : nq_col t = true) : t / 10 ≤ 3 := by
  unfold nq_col at h
  rw [decide_eq_true_eq] at h
  omega
theorem nq_xMis {post : Int32 → Prop} {S : Nat} (hS : S ≤ 3) (hT : nq_TT n t Tn Tk) (hW : nq_WF n t) (H1 : (∃ p, p < 10 ∧ nq_mis n t S p) → post 1) (H0 : (∀ p, p < 10 → ¬ nq_mis n t S p) → post 0) : wpX_namesMissingSource post ((nI S), od, nc, tp, cc, gc, ac, Ce, Rc, St, Jl, Tk, Tn, Su, Ne, Ha, Sk, Cb, Jd, Va, Go, Fm, An, Ov) := by
  have key : ∀ f p, p ≤ 10 → 10 - p < f → (∀ q, q < p → ¬ nq_mis n t S q) → wX_namesMissingSource_2 post (nI S) od nc tp cc gc ac Ce Rc St Jl Tk Tn Su Ne Ha Sk Cb Jd Va Go Fm An Ov f (nI p) := by
    intro f
    induction f with
    | zero => intro p _ h; omega
    | succ f ih =>
      intro p hp hf hQ
      rcases Nat.lt_or_ge p 10 with z | z
      · have z3 : ¬ 10 ≤ nI p := nI_ge (b := 10) z (by decide)
        have ip : vp_in (nI p) 10 := vp_in_nI z (by decide)
        have cp : (nI p).toNatClampNeg = p := nI_clamp (by omega)
        have hn := (hT p z).1
        have ln := (hW p z).1
        simp only [wX_namesMissingSource_2, z3, forall_eq, not_true_eq_false, not_false_eq_true, true_implies, false_implies, implies_true, and_true, true_and, and_self]
        have key2 : ∀ f2 k, k ≤ n p → n p - k < f2 → (∀ j, j < k → ¬ (nq_col (t (20 * p + j)) = true ∧ t (20 * p + j) / 10 ≠ 3 ∧ S ≤ t (20 * p + j) / 10)) → wX_namesMissingSource_10 post (wX_namesMissingSource_2 post (nI S) od nc tp cc gc ac Ce Rc St Jl Tk Tn Su Ne Ha Sk Cb Jd Va Go Fm An Ov f) (nI p) (nI S) od nc tp cc gc ac Ce Rc St Jl Tk Tn Su Ne Ha Sk Cb Jd Va Go Fm An Ov f2 (nI k) := by
          intro f2
          induction f2 with
          | zero => intro k _ h; omega
          | succ f2 ih2 =>
            intro k hk hf2 hJ
            rcases Nat.lt_or_ge k (n p) with y | y
            · have y3 : ¬ nI (n p) ≤ nI k := nI_ge y (by omega)
              have x0 : nI p * 20 + nI k = nI (20 * p + k) := by
                simp only [nq_i20, pk_mul, nI_add]
                exact congrArg nI (by omega)
              have i0 : vp_in (nI (20 * p + k)) 200 := vp_in_nI (by omega) (by decide)
              have c0 : (nI (20 * p + k)).toNatClampNeg = 20 * p + k := nI_clamp (by omega)
              have t153 := (nq_opS hW z y).2.2
              have tlt : t (20 * p + k) < 2147483648 := by omega
              simp only [wX_namesMissingSource_10, ip, cp, hn, y3, x0, i0, c0, (hT p z).2 k y, nq_tn0, nq_div tlt, nq_xCol tlt, nq_b0, show (nI (t (20 * p + k) / 10) < (3 : Int32)) = ((t (20 * p + k) / 10) < 3) from propext (nI_ltI (b := 3) (nq_d10 tlt) (by decide)), show ((3 : Int32) < nI (t (20 * p + k) / 10)) = (3 < (t (20 * p + k) / 10)) from propext (nI_ltI (a := 3) (by decide) (nq_d10 tlt)), show (nI (t (20 * p + k) / 10) ≤ (3 : Int32)) = ((t (20 * p + k) / 10) ≤ 3) from propext (nI_leI (b := 3) (nq_d10 tlt) (by decide)), show ((3 : Int32) ≤ nI (t (20 * p + k) / 10)) = (3 ≤ (t (20 * p + k) / 10)) from propext (nI_leI (a := 3) (by decide) (nq_d10 tlt)), show (nI (t (20 * p + k) / 10) = (3 : Int32)) = ((t (20 * p + k) / 10) = 3) from propext (nI_eq (b := 3) (nq_d10 tlt) (by decide)), show (nI (t (20 * p + k) / 10) < nI S) = (t (20 * p + k) / 10 < S) from propext (nI_ltI (nq_d10 tlt) (by omega)), nI_1, forall_eq, not_true_eq_false, not_false_eq_true, true_implies, false_implies, implies_true, and_true, true_and, and_self]
              have skip : ¬ (nq_col (t (20 * p + k)) = true ∧ t (20 * p + k) / 10 ≠ 3 ∧ S ≤ t (20 * p + k) / 10) → wX_namesMissingSource_10 post (wX_namesMissingSource_2 post (nI S) od nc tp cc gc ac Ce Rc St Jl Tk Tn Su Ne Ha Sk Cb Jd Va Go Fm An Ov f) (nI p) (nI S) od nc tp cc gc ac Ce Rc St Jl Tk Tn Su Ne Ha Sk Cb Jd Va Go Fm An Ov f2 (nI (k + 1)) := by
                intro hno
                refine ih2 (k + 1) (by omega) (by omega) (fun j hj => ?_)
                by_cases e : j = k
                · rw [e]; exact hno
                · exact hJ j (by omega)
              rcases Bool.eq_false_or_eq_true (nq_col (t (20 * p + k))) with hc | hc
              · refine br_f (by rw [hc]; decide) ?_
                by_cases e3 : t (20 * p + k) / 10 = 3
                · exact br_t e3 (skip (fun h => h.2.1 e3))
                · refine br_f e3 ?_
                  by_cases eS : t (20 * p + k) / 10 < S
                  · exact br_t eS (skip (fun h => by omega))
                  · exact br_f eS (H1 ⟨p, z, k, y, hc, e3, by omega⟩)
              · exact br_t hc (skip (fun h => by rw [hc] at h; exact absurd h.1 (by decide)))
            · have : k = n p := by omega
              subst this
              have y3 : nI (n p) ≤ nI (n p) := nI_le (Nat.le_refl _) (by omega)
              simp only [wX_namesMissingSource_10, ip, cp, hn, y3, nI_1, forall_eq, not_true_eq_false, not_false_eq_true, true_implies, false_implies, implies_true, and_true, true_and, and_self]
              refine ih (p + 1) (by omega) (by omega) (fun q hq hm => ?_)
              by_cases e : q = p
              · subst e
                obtain ⟨k, hk, h2⟩ := hm
                exact hJ k hk h2
              · exact hQ q (by omega) hm
        exact ⟨_, key2 (n p + 1) 0 (by omega) (by omega) (fun j hj => by omega)⟩
      · have : p = 10 := by omega
        subst this
        simp only [wX_namesMissingSource_2, show (10 : Int32) ≤ nI 10 from by decide, forall_eq, not_true_eq_false, not_false_eq_true, true_implies, false_implies, implies_true, and_true, true_and, and_self]
        exact H0 hQ
  exact ⟨_, key 11 0 (by omega) (by omega) (fun q hq => by omega)⟩
theorem nq_yMis {post : Int32 → Prop} {S : Nat} (hS : S ≤ 3) (hT : nq_TT n t ySz yTk) (hW : nq_WF n t) (hp : p < 10) (H1 : nq_mis n t S p → post 1) (H0 : ¬ nq_mis n t S p → post 0) : wpY_namesMissing post ((nI S), dis, opn, sbt, sbr, dep, mny, mor, grs, fnd, kpt, yRo, yCe, yTo, yIl, ySz, yTk, yIn, yEn, ySu, yWc, yWi, yHa, ySk, yCo, yLo, yGo, yFi, yRe, ySo, yAn) (nI p) := by
  have ip : vp_in (nI p) 10 := vp_in_nI hp (by decide)
  have cp : (nI p).toNatClampNeg = p := nI_clamp (by omega)
  have hn := (hT p hp).1
  have ln := (hW p hp).1
  have e20 : 20 * nI p = nI (20 * p) := by simp only [nq_i20, pk_mul]
  simp only [wpY_namesMissing, e20, forall_eq, not_true_eq_false, not_false_eq_true, true_implies, false_implies, implies_true, and_true, true_and, and_self]
  have key2 : ∀ f2 k, k ≤ n p → n p - k < f2 → (∀ j, j < k → ¬ (nq_col (t (20 * p + j)) = true ∧ t (20 * p + j) / 10 ≠ 3 ∧ S ≤ t (20 * p + j) / 10)) → wY_namesMissing_5 post (nI p) (nI S) dis opn sbt sbr dep mny mor grs fnd kpt yRo yCe yTo yIl ySz yTk yIn yEn ySu yWc yWi yHa ySk yCo yLo yGo yFi yRe ySo yAn f2 (nI (20 * p + k)) := by
    intro f2
    induction f2 with
    | zero => intro k _ h; omega
    | succ f2 ih2 =>
      intro k hk hf2 hJ
      rcases Nat.lt_or_ge k (n p) with y | y
      · have y3 : ¬ nI (20 * p + n p) ≤ nI (20 * p + k) := nI_ge (by omega) (by omega)
        have i0 : vp_in (nI (20 * p + k)) 200 := vp_in_nI (by omega) (by decide)
        have c0 : (nI (20 * p + k)).toNatClampNeg = 20 * p + k := nI_clamp (by omega)
        have t153 := (nq_opS hW hp y).2.2
        have tlt : t (20 * p + k) < 2147483648 := by omega
        have e1 : nI (20 * p + k) + 1 = nI (20 * p + (k + 1)) := nI_1 _
        simp only [wY_namesMissing_5, ip, cp, hn, e20, nI_add, y3, i0, c0, (hT p hp).2 k y, nq_tn0, nq_div tlt, nq_yCol tlt, nq_b0, show (nI (t (20 * p + k) / 10) < (3 : Int32)) = ((t (20 * p + k) / 10) < 3) from propext (nI_ltI (b := 3) (nq_d10 tlt) (by decide)), show ((3 : Int32) < nI (t (20 * p + k) / 10)) = (3 < (t (20 * p + k) / 10)) from propext (nI_ltI (a := 3) (by decide) (nq_d10 tlt)), show (nI (t (20 * p + k) / 10) ≤ (3 : Int32)) = ((t (20 * p + k) / 10) ≤ 3) from propext (nI_leI (b := 3) (nq_d10 tlt) (by decide)), show ((3 : Int32) ≤ nI (t (20 * p + k) / 10)) = (3 ≤ (t (20 * p + k) / 10)) from propext (nI_leI (a := 3) (by decide) (nq_d10 tlt)), show (nI (t (20 * p + k) / 10) = (3 : Int32)) = ((t (20 * p + k) / 10) = 3) from propext (nI_eq (b := 3) (nq_d10 tlt) (by decide)), show (nI (t (20 * p + k) / 10) < nI S) = (t (20 * p + k) / 10 < S) from propext (nI_ltI (nq_d10 tlt) (by omega)), e1, forall_eq, not_true_eq_false, not_false_eq_true, true_implies, false_implies, implies_true, and_true, true_and, and_self]
        have skip : ¬ (nq_col (t (20 * p + k)) = true ∧ t (20 * p + k) / 10 ≠ 3 ∧ S ≤ t (20 * p + k) / 10) → wY_namesMissing_5 post (nI p) (nI S) dis opn sbt sbr dep mny mor grs fnd kpt yRo yCe yTo yIl ySz yTk yIn yEn ySu yWc yWi yHa ySk yCo yLo yGo yFi yRe ySo yAn f2 (nI (20 * p + (k + 1))) := by
          intro hno
          refine ih2 (k + 1) (by omega) (by omega) (fun j hj => ?_)
          by_cases e : j = k
          · rw [e]; exact hno
          · exact hJ j (by omega)
        rcases Bool.eq_false_or_eq_true (nq_col (t (20 * p + k))) with hc | hc
        · refine br_f (by rw [hc]; decide) ?_
          have c4 := nq_col4 hc
          by_cases e3 : 3 ≤ t (20 * p + k) / 10
          · exact br_t e3 (skip (fun h => h.2.1 (by omega)))
          · refine br_f e3 ?_
            by_cases eS : t (20 * p + k) / 10 < S
            · exact br_t eS (skip (fun h => by omega))
            · exact br_f eS (H1 ⟨k, y, hc, by omega, by omega⟩)
        · exact br_t hc (skip (fun h => by rw [hc] at h; exact absurd h.1 (by decide)))
      · have : k = n p := by omega
        subst this
        have y3 : nI (20 * p + n p) ≤ nI (20 * p + n p) := nI_le (Nat.le_refl _) (by omega)
        simp only [wY_namesMissing_5, ip, cp, hn, e20, nI_add, y3, forall_eq, not_true_eq_false, not_false_eq_true, true_implies, false_implies, implies_true, and_true, true_and, and_self]
        exact H0 (fun hm => by
          obtain ⟨k, hk, h2⟩ := hm
          exact hJ k hk h2)
  exact ⟨_, key2 (n p + 1) 0 (by omega) (by omega) (fun j hj => by omega)⟩
theorem nq_yState {post : Int32 → SY → Prop} (hT : nq_TT n t ySz yTk) (hW : nq_WF n t) (hp : p < 10) (H : ∀ opn' yIn' yWc' yWi', post (if n p = 0 then 0 else if nq_ws p t (n p) = [] then 1 else -1) (src, dis, opn', sbt, sbr, dep, mny, mor, grs, fnd, kpt, yRo, yCe, yTo, yIl, ySz, yTk, yIn', yEn, ySu, yWc', yWi', yHa, ySk, yCo, yLo, yGo, yFi, yRe, ySo, yAn)) : wpY_state post (src, dis, opn, sbt, sbr, dep, mny, mor, grs, fnd, kpt, yRo, yCe, yTo, yIl, ySz, yTk, yIn, yEn, ySu, yWc, yWi, yHa, ySk, yCo, yLo, yGo, yFi, yRe, ySo, yAn) (nI p) := by
  have e1 : ¬ nI p < 0 := nI_pos (by omega)
  have e2 : nI p ≤ 9 := nI_le (b := 9) (by omega) (by decide)
  have cp : (nI p).toNatClampNeg = p := nI_clamp (by omega)
  have vp : vp_in (nI p) 10 := vp_in_nI hp (by decide)
  have hn := (hW p hp).1
  have hl1 := nq_wsI hW hp (n p) (Nat.le_refl _)
  simp only [wpY_state, e1, e2, forall_eq, not_true_eq_false, not_false_eq_true, true_implies, false_implies, implies_true, and_true, true_and, and_self]
  refine nq_yScan hT hW hp fun yIn' yWc' yWi' hS' _ _ => ?_
  have HH := fun o => H o yIn' yWc' yWi'
  by_cases h0 : n p = 0
  · have x0 : nI (n p) = 0 := by rw [h0]; rfl
    have hw : (nq_ws p t (n p)).length = 1 := by rw [h0]; rfl
    simp only [h0, if_true] at HH
    simp only [hw, show ¬ nI 1 = 0 from by decide, vp, cp, (hT p hp).1, x0, forall_eq, not_true_eq_false, not_false_eq_true, true_implies, false_implies, implies_true, and_true, true_and, and_self]
    exact HH _
  · have x0 : ¬ nI (n p) = 0 := nI_ne0 (by omega) (by omega)
    simp only [h0, if_false] at HH
    cases hw : nq_ws p t (n p) with
    | nil =>
      simp only [hw, if_true] at HH
      simp only [List.length_nil, nI_0, forall_eq, not_true_eq_false, not_false_eq_true, true_implies, false_implies, implies_true, and_true, true_and, and_self]
      exact HH _
    | cons w r =>
      rw [hw] at hl1
      have lr : r.length ≤ 2 * n p := by have := hl1.1; rw [List.length_cons] at this; omega
      have o1 : ¬ nI (r.length + 1) = 0 := nI_ne0 (by omega) (by omega)
      simp only [hw, reduceCtorEq, if_false] at HH
      simp only [List.length_cons, o1, cp, vp, (hT p hp).1, x0, forall_eq, not_true_eq_false, not_false_eq_true, true_implies, false_implies, implies_true, and_true, true_and, and_self]
      exact HH _
/-- the reference's run up to the joins -/
theorem nq_yStart {post : Int32 → SY → Prop} {S : Nat} (hS : S ≤ 3) (hT : nq_TT n t ySz yTk) (hW : nq_WF n t)
    (HB : (¬ nq_Full n t ∨ ∃ p, p < 10 ∧ nq_mis n t S p) → ∀ opn' yIn' yWc' yWi', post (-2000) ((nI S), dis, opn', sbt, sbr, dep, mny, mor, grs, fnd, kpt, yRo, yCe, yTo, yIl, ySz, yTk, yIn', yEn, ySu, yWc', yWi', yHa, ySk, yCo, yLo, yGo, yFi, yRe, ySo, yAn))
    (HG : nq_Full n t → (∀ p, p < 10 → ¬ nq_mis n t S p) → ∀ opn' yIn' yWc' yWi' yEn', (∀ p, p < 10 → nq_In n t p yIn') → (∀ p, p < 10 → ∀ k, k < n p → yEn' (20 * p + k) = nI (nq_en p t k)) → wpY_combine (fun u => match u with | (src1, dis1, opn1, sbt1, sbr1, dep1, mny1, mor1, grs1, fnd1, kpt1, yRo1, yCe1, yTo1, yIl1, ySz1, yTk1, yIn1, yEn1, ySu1, yWc1, yWi1, yHa1, ySk1, yCo1, yLo1, yGo1, yFi1, yRe1, ySo1, yAn1) => wpY_group (fun u => match u with | (src2, dis2, opn2, sbt2, sbr2, dep2, mny2, mor2, grs2, fnd2, kpt2, yRo2, yCe2, yTo2, yIl2, ySz2, yTk2, yIn2, yEn2, ySu2, yWc2, yWi2, yHa2, ySk2, yCo2, yLo2, yGo2, yFi2, yRe2, ySo2, yAn2) => ∃ n97, wY_run_97 post n97 0 src2 dis2 opn2 sbt2 sbr2 dep2 mny2 mor2 grs2 0 kpt2 yRo2 yCe2 yTo2 yIl2 ySz2 yTk2 yIn2 yEn2 ySu2 yWc2 yWi2 yHa2 ySk2 yCo2 yLo2 yGo2 yFi2 yRe2 ySo2 yAn2) (src1, dis1, opn1, sbt1, sbr1, dep1, mny1, mor1, grs1, fnd1, kpt1, yRo1, yCe1, yTo1, yIl1, ySz1, yTk1, yIn1, yEn1, ySu1, yWc1, yWi1, yHa1, ySk1, yCo1, yLo1, yGo1, yFi1, yRe1, ySo1, yAn1)) ((nI S), dis, opn', sbt, sbr, dep, mny, mor, grs, fnd, kpt, yRo, yCe, yTo, yIl, ySz, yTk, yIn', yEn', ySu, yWc', yWi', yHa, ySk, yCo, yLo, yGo, yFi, yRe, ySo, yAn)) :
    ∃ f, wY_run_13 post f 0 (nI S) dis opn sbt sbr dep mny mor grs fnd kpt yRo yCe yTo yIl ySz yTk yIn yEn ySu yWc yWi yHa ySk yCo yLo yGo yFi yRe ySo yAn := by
  have key65 : nq_Full n t → (∀ p, p < 10 → ¬ nq_mis n t S p) → ∀ f p, p ≤ 10 → 10 - p < f → ∀ opn yIn yWc yWi yEn, (∀ q, q < p → nq_In n t q yIn) → (∀ q, q < p → ∀ k, k < n q → yEn (20 * q + k) = nI (nq_en q t k)) → wY_run_65 post f (nI p) (nI S) dis opn sbt sbr dep mny mor grs fnd kpt yRo yCe yTo yIl ySz yTk yIn yEn ySu yWc yWi yHa ySk yCo yLo yGo yFi yRe ySo yAn := by
    intro hF hM f
    induction f with
    | zero => intro p _ h; omega
    | succ f ih =>
      intro p hp hf opn yIn yWc yWi yEn h1 h2
      rcases Nat.lt_or_ge p 10 with z | z
      · have z3 : ¬ 10 ≤ nI p := nI_ge (b := 10) z (by decide)
        simp only [wY_run_65, z3, nI_1, forall_eq, not_true_eq_false, not_false_eq_true, true_implies, false_implies, implies_true, and_true, true_and, and_self]
        refine nq_yMark hT hW z (hF p z) fun opn' yIn' yWc' yWi' yEn' a1 a2 a3 a4 => ?_
        refine ih (p + 1) (by omega) (by omega) opn' yIn' yWc' yWi' yEn' (fun q hq => ?_) (fun q hq => ?_)
        · by_cases e : q = p
          · rw [e]; exact a1
          · intro i hi w r hw
            have := (hW q (by omega)).1
            rw [a2 _ (by omega)]
            exact h1 q (by omega) i hi w r hw
        · by_cases e : q = p
          · rw [e]; exact a3
          · intro k hk
            have := (hW q (by omega)).1
            rw [a4 _ (by omega)]
            exact h2 q (by omega) k hk
      · have : p = 10 := by omega
        subst this
        simp only [wY_run_65, show (10 : Int32) ≤ nI 10 from by decide, forall_eq, not_true_eq_false, not_false_eq_true, true_implies, false_implies, implies_true, and_true, true_and, and_self]
        exact HG hF hM _ _ _ _ _ h1 h2
  have key39 : nq_Full n t → ∀ opn yIn yWc yWi, ∀ f p, p ≤ 10 → 10 - p < f → (∀ q, q < p → ¬ nq_mis n t S q) → wY_run_39 post (nI S) dis opn sbt sbr dep mny mor grs fnd kpt yRo yCe yTo yIl ySz yTk yIn yEn ySu yWc yWi yHa ySk yCo yLo yGo yFi yRe ySo yAn f (nI p) := by
    intro hF opn yIn yWc yWi f
    induction f with
    | zero => intro p _ h; omega
    | succ f ih =>
      intro p hp hf hQ
      rcases Nat.lt_or_ge p 10 with z | z
      · have z3 : ¬ 10 ≤ nI p := nI_ge (b := 10) z (by decide)
        simp only [wY_run_39, z3, nI_1, forall_eq, not_true_eq_false, not_false_eq_true, true_implies, false_implies, implies_true, and_true, true_and, and_self]
        refine nq_yMis hS hT hW z (fun hm => ?_) (fun hm => ?_)
        · refine br_f (by decide) ?_
          exact HB (Or.inr ⟨p, z, hm⟩) _ _ _ _
        · refine br_t rfl ?_
          refine ih (p + 1) (by omega) (by omega) (fun q hq => ?_)
          by_cases e : q = p
          · rw [e]; exact hm
          · exact hQ q (by omega)
      · have : p = 10 := by omega
        subst this
        simp only [wY_run_39, show (10 : Int32) ≤ nI 10 from by decide, forall_eq, not_true_eq_false, not_false_eq_true, true_implies, false_implies, implies_true, and_true, true_and, and_self]
        exact ⟨_, key65 hF hQ 11 0 (by omega) (by omega) opn yIn yWc yWi yEn (fun q hq => by omega) (fun q hq => by omega)⟩
  have key13 : ∀ f p, p ≤ 10 → 10 - p < f → ∀ opn yIn yWc yWi, (∀ q, q < p → 0 < n q → nq_ws q t (n q) = []) → wY_run_13 post f (nI p) (nI S) dis opn sbt sbr dep mny mor grs fnd kpt yRo yCe yTo yIl ySz yTk yIn yEn ySu yWc yWi yHa ySk yCo yLo yGo yFi yRe ySo yAn := by
    intro f
    induction f with
    | zero => intro p _ h; omega
    | succ f ih =>
      intro p hp hf opn yIn yWc yWi hQ
      rcases Nat.lt_or_ge p 10 with z | z
      · have z3 : ¬ 10 ≤ nI p := nI_ge (b := 10) z (by decide)
        simp only [wY_run_13, z3, nI_1, forall_eq, not_true_eq_false, not_false_eq_true, true_implies, false_implies, implies_true, and_true, true_and, and_self]
        refine nq_yState hT hW z fun opn' yIn' yWc' yWi' => ?_
        by_cases h0 : n p = 0
        · rw [if_pos h0]
          refine br_t (by decide) ?_
          refine ih (p + 1) (by omega) (by omega) _ _ _ _ (fun q hq hn0 => ?_)
          by_cases e : q = p
          · subst e; omega
          · exact hQ q (by omega) hn0
        · rw [if_neg h0]
          by_cases hw : nq_ws p t (n p) = []
          · rw [if_pos hw]
            refine br_t (by decide) ?_
            refine ih (p + 1) (by omega) (by omega) _ _ _ _ (fun q hq hn0 => ?_)
            by_cases e : q = p
            · rw [e]; exact hw
            · exact hQ q (by omega) hn0
          · rw [if_neg hw]
            refine br_f (by decide) ?_
            exact HB (Or.inl (fun hF => hw (hF p z (by omega)))) _ _ _ _
      · have : p = 10 := by omega
        subst this
        simp only [wY_run_13, show (10 : Int32) ≤ nI 10 from by decide, forall_eq, not_true_eq_false, not_false_eq_true, true_implies, false_implies, implies_true, and_true, true_and, and_self]
        exact ⟨_, key39 hQ opn yIn yWc yWi 11 0 (by omega) (by omega) (fun q hq => by omega)⟩
  exact ⟨_, key13 11 0 (by omega) (by omega) opn yIn yWc yWi (fun q hq => by omega)⟩
end
end
section
section
variable {sc od nc tp cc gc ac : Int32} {Ce Sk Va An Ov : Nat → Int64} {Rc St Jl Tk Tn Su Ne Ha Cb Jd Go Fm : Nat → Int32}
variable {src dis opn sbt sbr dep mny mor grs fnd kpt : Int32} {ySk yRe ySo yAn : Nat → Int64} {yRo yCe yTo yIl ySz yTk yIn yEn ySu yWc yWi yHa yCo yLo yGo yFi : Nat → Int32}
variable {n t : Nat → Nat} {p : Nat} {cv : Nat → nq_V} {rw tb su F G : Nat → Nat} {vf : Nat → (Nat → Option Nat) → nq_V} {lf : Nat → Bool} {C : List (Nat → Option Nat)} {ka : Nat → Nat → nq_V} {ro : Nat → Nat → nq_V} {og : Nat → nq_V} {S gN : Nat} {L0 : List Nat}
theorem nq_facts (hR : ∀ s, s < 3 → rw (tb s) ≤ 6) (hS : S ≤ 3) (hC : C = nq_cwh vf lf rw tb S) (hF : F = (nq_gs (nq_gr n su) ka C.length).2.1) (hG : G = (nq_gs (nq_gr n su) ka C.length).2.2) (hgN : gN = nq_gN n su ka C.length) (hL : L0 = nq_gk ka F gN) :
    nq_Cok C ∧ C.length ≤ 216 ∧ (nq_c1 C).length ≤ 216 ∧ C.length ≤ (nq_c1 C).length ∧ gN ≤ 216 ∧ (∀ g, g < gN → F g < (nq_c1 C).length) ∧ (∀ j, j < C.length → G j < 216) ∧ L0.length ≤ 216 := by
  obtain ⟨k1, k2, k3⟩ := nq_cmb_ok (vf := vf) (lf := lf) hR S hS
  have k4 := nq_cmb_216 (vf := vf) (lf := lf) hR hS
  have c1 : nq_Cok C := by
    rw [hC]
    intro g hg
    unfold nq_cwh at hg
    exact k1 g (List.mem_filter.mp hg).1
  have c2 : C.length ≤ 216 := by
    rw [hC]
    unfold nq_cwh
    exact Nat.le_trans (List.length_filter_le _ _) k4
  obtain ⟨g1, g2, g3⟩ := nq_gsI (gr := nq_gr n su) (ka := ka) C.length
  rw [← hF] at g2
  rw [← hG] at g3
  have e1 : nq_e0 n su C.length = true → C.length = 0 := fun h => by
    unfold nq_e0 at h
    rw [decide_eq_true_eq] at h
    exact h.1
  have gb : gN ≤ 216 := by
    rw [hgN]
    unfold nq_gN
    split
    · omega
    · omega
  refine ⟨c1, c2, ?_, ?_, gb, fun g hg => ?_, fun j hj => ?_, ?_⟩
  · unfold nq_c1
    split
    · decide
    · exact c2
  · unfold nq_c1
    split
    · omega
    · exact Nat.le_refl _
  · rw [hgN] at hg
    unfold nq_gN at hg
    split at hg
    · rename_i h
      have h0 := e1 h
      have : F g = 0 := by rw [hF, h0]; rfl
      unfold nq_c1
      rw [if_pos h0, this]
      decide
    · have := g2 g hg
      unfold nq_c1
      rw [if_neg (by omega)]
      exact this
  · have := g3 j hj
    omega
  · rw [hL]
    exact Nat.le_trans nq_gk_l gb
theorem nq_RAr {enc : nq_V → Int64} {A O : Nat → Int64} {ro0 : Nat → Nat → nq_V} {og0 : Nat → nq_V} (h : nq_RA enc ro0 og0 A O L0) (hro : ro = fun i o => ro0 (L0.getD i 0) o) (hog : og = fun i => og0 (L0.getD i 0)) : nq_RA enc ro og A O (List.range L0.length) := by
  intro i g hg
  have hi : i < L0.length := by
    rw [List.getElem?_eq_some_iff] at hg
    have := hg.1
    rwa [List.length_range] at this
  rw [List.getElem?_range hi] at hg
  cases hg
  have e : L0[i]? = some (L0.getD i 0) := by
    rw [List.getD_eq_getElem?_getD, List.getElem?_eq_getElem hi]
    rfl
  rw [hro, hog]
  exact h i _ e
theorem nq_xDropL {post : SX → Prop} {P : List Nat} {m : Nat} (hm : P.length = m) (hN : P.length ≤ 216) (hA : nq_AA nq_e ro An P) (H : ∀ An', nq_AA nq_e ro An' (nq_dd true ro P) → post (sc, od, nc, tp, cc, gc, (nI (nq_dd true ro P).length), Ce, Rc, St, Jl, Tk, Tn, Su, Ne, Ha, Sk, Cb, Jd, Va, Go, Fm, An', Ov)) : wpX_dropRepeats post (sc, od, nc, tp, cc, gc, (nI m), Ce, Rc, St, Jl, Tk, Tn, Su, Ne, Ha, Sk, Cb, Jd, Va, Go, Fm, An, Ov) := by
  subst hm
  exact nq_xDrop hN hA H
theorem nq_AAj {enc : nq_V → Int64} {A : Nat → Int64} {K : List Nat} (h : nq_AA enc ro A K) {j : Nat} (hj : j < 3 * K.length) : A j = enc (ro (K.getD (j / 3) 0) (j % 3)) := by
  have hi : j / 3 < K.length := by omega
  have e : K[j / 3]? = some (K.getD (j / 3) 0) := by
    rw [List.getD_eq_getElem?_getD, List.getElem?_eq_getElem hi]
    rfl
  have := h (j / 3) _ e (j % 3) (by omega)
  rwa [show 3 * (j / 3) + j % 3 = j by omega] at this
theorem nq_xTail {post : Int32 → SX → Prop} (hT : nq_TT n t Tn Tk) (hW : nq_WF n t) (hFl : nq_Full n t) (hRw : nq_RW rw Rc) (hTb : nq_TB tb St) (hSu : nq_SU su Su) (hS : S ≤ 3) (hlf : ∀ s, lf s = decide (Jl s ≠ 0)) (hvf : vf = nq_val cv rw tb n t) (hC : C = nq_cwh vf lf rw tb S) (hka : ka = nq_ka vf (nq_c1 C)) (hF : F = (nq_gs (nq_gr n su) ka C.length).2.1) (hG : G = (nq_gs (nq_gr n su) ka C.length).2.2) (hgN : gN = nq_gN n su ka C.length) (hL : L0 = nq_gk ka F gN) (hro : ro = fun i o => nq_out n su ka F G C.length (L0.getD i 0) o) (hog : og = fun i => ka 9 (F (L0.getD i 0)))
    (H : ∀ tp' cc' gc' Ha' Sk' Cb' Jd' Va' Go' Fm' An' Ov' P, P.Pairwise (nq_l2o og) → P.Perm (List.range L0.length) → nq_AA nq_e ro An' (nq_dd (decide (od ≠ 0)) ro P) → post (nI (nq_dd (decide (od ≠ 0)) ro P).length) ((nI S), od, nc, tp', cc', gc', (nI (nq_dd (decide (od ≠ 0)) ro P).length), (fun j => nq_e (cv j)), Rc, St, Jl, Tk, Tn, Su, Ne, Ha', Sk', Cb', Jd', Va', Go', Fm', An', Ov')) :
    ∀ f s, s ≤ S → S - s < f → ∀ tp Ha Sk Cb Jd, Ha 3 = -1 → nq_CA (nq_ex tb) Cb (nq_cmb vf lf rw tb s) → wX_run_31 post f (nI s) (nI S) od nc tp (nI (nq_cmb vf lf rw tb s).length) gc ac (fun j => nq_e (cv j)) Rc St Jl Tk Tn Su Ne Ha Sk Cb Jd Va Go Fm An Ov := by
  have hR : ∀ s, s < 3 → rw (tb s) ≤ 6 := fun s hs => (hRw (tb s) (hTb s hs).1).1
  obtain ⟨c1, c2, c3, c4, c5, c6, c7, c8⟩ := nq_facts (vf := vf) (lf := lf) (n := n) (su := su) hR hS hC hF hG hgN hL
  intro f
  induction f with
  | zero => intro s _ h; omega
  | succ f ih =>
    intro s hs hf tp Ha Sk Cb Jd h3 hCA
    obtain ⟨k1, k2, k3⟩ := nq_cmb_ok (vf := vf) (lf := lf) hR s (by omega)
    rcases Nat.lt_or_ge s S with z | z
    · have z3 : ¬ nI S ≤ nI s := nI_ge z (by omega)
      simp only [wX_run_31, z3, nI_1, forall_eq, not_true_eq_false, not_false_eq_true, true_implies, false_implies, implies_true, and_true, true_and, and_self]
      refine nq_xJoin (ok := nq_okf vf s) (left := nq_lff lf s) hT hW hFl hRw hTb (by omega) hCA k1 (nq_cmb_36 hR (by omega)) h3 (fun e g => ?_) (fun e g => ?_) (fun e => ?_) (fun e => ?_) fun tp' Ha' Sk' Cb' Jd' a1 a2 => ?_
      · unfold nq_okf; rw [if_pos e]
      · unfold nq_okf; rw [if_neg e, hvf]
      · unfold nq_lff; rw [if_pos e]
      · unfold nq_lff; rw [if_neg e, hlf]
      · exact ih (s + 1) (by omega) (by omega) tp' Ha' Sk' Cb' Jd' a1 a2
    · have : s = S := by omega
      subst this
      have z3 : nI s ≤ nI s := nI_le (Nat.le_refl _) (by omega)
      simp only [wX_run_31, z3, forall_eq, not_true_eq_false, not_false_eq_true, true_implies, false_implies, implies_true, and_true, true_and, and_self]
      have ew : C = (nq_cmb vf lf rw tb s).filter (fun h => nq_T (nq_val cv rw tb n t 0 h)) := by
        rw [hC, hvf]; rfl
      refine nq_xKeepW hT hW hFl hRw hTb hCA k1 (nq_cmb_216 hR (by omega)) h3 fun tp1 Ha1 Sk1 Cb1 a1 a2 => ?_
      rw [← ew] at a2
      rw [← ew]
      refine nq_xEvC hT hW hFl hRw hTb a2 c1 c2 a1 fun tp2 Ha2 Sk2 Cb2 Va2 b1 => ?_
      rw [← hvf, ← hka] at b1
      refine nq_xForm hT hW hSu b1 c3 c4 fun Go3 Fm3 d1 d2 => ?_
      rw [← hgN, ← hF] at d1
      rw [← hG] at d2
      rw [← hgN]
      refine nq_xAnsw (F := F) (G := G) hT hW hSu b1 c3 c4 c5 (fun g hg => ⟨d1 g hg, c6 g hg⟩) (fun j hj => ⟨d2 j hj, c7 j hj⟩) fun An4 Ov4 e1 => ?_
      rw [← hL] at e1
      rw [← hL]
      refine nq_xOrd c8 (nq_RAr e1 hro hog) fun An5 Ov5 P f1 f2 f3 => ?_
      have pl : P.length = L0.length := by rw [f2.length_eq, List.length_range]
      have f3' : nq_AA nq_e ro An5 P := fun i g hg => (f3 i g hg).1
      by_cases ho : od = 0
      · refine br_t ho ?_
        have ed : decide (od ≠ 0) = false := decide_eq_false (fun h => h ho)
        rw [ed] at H
        have := H tp2 (nI C.length) (nI gN) Ha2 Sk2 Cb2 Jd Va2 Go3 Fm3 An5 Ov5 P f1 f2 (by rw [nq_dd_f]; exact f3')
        rw [nq_dd_f, pl] at this
        exact this
      · refine br_f ho ?_
        have ed : decide (od ≠ 0) = true := decide_eq_true ho
        rw [ed] at H
        refine nq_xDropL pl (by omega) f3' fun An6 g1 => ?_
        exact H tp2 (nI C.length) (nI gN) Ha2 Sk2 Cb2 Jd Va2 Go3 Fm3 An6 Ov5 P f1 f2 g1
theorem nq_yTail {post : Int32 → SY → Prop} {P : List Nat} (E : nq_YE cv rw tb n t yRo yTo ySz yTk yIn yEn) (hSu : nq_SU su ySu) (hS : S ≤ 3) (hS1 : 1 ≤ S) (hlf : ∀ s, lf s = decide (yIl s ≠ 0)) (hvf : vf = nq_val cv rw tb n t) (hC : C = nq_cwh vf lf rw tb S) (hka : ka = nq_ka vf (nq_c1 C)) (hF : F = (nq_gs (nq_gr n su) ka C.length).2.1) (hG : G = (nq_gs (nq_gr n su) ka C.length).2.2) (hgN : gN = nq_gN n su ka C.length) (hL : L0 = nq_gk ka F gN) (hro : ro = fun i o => nq_out n su ka F G C.length (L0.getD i 0) o) (hog : og = fun i => ka 9 (F (L0.getD i 0))) (hP1 : P.Pairwise (nq_l2o og)) (hP2 : P.Perm (List.range L0.length))
    (H : ∀ sbt' sbr' mny' mor' grs' fnd' yHa' ySk' yCo' yLo' yGo' yFi' yRe' ySo' yAn', nq_AA nq_f ro yAn' (nq_dd (decide (dis ≠ 0)) ro P) → post (nI (nq_dd (decide (dis ≠ 0)) ro P).length) ((nI S), dis, opn, sbt', sbr', 0, mny', mor', grs', fnd', (nI (nq_dd (decide (dis ≠ 0)) ro P).length), yRo, (fun j => nq_k (cv j)), yTo, yIl, ySz, yTk, yIn, yEn, ySu, yWc, yWi, yHa', ySk', yCo', yLo', yGo', yFi', yRe', ySo', yAn')) :
    wpY_combine (fun u => match u with | (src1, dis1, opn1, sbt1, sbr1, dep1, mny1, mor1, grs1, fnd1, kpt1, yRo1, yCe1, yTo1, yIl1, ySz1, yTk1, yIn1, yEn1, ySu1, yWc1, yWi1, yHa1, ySk1, yCo1, yLo1, yGo1, yFi1, yRe1, ySo1, yAn1) => wpY_group (fun u => match u with | (src2, dis2, opn2, sbt2, sbr2, dep2, mny2, mor2, grs2, fnd2, kpt2, yRo2, yCe2, yTo2, yIl2, ySz2, yTk2, yIn2, yEn2, ySu2, yWc2, yWi2, yHa2, ySk2, yCo2, yLo2, yGo2, yFi2, yRe2, ySo2, yAn2) => ∃ n97, wY_run_97 post n97 0 src2 dis2 opn2 sbt2 sbr2 dep2 mny2 mor2 grs2 0 kpt2 yRo2 yCe2 yTo2 yIl2 ySz2 yTk2 yIn2 yEn2 ySu2 yWc2 yWi2 yHa2 ySk2 yCo2 yLo2 yGo2 yFi2 yRe2 ySo2 yAn2) (src1, dis1, opn1, sbt1, sbr1, dep1, mny1, mor1, grs1, fnd1, kpt1, yRo1, yCe1, yTo1, yIl1, ySz1, yTk1, yIn1, yEn1, ySu1, yWc1, yWi1, yHa1, ySk1, yCo1, yLo1, yGo1, yFi1, yRe1, ySo1, yAn1)) ((nI S), dis, opn, sbt, sbr, 0, mny, mor, grs, fnd, kpt, yRo, (fun j => nq_k (cv j)), yTo, yIl, ySz, yTk, yIn, yEn, ySu, yWc, yWi, yHa, ySk, yCo, yLo, yGo, yFi, yRe, ySo, yAn) := by
  have hR : ∀ s, s < 3 → rw (tb s) ≤ 6 := fun s hs => (E.2.2.2.2.1 (tb s) (E.2.2.2.2.2.1 s hs).1).1
  obtain ⟨c1, c2, c3, c4, c5, c6, c7, c8⟩ := nq_facts (vf := vf) (lf := lf) (n := n) (su := su) hR hS hC hF hG hgN hL
  refine nq_yComb E hS hS1 hlf hvf fun yHa1 sbt1 sbr1 ySk1 yLo1 yCo1 mor1 a1 => ?_
  rw [← hC] at a1
  rw [← hC]
  have hka2 : ka = nq_ka (nq_val cv rw tb n t) (nq_c1 C) := by rw [hka, hvf]
  refine nq_yForm E hSu a1 c1 c2 hka2 fun yHa2 sbt2 sbr2 ySk2 yGo2 yFi2 b1 b2 => ?_
  rw [← hgN, ← hF] at b1
  rw [← hG] at b2
  rw [← hgN]
  refine nq_y97 (F := F) (G := G) E hSu a1 c1 c2 hka2 c5 (fun g hg => ⟨b1 g hg, c6 g hg⟩) (fun j hj => ⟨b2 j hj, c7 j hj⟩) fun yHa3 sbt3 sbr3 ySk3 yRe3 ySo3 yGo3 d1 d2 => ?_
  rw [← hL] at d2
  rw [← hL]
  refine nq_yOrd (ro := ro) (og := og) rfl c8 hP1 hP2 (nq_RAr d2 hro hog) d1 fun yGo4 yAn4 e1 => ?_
  exact H _ _ _ _ _ _ _ _ _ _ _ _ _ _ _ e1
theorem i_vc_run {k : Nat} {u : SX} {v : SY} (I : i_Rel k u v) (hk : k + 5 ≤ 2560) : wpX_run (fun r u' => wpY_run (fun r' v' => r' = r ∧ i_Rel (k + 5) u' v') v) u := by
  obtain ⟨sc, od, nc, tp, cc, gc, ac, Ce, Rc, St, Jl, Tk, Tn, Su, Ne, Ha, Sk, Cb, Jd, Va, Go, Fm, An, Ov⟩ := u
  obtain ⟨src, dis, opn, sbt, sbr, dep, mny, mor, grs, fnd, kpt, yRo, yCe, yTo, yIl, ySz, yTk, yIn, yEn, ySu, yWc, yWi, yHa, ySk, yCo, yLo, yGo, yFi, yRe, ySo, yAn⟩ := v
  have I0 := I
  obtain ⟨S, m, rw, tb, su, n, t, cv, av, ⟨hs1, rfl, rfl, hs4⟩, ⟨hm1, hm2, hm3, hm4⟩, ⟨hc1, hc2, hc3⟩, ⟨hr1, hr2⟩, ⟨ht1, ht2⟩, hl, ⟨hu1, hu2⟩, ⟨hT1, hT2, hT3, hT4⟩, ha⟩ := I
  subst hs4 hm2 hm3 hm4 hc1 hc2 hr1 ht1 hl hu1 hT1 hT2
  have bad : ∀ opn' yIn' yWc' yWi', (-2000 : Int32) = -2000 ∧ i_Rel (k + 5) ((nI S), od, nc, tp, cc, gc, (nI m), (fun j => nq_e (cv j)), Rc, St, Jl, Tk, Tn, Su, Ne, Ha, Sk, Cb, Jd, Va, Go, Fm, An, Ov) ((nI S), od, opn', sbt, sbr, 0, mny, mor, grs, fnd, (nI m), Rc, (fun j => nq_k (cv j)), St, Jl, Tn, Tk, yIn', yEn, Su, yWc', yWi', yHa, ySk, yCo, yLo, yGo, yFi, yRe, ySo, yAn) := fun _ _ _ _ => ⟨rfl, I0⟩
  by_cases s0 : S = 0
  · subst s0
    simp only [wpX_run, wpY_run, nI_0, forall_eq, not_true_eq_false, not_false_eq_true, true_implies, false_implies, implies_true, and_true, true_and, and_self]
    exact I0
  have n0 : ¬ nI S = 0 := nI_ne0 (by omega) (by omega)
  simp only [wpX_run, wpY_run, n0, forall_eq, not_true_eq_false, not_false_eq_true, true_implies, false_implies, implies_true, and_true, true_and, and_self]
  refine nq_xUnf hT3 hT4 (fun hnf => ?_) (fun hfull => ?_)
  · refine br_f (by decide) ?_
    exact nq_yStart hs1 hT3 hT4 (fun _ => bad) (fun h => absurd h hnf)
  refine br_t rfl ?_
  refine nq_xMis hs1 hT3 hT4 (fun hmi => ?_) (fun hno => ?_)
  · refine br_f (by decide) ?_
    exact nq_yStart hs1 hT3 hT4 (fun _ => bad) (fun _ h2 => by
      obtain ⟨p, hp, hm⟩ := hmi
      exact absurd hm (h2 p hp))
  refine br_t rfl ?_
  simp only [wpX_startCombinations]
  refine nq_xEmpty fun Cb1 a1 => ?_
  simp only [forall_eq, not_true_eq_false, not_false_eq_true, true_implies, false_implies, implies_true, and_true, true_and, and_self]
  have hCA : nq_CA (nq_ex tb) Cb1 (nq_cmb (nq_val cv rw tb n t) (fun s => decide (Jl s ≠ 0)) rw tb 0) := by
    intro i g hg s hs
    match i, hg with
    | 0, hg =>
      cases hg
      rw [show 3 * 0 + s = s by omega, a1 s hs]
      unfold nq_ex nq_hv
      rw [if_neg (by omega)]
      rfl
  obtain ⟨vf, hvf⟩ : ∃ vf, vf = nq_val cv rw tb n t := ⟨_, rfl⟩
  obtain ⟨lf, hlf⟩ : ∃ lf : Nat → Bool, lf = fun s => decide (Jl s ≠ 0) := ⟨_, rfl⟩
  have hlf2 : ∀ s, lf s = decide (Jl s ≠ 0) := fun s => by rw [hlf]
  rw [← hvf, ← hlf] at hCA
  obtain ⟨C, hC⟩ : ∃ C, C = nq_cwh vf lf rw tb S := ⟨_, rfl⟩
  obtain ⟨ka, hka⟩ : ∃ ka, ka = nq_ka vf (nq_c1 C) := ⟨_, rfl⟩
  obtain ⟨F, hF⟩ : ∃ F, F = (nq_gs (nq_gr n su) ka C.length).2.1 := ⟨_, rfl⟩
  obtain ⟨G, hG⟩ : ∃ G, G = (nq_gs (nq_gr n su) ka C.length).2.2 := ⟨_, rfl⟩
  obtain ⟨gN, hgN⟩ : ∃ gN, gN = nq_gN n su ka C.length := ⟨_, rfl⟩
  obtain ⟨L0, hL⟩ : ∃ L0, L0 = nq_gk ka F gN := ⟨_, rfl⟩
  obtain ⟨ro, hro⟩ : ∃ ro : Nat → Nat → nq_V, ro = fun i o => nq_out n su ka F G C.length (L0.getD i 0) o := ⟨_, rfl⟩
  obtain ⟨og, hog⟩ : ∃ og : Nat → nq_V, og = fun i => ka 9 (F (L0.getD i 0)) := ⟨_, rfl⟩
  have hR : ∀ s, s < 3 → rw (tb s) ≤ 6 := fun s hs => (hr2 (tb s) (ht2 s hs).1).1
  obtain ⟨c1, c2, c3, c4, c5, c6, c7, c8⟩ := nq_facts (vf := vf) (lf := lf) (n := n) (su := su) hR hs1 hC hF hG hgN hL
  refine ⟨S + 1, nq_xTail (lf := lf) (vf := vf) (S := S) hT3 hT4 hfull hr2 ht2 hu2 hs1 hlf2 hvf hC hka hF hG hgN hL hro hog ?_ (S + 1) 0 (by omega) (by omega) tp (upd Ha 3 (-1)) Sk Cb1 Jd pk_us hCA⟩
  intro tp2 cc2 gc2 Ha2 Sk2 Cb2 Jd2 Va2 Go2 Fm2 An2 Ov2 P p1 p2 p3
  have pl : P.length = L0.length := by rw [p2.length_eq, List.length_range]
  have dl := nq_dd_l (ds := decide (od ≠ 0)) (ro := ro) P
  refine nq_yStart hs1 hT3 hT4 (fun hb => ?_) (fun _ _ opn' yIn' yWc' yWi' yEn' i1 i2 => ?_)
  · rcases hb with hb | ⟨q, hq, hm⟩
    · exact absurd hfull hb
    · exact absurd hm (hno q hq)
  · refine nq_yTail (lf := lf) (vf := vf) (S := S) ⟨hT3, hT4, hfull, hc3, hr2, ht2, i1, i2⟩ hu2 hs1 (by omega) hlf2 hvf hC hka hF hG hgN hL hro hog p1 p2 ?_
    intro sbt3 sbr3 mny3 mor3 grs3 fnd3 yHa3 ySk3 yCo3 yLo3 yGo3 yFi3 yRe3 ySo3 yAn3 q1
    exact ⟨rfl, S, (nq_dd (decide (od ≠ 0)) ro P).length, rw, tb, su, n, t, cv, fun j => ro ((nq_dd (decide (od ≠ 0)) ro P).getD (j / 3) 0) (j % 3), ⟨hs1, rfl, rfl, rfl⟩, ⟨by omega, rfl, rfl, rfl⟩, ⟨rfl, rfl, hc3⟩, ⟨rfl, hr2⟩, ⟨rfl, ht2⟩, rfl, ⟨rfl, hu2⟩, ⟨rfl, rfl, hT3, hT4⟩, fun j hj => ⟨nq_AAj p3 hj, nq_AAj q1 hj⟩⟩
end
end
