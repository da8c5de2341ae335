/-! rows taken from kit/rows (pk_) -/
theorem pk_us {f : Nat → Int32} {k : Nat} {x : Int32} : upd f k x k = x := if_pos rfl
theorem pk_un {f : Nat → Int32} {k j : Nat} {x : Int32} (h : j ≠ k) : upd f k x j = f j := if_neg h
theorem pk_uLs {f : Nat → Int64} {k : Nat} {x : Int64} : vp_updL f k x k = x := if_pos rfl
theorem pk_uLn {f : Nat → Int64} {k j : Nat} {x : Int64} (h : j ≠ k) : vp_updL f k x j = f j := if_neg h
theorem pk_sub {a b : Nat} (h : b ≤ a) : nI a - nI b = nI (a - b) := by
  obtain ⟨c, rfl⟩ : ∃ c, a = c + b := ⟨a - b, by omega⟩
  rw [← nI_add, Int32.add_sub_cancel, Nat.add_sub_cancel]
theorem pk_m1 (n : Nat) : nI (n + 1) + (-1) = nI n := by
  rw [← nI_1, Int32.add_assoc, show (1 : Int32) + (-1) = 0 from rfl, Int32.add_zero]
theorem pk_mul (a b : Nat) : nI a * nI b = nI (a * b) := (Int32.ofNat_mul a b).symm
theorem pk_div {a d : Nat} (ha : a < 2 ^ 31) (h0 : 0 < d) (hd : d < 2 ^ 31) : nI a / nI d = nI (a / d) := by
  apply Int32.toInt_inj.mp
  rw [lg_idiv_nonneg (by rw [nI_toInt ha]; omega) (by rw [nI_toInt hd]; omega), nI_toInt ha, nI_toInt hd, nI_toInt (Nat.lt_of_le_of_lt (Nat.div_le_self a d) ha)]
  first | rfl | exact (Int.natCast_ediv _ _).symm
theorem pk_rem {a d : Nat} (ha : a < 2 ^ 31) (h0 : 0 < d) (hd : d < 2 ^ 31) : nI a - nI a / nI d * nI d = nI (a % d) := by
  rw [pk_div ha h0 hd, pk_mul, pk_sub (Nat.div_mul_le_self a d)]
  exact congrArg nI (by have := Nat.div_add_mod' a d; omega)
theorem pk_sub_toInt {a b : Nat} (ha : a < 2 ^ 30) (hb : b < 2 ^ 30) : (nI a - nI b).toInt = (a : Int) - b := by
  rw [Int32.toInt_sub, nI_toInt (by omega), nI_toInt (by omega)]
  exact Int.bmod_eq_of_le (by omega) (by omega)
theorem pk_sneg {a b : Nat} (hb : b < 2 ^ 30) (h : a < b) : nI a - nI b < 0 := by
  rw [Int32.lt_iff_toInt_lt, pk_sub_toInt (by omega) hb, show (0 : Int32).toInt = 0 from by decide]
  omega
theorem pk_ix (x : Int32) {n : Nat} (hn : n < 2 ^ 31) : x < 0 ∨ nI n ≤ x ∨ ∃ j : Nat, j < n ∧ x = nI j := by
  by_cases h : x < 0
  · exact Or.inl h
  · obtain ⟨j, hj, rfl⟩ := nI_of h
    by_cases h2 : j < n
    · exact Or.inr (Or.inr ⟨j, h2, rfl⟩)
    · exact Or.inr (Or.inl (nI_le (by omega) hj))
theorem pk_le {x y : Int32} {A B : Prop} (a b : Nat) (f : a ≤ b → A) (g : b < a → B) (hx : x = nI a := by rfl) (hy : y = nI b := by rfl) (ha : a < 2 ^ 31 := by omega) (hb : b < 2 ^ 31 := by omega) : (x ≤ y → A) ∧ (¬ x ≤ y → B) := by
  subst hx hy
  rw [nI_leI ha hb]
  exact ⟨f, fun z => g (by omega)⟩
theorem pk_lt {x y : Int32} {A B : Prop} (a b : Nat) (f : a < b → A) (g : b ≤ a → B) (hx : x = nI a := by rfl) (hy : y = nI b := by rfl) (ha : a < 2 ^ 31 := by omega) (hb : b < 2 ^ 31 := by omega) : (x < y → A) ∧ (¬ x < y → B) := by
  subst hx hy
  rw [nI_ltI ha hb]
  exact ⟨f, fun z => g (by omega)⟩
theorem pk_eq {x y : Int32} {A B : Prop} (a b : Nat) (f : a = b → A) (g : a ≠ b → B) (hx : x = nI a := by rfl) (hy : y = nI b := by rfl) (ha : a < 2 ^ 31 := by omega) (hb : b < 2 ^ 31 := by omega) : (x = y → A) ∧ (¬ x = y → B) := by
  subst hx hy
  rw [nI_eq ha hb]
  exact ⟨f, g⟩
theorem pk_in {x : Int32} (n N : Nat) (h : n < N) (hx : x = nI n := by rfl) (hN : N < 2 ^ 31 := by omega) : vp_in x N := by
  subst hx
  exact vp_in_nI h hN
theorem pk_cl {x : Int32} (n : Nat) (hx : x = nI n := by rfl) (h : n < 2 ^ 31 := by omega) : x.toNatClampNeg = n := by
  subst hx
  exact nI_clamp h
theorem pk_lT {n : Nat} (h : n < 2 ^ 63) : (lN n).toInt = (n : Int) := lg_ofNat_toInt h
theorem pk_lLT {a b : Nat} (ha : a < 2 ^ 63) (hb : b < 2 ^ 63) : lN a < lN b ↔ a < b := by
  rw [Int64.lt_iff_toInt_lt, pk_lT ha, pk_lT hb]; omega
theorem pk_lLE {a b : Nat} (ha : a < 2 ^ 63) (hb : b < 2 ^ 63) : lN a ≤ lN b ↔ a ≤ b := by
  rw [Int64.le_iff_toInt_le, pk_lT ha, pk_lT hb]; omega
theorem pk_lEQ {a b : Nat} (ha : a < 2 ^ 63) (hb : b < 2 ^ 63) : lN a = lN b ↔ a = b := by
  rw [← Int64.toInt_inj, pk_lT ha, pk_lT hb]; omega
theorem pk_loop {σ : Type} (W : Nat → Nat → σ → Prop) (I : Nat → σ → Prop) (e i0 : Nat) (s : σ) (hi : i0 ≤ e) (h0 : I i0 s) (hx : ∀ n s, I e s → W (n + 1) e s)
    (hs : ∀ n i s, i < e → I i s → (∀ s', I (i + 1) s' → W n (i + 1) s') → W (n + 1) i s) : ∃ n, W n i0 s :=
  ⟨e + 1, loop_i W I e hx hs (e + 1) i0 s hi (by omega) h0⟩
/-! my own: literals, values -/
theorem nq_i1 : (1 : Int32) = nI 1 := rfl
theorem nq_i2 : (2 : Int32) = nI 2 := rfl
theorem nq_i3 : (3 : Int32) = nI 3 := rfl
theorem nq_i4 : (4 : Int32) = nI 4 := rfl
theorem nq_i6 : (6 : Int32) = nI 6 := rfl
theorem nq_i7 : (7 : Int32) = nI 7 := rfl
theorem nq_i8 : (8 : Int32) = nI 8 := rfl
theorem nq_i9 : (9 : Int32) = nI 9 := rfl
theorem nq_i10 : (10 : Int32) = nI 10 := rfl
theorem nq_i18 : (18 : Int32) = nI 18 := rfl
theorem nq_i20 : (20 : Int32) = nI 20 := rfl
theorem nq_i216 : (216 : Int32) = nI 216 := rfl
/-- a value: NULL (or unknown) is none -/
abbrev nq_V : Type := Option Int32
/-- an expression's value in the component -/
def nq_e : nq_V → Int64
  | none => -1099511627776
  | some x => x.toInt64
/-- an expression's value in the reference -/
def nq_f : nq_V → Int64
  | none => 1099511627776
  | some x => x.toInt64
/-- a condition's value in the component -/
def nq_c : nq_V → Int64
  | none => 1
  | some x => if x = 0 then 0 else 2
/-- a condition's value in the reference -/
def nq_d : nq_V → Int64
  | none => 2
  | some x => if x = 0 then 0 else 1
/-- a cell of the reference -/
def nq_k : nq_V → Int32
  | none => 1000
  | some x => x
theorem nq_tl (x : Int32) : -2147483648 ≤ x.toInt ∧ x.toInt < 2147483648 := ⟨x.le_toInt, x.toInt_lt⟩
theorem nq_ne1 (x : Int32) : ¬ x.toInt64 = -1099511627776 := by
  intro h
  have h2 := congrArg Int64.toInt h
  rw [Int32.toInt_toInt64, show (-1099511627776 : Int64).toInt = -1099511627776 from by decide] at h2
  have := nq_tl x
  omega
theorem nq_ne2 (x : Int32) : ¬ x.toInt64 = 1099511627776 := by
  intro h
  have h2 := congrArg Int64.toInt h
  rw [Int32.toInt_toInt64, show (1099511627776 : Int64).toInt = 1099511627776 from by decide] at h2
  have := nq_tl x
  omega
theorem nq_64 {x y : Int32} : x.toInt64 = y.toInt64 ↔ x = y := ⟨fun h => by rw [← Int32.toInt32_toInt64 x, h, Int32.toInt32_toInt64], fun h => by rw [h]⟩
theorem nq_e_n {v : nq_V} : nq_e v = -1099511627776 ↔ v = none := by
  cases v with
  | none => simp [nq_e]
  | some x => simp [nq_e, nq_ne1]
theorem nq_f_n {v : nq_V} : nq_f v = 1099511627776 ↔ v = none := by
  cases v with
  | none => simp [nq_f]
  | some x => simp [nq_f, nq_ne2]
theorem nq_e_i {v w : nq_V} : nq_e v = nq_e w ↔ v = w := by
  cases v with
  | none => cases w with
    | none => simp
    | some y => simp only [nq_e]; exact ⟨fun h => absurd h.symm (nq_ne1 y), fun h => nomatch h⟩
  | some x => cases w with
    | none => simp only [nq_e]; exact ⟨fun h => absurd h (nq_ne1 x), fun h => nomatch h⟩
    | some y => simp only [nq_e, nq_64, Option.some.injEq]
theorem nq_f_i {v w : nq_V} : nq_f v = nq_f w ↔ v = w := by
  cases v with
  | none => cases w with
    | none => simp
    | some y => simp only [nq_f]; exact ⟨fun h => absurd h.symm (nq_ne2 y), fun h => nomatch h⟩
  | some x => cases w with
    | none => simp only [nq_f]; exact ⟨fun h => absurd h (nq_ne2 x), fun h => nomatch h⟩
    | some y => simp only [nq_f, nq_64, Option.some.injEq]
theorem nq_e_s (x : Int32) : (nq_e (some x)).toInt32 = x := Int32.toInt32_toInt64 x
theorem nq_f_s (x : Int32) : (nq_f (some x)).toInt32 = x := Int32.toInt32_toInt64 x
/-- NULL is less than every number -/
def nq_lt : nq_V → nq_V → Bool
  | none, none => false
  | none, some _ => true
  | some _, none => false
  | some x, some y => decide (x < y)
theorem nq_e_l {v w : nq_V} : nq_e v < nq_e w ↔ nq_lt v w = true := by
  have h0 : (-1099511627776 : Int64).toInt = -1099511627776 := by decide
  cases v with
  | none => cases w with
    | none => simp [nq_lt, nq_e]
    | some y =>
      have := nq_tl y
      simp only [nq_lt, nq_e, Int64.lt_iff_toInt_lt, h0, Int32.toInt_toInt64, iff_true]
      omega
  | some x => cases w with
    | none =>
      have := nq_tl x
      simp only [nq_lt, nq_e, Int64.lt_iff_toInt_lt, h0, Int32.toInt_toInt64, Bool.false_eq_true, iff_false]
      omega
    | some y => simp only [nq_lt, nq_e, Int32.toInt64_lt, decide_eq_true_eq]
theorem nq_c2 {v : nq_V} : nq_c v = 2 ↔ ∃ x, v = some x ∧ x ≠ 0 := by
  cases v with
  | none => simp [nq_c]
  | some x => by_cases h : x = 0 <;> simp [nq_c, h]
theorem nq_d1 {v : nq_V} : nq_d v = 1 ↔ ∃ x, v = some x ∧ x ≠ 0 := by
  cases v with
  | none => simp [nq_d]
  | some x => by_cases h : x = 0 <;> simp [nq_d, h]
/-- is it true? -/
def nq_T : nq_V → Bool
  | none => false
  | some x => decide (x ≠ 0)
theorem nq_cT {v : nq_V} : nq_c v = 2 ↔ nq_T v = true := by
  cases v with
  | none => simp [nq_c, nq_T]
  | some x => by_cases h : x = 0 <;> simp [nq_c, nq_T, h]
theorem nq_dT {v : nq_V} : nq_d v = 1 ↔ nq_T v = true := by
  cases v with
  | none => simp [nq_d, nq_T]
  | some x => by_cases h : x = 0 <;> simp [nq_d, nq_T, h]
theorem nq_in {n N : Nat} (h : n < N) (hN : N < 2 ^ 31) : vp_in (nI n) N := vp_in_nI h hN
/-! tokens -/
def nq_ar (t : Nat) : Nat := if t ≤ 70 then 0 else if t = 76 then 3 else if t = 82 ∨ t = 84 ∨ t = 85 ∨ (90 ≤ t ∧ t ≤ 92) then 1 else 2
def nq_sub (t : Nat) : Bool := decide ((90 ≤ t ∧ t ≤ 92) ∨ (100 ≤ t ∧ t ≤ 152 ∧ t % 10 < 3))
def nq_col (t : Nat) : Bool := decide (t ≤ 32 ∧ t % 10 < 3)
/-- what a token's own parts must be, the first first: 1 a condition, 2 within a subquery -/
def nq_kids (t w : Nat) : List Nat :=
  if nq_sub t = true then (if t < 100 then [3] else [0, 3])
  else if t = 76 then [1 + w / 2 * 2, w / 2 * 2, w / 2 * 2]
  else List.replicate (nq_ar t) ((if 84 ≤ t then 1 else 0) + w / 2 * 2)
def nq_fit (p t w : Nat) : Bool :=
  if w % 2 = 1 then decide ((80 ≤ t ∧ t ≤ 87) ∨ (nq_sub t = true ∧ w < 2))
  else if nq_col t = true then (if t / 10 = 3 then decide (2 ≤ w) else decide (p ≠ 1 ∨ t / 10 ≤ 1))
  else decide ((41 ≤ t ∧ t ≤ 59) ∨ (70 ≤ t ∧ t ≤ 76))
/-- the needs ahead of token k of part p, the next first -/
def nq_ws (p : Nat) (t : Nat → Nat) : Nat → List Nat
  | 0 => [if p ≤ 3 then 1 else 0]
  | k + 1 => match nq_ws p t k with
    | [] => []
    | w :: r => nq_kids (t (20 * p + k)) w ++ r
/-- every part is begun as the document says -/
def nq_WF (n t : Nat → Nat) : Prop := ∀ p, p < 10 → n p ≤ 20 ∧ ∀ k, k < n p → ∃ w r, nq_ws p t k = w :: r ∧ nq_fit p (t (20 * p + k)) w = true
def nq_TT (n t : Nat → Nat) (Tn Tk : Nat → Int32) : Prop := ∀ p, p < 10 → Tn p = nI (n p) ∧ ∀ k, k < n p → Tk (20 * p + k) = nI (t (20 * p + k))
/-- the relation -/
def nq_R (u : SX) (v : SY) : Prop := match u, v with
  | (sc, od, nc, tp, cc, gc, ac, Ce, Rc, St, Jl, Tk, Tn, Su, Ne, Ha, Sk, Cb, Jd, Va, Go, Fm, An, Ov), (src, dis, opn, sbt, sbr, dep, mny, mor, grs, fnd, kpt, yRo, yCe, yTo, yIl, ySz, yTk, yIn, yEn, ySu, yWc, yWi, yHa, ySk, yCo, yLo, yGo, yFi, yRe, ySo, yAn) =>
    ∃ (s m : Nat) (rw tb su n t : Nat → Nat) (cv av : Nat → nq_V),
      (s ≤ 3 ∧ sc = nI s ∧ src = nI s ∧ od = dis) ∧
      (m ≤ 216 ∧ ac = nI m ∧ kpt = nI m ∧ dep = 0) ∧
      (Ce = (fun j => nq_e (cv j)) ∧ yCe = (fun j => nq_k (cv j)) ∧ ∀ j, cv j ≠ some 1000) ∧
      (Rc = yRo ∧ ∀ i, i < 3 → rw i ≤ 6 ∧ Rc i = nI (rw i)) ∧
      (St = yTo ∧ ∀ i, i < 3 → tb i < 3 ∧ St i = nI (tb i)) ∧
      Jl = yIl ∧
      (Su = ySu ∧ ∀ i, i < 3 → su i ≤ 5 ∧ Su i = nI (su i)) ∧
      (Tn = ySz ∧ Tk = yTk ∧ nq_TT n t Tn Tk ∧ nq_WF n t) ∧
      ∀ j, j < 3 * m → An j = nq_e (av j) ∧ yAn j = nq_f (av j)
def i_Rel (_ : Nat) (u : SX) (v : SY) : Prop := nq_R u v
theorem i_up {k : Nat} {u : SX} {v : SY} (h : i_Rel k u v) : i_Rel (k + 5) u v := h
theorem i_vc0 : wpX_init (fun u => wpY_init (fun v => i_Rel 0 u v)) := by
  unfold wpX_init wpY_init i_Rel nq_R
  have d1 : (some 0 : nq_V) ≠ some 1000 := by decide
  exact ⟨0, 0, fun _ => 0, fun _ => 0, fun _ => 0, fun _ => 0, fun _ => 0, fun _ => some 0, fun _ => none, ⟨by omega, rfl, rfl, rfl⟩, ⟨by omega, rfl, rfl, rfl⟩, ⟨rfl, rfl, fun j => d1⟩, ⟨rfl, fun i _ => ⟨Nat.zero_le _, rfl⟩⟩, ⟨rfl, fun i _ => ⟨Nat.succ_pos _, rfl⟩⟩, rfl, ⟨rfl, fun i _ => ⟨Nat.zero_le _, rfl⟩⟩, ⟨rfl, rfl, fun p _ => ⟨rfl, fun k hk => absurd hk (Nat.not_lt_zero k)⟩, fun p _ => ⟨Nat.zero_le _, fun k hk => absurd hk (Nat.not_lt_zero k)⟩⟩, fun j hj => absurd hj (Nat.not_lt_zero j)⟩
