section
variable {sc od nc tp cc gc ac : Int32} {Ce Sk Va An Ov : Nat → Int64} {Rc St Jl Tk Tn Su Ne Ha Cb Jd Go Fm : Nat → Int32}
variable {src dis opn sbt sbr dep mny mor grs fnd kpt : Int32} {ySk yRe ySo yAn : Nat → Int64} {yRo yCe yTo yIl ySz yTk yIn yEn ySu yWc yWi yHa yCo yLo yGo yFi : Nat → Int32}
variable {ro : Nat → Nat → nq_V} {og : Nat → nq_V}
theorem nq_yBefore {post : Int32 → Prop} {a b : nq_V} : wpY_isBefore post (src, dis, opn, sbt, sbr, dep, mny, mor, grs, fnd, kpt, yRo, yCe, yTo, yIl, ySz, yTk, yIn, yEn, ySu, yWc, yWi, yHa, ySk, yCo, yLo, yGo, yFi, yRe, ySo, yAn) (nq_f a) (nq_f b) ↔ post (nq_b (decide (nq_kv a < nq_kv b))) := by
  have hl : decide (nq_kv a < nq_kv b) = nq_lt a b := by
    rcases Bool.eq_false_or_eq_true (nq_lt a b) with h | h
    · rw [h]; exact decide_eq_true (nq_kv_l.mp h)
    · rw [h]
      refine decide_eq_false (fun z => ?_)
      rw [nq_kv_l.mpr z] at h
      cases h
  rw [hl]
  cases a with
  | none => cases b with
    | none => simp only [wpY_isBefore, nq_lt, nq_bf, forall_eq, not_true_eq_false, not_false_eq_true, true_implies, false_implies, implies_true, and_true, true_and, and_self]
    | some y =>
      have : ¬ nq_f none = nq_f (some y) := fun z => by rw [nq_f_i] at z; cases z
      simp only [wpY_isBefore, this, nq_lt, nq_bt, forall_eq, not_true_eq_false, not_false_eq_true, true_implies, false_implies, implies_true, and_true, true_and, and_self]
      simp only [nq_f, forall_eq, not_true_eq_false, not_false_eq_true, true_implies, false_implies, implies_true, and_true, true_and, and_self]
  | some x => cases b with
    | none =>
      have : ¬ nq_f (some x) = nq_f none := fun z => by rw [nq_f_i] at z; cases z
      simp only [wpY_isBefore, this, nq_lt, nq_bf, nq_f_n, reduceCtorEq, forall_eq, not_true_eq_false, not_false_eq_true, true_implies, false_implies, implies_true, and_true, true_and, and_self]
    | some y =>
      simp only [wpY_isBefore, nq_f_i, nq_lt, nq_f_n, reduceCtorEq, Option.some.injEq, show (nq_f (some y) ≤ nq_f (some x)) = (y ≤ x) from propext Int32.toInt64_le, forall_eq, not_true_eq_false, not_false_eq_true, true_implies, false_implies, implies_true, and_true, true_and, and_self]
      by_cases e : x = y
      · subst e
        have h2 : ¬ x < x := by exact Int32.lt_irrefl
        simp only [h2, decide_false, nq_bf, forall_eq, not_true_eq_false, not_false_eq_true, true_implies, false_implies, implies_true, and_true, true_and, and_self]
      · by_cases q : y ≤ x
        · simp only [e, q, Int32.not_lt.mpr q, decide_false, nq_bf, forall_eq, not_true_eq_false, not_false_eq_true, true_implies, false_implies, implies_true, and_true, true_and, and_self]
        · simp only [e, q, Int32.not_le.mp q, decide_true, nq_bt, forall_eq, not_true_eq_false, not_false_eq_true, true_implies, false_implies, implies_true, and_true, true_and, and_self]
theorem nq_yKept {post : Int32 → Prop} {K : List Nat} {x : Nat} {ds : Bool} (hd : ds = decide (dis ≠ 0)) (hx : x < 216) (hKl : K.length ≤ 216) (hK : nq_AA nq_f ro yAn K) (hX : ∀ o, o < 3 → yRe (3 * x + o) = nq_f (ro x o)) (H : post (nq_b (!(ds && K.any (fun k => nq_sm ro k x))))) : wpY_isKept post (src, dis, opn, sbt, sbr, dep, mny, mor, grs, fnd, (nI K.length), yRo, yCe, yTo, yIl, ySz, yTk, yIn, yEn, ySu, yWc, yWi, yHa, ySk, yCo, yLo, yGo, yFi, yRe, ySo, yAn) (nI x) := by
  have key : ∀ f j, j ≤ K.length → K.length - j < f → post (nq_b (!(ds && (K.drop j).any (fun k => nq_sm ro k x)))) → wY_isKept_2 post (nI x) src dis opn sbt sbr dep mny mor grs fnd (nI K.length) yRo yCe yTo yIl ySz yTk yIn yEn ySu yWc yWi yHa ySk yCo yLo yGo yFi yRe ySo yAn f (nI j) := by
    intro f
    induction f with
    | zero => intro j _ h; omega
    | succ f ih =>
      intro j hj hf HH
      rcases Nat.lt_or_ge j K.length with z | z
      · have z3 : ¬ nI K.length ≤ nI j := nI_ge z (by omega)
        have hg : K[j]? = some K[j] := List.getElem?_eq_getElem z
        have ed : K.drop j = K[j] :: K.drop (j + 1) := List.drop_eq_getElem_cons z
        rw [ed, List.any_cons] at HH
        simp only [wY_isKept_2, z3, forall_eq, not_true_eq_false, not_false_eq_true, true_implies, false_implies, implies_true, and_true, true_and, and_self]
        have key2 : ∀ f2 o, o ≤ 3 → 3 - o < f2 → ∀ sm : Bool, (sm = true ↔ ∀ o', o' < o → ro K[j] o' = ro x o') → wY_isKept_15 post (wY_isKept_2 post (nI x) src dis opn sbt sbr dep mny mor grs fnd (nI K.length) yRo yCe yTo yIl ySz yTk yIn yEn ySu yWc yWi yHa ySk yCo yLo yGo yFi yRe ySo yAn f) (nI x) (nI j) src dis opn sbt sbr dep mny mor grs fnd (nI K.length) yRo yCe yTo yIl ySz yTk yIn yEn ySu yWc yWi yHa ySk yCo yLo yGo yFi yRe ySo yAn f2 (nq_b sm) (nI o) := by
          intro f2
          induction f2 with
          | zero => intro o _ h; omega
          | succ f2 ih2 =>
            intro o ho hf2 sm hsm
            rcases Nat.lt_or_ge o 3 with y | y
            · have y3 : ¬ 3 ≤ nI o := nI_ge (b := 3) y (by decide)
              have e1 : 3 * nI j + nI o = nI (3 * j + o) := by simp only [nq_i3, pk_mul, nI_add]
              have e2 : 3 * nI x + nI o = nI (3 * x + o) := by simp only [nq_i3, pk_mul, nI_add]
              have i1 : vp_in (nI (3 * j + o)) 648 := vp_in_nI (by omega) (by decide)
              have c1 : (nI (3 * j + o)).toNatClampNeg = 3 * j + o := nI_clamp (by omega)
              have i2 : vp_in (nI (3 * x + o)) 648 := vp_in_nI (by omega) (by decide)
              have c2 : (nI (3 * x + o)).toNatClampNeg = 3 * x + o := nI_clamp (by omega)
              simp only [wY_isKept_15, y3, e1, e2, i1, c1, i2, c2, hK j _ hg o y, hX o y, nq_f_i, nI_1, nq_b0, forall_eq, not_true_eq_false, not_false_eq_true, true_implies, false_implies, implies_true, and_true, true_and, and_self]
              cases sm with
              | false =>
                refine br_t rfl ?_
                refine ih2 (o + 1) (by omega) (by omega) false ⟨(fun h => by cases h), fun h => ?_⟩
                exact hsm.mpr (fun o' ho' => h o' (by omega))
              | true =>
                refine br_f (by decide) ?_
                by_cases d : ro K[j] o = ro x o
                · refine br_t d ?_
                  refine ih2 (o + 1) (by omega) (by omega) true ⟨fun _ o' ho' => ?_, fun _ => rfl⟩
                  by_cases e : o' = o
                  · rw [e]; exact d
                  · exact hsm.mp rfl o' (by omega)
                · refine br_f d ?_
                  exact ih2 (o + 1) (by omega) (by omega) false ⟨(fun h => by cases h), fun h => absurd (h o (by omega)) d⟩
            · have : o = 3 := by omega
              subst this
              have es : nq_sm ro K[j] x = sm := by
                unfold nq_sm
                cases sm with
                | true =>
                  have h := hsm.mp rfl
                  rw [decide_eq_true (h 0 (by omega)), decide_eq_true (h 1 (by omega)), decide_eq_true (h 2 (by omega))]
                  rfl
                | false =>
                  apply Bool.eq_false_iff.mpr
                  intro h
                  rw [Bool.and_eq_true, Bool.and_eq_true, decide_eq_true_eq, decide_eq_true_eq, decide_eq_true_eq] at h
                  have : false = true := hsm.mpr (fun o' ho' => by
                    match o', ho' with
                    | 0, _ => exact h.1
                    | 1, _ => exact h.2.1
                    | 2, _ => exact h.2.2)
                  cases this
              rw [es] at HH
              simp only [wY_isKept_15, show (3 : Int32) ≤ nI 3 from by decide, nq_b0, nI_1, forall_eq, not_true_eq_false, not_false_eq_true, true_implies, false_implies, implies_true, and_true, true_and, and_self]
              cases sm with
              | false =>
                refine br_t rfl ?_
                rw [Bool.false_or] at HH
                exact ih (j + 1) (by omega) (by omega) HH
              | true =>
                refine br_f (by decide) ?_
                by_cases d0 : dis = 0
                · refine br_t d0 ?_
                  have ed0 : ds = false := by rw [hd]; exact decide_eq_false (fun h => h d0)
                  rw [ed0] at HH ih
                  exact ih (j + 1) (by omega) (by omega) HH
                · refine br_f d0 ?_
                  have ed0 : ds = true := by rw [hd]; exact decide_eq_true d0
                  rw [ed0, Bool.true_or] at HH
                  exact HH
        exact ⟨_, key2 4 0 (by omega) (by omega) true ⟨fun _ o' ho' => by omega, fun _ => rfl⟩⟩
      · have : j = K.length := by omega
        subst this
        have z3 : nI K.length ≤ nI K.length := nI_le (Nat.le_refl _) (by omega)
        rw [List.drop_length, List.any_nil, Bool.and_false] at HH
        simp only [wY_isKept_2, z3, forall_eq, not_true_eq_false, not_false_eq_true, true_implies, false_implies, implies_true, and_true, true_and, and_self]
        exact HH
  exact ⟨_, key (K.length + 1) 0 (by omega) (by omega) (by rw [List.drop_zero]; exact H)⟩
theorem nq_yOrd {post : SY → Prop} {P : List Nat} {N : Nat} {ds : Bool} (hd : ds = decide (dis ≠ 0)) (hN : N ≤ 216) (hP : P.Pairwise (nq_l2o og)) (hQ : P.Perm (List.range N)) (hR : nq_RA nq_f ro og yRe ySo (List.range N)) (hG : ∀ j : Nat, j < 216 → yGo j = 0) (H : ∀ yGo' yAn', nq_AA nq_f ro yAn' (nq_dd ds ro P) → post (src, dis, opn, sbt, sbr, dep, mny, mor, grs, (nI N), (nI (nq_dd ds ro P).length), yRo, yCe, yTo, yIl, ySz, yTk, yIn, yEn, ySu, yWc, yWi, yHa, ySk, yCo, yLo, yGo', yFi, yRe, ySo, yAn')) : wpY_order post (src, dis, opn, sbt, sbr, dep, mny, mor, grs, (nI N), kpt, yRo, yCe, yTo, yIl, ySz, yTk, yIn, yEn, ySu, yWc, yWi, yHa, ySk, yCo, yLo, yGo, yFi, yRe, ySo, yAn) := by
  have pl : P.length = N := by rw [hQ.length_eq, List.length_range]
  have rr : ∀ i, i < N → (∀ o, o < 3 → yRe (3 * i + o) = nq_f (ro i o)) ∧ ySo i = nq_f (og i) := fun i hi => hR i i (by rw [List.getElem?_range hi])
  have pm : ∀ i, i < N → i ∈ P := fun i hi => hQ.symm.subset (List.mem_range.mpr hi)
  have pn : ∀ i, i ∈ P → i < N := fun i hi => List.mem_range.mp (hQ.subset hi)
  have nd : P.Nodup := hQ.symm.nodup List.nodup_range
  have key : ∀ f m, m ≤ N → N - m < f → ∀ yGo yAn, (∀ i, i < N → (i ∈ P.take m → yGo i = 1) ∧ (i ∉ P.take m → yGo i = 0)) → nq_AA nq_f ro yAn (nq_dd ds ro (P.take m)) → wY_order_7 post src dis opn sbt sbr dep mny mor grs (nI N) f (nI m) (nI (nq_dd ds ro (P.take m)).length) yRo yCe yTo yIl ySz yTk yIn yEn ySu yWc yWi yHa ySk yCo yLo yGo yFi yRe ySo yAn := by
    intro f
    induction f with
    | zero => intro m _ h; omega
    | succ f ih =>
      intro m hm hf yGo yAn hI hA
      have kl := nq_dd_l (ds := ds) (ro := ro) (P.take m)
      rw [List.length_take] at kl
      rcases Nat.lt_or_ge m N with z | z
      · have z3 : ¬ nI N ≤ nI m := nI_ge z (by omega)
        have hml : m < P.length := by omega
        have hg : P[m]? = some P[m] := List.getElem?_eq_getElem hml
        have et : P.take (m + 1) = P.take m ++ [P[m]] := by rw [List.take_succ, hg]; rfl
        have hxN := pn _ (List.getElem_mem hml)
        have hun : P[m] ∉ P.take m := by
          intro hmem
          have := nd.sublist (List.take_sublist (m + 1) P)
          rw [et, List.nodup_append] at this
          exact this.2.2 _ hmem _ (by simp) rfl
        have hmin : ∀ c, c < N → c ∉ P.take m → c ≠ P[m] → nq_l2o og P[m] c := by
          intro c hc h1 h2
          have h3 := pm c hc
          rw [← List.take_append_drop m P] at h3
          have h4 := (List.mem_append.mp h3).resolve_left h1
          rw [List.drop_eq_getElem_cons hml] at h4
          have h5 := (List.mem_cons.mp h4).resolve_left h2
          have h6 := hP.sublist (List.drop_sublist m P)
          rw [List.drop_eq_getElem_cons hml, List.pairwise_cons] at h6
          exact h6.1 c h5
        simp only [wY_order_7, z3, forall_eq, not_true_eq_false, not_false_eq_true, true_implies, false_implies, implies_true, and_true, true_and, and_self]
        have fin : ∀ b, b = P[m] → vp_in (nI b) 216 ∧ wpY_isKept (fun r_5 => ((r_5 = 0 → wY_order_7 post src dis opn sbt sbr dep mny mor grs (nI N) f (nI (m + 1)) (nI (nq_dd ds ro (P.take m)).length) yRo yCe yTo yIl ySz yTk yIn yEn ySu yWc yWi yHa ySk yCo yLo (upd yGo b 1) yFi yRe ySo yAn) ∧ (¬ r_5 = 0 → ∃ n96, wY_order_96 post (wY_order_7 post src dis opn sbt sbr dep mny mor grs (nI N) f) (nI m) (nI b) src dis opn sbt sbr dep mny mor grs (nI N) (nI (nq_dd ds ro (P.take m)).length) n96 0 yRo yCe yTo yIl ySz yTk yIn yEn ySu yWc yWi yHa ySk yCo yLo (upd yGo b 1) yFi yRe ySo yAn))) (src, dis, opn, sbt, sbr, dep, mny, mor, grs, (nI N), (nI (nq_dd ds ro (P.take m)).length), yRo, yCe, yTo, yIl, ySz, yTk, yIn, yEn, ySu, yWc, yWi, yHa, ySk, yCo, yLo, (upd yGo b 1), yFi, yRe, ySo, yAn) (nI b) := by
          intro b hb
          have hbN : b < N := by rw [hb]; exact hxN
          refine ⟨vp_in_nI (by omega) (by decide), ?_⟩
          have hI' : ∀ i, i < N → (i ∈ P.take (m + 1) → upd yGo b 1 i = 1) ∧ (i ∉ P.take (m + 1) → upd yGo b 1 i = 0) := by
            intro i hi
            rw [et, ← hb]
            by_cases e : i = b
            · subst e
              rw [pk_us]
              exact ⟨fun _ => rfl, fun h => absurd (List.mem_append_right _ (List.mem_singleton.mpr rfl)) h⟩
            · rw [pk_un e]
              refine ⟨fun h => (hI i hi).1 ?_, fun h => (hI i hi).2 (fun h2 => h (List.mem_append_left _ h2))⟩
              rcases List.mem_append.mp h with y | y
              · exact y
              · exact absurd (List.mem_singleton.mp y) e
          have nn := fun yAn => ih (m + 1) (by omega) (by omega) (upd yGo b 1) yAn hI'
          rw [et, nq_dd_s, ← hb] at nn
          unfold nq_ddf at nn
          refine nq_yKept hd (by omega) (by omega) hA (rr b hbN).1 ?_
          simp only [nq_b0]
          rcases Bool.eq_false_or_eq_true (ds && (nq_dd ds ro (P.take m)).any (fun k => nq_sm ro k b)) with ha | ha
          · refine br_t (by rw [ha]; rfl) ?_
            rw [Bool.and_eq_true] at ha
            simp only [if_pos ha] at nn
            exact nn yAn hA
          · refine br_f (by rw [ha]; decide) ?_
            have ha' : ¬ (ds = true ∧ (nq_dd ds ro (P.take m)).any (fun k => nq_sm ro k b) = true) := fun h => by
              rw [h.2, h.1] at ha
              cases ha
            simp only [if_neg ha'] at nn
            have key2 : ∀ f2 o, o ≤ 3 → 3 - o < f2 → ∀ yAn', (∀ o', o' < o → yAn' (3 * (nq_dd ds ro (P.take m)).length + o') = nq_f (ro b o')) → (∀ j, j < 3 * (nq_dd ds ro (P.take m)).length → yAn' j = yAn j) → wY_order_96 post (wY_order_7 post src dis opn sbt sbr dep mny mor grs (nI N) f) (nI m) (nI b) src dis opn sbt sbr dep mny mor grs (nI N) (nI (nq_dd ds ro (P.take m)).length) f2 (nI o) yRo yCe yTo yIl ySz yTk yIn yEn ySu yWc yWi yHa ySk yCo yLo (upd yGo b 1) yFi yRe ySo yAn' := by
              intro f2
              induction f2 with
              | zero => intro o _ h; omega
              | succ f2 ih2 =>
                intro o ho hf2 yAn' h1 h2
                rcases Nat.lt_or_ge o 3 with y | y
                · have y3 : ¬ 3 ≤ nI o := nI_ge (b := 3) y (by decide)
                  have e1 : 3 * nI b + nI o = nI (3 * b + o) := by simp only [nq_i3, pk_mul, nI_add]
                  have e2 : 3 * nI (nq_dd ds ro (P.take m)).length + nI o = nI (3 * (nq_dd ds ro (P.take m)).length + o) := by simp only [nq_i3, pk_mul, nI_add]
                  have i1 : vp_in (nI (3 * b + o)) 648 := vp_in_nI (by omega) (by decide)
                  have c1 : (nI (3 * b + o)).toNatClampNeg = 3 * b + o := nI_clamp (by omega)
                  have i2 : vp_in (nI (3 * (nq_dd ds ro (P.take m)).length + o)) 648 := vp_in_nI (by omega) (by decide)
                  have c2 : (nI (3 * (nq_dd ds ro (P.take m)).length + o)).toNatClampNeg = 3 * (nq_dd ds ro (P.take m)).length + o := nI_clamp (by omega)
                  simp only [wY_order_96, y3, e1, e2, i1, c1, i2, c2, (rr b hbN).1 o y, nI_1, forall_eq, not_true_eq_false, not_false_eq_true, true_implies, false_implies, implies_true, and_true, true_and, and_self]
                  refine ih2 (o + 1) (by omega) (by omega) _ (fun o' ho' => ?_) (fun j hj => ?_)
                  · by_cases e : o' = o
                    · rw [e, pk_uLs]
                    · rw [pk_uLn (by omega)]
                      exact h1 o' (by omega)
                  · rw [pk_uLn (by omega)]
                    exact h2 j hj
                · have : o = 3 := by omega
                  subst this
                  simp only [wY_order_96, show (3 : Int32) ≤ nI 3 from by decide, nI_1, forall_eq, not_true_eq_false, not_false_eq_true, true_implies, false_implies, implies_true, and_true, true_and, and_self]
                  have := nn yAn' (nq_AA_a hA h1 h2)
                  rw [List.length_append, List.length_singleton] at this
                  exact this
            exact ⟨_, key2 4 0 (by omega) (by omega) yAn (fun o' ho' => by omega) (fun j _ => rfl)⟩
        have scan : ∀ f3 j, j ≤ N → N - j < f3 → ∀ nx : Option Nat, (nx = none → ∀ c, c < j → c ∈ P.take m) → (∀ b, nx = some b → b < j ∧ b ∉ P.take m ∧ ∀ c, c < j → c ∉ P.take m → c ≠ b → nq_l2o og b c) → wY_order_19 post (wY_order_7 post src dis opn sbt sbr dep mny mor grs (nI N) f) (nI m) src dis opn sbt sbr dep mny mor grs (nI N) (nI (nq_dd ds ro (P.take m)).length) yRo yCe yTo yIl ySz yTk yIn yEn ySu yWc yWi yHa ySk yCo yLo yGo yFi yRe ySo yAn f3 (nq_hx nx) (nI j) := by
          intro f3
          induction f3 with
          | zero => intro j _ h; omega
          | succ f3 ih3 =>
            intro j hj hf3 nx hn hs
            rcases Nat.lt_or_ge j N with y | y
            · have y3 : ¬ nI N ≤ nI j := nI_ge y (by omega)
              have ij : vp_in (nI j) 216 := vp_in_nI (by omega) (by decide)
              have cj : (nI j).toNatClampNeg = j := nI_clamp (by omega)
              by_cases hp : j ∈ P.take m
              · have g1 := (hI j y).1 hp
                simp only [wY_order_19, y3, ij, cj, g1, show ¬ (1 : Int32) = 0 from by decide, wY_order_41, nI_1, forall_eq, not_true_eq_false, not_false_eq_true, true_implies, false_implies, implies_true, and_true, true_and, and_self]
                refine ih3 (j + 1) (by omega) (by omega) nx (fun e c hc => ?_) (fun b e => ?_)
                · by_cases ec : c = j
                  · rw [ec]; exact hp
                  · exact hn e c (by omega)
                · obtain ⟨b1, b2, b3⟩ := hs b e
                  refine ⟨by omega, b2, fun c hc h1 h2 => ?_⟩
                  by_cases ec : c = j
                  · rw [ec] at h1; exact absurd hp h1
                  · exact b3 c (by omega) h1 h2
              · have g1 := (hI j y).2 hp
                simp only [wY_order_19, y3, ij, cj, g1, show ¬ (1 : Int32) = 0 from by decide, wY_order_41, nI_1, forall_eq, not_true_eq_false, not_false_eq_true, true_implies, false_implies, implies_true, and_true, true_and, and_self]
                have takej : (∀ c, c < j → c ∉ P.take m → nq_l2o og j c) → wY_order_19 post (wY_order_7 post src dis opn sbt sbr dep mny mor grs (nI N) f) (nI m) src dis opn sbt sbr dep mny mor grs (nI N) (nI (nq_dd ds ro (P.take m)).length) yRo yCe yTo yIl ySz yTk yIn yEn ySu yWc yWi yHa ySk yCo yLo yGo yFi yRe ySo yAn f3 (nI j) (nI (j + 1)) := by
                  intro hall
                  refine ih3 (j + 1) (by omega) (by omega) (some j) (fun e => by cases e) (fun b e => ?_)
                  cases e
                  exact ⟨by omega, hp, fun c hc h1 h2 => hall c (by omega) h1⟩
                cases nx with
                | none =>
                  refine br_t (show nq_hx none < 0 by decide) ?_
                  exact takej (fun c hc h1 => absurd (hn rfl c hc) h1)
                | some b =>
                  obtain ⟨b1, b2, b3⟩ := hs b rfl
                  have ib : vp_in (nI b) 216 := vp_in_nI (by omega) (by decide)
                  have cb : (nI b).toNatClampNeg = b := nI_clamp (by omega)
                  refine br_f (show ¬ nq_hx (some b) < 0 from nI_pos (by omega)) ?_
                  simp only [nq_hx, ib, cb, (rr j y).2, (rr b (by omega)).2, nq_yBefore, nq_b0, decide_eq_false_iff_not, forall_eq, not_true_eq_false, not_false_eq_true, true_implies, false_implies, implies_true, and_true, true_and, and_self]
                  by_cases q : nq_kv (og j) < nq_kv (og b)
                  · refine br_f (fun h => h q) ?_
                    refine takej (fun c hc h1 => ?_)
                    by_cases ec : c = b
                    · rw [ec]; exact Or.inl q
                    · have := b3 c hc h1 ec
                      unfold nq_l2o at this ⊢
                      omega
                  · refine br_t q ?_
                    refine ih3 (j + 1) (by omega) (by omega) (some b) (fun e => by cases e) (fun b' e => ?_)
                    cases e
                    refine ⟨by omega, b2, fun c hc h1 h2 => ?_⟩
                    by_cases ec : c = j
                    · rw [ec]
                      unfold nq_l2o
                      omega
                    · exact b3 c (by omega) h1 h2
            · have : j = N := by omega
              subst this
              have y3 : nI j ≤ nI j := nI_le (Nat.le_refl _) (by omega)
              cases nx with
              | none => exact absurd (hn rfl _ hxN) hun
              | some b =>
                obtain ⟨b1, b2, b3⟩ := hs b rfl
                have eb : b = P[m] := by
                  apply Classical.byContradiction
                  intro hne
                  have h1 := hmin b b1 b2 hne
                  have h2 := b3 P[m] hxN hun (fun e => hne e.symm)
                  unfold nq_l2o at h1 h2
                  omega
                have cb : (nI b).toNatClampNeg = b := nI_clamp (by omega)
                simp only [wY_order_19, y3, nq_hx, cb, nI_1, forall_eq, not_true_eq_false, not_false_eq_true, true_implies, false_implies, implies_true, and_true, true_and, and_self]
                exact fin b eb
        exact ⟨_, scan (N + 1) 0 (by omega) (by omega) none (fun _ c hc => by omega) (fun b e => by cases e)⟩
      · have : m = N := by omega
        subst this
        have z3 : nI m ≤ nI m := nI_le (Nat.le_refl _) (by omega)
        rw [List.take_of_length_le (by omega)] at hA ⊢
        simp only [wY_order_7, z3, forall_eq, not_true_eq_false, not_false_eq_true, true_implies, false_implies, implies_true, and_true, true_and, and_self]
        exact H _ _ hA
  exact ⟨_, key (N + 1) 0 (by omega) (by omega) yGo yAn (fun i hi => ⟨(fun h => by cases h), fun _ => hG i (by omega)⟩) (fun i g hg => by cases hg)⟩
end
