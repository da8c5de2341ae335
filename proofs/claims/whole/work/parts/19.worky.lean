section
variable {sc od nc tp cc gc ac : Int32} {Ce Sk Va An Ov : Nat → Int64} {Rc St Jl Tk Tn Su Ne Ha Cb Jd Go Fm : Nat → Int32}
variable {src dis opn sbt sbr dep mny mor grs fnd kpt : Int32} {ySk yRe ySo yAn : Nat → Int64} {yRo yCe yTo yIl ySz yTk yIn yEn ySu yWc yWi yHa yCo yLo yGo yFi : Nat → Int32}
variable {n t : Nat → Nat} {p s e w0 : Nat} {r : List Nat} {cv : Nat → nq_V} {h hv : Nat → Option Nat} {rw tb : Nat → Nat}
theorem nq_yWork {post : Int64 → SY → Prop} (hT : nq_TT n t ySz yTk) (hW : nq_WF n t) (hp : p < 10) (h0 : 0 < n p) (hc : nq_ws p t (n p) = []) (hcv : ∀ j, cv j ≠ some 1000) (hH : nq_HY yHa yTo tb h hv) (hR : ∀ i, i < 3 → rw i ≤ 6 ∧ yRo i = nI (rw i)) (hIn : nq_In n t p yIn) (hEn : ∀ k, k < n p → yEn (20 * p + k) = nI (nq_en p t k)) (H : ∀ sbt' sbr' ySk', post (nq_y (if p ≤ 3 then 1 else 0) (nq_pv cv rw n t p hv)) (src, dis, opn, sbt', sbr', (nI 0), mny, mor, grs, fnd, kpt, yRo, (fun j => nq_k (cv j)), yTo, yIl, ySz, yTk, yIn, yEn, ySu, yWc, yWi, yHa, ySk', yCo, yLo, yGo, yFi, yRe, ySo, yAn)) : wpY_work post (src, dis, opn, sbt, sbr, (nI 0), mny, mor, grs, fnd, kpt, yRo, (fun j => nq_k (cv j)), yTo, yIl, ySz, yTk, yIn, yEn, ySu, yWc, yWi, yHa, ySk, yCo, yLo, yGo, yFi, yRe, ySo, yAn) (nI p) := by
  have hn := (hW p hp).1
  have ip : vp_in (nI p) 10 := vp_in_nI hp (by decide)
  have cp : (nI p).toNatClampNeg = p := nI_clamp (by omega)
  have nt : ¬ (1 : Int32) = 0 := by decide
  unfold nq_pv at H
  have h0' : ¬ n p = 0 := by omega
  simp only [h0', if_false] at H
  simp only [wpY_work, ip, cp, (hT p hp).1, forall_eq, not_true_eq_false, not_false_eq_true, true_implies, false_implies, implies_true, and_true, true_and, and_self]
  have key : ∀ k, k ≤ n p → ∀ f, k < f → ∀ (L : List (Nat × nq_V)) sbt sbr ySk, L.map Prod.fst = (nq_ws p t k).filter (fun x => decide (x < 2)) → L.map Prod.snd = nq_ps cv hv rw p t (n p) (n p - k) → nq_St ySk (L.map nq_my) → wY_work_9 post (nI p) f (nI k - 1) src dis opn sbt sbr (nI L.length) mny mor grs fnd kpt yRo (fun j => nq_k (cv j)) yTo yIl ySz yTk yIn yEn ySu yWc yWi yHa ySk yCo yLo yGo yFi yRe ySo yAn := by
    intro k
    induction k with
    | zero =>
      intro _ f hf L sbt sbr ySk hL hv2 hS
      obtain ⟨f, rfl⟩ : ∃ g, f = g + 1 := ⟨f - 1, by omega⟩
      have x1 : nI 0 - 1 < 0 := by decide
      have hw2 : (if p ≤ 3 then 1 else 0) < 2 := by split <;> omega
      have hL2 : L.map Prod.fst = [if p ≤ 3 then 1 else 0] := by
        rw [hL]
        show List.filter _ [if p ≤ 3 then 1 else 0] = _
        rw [List.filter_cons_of_pos (by rw [decide_eq_true_eq]; exact hw2)]
        rfl
      obtain ⟨⟨w, v⟩, rfl, hwe⟩ := nq_1l hL2
      have hv3 : nq_ps cv hv rw p t (n p) (n p) = [v] := by
        rw [show n p - 0 = n p from rfl] at hv2
        rw [← hv2]
        rfl
      rw [hv3] at H
      have hS' : nq_St ySk [nq_y w v] := hS
      rw [show [(w, v)].length = 0 + 1 from rfl]
      simp only [wY_work_9, x1, nq_yPop (k := 0) hS' rfl (by omega), forall_eq, not_true_eq_false, not_false_eq_true, true_implies, false_implies, implies_true, and_true, true_and, and_self]
      rw [show w = if p ≤ 3 then 1 else 0 from hwe]
      exact H _ _ _
    | succ k ih =>
      intro hk f hf L sbt sbr ySk hL hv2 hS
      obtain ⟨f, rfl⟩ : ∃ g, f = g + 1 := ⟨f - 1, by omega⟩
      obtain ⟨w, r', f1, f2, ff, w4, t153, kl, es, rl, a3⟩ := nq_wsS hW hp (show k < n p by omega)
      rw [f2, List.filter_append] at hL
      have hin := hIn k (by omega) w r' f1
      have o2 := nq_oplt hW hp hc (n p - k) (by omega)
      unfold nq_op at o2
      rw [show n p - (n p - k) = k by omega, f1, List.length_cons] at o2
      have fl : (r'.filter (fun x => decide (x < 2))).length ≤ r'.length := List.length_filter_le _ _
      have x0 : nI (k + 1) - 1 = nI k := nI_pred k
      have x1 : ¬ nI k < 0 := nI_pos (by omega)
      have e0 : 20 * nI p + nI k = nI (20 * p + k) := by simp only [nq_i20, pk_mul, nI_add]
      have i1 : vp_in (nI (20 * p + k)) 200 := vp_in_nI (by omega) (by decide)
      have c1 : (nI (20 * p + k)).toNatClampNeg = 20 * p + k := nI_clamp (by omega)
      have e2 : nI k + (-1) = nI k - 1 := by grind
      have ej : n p - k = n p - (k + 1) + 1 := by omega
      have ek : n p - 1 - (n p - (k + 1)) = k := by omega
      have hh : (nq_ws p t k).headD 0 = w := by rw [f1]; rfl
      have tlt : t (20 * p + k) < 2147483648 := by omega
      by_cases hw2 : 2 ≤ w
      · have hsub : nq_sub (t (20 * p + k)) = false := es.resolve_right (by omega)
        have hne : ¬ nI (w / 2) = 0 := nI_ne0 (by omega) (by omega)
        simp only [wY_work_9, x0, x1, e0, i1, c1, hin, hne, e2, forall_eq, not_true_eq_false, not_false_eq_true, true_implies, false_implies, implies_true, and_true, true_and, and_self]
        refine ih (by omega) f (by omega) L sbt sbr ySk ?_ ?_ hS
        · rw [hL, f1, List.filter_cons_of_neg (by simp; omega), List.filter_eq_nil_iff.mpr, List.nil_append]
          intro x hx
          have := nq_kids2 _ t153 w w4 hw2 hsub x hx
          rw [decide_eq_true_eq]
          omega
        · rw [hv2, ej]
          simp only [nq_ps, ek, hh, hw2, if_true]
      · have heq : nI (w / 2) = 0 := by rw [show w / 2 = 0 by omega]; rfl
        have hfw : (nq_ws p t k).filter (fun x => decide (x < 2)) = w :: r'.filter (fun x => decide (x < 2)) := by
          rw [f1, List.filter_cons_of_pos (by simp; omega)]
        rcases Bool.eq_false_or_eq_true (nq_sub (t (20 * p + k))) with hsub | hsub
        · have w1 : w % 2 = 1 := by
            apply Classical.byContradiction
            intro hz
            have h4 := (nq_fitEC ff).2 hz
            have h5 := nq_subT hsub
            unfold nq_isE nq_col at h4
            rw [Bool.or_eq_true, decide_eq_true_eq, decide_eq_true_eq] at h4
            omega
          obtain ⟨a1, a2⟩ := nq_subAr hsub
          rw [a2 w] at hL
          obtain ⟨a, R, hN1, hN2, gR, hfl⟩ : ∃ a R, (t (20 * p + k) < 100 → L.map nq_my = List.map nq_my R) ∧ (¬ t (20 * p + k) < 100 → L.map nq_my = nq_f a :: List.map nq_my R) ∧ R.map Prod.fst = r'.filter (fun x => decide (x < 2)) ∧ nq_ps cv hv rw p t (n p) (n p - k) = nq_sv cv hv t (t (20 * p + k)) (20 * p + nq_en p t k) (nq_en p t k - nq_ss p t k) a (rw (nq_tbl (t (20 * p + k)))) :: R.map Prod.snd := by
            rw [ej]
            simp only [nq_ps, ek, hh, hw2, hsub, if_false, if_true, ← hv2]
            by_cases l : t (20 * p + k) < 100
            · rw [if_pos l] at hL
              exact ⟨_, L, fun _ => rfl, fun z => absurd l z, hL, by simp only [l, if_true, List.drop_zero]; rfl⟩
            · rw [if_neg l] at hL
              have hL3 : L.map Prod.fst = 0 :: r'.filter (fun x => decide (x < 2)) := hL
              match L, hL3 with
              | (w2, a) :: R, hL3 =>
                rw [List.map_cons] at hL3
                obtain ⟨h1, h2⟩ := List.cons.inj hL3
                cases h1
                exact ⟨a, R, fun z => absurd z l, fun _ => rfl, h2, by simp only [l, if_false]; rfl⟩
          have rle : R.length ≤ r'.length := by
            have : R.length = (r'.filter (fun x => decide (x < 2))).length := by rw [← gR, List.length_map]
            omega
          simp only [wY_work_9, x0, x1, e0, i1, c1, hin, heq, (hT p hp).2 k (by omega), nq_ySub tlt, hsub, nq_bt, nt, e2, forall_eq, not_true_eq_false, not_false_eq_true, true_implies, false_implies, implies_true, and_true, true_and, and_self]
          have gg := nq_ySubq (post := fun r_107 u => match u with | (src1, dis1, opn1, sbt1, sbr1, dep1, mny1, mor1, grs1, fnd1, kpt1, yRo1, yCe1, yTo1, yIl1, ySz1, yTk1, yIn1, yEn1, ySu1, yWc1, yWi1, yHa1, ySk1, yCo1, yLo1, yGo1, yFi1, yRe1, ySo1, yAn1) => wpY_push (fun u => match u with | (src2, dis2, opn2, sbt2, sbr2, dep2, mny2, mor2, grs2, fnd2, kpt2, yRo2, yCe2, yTo2, yIl2, ySz2, yTk2, yIn2, yEn2, ySu2, yWc2, yWi2, yHa2, ySk2, yCo2, yLo2, yGo2, yFi2, yRe2, ySo2, yAn2) => wY_work_9 post (nI p) f (nI k - 1) src2 dis2 opn2 sbt2 sbr2 dep2 mny2 mor2 grs2 fnd2 kpt2 yRo2 yCe2 yTo2 yIl2 ySz2 yTk2 yIn2 yEn2 ySu2 yWc2 yWi2 yHa2 ySk2 yCo2 yLo2 yGo2 yFi2 yRe2 ySo2 yAn2) (src1, dis1, opn1, sbt1, sbr1, dep1, mny1, mor1, grs1, fnd1, kpt1, yRo1, yCe1, yTo1, yIl1, ySz1, yTk1, yIn1, yEn1, ySu1, yWc1, yWi1, yHa1, ySk1, yCo1, yLo1, yGo1, yFi1, yRe1, ySo1, yAn1) r_107) (M := R.map nq_my) (N := L.map nq_my) (a := a) (src := src) (dis := dis) (opn := opn) (sbt := sbt) (sbr := sbr) (mny := mny) (mor := mor) (grs := grs) (fnd := fnd) (kpt := kpt) (yRo := yRo) (yTo := yTo) (yIl := yIl) (ySz := ySz) (yTk := yTk) (yIn := yIn) (yEn := yEn) (ySu := ySu) (yWc := yWc) (yWi := yWi) (yHa := yHa) (ySk := ySk) (yCo := yCo) (yLo := yLo) (yGo := yGo) (yFi := yFi) (yRe := yRe) (ySo := ySo) (yAn := yAn) (cv := cv) (rw := rw) hT hW hp hc (show k < n p by omega) f1 hsub hN1 hN2 (by rw [List.length_map]; exact rle) (by rw [List.length_map]; omega) hcv hH hR hEn hS (fun sbt' sbr' ySk' hS' => by
            refine nq_yPush hS' (by rw [List.length_map]; omega) fun ySk'' hS'' => ?_
            have := ih (by omega) f (by omega) ((w, nq_sv cv hv t (t (20 * p + k)) (20 * p + nq_en p t k) (nq_en p t k - nq_ss p t k) a (rw (nq_tbl (t (20 * p + k))))) :: R) sbt' sbr' ySk'' (by rw [List.map_cons, gR, hfw]) (by rw [hfl]; rfl) (by
              rw [List.map_cons]
              unfold nq_my nq_y
              simp only [w1, if_true]
              exact hS'')
            rw [List.length_cons] at this
            rw [List.length_map]
            exact this)
          rw [List.length_map] at gg
          exact gg
        · simp only [wY_work_9, x0, x1, e0, i1, c1, hin, heq, (hT p hp).2 k (by omega), nq_ySub tlt, hsub, nq_bf, e2, forall_eq, not_true_eq_false, not_false_eq_true, true_implies, false_implies, implies_true, and_true, true_and, and_self]
          have kf : (nq_kids (t (20 * p + k)) w).filter (fun x => decide (x < 2)) = nq_kids (t (20 * p + k)) w := by
            rw [List.filter_eq_self]
            intro x hx
            rw [decide_eq_true_eq]
            exact nq_kids1 _ t153 w (by omega) hsub x hx
          rw [kf] at hL
          obtain ⟨K, R, rfl, gK, gR, gl, gs⟩ := nq_step (lf := nq_leaf cv hv) kl hL
          rw [List.map_append] at hS
          have ll : (K ++ R).length = K.length + (R.map nq_my).length := by rw [List.length_append, List.length_map]
          have rle : R.length ≤ r'.length := by
            have : R.length = (r'.filter (fun x => decide (x < 2))).length := by rw [← gR, List.length_map]
            omega
          rw [ll]
          have h3 : t (20 * p + k) / 10 = 3 → nq_H3 sbt sbr hv := by
            intro z
            exfalso
            have fff := ff
            unfold nq_fit nq_col at fff
            by_cases zz : w % 2 = 1
            · rw [if_pos zz, decide_eq_true_eq] at fff
              rcases fff with y | y
              · omega
              · rw [hsub] at y; exact absurd y.1 (by decide)
            · rw [if_neg zz] at fff
              by_cases zc : t (20 * p + k) ≤ 32 ∧ t (20 * p + k) % 10 < 3
              · rw [if_pos (by rw [decide_eq_true_eq]; exact zc), if_pos z, decide_eq_true_eq] at fff
                omega
              · rw [if_neg (by rw [decide_eq_true_eq]; exact zc), decide_eq_true_eq] at fff
                omega
          refine nq_ySimple hcv hH h3 ff hsub gK (by rw [List.length_map]; omega) hS fun ySk' hS' => ?_
          have := ih (by omega) f (by omega) ((w, nq_rs (nq_leaf cv hv) (t (20 * p + k)) (K.map Prod.snd)) :: R) sbt sbr ySk' (by rw [List.map_cons, gR, hfw]) (by
            rw [List.map_cons, ← gs, hv2, ej]
            simp only [nq_ps, ek, hh, hw2, hsub, if_false, reduceCtorEq]) hS'
          rw [List.length_cons] at this
          rw [List.length_map]
          exact this
  have hcl : ([] : List (Nat × nq_V)).map Prod.fst = (nq_ws p t (n p)).filter (fun x => decide (x < 2)) := by rw [hc]; rfl
  exact ⟨_, key (n p) (Nat.le_refl _) (n p + 1) (by omega) [] sbt sbr ySk hcl (by rw [Nat.sub_self]; rfl) trivial⟩
end
