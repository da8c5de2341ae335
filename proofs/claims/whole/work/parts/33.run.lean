section
variable {sc od nc tp cc gc ac : Int32} {Ce Sk Va An Ov : Nat → Int64} {Rc St Jl Tk Tn Su Ne Ha Cb Jd Go Fm : Nat → Int32}
variable {src dis opn sbt sbr dep mny mor grs fnd kpt : Int32} {ySk yRe ySo yAn : Nat → Int64} {yRo yCe yTo yIl ySz yTk yIn yEn ySu yWc yWi yHa yCo yLo yGo yFi : Nat → Int32}
variable {n t : Nat → Nat} {p : Nat} {cv : Nat → nq_V} {rw tb su F G : Nat → Nat} {vf : Nat → (Nat → Option Nat) → nq_V} {lf : Nat → Bool} {C : List (Nat → Option Nat)} {ka : Nat → Nat → nq_V} {ro : Nat → Nat → nq_V} {og : Nat → nq_V} {S gN : Nat} {L0 : List Nat}
theorem nq_facts (hR : ∀ s, s < 3 → rw (tb s) ≤ 6) (hS : S ≤ 3) (hC : C = nq_cwh vf lf rw tb S) (hF : F = (nq_gs (nq_gr n su) ka C.length).2.1) (hG : G = (nq_gs (nq_gr n su) ka C.length).2.2) (hgN : gN = nq_gN n su ka C.length) (hL : L0 = nq_gk ka F gN) :
    nq_Cok C ∧ C.length ≤ 216 ∧ (nq_c1 C).length ≤ 216 ∧ C.length ≤ (nq_c1 C).length ∧ gN ≤ 216 ∧ (∀ g, g < gN → F g < (nq_c1 C).length) ∧ (∀ j, j < C.length → G j < 216) ∧ L0.length ≤ 216 := by
  obtain ⟨k1, k2, k3⟩ := nq_cmb_ok (vf := vf) (lf := lf) hR S hS
  have k4 := nq_cmb_216 (vf := vf) (lf := lf) hR hS
  have c1 : nq_Cok C := by
    rw [hC]
    intro g hg
    unfold nq_cwh at hg
    exact k1 g (List.mem_filter.mp hg).1
  have c2 : C.length ≤ 216 := by
    rw [hC]
    unfold nq_cwh
    exact Nat.le_trans (List.length_filter_le _ _) k4
  obtain ⟨g1, g2, g3⟩ := nq_gsI (gr := nq_gr n su) (ka := ka) C.length
  rw [← hF] at g2
  rw [← hG] at g3
  have e1 : nq_e0 n su C.length = true → C.length = 0 := fun h => by
    unfold nq_e0 at h
    rw [decide_eq_true_eq] at h
    exact h.1
  have gb : gN ≤ 216 := by
    rw [hgN]
    unfold nq_gN
    split
    · omega
    · omega
  refine ⟨c1, c2, ?_, ?_, gb, fun g hg => ?_, fun j hj => ?_, ?_⟩
  · unfold nq_c1
    split
    · decide
    · exact c2
  · unfold nq_c1
    split
    · omega
    · exact Nat.le_refl _
  · rw [hgN] at hg
    unfold nq_gN at hg
    split at hg
    · rename_i h
      have h0 := e1 h
      have : F g = 0 := by rw [hF, h0]; rfl
      unfold nq_c1
      rw [if_pos h0, this]
      decide
    · have := g2 g hg
      unfold nq_c1
      rw [if_neg (by omega)]
      exact this
  · have := g3 j hj
    omega
  · rw [hL]
    exact Nat.le_trans nq_gk_l gb
theorem nq_RAr {enc : nq_V → Int64} {A O : Nat → Int64} {ro0 : Nat → Nat → nq_V} {og0 : Nat → nq_V} (h : nq_RA enc ro0 og0 A O L0) (hro : ro = fun i o => ro0 (L0.getD i 0) o) (hog : og = fun i => og0 (L0.getD i 0)) : nq_RA enc ro og A O (List.range L0.length) := by
  intro i g hg
  have hi : i < L0.length := by
    rw [List.getElem?_eq_some_iff] at hg
    have := hg.1
    rwa [List.length_range] at this
  rw [List.getElem?_range hi] at hg
  cases hg
  have e : L0[i]? = some (L0.getD i 0) := by
    rw [List.getD_eq_getElem?_getD, List.getElem?_eq_getElem hi]
    rfl
  rw [hro, hog]
  exact h i _ e
theorem nq_xDropL {post : SX → Prop} {P : List Nat} {m : Nat} (hm : P.length = m) (hN : P.length ≤ 216) (hA : nq_AA nq_e ro An P) (H : ∀ An', nq_AA nq_e ro An' (nq_dd true ro P) → post (sc, od, nc, tp, cc, gc, (nI (nq_dd true ro P).length), Ce, Rc, St, Jl, Tk, Tn, Su, Ne, Ha, Sk, Cb, Jd, Va, Go, Fm, An', Ov)) : wpX_dropRepeats post (sc, od, nc, tp, cc, gc, (nI m), Ce, Rc, St, Jl, Tk, Tn, Su, Ne, Ha, Sk, Cb, Jd, Va, Go, Fm, An, Ov) := by
  subst hm
  exact nq_xDrop hN hA H
theorem nq_AAj {enc : nq_V → Int64} {A : Nat → Int64} {K : List Nat} (h : nq_AA enc ro A K) {j : Nat} (hj : j < 3 * K.length) : A j = enc (ro (K.getD (j / 3) 0) (j % 3)) := by
  have hi : j / 3 < K.length := by omega
  have e : K[j / 3]? = some (K.getD (j / 3) 0) := by
    rw [List.getD_eq_getElem?_getD, List.getElem?_eq_getElem hi]
    rfl
  have := h (j / 3) _ e (j % 3) (by omega)
  rwa [show 3 * (j / 3) + j % 3 = j by omega] at this
theorem nq_xTail {post : Int32 → SX → Prop} (hT : nq_TT n t Tn Tk) (hW : nq_WF n t) (hFl : nq_Full n t) (hRw : nq_RW rw Rc) (hTb : nq_TB tb St) (hSu : nq_SU su Su) (hS : S ≤ 3) (hlf : ∀ s, lf s = decide (Jl s ≠ 0)) (hvf : vf = nq_val cv rw tb n t) (hC : C = nq_cwh vf lf rw tb S) (hka : ka = nq_ka vf (nq_c1 C)) (hF : F = (nq_gs (nq_gr n su) ka C.length).2.1) (hG : G = (nq_gs (nq_gr n su) ka C.length).2.2) (hgN : gN = nq_gN n su ka C.length) (hL : L0 = nq_gk ka F gN) (hro : ro = fun i o => nq_out n su ka F G C.length (L0.getD i 0) o) (hog : og = fun i => ka 9 (F (L0.getD i 0)))
    (H : ∀ tp' cc' gc' Ha' Sk' Cb' Jd' Va' Go' Fm' An' Ov' P, P.Pairwise (nq_l2o og) → P.Perm (List.range L0.length) → nq_AA nq_e ro An' (nq_dd (decide (od ≠ 0)) ro P) → post (nI (nq_dd (decide (od ≠ 0)) ro P).length) ((nI S), od, nc, tp', cc', gc', (nI (nq_dd (decide (od ≠ 0)) ro P).length), (fun j => nq_e (cv j)), Rc, St, Jl, Tk, Tn, Su, Ne, Ha', Sk', Cb', Jd', Va', Go', Fm', An', Ov')) :
    ∀ f s, s ≤ S → S - s < f → ∀ tp Ha Sk Cb Jd, Ha 3 = -1 → nq_CA (nq_ex tb) Cb (nq_cmb vf lf rw tb s) → wX_run_31 post f (nI s) (nI S) od nc tp (nI (nq_cmb vf lf rw tb s).length) gc ac (fun j => nq_e (cv j)) Rc St Jl Tk Tn Su Ne Ha Sk Cb Jd Va Go Fm An Ov := by
  have hR : ∀ s, s < 3 → rw (tb s) ≤ 6 := fun s hs => (hRw (tb s) (hTb s hs).1).1
  obtain ⟨c1, c2, c3, c4, c5, c6, c7, c8⟩ := nq_facts (vf := vf) (lf := lf) (n := n) (su := su) hR hS hC hF hG hgN hL
  intro f
  induction f with
  | zero => intro s _ h; omega
  | succ f ih =>
    intro s hs hf tp Ha Sk Cb Jd h3 hCA
    obtain ⟨k1, k2, k3⟩ := nq_cmb_ok (vf := vf) (lf := lf) hR s (by omega)
    rcases Nat.lt_or_ge s S with z | z
    · have z3 : ¬ nI S ≤ nI s := nI_ge z (by omega)
      simp only [wX_run_31, z3, nI_1, forall_eq, not_true_eq_false, not_false_eq_true, true_implies, false_implies, implies_true, and_true, true_and, and_self]
      refine nq_xJoin (ok := nq_okf vf s) (left := nq_lff lf s) hT hW hFl hRw hTb (by omega) hCA k1 (nq_cmb_36 hR (by omega)) h3 (fun e g => ?_) (fun e g => ?_) (fun e => ?_) (fun e => ?_) fun tp' Ha' Sk' Cb' Jd' a1 a2 => ?_
      · unfold nq_okf; rw [if_pos e]
      · unfold nq_okf; rw [if_neg e, hvf]
      · unfold nq_lff; rw [if_pos e]
      · unfold nq_lff; rw [if_neg e, hlf]
      · exact ih (s + 1) (by omega) (by omega) tp' Ha' Sk' Cb' Jd' a1 a2
    · have : s = S := by omega
      subst this
      have z3 : nI s ≤ nI s := nI_le (Nat.le_refl _) (by omega)
      simp only [wX_run_31, z3, forall_eq, not_true_eq_false, not_false_eq_true, true_implies, false_implies, implies_true, and_true, true_and, and_self]
      have ew : C = (nq_cmb vf lf rw tb s).filter (fun h => nq_T (nq_val cv rw tb n t 0 h)) := by
        rw [hC, hvf]; rfl
      refine nq_xKeepW hT hW hFl hRw hTb hCA k1 (nq_cmb_216 hR (by omega)) h3 fun tp1 Ha1 Sk1 Cb1 a1 a2 => ?_
      rw [← ew] at a2
      rw [← ew]
      refine nq_xEvC hT hW hFl hRw hTb a2 c1 c2 a1 fun tp2 Ha2 Sk2 Cb2 Va2 b1 => ?_
      rw [← hvf, ← hka] at b1
      refine nq_xForm hT hW hSu b1 c3 c4 fun Go3 Fm3 d1 d2 => ?_
      rw [← hgN, ← hF] at d1
      rw [← hG] at d2
      rw [← hgN]
      refine nq_xAnsw (F := F) (G := G) hT hW hSu b1 c3 c4 c5 (fun g hg => ⟨d1 g hg, c6 g hg⟩) (fun j hj => ⟨d2 j hj, c7 j hj⟩) fun An4 Ov4 e1 => ?_
      rw [← hL] at e1
      rw [← hL]
      refine nq_xOrd c8 (nq_RAr e1 hro hog) fun An5 Ov5 P f1 f2 f3 => ?_
      have pl : P.length = L0.length := by rw [f2.length_eq, List.length_range]
      have f3' : nq_AA nq_e ro An5 P := fun i g hg => (f3 i g hg).1
      by_cases ho : od = 0
      · refine br_t ho ?_
        have ed : decide (od ≠ 0) = false := decide_eq_false (fun h => h ho)
        rw [ed] at H
        have := H tp2 (nI C.length) (nI gN) Ha2 Sk2 Cb2 Jd Va2 Go3 Fm3 An5 Ov5 P f1 f2 (by rw [nq_dd_f]; exact f3')
        rw [nq_dd_f, pl] at this
        exact this
      · refine br_f ho ?_
        have ed : decide (od ≠ 0) = true := decide_eq_true ho
        rw [ed] at H
        refine nq_xDropL pl (by omega) f3' fun An6 g1 => ?_
        exact H tp2 (nI C.length) (nI gN) Ha2 Sk2 Cb2 Jd Va2 Go3 Fm3 An6 Ov5 P f1 f2 g1
theorem nq_yTail {post : Int32 → SY → Prop} {P : List Nat} (E : nq_YE cv rw tb n t yRo yTo ySz yTk yIn yEn) (hSu : nq_SU su ySu) (hS : S ≤ 3) (hS1 : 1 ≤ S) (hlf : ∀ s, lf s = decide (yIl s ≠ 0)) (hvf : vf = nq_val cv rw tb n t) (hC : C = nq_cwh vf lf rw tb S) (hka : ka = nq_ka vf (nq_c1 C)) (hF : F = (nq_gs (nq_gr n su) ka C.length).2.1) (hG : G = (nq_gs (nq_gr n su) ka C.length).2.2) (hgN : gN = nq_gN n su ka C.length) (hL : L0 = nq_gk ka F gN) (hro : ro = fun i o => nq_out n su ka F G C.length (L0.getD i 0) o) (hog : og = fun i => ka 9 (F (L0.getD i 0))) (hP1 : P.Pairwise (nq_l2o og)) (hP2 : P.Perm (List.range L0.length))
    (H : ∀ sbt' sbr' mny' mor' grs' fnd' yHa' ySk' yCo' yLo' yGo' yFi' yRe' ySo' yAn', nq_AA nq_f ro yAn' (nq_dd (decide (dis ≠ 0)) ro P) → post (nI (nq_dd (decide (dis ≠ 0)) ro P).length) ((nI S), dis, opn, sbt', sbr', 0, mny', mor', grs', fnd', (nI (nq_dd (decide (dis ≠ 0)) ro P).length), yRo, (fun j => nq_k (cv j)), yTo, yIl, ySz, yTk, yIn, yEn, ySu, yWc, yWi, yHa', ySk', yCo', yLo', yGo', yFi', yRe', ySo', yAn')) :
    wpY_combine (fun u => match u with | (src1, dis1, opn1, sbt1, sbr1, dep1, mny1, mor1, grs1, fnd1, kpt1, yRo1, yCe1, yTo1, yIl1, ySz1, yTk1, yIn1, yEn1, ySu1, yWc1, yWi1, yHa1, ySk1, yCo1, yLo1, yGo1, yFi1, yRe1, ySo1, yAn1) => wpY_group (fun u => match u with | (src2, dis2, opn2, sbt2, sbr2, dep2, mny2, mor2, grs2, fnd2, kpt2, yRo2, yCe2, yTo2, yIl2, ySz2, yTk2, yIn2, yEn2, ySu2, yWc2, yWi2, yHa2, ySk2, yCo2, yLo2, yGo2, yFi2, yRe2, ySo2, yAn2) => ∃ n97, wY_run_97 post n97 0 src2 dis2 opn2 sbt2 sbr2 dep2 mny2 mor2 grs2 0 kpt2 yRo2 yCe2 yTo2 yIl2 ySz2 yTk2 yIn2 yEn2 ySu2 yWc2 yWi2 yHa2 ySk2 yCo2 yLo2 yGo2 yFi2 yRe2 ySo2 yAn2) (src1, dis1, opn1, sbt1, sbr1, dep1, mny1, mor1, grs1, fnd1, kpt1, yRo1, yCe1, yTo1, yIl1, ySz1, yTk1, yIn1, yEn1, ySu1, yWc1, yWi1, yHa1, ySk1, yCo1, yLo1, yGo1, yFi1, yRe1, ySo1, yAn1)) ((nI S), dis, opn, sbt, sbr, 0, mny, mor, grs, fnd, kpt, yRo, (fun j => nq_k (cv j)), yTo, yIl, ySz, yTk, yIn, yEn, ySu, yWc, yWi, yHa, ySk, yCo, yLo, yGo, yFi, yRe, ySo, yAn) := by
  have hR : ∀ s, s < 3 → rw (tb s) ≤ 6 := fun s hs => (E.2.2.2.2.1 (tb s) (E.2.2.2.2.2.1 s hs).1).1
  obtain ⟨c1, c2, c3, c4, c5, c6, c7, c8⟩ := nq_facts (vf := vf) (lf := lf) (n := n) (su := su) hR hS hC hF hG hgN hL
  refine nq_yComb E hS hS1 hlf hvf fun yHa1 sbt1 sbr1 ySk1 yLo1 yCo1 mor1 a1 => ?_
  rw [← hC] at a1
  rw [← hC]
  have hka2 : ka = nq_ka (nq_val cv rw tb n t) (nq_c1 C) := by rw [hka, hvf]
  refine nq_yForm E hSu a1 c1 c2 hka2 fun yHa2 sbt2 sbr2 ySk2 yGo2 yFi2 b1 b2 => ?_
  rw [← hgN, ← hF] at b1
  rw [← hG] at b2
  rw [← hgN]
  refine nq_y97 (F := F) (G := G) E hSu a1 c1 c2 hka2 c5 (fun g hg => ⟨b1 g hg, c6 g hg⟩) (fun j hj => ⟨b2 j hj, c7 j hj⟩) fun yHa3 sbt3 sbr3 ySk3 yRe3 ySo3 yGo3 d1 d2 => ?_
  rw [← hL] at d2
  rw [← hL]
  refine nq_yOrd (ro := ro) (og := og) rfl c8 hP1 hP2 (nq_RAr d2 hro hog) d1 fun yGo4 yAn4 e1 => ?_
  exact H _ _ _ _ _ _ _ _ _ _ _ _ _ _ _ e1
theorem i_vc_run {k : Nat} {u : SX} {v : SY} (I : i_Rel k u v) (hk : k + 5 ≤ 2560) : wpX_run (fun r u' => wpY_run (fun r' v' => r' = r ∧ i_Rel (k + 5) u' v') v) u := by
  obtain ⟨sc, od, nc, tp, cc, gc, ac, Ce, Rc, St, Jl, Tk, Tn, Su, Ne, Ha, Sk, Cb, Jd, Va, Go, Fm, An, Ov⟩ := u
  obtain ⟨src, dis, opn, sbt, sbr, dep, mny, mor, grs, fnd, kpt, yRo, yCe, yTo, yIl, ySz, yTk, yIn, yEn, ySu, yWc, yWi, yHa, ySk, yCo, yLo, yGo, yFi, yRe, ySo, yAn⟩ := v
  have I0 := I
  obtain ⟨S, m, rw, tb, su, n, t, cv, av, ⟨hs1, rfl, rfl, hs4⟩, ⟨hm1, hm2, hm3, hm4⟩, ⟨hc1, hc2, hc3⟩, ⟨hr1, hr2⟩, ⟨ht1, ht2⟩, hl, ⟨hu1, hu2⟩, ⟨hT1, hT2, hT3, hT4⟩, ha⟩ := I
  subst hs4 hm2 hm3 hm4 hc1 hc2 hr1 ht1 hl hu1 hT1 hT2
  have bad : ∀ opn' yIn' yWc' yWi', (-2000 : Int32) = -2000 ∧ i_Rel (k + 5) ((nI S), od, nc, tp, cc, gc, (nI m), (fun j => nq_e (cv j)), Rc, St, Jl, Tk, Tn, Su, Ne, Ha, Sk, Cb, Jd, Va, Go, Fm, An, Ov) ((nI S), od, opn', sbt, sbr, 0, mny, mor, grs, fnd, (nI m), Rc, (fun j => nq_k (cv j)), St, Jl, Tn, Tk, yIn', yEn, Su, yWc', yWi', yHa, ySk, yCo, yLo, yGo, yFi, yRe, ySo, yAn) := fun _ _ _ _ => ⟨rfl, I0⟩
  by_cases s0 : S = 0
  · subst s0
    simp only [wpX_run, wpY_run, nI_0, forall_eq, not_true_eq_false, not_false_eq_true, true_implies, false_implies, implies_true, and_true, true_and, and_self]
    exact I0
  have n0 : ¬ nI S = 0 := nI_ne0 (by omega) (by omega)
  simp only [wpX_run, wpY_run, n0, forall_eq, not_true_eq_false, not_false_eq_true, true_implies, false_implies, implies_true, and_true, true_and, and_self]
  refine nq_xUnf hT3 hT4 (fun hnf => ?_) (fun hfull => ?_)
  · refine br_f (by decide) ?_
    exact nq_yStart hs1 hT3 hT4 (fun _ => bad) (fun h => absurd h hnf)
  refine br_t rfl ?_
  refine nq_xMis hs1 hT3 hT4 (fun hmi => ?_) (fun hno => ?_)
  · refine br_f (by decide) ?_
    exact nq_yStart hs1 hT3 hT4 (fun _ => bad) (fun _ h2 => by
      obtain ⟨p, hp, hm⟩ := hmi
      exact absurd hm (h2 p hp))
  refine br_t rfl ?_
  simp only [wpX_startCombinations]
  refine nq_xEmpty fun Cb1 a1 => ?_
  simp only [forall_eq, not_true_eq_false, not_false_eq_true, true_implies, false_implies, implies_true, and_true, true_and, and_self]
  have hCA : nq_CA (nq_ex tb) Cb1 (nq_cmb (nq_val cv rw tb n t) (fun s => decide (Jl s ≠ 0)) rw tb 0) := by
    intro i g hg s hs
    match i, hg with
    | 0, hg =>
      cases hg
      rw [show 3 * 0 + s = s by omega, a1 s hs]
      unfold nq_ex nq_hv
      rw [if_neg (by omega)]
      rfl
  obtain ⟨vf, hvf⟩ : ∃ vf, vf = nq_val cv rw tb n t := ⟨_, rfl⟩
  obtain ⟨lf, hlf⟩ : ∃ lf : Nat → Bool, lf = fun s => decide (Jl s ≠ 0) := ⟨_, rfl⟩
  have hlf2 : ∀ s, lf s = decide (Jl s ≠ 0) := fun s => by rw [hlf]
  rw [← hvf, ← hlf] at hCA
  obtain ⟨C, hC⟩ : ∃ C, C = nq_cwh vf lf rw tb S := ⟨_, rfl⟩
  obtain ⟨ka, hka⟩ : ∃ ka, ka = nq_ka vf (nq_c1 C) := ⟨_, rfl⟩
  obtain ⟨F, hF⟩ : ∃ F, F = (nq_gs (nq_gr n su) ka C.length).2.1 := ⟨_, rfl⟩
  obtain ⟨G, hG⟩ : ∃ G, G = (nq_gs (nq_gr n su) ka C.length).2.2 := ⟨_, rfl⟩
  obtain ⟨gN, hgN⟩ : ∃ gN, gN = nq_gN n su ka C.length := ⟨_, rfl⟩
  obtain ⟨L0, hL⟩ : ∃ L0, L0 = nq_gk ka F gN := ⟨_, rfl⟩
  obtain ⟨ro, hro⟩ : ∃ ro : Nat → Nat → nq_V, ro = fun i o => nq_out n su ka F G C.length (L0.getD i 0) o := ⟨_, rfl⟩
  obtain ⟨og, hog⟩ : ∃ og : Nat → nq_V, og = fun i => ka 9 (F (L0.getD i 0)) := ⟨_, rfl⟩
  have hR : ∀ s, s < 3 → rw (tb s) ≤ 6 := fun s hs => (hr2 (tb s) (ht2 s hs).1).1
  obtain ⟨c1, c2, c3, c4, c5, c6, c7, c8⟩ := nq_facts (vf := vf) (lf := lf) (n := n) (su := su) hR hs1 hC hF hG hgN hL
  refine ⟨S + 1, nq_xTail (lf := lf) (vf := vf) (S := S) hT3 hT4 hfull hr2 ht2 hu2 hs1 hlf2 hvf hC hka hF hG hgN hL hro hog ?_ (S + 1) 0 (by omega) (by omega) tp (upd Ha 3 (-1)) Sk Cb1 Jd pk_us hCA⟩
  intro tp2 cc2 gc2 Ha2 Sk2 Cb2 Jd2 Va2 Go2 Fm2 An2 Ov2 P p1 p2 p3
  have pl : P.length = L0.length := by rw [p2.length_eq, List.length_range]
  have dl := nq_dd_l (ds := decide (od ≠ 0)) (ro := ro) P
  refine nq_yStart hs1 hT3 hT4 (fun hb => ?_) (fun _ _ opn' yIn' yWc' yWi' yEn' i1 i2 => ?_)
  · rcases hb with hb | ⟨q, hq, hm⟩
    · exact absurd hfull hb
    · exact absurd hm (hno q hq)
  · refine nq_yTail (lf := lf) (vf := vf) (S := S) ⟨hT3, hT4, hfull, hc3, hr2, ht2, i1, i2⟩ hu2 hs1 (by omega) hlf2 hvf hC hka hF hG hgN hL hro hog p1 p2 ?_
    intro sbt3 sbr3 mny3 mor3 grs3 fnd3 yHa3 ySk3 yCo3 yLo3 yGo3 yFi3 yRe3 ySo3 yAn3 q1
    exact ⟨rfl, S, (nq_dd (decide (od ≠ 0)) ro P).length, rw, tb, su, n, t, cv, fun j => ro ((nq_dd (decide (od ≠ 0)) ro P).getD (j / 3) 0) (j % 3), ⟨hs1, rfl, rfl, rfl⟩, ⟨by omega, rfl, rfl, rfl⟩, ⟨rfl, rfl, hc3⟩, ⟨rfl, hr2⟩, ⟨rfl, ht2⟩, rfl, ⟨rfl, hu2⟩, ⟨rfl, rfl, hT3, hT4⟩, fun j hj => ⟨nq_AAj p3 hj, nq_AAj q1 hj⟩⟩
end
