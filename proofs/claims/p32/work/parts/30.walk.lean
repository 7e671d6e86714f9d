/-! ===== the walk of the law over the small machine ===== -/
section Walk
variable {μ : mzM} {s : Int → Int} {n : Int} {p : Int → Int → Int} {K : Int → mzM → Prop} {Q : Option mzV → mzM → Prop}
theorem fr_at (hW : WF s) (hC : CI μ s n p) {f w v : Int} (e : qframe s f w = v) (h : K v μ) : ZI f_X7_frame [vR 0 0, vI f, vI w] μ K := s_frame hW hC.1 (by rw [e]; exact h)
theorem qf_0 {f : Int} (hf : isF s f) : qframe s f 0 = if sref s f = -1 then -9 else sref s f := by unfold qframe cif; rw [if_pos hf]; rfl
theorem qf_1 {f : Int} (hf : isF s f) : qframe s f 1 = scost s f := by unfold qframe cif; rw [if_pos hf]; rfl
theorem qf_2 {f : Int} (hf : isF s f) : qframe s f 2 = sseek s f := by unfold qframe cif; rw [if_pos hf]; rfl
theorem qf_4 {f : Int} (hf : isF s f) : qframe s f 4 = @ite _ (sgood s f) (Classical.propDecidable _) 1 0 := by unfold qframe cif; rw [if_pos hf]; rfl
theorem qf_5 {f : Int} (hf : isF s f) : qframe s f 5 = skinds s f 0 := by unfold qframe cif; rw [if_pos hf]; rfl
theorem qf_6 {f : Int} (hf : isF s f) : qframe s f (5 + 1) = skinds s f 1 := by unfold qframe cif; rw [if_pos hf]; rfl
theorem qf_7 {f : Int} (hf : isF s f) : qframe s f (5 + 1 + 1) = skinds s f 2 := by unfold qframe cif; rw [if_pos hf]; rfl
theorem qf_8 {f : Int} (hf : isF s f) : qframe s f (5 + 1 + 1 + 1) = skinds s f 3 := by unfold qframe cif; rw [if_pos hf]; rfl
theorem skinds_b (hW : WF s) (f k : Int) : 0 ≤ skinds s f k ∧ skinds s f k ≤ 9 := by
  have hb := WD_blocks hW.1
  have h := isum_bound (g := fun b => if sits s f b = k then 1 else 0) (lo := 0) (hi := 1) (sblocks s).toNat 0 (fun j _ _ => by
    show 0 ≤ (if sits s f j = k then (1 : Int) else 0) ∧ (if sits s f j = k then (1 : Int) else 0) ≤ 1
    split <;> omega)
  unfold skinds
  omega
/-- a frame's answers are looked at -/
theorem w140 (hJ : LJ μ s n p) {e x4 x5 x7 x8 x9 x10 d f : Int} (hf : isF s f) (hd : 0 ≤ d ∧ d ≤ f) (hN : ∀ v13 v14 : mzV, ZW f_L_law 131 [vR 32 0, vR 0 0, vI n, vI e, vI x4, vL x5, none, vI x7, vI x8, vI x9, vI x10, vI (d + @ite _ (sgood s f) (Classical.propDecidable _) 1 0), vI (f + 1), v13, v14] [] μ Q) :
    ZW f_L_law 140 [vR 32 0, vR 0 0, vI n, vI e, vI x4, vL x5, none, vI x7, vI x8, vI x9, vI x10, vI d, vI f, vI 0, vI 5] [] μ Q := by
  obtain ⟨hC, hW, hp, hT⟩ := hJ
  have h10 := hW.2.1
  have k0 := skinds_b hW f 0
  have k1 := skinds_b hW f 1
  have k2 := skinds_b hW f 2
  have k3 := skinds_b hW f 3
  have ks := kinds_sum hW hf
  obtain ⟨b1, b2, b3⟩ := blocks_div hW.1
  refine vc_L_law_140 ?_
  rw [if_pos (by decide)]
  refine fr_at hW hC (qf_5 hf) ⟨zin_sm (by omega), zin_sm (by omega), ?_⟩
  refine vc_L_law_140 ?_
  rw [if_pos (by decide)]
  refine fr_at hW hC (qf_6 hf) ⟨zin_sm (by omega), zin_sm (by omega), ?_⟩
  refine vc_L_law_140 ?_
  rw [if_pos (by decide)]
  refine fr_at hW hC (qf_7 hf) ⟨zin_sm (by omega), zin_sm (by omega), ?_⟩
  refine vc_L_law_140 ?_
  rw [if_pos (by decide)]
  refine fr_at hW hC (qf_8 hf) ⟨zin_sm (by omega), zin_sm (by omega), ?_⟩
  refine vc_L_law_140 ?_
  rw [if_neg (by decide)]
  have ho := one_b (sgood s f)
  refine fr_at hW hC (qf_4 hf) ⟨zin_sm (by omega), cnt_at hW hC (v := s 0) rfl (cnt_at hW hC (v := s 1) rfl ⟨b2, ⟨by decide, b3⟩, ?_⟩)⟩
  rw [if_pos (by omega)]
  refine fr_at hW hC (qf_2 hf) (fr_at hW hC (qf_1 hf) ?_)
  have hs := seek_ge hW hf
  rw [if_neg (by omega)]
  refine fr_at hW hC (qf_0 hf) ?_
  have hr := (hW.2.2.2.2.2.2 f hf.1 hf.2).2.1
  have hlt : (if sref s f = -1 then -9 else sref s f) < f := by
    rcases hr with hr | hr
    · rw [if_pos hr]; have := hf.1; omega
    · rw [if_neg (by omega)]; exact hr.2
  rw [if_pos hlt]
  refine s_dependents hW hC.1 ?_
  have hdp := dep_ge hf
  rw [if_neg (by omega)]
  exact ⟨zin_sm (by omega), hN _ _⟩
/-- all frames' answers are looked at -/
theorem w131 (hJ : LJ μ s n p) {e x4 x5 x7 x8 x9 x10 : Int} {v13 v14 : mzV} (e0 : 0 ≤ e) (e1 : e < 40) (hN : ∀ v4 v5 v7 v8 v9 v10 v11 v12 v13 v14 : mzV, ZW f_L_law 8 [vR 32 0, vR 0 0, vI n, vI (e + 1), v4, v5, none, v7, v8, v9, v10, v11, v12, v13, v14] [] μ Q) :
    ZW f_L_law 131 [vR 32 0, vR 0 0, vI n, vI e, vI x4, vL x5, none, vI x7, vI x8, vI x9, vI x10, vI 0, vI 0, v13, v14] [] μ Q := by
  obtain ⟨hC, hW, hp, hT⟩ := id hJ
  have h10 := hW.2.1
  have lp := ifold_loop (g := fun d f => d + @ite _ (sgood s f) (Classical.propDecidable _) 1 0) (C := fun d f => ∀ v13 v14 : mzV, ZW f_L_law 131 [vR 32 0, vR 0 0, vI n, vI e, vI x4, vL x5, none, vI x7, vI x8, vI x9, vI x10, vI d, vI f, v13, v14] [] μ Q) (I := fun d f => 0 ≤ d ∧ d ≤ f) (lo := 0) (hi := s 2) (fun d f _ _ hd => by
    have := one_b (sgood s f)
    omega) ?_ (s 2).toNat 0 0 (by omega) (by omega) ⟨by omega, by omega⟩ ?_
  · exact lp v13 v14
  · intro d f f0 f1 hd hC2 v13 v14
    refine vc_L_law_131 (cnt_at hW hC (v := s 2) rfl ?_)
    rw [if_pos f1]
    exact w140 hJ ⟨f0, f1⟩ hd hC2
  · intro _ v13 v14
    refine vc_L_law_131 (cnt_at hW hC (v := s 2) rfl ?_)
    rw [if_neg (by omega)]
    refine cnt_at hW hC (v := sgoods s) rfl ?_
    have e : ifold (fun d f => d + @ite _ (sgood s f) (Classical.propDecidable _) 1 0) 0 0 (s 2).toNat = sgoods s := rfl
    rw [if_pos e]
    exact ⟨zin_sm (by omega), hN _ _ _ _ _ _ _ _ _ _⟩
/-- what comes behind -/
def NXT (e : Int) (Q : Option mzV → mzM → Prop) : Prop := ∀ (ν : mzM) (s : Int → Int) (n : Int) (p : Int → Int → Int), LJ ν s n p → ∀ v4 v5 v7 v8 v9 v10 v11 v12 v13 v14 : mzV, ZW f_L_law 8 [vR 32 0, vR 0 0, vI n, vI (e + 1), v4, v5, none, v7, v8, v9, v10, v11, v12, v13, v14] [] ν Q
theorem cmp_rf (a : Int) : zcmp a a = 0 := by unfold zcmp; rw [if_neg (Int.lt_irrefl a), if_pos rfl]
/-- it is undone, or not -/
theorem w99 (hJ : LJ μ s n p) {e x4 x5 x7 x8 x9 x10 y0 : Int} {v11 v12 v13 v14 : mzV} (e0 : 0 ≤ e) (e1 : e < 40) (hN : NXT e Q) (hu : 0 ≤ y0 → 0 < n ∧ tale (p (n - 1)) = x5) :
    ZW f_L_law 99 [vR 32 0, vR 0 0, vI n, vI e, vI x4, vL x5, none, vI x7, vI x8, vI x9, vI x10, v11, v12, v13, v14] [vI y0] μ Q := by
  obtain ⟨hC, hW, hp, hT⟩ := id hJ
  have hn := hC.2.2.1.2
  have stay : ZI f_X7_count [vR 0 0, vI 9] μ (fun r2 ν1 => (if r2 = n then
      ZW f_L_law 131 [vR 32 0, vR 0 0, vI n, vI e, vI x4, vL x5, none, vI x7, vI x8, vI x9, vI x10, vI 0, vI 0, v13, v14] [] ν1 Q
      else
      Q (some (vI 0)) ν1)) := by
    refine cnt_at hW hC (v := n) rfl ?_
    rw [if_pos rfl]
    exact w131 hJ e0 e1 (hN μ s n p hJ)
  refine vc_L_law_99 ?_
  by_cases hy : y0 < 0
  · rw [if_pos hy]
    exact stay
  · rw [if_neg hy]
    obtain ⟨u1, u2⟩ := hu (by omega)
    split
    · refine s_undo hp hC (fun q => absurd q (by omega)) (fun _ ν hC2 hF => ⟨zin_sm (by omega), ?_⟩)
      have hW2 : WF (p (n - 1)) := hp (n - 1) (by omega) (by omega)
      have hT2 : ν 8 0 1 = 0 := (hF 8 0 1 (fun q => q.2.2 rfl rfl)).trans hT
      have hJ2 : LJ ν (p (n - 1)) (n - 1) p := ⟨hC2, hW2, fun j j0 j1 => hp j j0 (by omega), hT2⟩
      rw [if_pos rfl]
      refine s_tale hW2 hC2 hT2 ?_
      rw [u2, if_pos (cmp_rf _)]
      refine ⟨zin_sm (by omega), cnt_at hW2 hC2 (v := n - 1) rfl ?_⟩
      rw [if_pos (by omega), show n + -1 = n - 1 by omega]
      exact w131 hJ2 e0 e1 (hN ν _ _ p hJ2)
    · exact stay
/-- what was added is looked at -/
theorem w56 {m : Int} (hJ : LJ μ s n p) {e x4 x5 x7 x8 x9 x10 y0 : Int} {v11 v12 v13 v14 : mzV} (e0 : 0 ≤ e) (e1 : e < 40) (hN : NXT e Q) (hm : 0 ≤ m ∧ m ≤ 6) (h1 : x9 < 0 → n = m) (h2 : 0 ≤ x9 → n = pushn m ∧ tale (p (n - 1)) = x5)
    (h3 : y0 ≠ 0 → 0 ≤ x9 ∧ (isF s x7 ∧ s 2 = x7 + 1) ∧ scost s x7 = x9 ∧ qdiff s x7 (-1) = 0 ∧ (7 < zand x4 15 → x9 ≤ x8)) :
    ZW f_L_law 56 [vR 32 0, vR 0 0, vI m, vI e, vI x4, vL x5, none, vI x7, vI x8, vI x9, vI x10, v11, v12, v13, v14] [vI y0] μ Q := by
  obtain ⟨hC, hW, hp, hT⟩ := id hJ
  have h10 := hW.2.1
  have go : (if x9 < 0 then
      ZW f_L_law 99 [vR 32 0, vR 0 0, vI m, vI e, vI x4, vL x5, none, vI x7, vI x8, vI x9, vI x10, v11, v12, v13, v14] [vI x9] μ Q
      else
      (if m < 6 then
        (zin (m + 1) ∧ ZW f_L_law 99 [vR 32 0, vR 0 0, vI (m + 1), vI e, vI x4, vL x5, none, vI x7, vI x8, vI x9, vI x10, v11, v12, v13, v14] [vI x9] μ Q)
        else
        ZW f_L_law 99 [vR 32 0, vR 0 0, vI 6, vI e, vI x4, vL x5, none, vI x7, vI x8, vI x9, vI x10, v11, v12, v13, v14] [vI x9] μ Q)) := by
    by_cases q : x9 < 0
    · rw [if_pos q]
      have e2 := h1 q
      subst e2
      exact w99 hJ e0 e1 hN (fun z => absurd z (by omega))
    · rw [if_neg q]
      obtain ⟨e2, e3⟩ := h2 (by omega)
      have e4 : pushn m = if m < 6 then m + 1 else 6 := rfl
      by_cases q2 : m < 6
      · rw [if_pos q2] at e4 ⊢
        rw [e4] at e2
        rw [← e2]
        exact ⟨zin_sm (by omega), w99 hJ e0 e1 hN (fun _ => ⟨by omega, e3⟩)⟩
      · rw [if_neg q2] at e4 ⊢
        rw [e4] at e2
        rw [← e2]
        exact w99 hJ e0 e1 hN (fun _ => ⟨by omega, e3⟩)
  refine vc_L_law_56 ?_
  by_cases hy : y0 = 0
  · rw [if_pos hy]
    exact go
  · rw [if_neg hy]
    obtain ⟨g1, ⟨g2, g3⟩, g4, g5, g6⟩ := h3 hy
    refine cnt_at hW hC (v := s 2) rfl ⟨zin_sm (by omega), ?_⟩
    rw [if_pos g3]
    refine fr_at hW hC ((qf_1 g2).trans g4) ?_
    rw [if_pos rfl]
    refine s_difference hW hC.1 ?_
    rw [g5, if_pos rfl]
    by_cases q : 7 < zand x4 15
    · rw [if_pos q, if_neg (by have := g6 q; omega)]
      exact go
    · rw [if_neg q]
      exact go
theorem diff_z {s s' : Int → Int} {r : Int} (hW : WF s) (hn : s 2 < 10) (hr : fok s r) (hg : sgood s r) (hO : OPadd s r s') : qdiff s' (s 2) (-1) = 0 := by
  have h10 := hW.2.1
  unfold qdiff cif
  rw [if_pos ⟨Or.inr ⟨h10.1, by rw [hO.1.2.2.1]; omega⟩, Or.inl rfl⟩, if_pos ⟨good_new hW hn hr hg hO, good_m1 s'⟩]
  exact diff_new hW hO
theorem push_top (m : Int) (hm : 0 ≤ m ∧ m ≤ 6) : pushp p m s (pushn m - 1) = s := by
  unfold pushp pushn
  by_cases q : m < 6
  · rw [if_pos q, if_pos q, if_pos (by omega)]
  · rw [if_neg q, if_neg q, if_pos (by omega)]
theorem cw_key (hW : WF s) : qcostWith s (-1) = call s (-1) (-1) := by
  unfold qcostWith cif
  rw [if_pos (Or.inl rfl), if_pos (good_m1 s)]
/-- one number of the script -/
theorem w8 (hJ : LJ μ s n p) {e : Int} {v4 v5 v7 v8 v9 v10 v11 v12 v13 v14 : mzV} (e0 : 0 ≤ e) (e1 : e < 40) (hN : NXT e Q) : ZW f_L_law 8 [vR 32 0, vR 0 0, vI n, vI e, v4, v5, none, v7, v8, v9, v10, v11, v12, v13, v14] [] μ Q := by
  obtain ⟨hC, hW, hp, hT⟩ := id hJ
  have hn := hC.2.2.1.2
  refine vc_L_law_8 ?_
  rw [if_pos e1]
  refine s_Lcell e0 e1 (fun x => s_tale hW hC hT (cnt_at hW hC (v := s 2) rfl (s_costWith hW hC.1 (fun ν hF => ?_))))
  have hC2 := CI_sc hW hp hC hF
  have hT2 : ν 8 0 1 = 0 := (hF 8 0 1 (by omega)).trans hT
  have hJ2 : LJ ν s n p := ⟨hC2, hW, hp, hT2⟩
  rw [cw_key hW]
  refine s_does hJ2 (fun v hv => ?_) (fun v ξ s' hv hJ3 hA => ?_)
  · rw [if_pos hv]
    refine s_tale hW hC2 hT2 ?_
    rw [if_pos (cmp_rf _), if_pos hv]
    exact w56 hJ2 e0 e1 hN hn (fun _ => rfl) (fun q => absurd q (by omega)) (fun q => absurd rfl q)
  · rw [if_neg (by omega), if_neg (by omega)]
    have t3 : 0 ≤ v → pushn n = pushn n ∧ tale (pushp p n s (pushn n - 1)) = tale s := fun _ => ⟨rfl, by rw [push_top n hn]⟩
    by_cases q1 : 4 < zand x 15
    · rw [if_pos q1]
      by_cases q2 : zand x 15 < 10
      · rw [if_pos q2]
        obtain ⟨r, ⟨a1, a2⟩, a3, a4, a5, a6⟩ := hA q1 q2
        refine w56 hJ3 e0 e1 hN hn (fun q => absurd q (by omega)) t3 (fun _ => ⟨hv, ⟨⟨hW.2.1.1, by rw [a4.1.2.2.1]; omega⟩, a4.1.2.2.1⟩, ?_, diff_z hW a3 a1 a2 a4, fun q => ?_⟩)
        · rw [a5]; exact cost_new hW a1 a4
        · exact a6 q
      · rw [if_neg q2]
        exact w56 hJ3 e0 e1 hN hn (fun q => absurd q (by omega)) t3 (fun q => absurd rfl q)
    · rw [if_neg q1]
      exact w56 hJ3 e0 e1 hN hn (fun q => absurd q (by omega)) t3 (fun q => absurd rfl q)
/-- behind the last number -/
theorem wEnd (hJ : LJ μ s n p) {v4 v5 v7 v8 v9 v10 v11 v12 v13 v14 : mzV} (hQ : ∀ ν, Q (some (vI 1)) ν) : ZW f_L_law 8 [vR 32 0, vR 0 0, vI n, vI 40, v4, v5, none, v7, v8, v9, v10, v11, v12, v13, v14] [] μ Q := by
  obtain ⟨hC, hW, hp, hT⟩ := id hJ
  have h10 := hW.2.1
  refine vc_L_law_8 ?_
  rw [if_neg (by decide)]
  refine cnt_at hW hC (v := s 2) rfl (s_planCost hW hC.1 (fun ν hF => ?_))
  have hC2 := CI_sc hW hp hC hF
  have hT2 : ν 8 0 1 = 0 := (hF 8 0 1 (by omega)).trans hT
  have hJ2 : LJ ν s n p := ⟨hC2, hW, hp, hT2⟩
  by_cases q : s 2 = 0
  · have e : qplanCost s = -9 := by unfold qplanCost; rw [if_pos (by omega)]
    rw [if_pos q, e, if_pos rfl, if_pos q]
    exact hQ _
  · have e : qplanCost s = (pbest s).1 := by unfold qplanCost; rw [if_neg (by omega)]
    have hb := best_pos hW
    rw [if_neg q, e, if_neg (by omega), if_neg q]
    refine s_recode hW hp hC2 (fun z => absurd z q) (fun hn ξ hc hF2 => ?_)
    rw [if_pos rfl]
    obtain ⟨s', hO, hW'⟩ := OPrec_ex hW hn
    have hJ3 := mkLJ hJ2 hF2 (hc s' hO) hW'
    obtain ⟨hC3, -, hp3, hT3⟩ := hJ3
    refine s_planCost hW' hC3.1 (fun ζ hF3 => ?_)
    have e2 : qplanCost s' = (pbest s).1 := by unfold qplanCost; rw [if_neg (by rw [hO.1.2.2.1]; omega), best_same hW hO]
    rw [e2, if_pos rfl]
    have hC4 := CI_sc hW' hp3 hC3 hF3
    have hk := rec_cost hW hn hO hW'
    have hs : 0 ≤ scosts s' ∧ scosts s' ≤ 3080 := by
      have h := isum_bound (g := scost s') (lo := 0) (hi := 308) (s' 2).toNat 0 (fun j _ _ => by have := scost_b hW'.1 j; omega)
      have := hW'.2.1
      unfold scosts
      omega
    refine cnt_at hW' hC4 (v := scosts s') rfl (cnt_at hW' hC4 (v := s' 5) rfl (s_greatestSeek hW' hC4.1 ⟨zin_sm (by omega), zin_sm (by omega), ?_⟩))
    rw [if_pos hk]
    exact hQ _
/-- all numbers -/
theorem wAll (hQ : ∀ ν, Q (some (vI 1)) ν) : ∀ (m : Nat) (e : Int), 0 ≤ e → e + m = 40 → ∀ (ν : mzM) (s : Int → Int) (n : Int) (p : Int → Int → Int), LJ ν s n p → ∀ v4 v5 v7 v8 v9 v10 v11 v12 v13 v14 : mzV, ZW f_L_law 8 [vR 32 0, vR 0 0, vI n, vI e, v4, v5, none, v7, v8, v9, v10, v11, v12, v13, v14] [] ν Q := by
  intro m
  induction m with
  | zero =>
    intro e e0 e1 ν s n p hJ v4 v5 v7 v8 v9 v10 v11 v12 v13 v14
    rw [show e = 40 by omega]
    exact wEnd hJ hQ
  | succ m ih =>
    intro e e0 e1 ν s n p hJ v4 v5 v7 v8 v9 v10 v11 v12 v13 v14
    exact w8 hJ e0 (by omega) (fun ν s n p hJ => ih (e + 1) (by omega) (by omega) ν s n p hJ)
/-- from the entry behind the constructor -/
theorem wLaw (hQ : ∀ ν, Q (some (vI 1)) ν) (hJ : LJ μ s 0 p) : ZW f_L_law 4 [vR 32 0, vR 0 0, none, none, none, none, none, none, none, none, none, none, none, none, none] [] μ Q :=
  vc_L_law_4 (wAll hQ 40 0 (by omega) (by omega) μ s 0 p hJ none none none none none none none none none none)
end Walk
