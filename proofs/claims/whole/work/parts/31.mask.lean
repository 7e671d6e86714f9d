/-! ===== the model: its questions ===== -/
section Mas
variable {μ : mzM} {s : Int → Int} {K : Int → mzM → Prop}
theorem m_cell {x : Int} (hs : μ 21 0 = s) (hW : WF s) (h : K (qcell s x) μ) : ZI f_X8_cell [vR 20 0, vI x] μ K := by
  have hm := WD_mul hW.1
  unfold qcell at h
  refine vc_X8_cell_0 (m_isCell hs hW.1 (fun g => ?_) (fun g => ?_))
  · rw [if_neg (by decide), hs]
    rw [cif_p g] at h
    exact ⟨zin_sm (by omega), by omega, zlf h rfl⟩
  · rw [if_pos rfl]
    rw [cif_n g] at h
    exact zlf h rfl
theorem m_frame {f w : Int} (hs : μ 21 0 = s) (hW : WF s) (h : K (qframe s f w) μ) : ZI f_X8_frame [vR 20 0, vI f, vI w] μ K := by
  unfold qframe at h
  refine vc_X8_frame_0 (m_isFrame hs hW (fun g => ?_) (fun g => ?_))
  · rw [if_neg (by decide)]
    rw [cif_p g] at h
    refine m_in (fun q => ?_) (fun q => ?_)
    · rw [if_neg (by decide)]
      by_cases w0 : w = 0
      · rw [if_pos w0]
        rw [if_pos w0] at h
        refine m_reference hs hW g ?_
        split
        · next z => rw [if_pos z] at h; exact zlf h rfl
        · next z => rw [if_neg z] at h; exact m_reference hs hW g (zlf h rfl)
      rw [if_neg w0]
      rw [if_neg w0] at h
      by_cases w1 : w = 1
      · rw [if_pos w1]
        rw [if_pos w1] at h
        exact m_costOf hs hW g (zlf h rfl)
      rw [if_neg w1]
      rw [if_neg w1] at h
      by_cases w2 : w = 2
      · rw [if_pos w2]
        rw [if_pos w2] at h
        exact m_seekOf hs hW g (zlf h rfl)
      rw [if_neg w2]
      rw [if_neg w2] at h
      by_cases w3 : w = 3
      · rw [if_pos w3]
        rw [if_pos w3] at h
        exact m_depthOf hs hW g (zlf h rfl)
      rw [if_neg w3]
      rw [if_neg w3] at h
      by_cases w4 : w = 4
      · rw [if_pos w4]
        rw [if_pos w4] at h
        refine m_isGood hs hW g (fun z => ?_) (fun z => ?_)
        · rw [if_neg (by decide)]
          rw [cif_p z] at h
          exact zlf h rfl
        · rw [if_pos rfl]
          rw [cif_n z] at h
          exact zlf h rfl
      rw [if_neg w4]
      rw [if_neg w4] at h
      refine ⟨zin_sm (by omega), m_codesOf hs hW g (zlf (v := skinds s f (w - 5)) ?_ rfl)⟩
      have e : w = 5 ∨ w = 6 ∨ w = 7 ∨ w = 8 := by omega
      rcases e with e | e | e | e
      · subst e; rw [if_pos rfl] at h; exact h
      · subst e; rw [if_neg (by decide), if_pos rfl] at h; exact h
      · subst e; rw [if_neg (by decide), if_neg (by decide), if_pos rfl] at h; exact h
      · subst e; rw [if_neg (by decide), if_neg (by decide), if_neg (by decide), if_pos rfl] at h; exact h
    · rw [if_pos rfl]
      rw [if_neg (by omega), if_neg (by omega), if_neg (by omega), if_neg (by omega), if_neg (by omega), if_neg (by omega), if_neg (by omega), if_neg (by omega), if_neg (by omega)] at h
      exact zlf h rfl
  · rw [if_pos rfl]
    rw [cif_n g] at h
    exact zlf h rfl
theorem m_code {f b q : Int} (hs : μ 21 0 = s) (hW : WF s) (h : K (qcode s f b q) μ) : ZI f_X8_code [vR 20 0, vI f, vI b, vI q] μ K := by
  have h10 := hW.2.1
  have hbs := WD_blocks hW.1
  unfold qcode at h
  refine vc_X8_code_0 (m_isFrame hs hW (fun g => ?_) (fun g => ?_))
  · rw [if_neg (by decide)]
    refine m_isBlock hs hW.1 (fun g2 => ?_) (fun g2 => ?_)
    · rw [if_neg (by decide)]
      rw [cif_p ⟨g, g2⟩] at h
      refine m_in (fun r => ?_) (fun r => ?_)
      · rw [if_neg (by decide)]
        refine m_codeAt (by omega) (by omega) ?_
        rw [hs]
        have e0 : s (1610 + 27 * f + 3 * b) = sits s f b := rfl
        rw [e0]
        have hk := ((hW.2.2.2.2.2.2 f g.1 g.2).2.2.2 b g2.1 g2.2).1
        refine ⟨by omega, ?_⟩
        by_cases q0 : q = 0
        · rw [if_pos q0]
          rw [if_pos q0] at h
          exact zlf h rfl
        rw [if_neg q0]
        rw [if_neg q0] at h
        by_cases q3 : q = 3
        · rw [if_pos q3]
          rw [if_neg (by omega), if_neg (by omega), if_pos q3] at h
          split
          · next z => rw [if_neg (by omega)] at h; exact zlf h rfl
          · next z =>
            rw [if_pos (by omega)] at h
            exact m_runsIn hs hW g g2 (zlf h rfl)
        rw [if_neg q3]
        have e : q = 1 ∨ q = 2 := by omega
        rcases e with e | e
        · subst e
          rw [if_pos rfl] at h
          split
          · next z =>
            rw [if_pos z] at h
            refine m_codeAt (by omega) (by omega) ?_
            rw [hs]
            exact ⟨zin_sm (by omega), by omega, zlf h rfl⟩
          · next z => rw [if_neg z] at h; exact zlf h rfl
        · subst e
          rw [if_neg (by decide), if_pos rfl] at h
          split
          · next z =>
            rw [if_pos z] at h
            refine m_codeAt (by omega) (by omega) ?_
            rw [hs]
            exact ⟨zin_sm (by omega), by omega, zlf h rfl⟩
          · next z => rw [if_neg z] at h; exact zlf h rfl
      · rw [if_pos rfl]
        rw [if_neg (by omega), if_neg (by omega), if_neg (by omega), if_neg (by omega)] at h
        exact zlf h rfl
    · rw [if_pos rfl]
      rw [cif_n (fun z => g2 z.2)] at h
      exact zlf h rfl
  · rw [if_pos rfl]
    rw [cif_n (fun z => g z.1)] at h
    exact zlf h rfl
theorem m_run {f b r q : Int} (hs : μ 21 0 = s) (hW : WF s) (h : K (qrun s f b r q) μ) : ZI f_X8_run [vR 20 0, vI f, vI b, vI r, vI q] μ K := by
  have h10 := hW.2.1
  have hbs := WD_blocks hW.1
  unfold qrun at h
  refine vc_X8_run_0 (m_isFrame hs hW (fun g => ?_) (fun g => ?_))
  · rw [if_neg (by decide)]
    refine m_isBlock hs hW.1 (fun g2 => ?_) (fun g2 => ?_)
    · rw [if_neg (by decide)]
      split
      · next r0 =>
        rw [cif_n (fun z => by omega)] at h
        exact zlf h rfl
      · next r0 =>
        refine m_in (fun g3 => ?_) (fun g3 => ?_)
        · rw [if_neg (by decide)]
          rw [cif_p ⟨⟨g, g2⟩, by omega, g3⟩] at h
          refine m_codeAt (by omega) (by omega) ?_
          rw [hs]
          have e0 : s (1610 + 27 * f + 3 * b) = sits s f b := rfl
          rw [e0]
          refine ⟨by omega, m_runsIn hs hW g g2 ?_⟩
          have body : ∀ x5 rr : Int, fok s rr → (K (if q = 0 then many (sgiv s f rr b) r 16 else rval (sgiv s f rr b) r 16) μ) → ZW f_X8_run 50 [vR 20 0, vI f, vI b, vI r, vI q, vI x5, vI rr, vI 0, vI 0, vI 0, vI 0] [] μ (fun r ν => ∃ a, r = some (vI a) ∧ K a ν) := by
            intro x5 rr hrr h
            have key : ∀ (m n : Nat), n + m = 16 → ZW f_X8_run 50 [vR 20 0, vI f, vI b, vI r, vI q, vI x5, vI rr, vI (num (sgiv s f rr b) (n - 1)), vI (many (sgiv s f rr b) r n), vI (rval (sgiv s f rr b) r n), vI (n : Int)] [] μ (fun r ν => ∃ a, r = some (vI a) ∧ K a ν) := by
              intro m
              induction m with
              | zero =>
                intro n hn
                refine vc_X8_run_50 ?_
                rw [if_neg (by omega)]
                have e : n = 16 := by omega
                subst e
                split
                · next z => rw [if_pos z] at h; exact zlf h rfl
                · next z => rw [if_neg z] at h; exact zlf h rfl
              | succ m ih =>
                intro n hn
                have ih1 := ih (n + 1) (by omega)
                have hm := many_le (sgiv s f rr b) r n
                have hl := num_le (sgiv s f rr b) n
                rw [show n + 1 - 1 = n by omega, show ((n + 1 : Nat) : Int) = (n : Int) + 1 by omega] at ih1
                have em : many (sgiv s f rr b) r (n + 1) = many (sgiv s f rr b) r n + (if num (sgiv s f rr b) n = r then 1 else 0) := rfl
                have er : rval (sgiv s f rr b) r (n + 1) = if num (sgiv s f rr b) n = r then sgiv s f rr b n else rval (sgiv s f rr b) r n := rfl
                rw [em, er] at ih1
                have fin : ∀ v, v = num (sgiv s f rr b) n → (zin v ∧ (if v = r then (zin (many (sgiv s f rr b) r n + 1) ∧ (if v = r then ZI f_X8_given [vR 20 0, vI f, vI rr, vI b, vI (n : Int)] μ (fun r6 ν5 => (zin ((n : Int) + 1) ∧ ZW f_X8_run 50 [vR 20 0, vI f, vI b, vI r, vI q, vI x5, vI rr, vI v, vI (many (sgiv s f rr b) r n + 1), vI r6, vI ((n : Int) + 1)] [] ν5 (fun r ν => ∃ a, r = some (vI a) ∧ K a ν))) else (zin ((n : Int) + 1) ∧ ZW f_X8_run 50 [vR 20 0, vI f, vI b, vI r, vI q, vI x5, vI rr, vI v, vI (many (sgiv s f rr b) r n + 1), vI (rval (sgiv s f rr b) r n), vI ((n : Int) + 1)] [] μ (fun r ν => ∃ a, r = some (vI a) ∧ K a ν)))) else (zin (many (sgiv s f rr b) r n + 0) ∧ (if v = r then ZI f_X8_given [vR 20 0, vI f, vI rr, vI b, vI (n : Int)] μ (fun r6 ν5 => (zin ((n : Int) + 1) ∧ ZW f_X8_run 50 [vR 20 0, vI f, vI b, vI r, vI q, vI x5, vI rr, vI v, vI (many (sgiv s f rr b) r n + 0), vI r6, vI ((n : Int) + 1)] [] ν5 (fun r ν => ∃ a, r = some (vI a) ∧ K a ν))) else (zin ((n : Int) + 1) ∧ ZW f_X8_run 50 [vR 20 0, vI f, vI b, vI r, vI q, vI x5, vI rr, vI v, vI (many (sgiv s f rr b) r n + 0), vI (rval (sgiv s f rr b) r n), vI ((n : Int) + 1)] [] μ (fun r ν => ∃ a, r = some (vI a) ∧ K a ν)))))) := by
                  intro v hv
                  subst hv
                  refine ⟨zin_sm (by omega), ?_⟩
                  by_cases z : num (sgiv s f rr b) n = r
                  · rw [if_pos z, if_pos z]
                    rw [if_pos z, if_pos z] at ih1
                    exact ⟨zin_sm (by omega), m_given hs hW (Or.inr g) hrr g2 (by omega) (by omega) ⟨zin_sm (by omega), ih1⟩⟩
                  · rw [if_neg z, if_neg z]
                    rw [if_neg z, if_neg z] at ih1
                    exact ⟨zin_sm (by omega), zin_sm (by omega), ih1⟩
                refine vc_X8_run_50 ?_
                rw [if_pos (by omega)]
                cases n with
                | zero =>
                  rw [if_neg (by omega)]
                  exact fin _ rfl
                | succ j =>
                  rw [if_pos (by omega)]
                  have ns := num_s (sgiv s f rr b) j
                  rw [show ((j + 1 : Nat) : Int) = (j : Int) + 1 by omega] at *
                  refine m_given hs hW (Or.inr g) hrr g2 (by omega) (by omega) ⟨zin_sm (by omega), m_given hs hW (Or.inr g) hrr g2 (by omega) (by omega) ?_⟩
                  rw [show (j : Int) + 1 - 1 = j by omega]
                  split
                  · next z =>
                    rw [if_pos z] at ns
                    exact fin _ ns.symm
                  · next z =>
                    rw [if_neg z] at ns
                    exact fin _ ns.symm
            exact key 16 0 rfl
          split
          · next r1 =>
            rw [if_pos r1] at h
            split
            · next z =>
              rw [if_pos z] at h
              exact m_reference hs hW g (body _ _ (fok_ref hW g) h)
            · next z =>
              rw [if_neg z] at h
              exact body _ _ (Or.inl rfl) h
          · next r1 =>
            rw [if_neg r1] at h
            exact zlf h rfl
        · rw [if_pos rfl]
          rw [cif_n (fun z => g3 z.2.2)] at h
          exact zlf h rfl
    · rw [if_pos rfl]
      rw [cif_n (fun z => g2 z.1.2)] at h
      exact zlf h rfl
  · rw [if_pos rfl]
    rw [cif_n (fun z => g z.1.1)] at h
    exact zlf h rfl
theorem m_pixel {f c : Int} (hs : μ 21 0 = s) (hW : WF s) (h : K (qpixel s f c) μ) : ZI f_X8_pixel [vR 20 0, vI f, vI c] μ K := by
  have hm := WD_mul hW.1
  unfold qpixel at h
  refine vc_X8_pixel_0 (m_isFrame hs hW (fun g => ?_) (fun g => ?_))
  · rw [if_neg (by decide)]
    refine m_isCell hs hW.1 (fun g2 => ?_) (fun g2 => ?_)
    · rw [if_neg (by decide)]
      rw [cif_p ⟨g, g2⟩] at h
      refine m_isGood hs hW g (fun z => ?_) (fun z => ?_)
      · rw [if_neg (by decide)]
        rw [cif_p z] at h
        exact m_value hs hW (Or.inr g) (by omega) (zlf h rfl)
      · rw [if_pos rfl]
        rw [cif_n z] at h
        exact zlf h rfl
    · rw [if_pos rfl]
      rw [cif_n (fun z => g2 z.2)] at h
      exact zlf h rfl
  · rw [if_pos rfl]
    rw [cif_n (fun z => g z.1)] at h
    exact zlf h rfl
theorem m_count {w : Int} (hs : μ 21 0 = s) (hW : WF s) (h : K (qcount s (μ 20 0 2) (μ 20 0 4) w) μ) : ZI f_X8_count [vR 20 0, vI w] μ K := by
  unfold qcount at h
  refine vc_X8_count_0 ?_
  rw [hs]
  by_cases w0 : w = 0
  · subst w0; rw [if_pos rfl]; rw [if_pos rfl] at h; exact ⟨by omega, zlf h rfl⟩
  rw [if_neg w0]; rw [if_neg w0] at h
  by_cases w1 : w = 1
  · subst w1; rw [if_pos rfl]; rw [if_pos rfl] at h; exact ⟨by omega, zlf h rfl⟩
  rw [if_neg w1]; rw [if_neg w1] at h
  by_cases w2 : w = 2
  · subst w2; rw [if_pos rfl]; rw [if_pos rfl] at h; exact ⟨by omega, zlf h rfl⟩
  rw [if_neg w2]; rw [if_neg w2] at h
  by_cases w3 : w = 3
  · subst w3; rw [if_pos rfl]; rw [if_pos rfl] at h; exact ⟨by omega, zlf h rfl⟩
  rw [if_neg w3]; rw [if_neg w3] at h
  by_cases w4 : w = 4
  · subst w4; rw [if_pos rfl]; rw [if_pos rfl] at h; exact ⟨by omega, zlf h rfl⟩
  rw [if_neg w4]; rw [if_neg w4] at h
  by_cases w5 : w = 5
  · subst w5; rw [if_pos rfl]; rw [if_pos rfl] at h; exact ⟨by omega, zlf h rfl⟩
  rw [if_neg w5]; rw [if_neg w5] at h
  by_cases w6 : w = 6
  · rw [if_pos w6]; rw [if_pos w6] at h
    have h2 := hW.2.1
    refine ifold_loop (g := fun d f => d + scost s f) (C := fun d k => ZW f_X8_count 11 [vR 20 0, vI w, vI d, vI k] [] μ (fun r ν => ∃ a, r = some (vI a) ∧ K a ν)) (I := fun d k => 0 ≤ d ∧ d ≤ 308 * k) (lo := 0) (hi := s 2) ?_ ?_ (s 2).toNat 0 0 (by omega) (by omega) (by omega) ?_
    · intro d k _ _ hd
      have := scost_b hW.1 k
      omega
    · intro d k k0 k1 hd hC
      refine vc_X8_count_11 ?_
      rw [hs, if_pos k1]
      have hb := scost_b hW.1 k
      exact ⟨by omega, m_costOf hs hW ⟨k0, k1⟩ ⟨zin_sm (by omega), zin_sm (by omega), hC⟩⟩
    · intro _
      refine vc_X8_count_11 ?_
      rw [hs, if_neg (by omega)]
      exact ⟨by omega, zlf h rfl⟩
  rw [if_neg w6]; rw [if_neg w6] at h
  by_cases w7 : w = 7
  · rw [if_pos w7]; rw [if_pos w7] at h; exact m_goods hs hW (zlf h rfl)
  rw [if_neg w7]; rw [if_neg w7] at h
  by_cases w8 : w = 8
  · rw [if_pos w8]; rw [if_pos w8] at h; exact zlf h rfl
  rw [if_neg w8]; rw [if_neg w8] at h
  by_cases w9 : w = 9
  · rw [if_pos w9]; rw [if_pos w9] at h; exact zlf h rfl
  rw [if_neg w9]; rw [if_neg w9] at h
  exact zlf h rfl
theorem m_costWith {r : Int} (hs : μ 21 0 = s) (hW : WF s) (h : ∀ ν, fr (fun t _ _ => t = 26) μ ν → K (qcostWith s r) ν) : ZI f_X8_costWith [vR 20 0, vI r] μ K := by
  unfold qcostWith at h
  refine vc_X8_costWith_0 (m_isImage hs hW (fun g => ?_) (fun g => ?_))
  · rw [if_neg (by decide)]
    rw [cif_p g] at h
    refine m_isKnown hs hW g (fun z => ?_) (fun z => ?_)
    · rw [if_neg (by decide)]
      rw [cif_p z] at h
      exact m_codesAll hs hW (Or.inl rfl) g (fun ν _ hF => zlf (h ν hF) rfl)
    · rw [if_pos rfl]
      rw [cif_n z] at h
      exact zlf (h μ fr_rf) rfl
  · rw [if_pos rfl]
    rw [cif_n g] at h
    exact zlf (h μ fr_rf) rfl
theorem m_differing {f g : Int} (hs : μ 21 0 = s) (hW : WF s) (hf : fok s f) (hg : fok s g) (h : K (sdiff s f g) μ) : ZI f_X8_differing [vR 20 0, vI f, vI g] μ K := by
  refine vc_X8_differing_0 ?_
  have hm := WD_mul hW.1
  refine ifold_loop (g := fun d c => d + if sv s f c = sv s g c then 0 else 1) (C := fun d k => ZW f_X8_differing 4 [vR 20 0, vI f, vI g, vI d, vI k] [] μ (fun r ν => ∃ a, r = some (vI a) ∧ K a ν)) (I := fun d k => 0 ≤ d ∧ d ≤ k) (lo := 0) (hi := s 0 * s 1) ?_ ?_ (s 0 * s 1).toNat 0 0 (by omega) (by omega) (by omega) ?_
  · intro d k k0 k1 hd
    split <;> omega
  · intro d k k0 k1 hd hC
    refine vc_X8_differing_4 (m_cells hs hW.1 ?_)
    rw [if_pos k1]
    refine m_value hs hW hf (by omega) (m_value hs hW hg (by omega) ?_)
    split
    · next he =>
      rw [if_pos he] at hC
      exact ⟨zin_sm (by omega), zin_sm (by omega), hC⟩
    · next he =>
      rw [if_neg he] at hC
      exact ⟨zin_sm (by omega), zin_sm (by omega), hC⟩
  · intro _
    refine vc_X8_differing_4 (m_cells hs hW.1 ?_)
    rw [if_neg (by omega)]
    exact zlf h rfl
theorem m_difference {f g : Int} (hs : μ 21 0 = s) (hW : WF s) (h : K (qdiff s f g) μ) : ZI f_X8_difference [vR 20 0, vI f, vI g] μ K := by
  unfold qdiff at h
  refine vc_X8_difference_0 (m_isImage hs hW (fun q1 => ?_) (fun q1 => ?_))
  · rw [if_neg (by decide)]
    refine m_isImage hs hW (fun q2 => ?_) (fun q2 => ?_)
    · rw [if_neg (by decide)]
      rw [cif_p ⟨q1, q2⟩] at h
      refine m_isKnown hs hW q1 (fun z => ?_) (fun z => ?_)
      · rw [if_neg (by decide)]
        refine m_isKnown hs hW q2 (fun z2 => ?_) (fun z2 => ?_)
        · rw [if_neg (by decide)]
          rw [cif_p ⟨z, z2⟩] at h
          exact m_differing hs hW q1 q2 (zlf h rfl)
        · rw [if_pos rfl]
          rw [cif_n (fun y => z2 y.2)] at h
          exact zlf h rfl
      · rw [if_pos rfl]
        rw [cif_n (fun y => z y.1)] at h
        exact zlf h rfl
    · rw [if_pos rfl]
      rw [cif_n (fun y => q2 y.2)] at h
      exact zlf h rfl
  · rw [if_pos rfl]
    rw [cif_n (fun y => q1 y.1)] at h
    exact zlf h rfl
theorem m_findBlock {f b : Int} (hs : μ 21 0 = s) (hW : WF s) (h : K (qfind s f b) μ) : ZI f_X8_findBlock [vR 20 0, vI f, vI b] μ K := by
  have hw := WD_w hW.1
  unfold qfind at h
  refine vc_X8_findBlock_0 (m_isFrame hs hW (fun g => ?_) (fun g => ?_))
  · rw [if_neg (by decide)]
    refine m_isBlock hs hW.1 (fun g2 => ?_) (fun g2 => ?_)
    · rw [if_neg (by decide)]
      rw [cif_p ⟨g, g2⟩] at h
      obtain ⟨hx, hy⟩ := WD_blk hW.1 g2.1 g2.2
      refine m_isGood hs hW g (fun z => ?_) (fun z => ?_)
      · rw [if_neg (by decide)]
        rw [cif_p z] at h
        have rows : ∀ (n : Nat) (y : Int), 0 ≤ y → y + n = s 1 - 3 → K (fall s f b n y) μ → ∀ v4 : mzV, ZW f_X8_findBlock 18 [vR 20 0, vI f, vI b, vI y, v4] [] μ (fun r ν => ∃ a, r = some (vI a) ∧ K a ν) := by
          intro n
          induction n with
          | zero =>
            intro y y0 y1 h v4
            refine vc_X8_findBlock_18 ?_
            rw [hs, if_pos (by omega)]
            exact ⟨by omega, zin_sm (by omega), zlf h rfl⟩
          | succ n ih =>
            intro y y0 y1 h v4
            refine vc_X8_findBlock_18 ?_
            rw [hs, if_neg (by omega)]
            refine ⟨by omega, zin_sm (by omega), ?_⟩
            have row : ∀ (m : Nat) (x : Int), 0 ≤ x → x + m = s 0 - 3 → K (frow s f b y (fall s f b n (y + 1)) m x) μ → ZW f_X8_findBlock 28 [vR 20 0, vI f, vI b, vI y, vI x] [] μ (fun r ν => ∃ a, r = some (vI a) ∧ K a ν) := by
              intro m
              induction m with
              | zero =>
                intro x x0 x1 h
                refine vc_X8_findBlock_28 ?_
                rw [hs, if_pos (by omega)]
                exact ⟨by omega, zin_sm (by omega), zin_sm (by omega), ih _ (by omega) (by omega) h _⟩
              | succ m ihm =>
                intro x x0 x1 h
                refine vc_X8_findBlock_28 ?_
                rw [hs, if_neg (by omega)]
                refine ⟨by omega, zin_sm (by omega), m_left hs hW.1 g2 (m_top hs hW.1 g2 (m_areAlike hs hW (Or.inl rfl) (Or.inr g) hx hy (by omega) (by omega) (fun l => ?_) (fun l => ?_)))⟩
                · rw [if_neg (by decide)]
                  unfold frow at h
                  rw [cif_p l] at h
                  exact ⟨zin_sm (by omega), zin_sm (by omega), zlf h rfl⟩
                · rw [if_pos rfl]
                  unfold frow at h
                  rw [cif_n l] at h
                  exact ⟨zin_sm (by omega), ihm _ (by omega) (by omega) h⟩
            exact row _ 0 (by omega) (by omega) h
        exact rows _ 0 (by omega) (by omega) h _
      · rw [if_pos rfl]
        rw [cif_n z] at h
        exact zlf h rfl
    · rw [if_pos rfl]
      rw [cif_n (fun z => g2 z.2)] at h
      exact zlf h rfl
  · rw [if_pos rfl]
    rw [cif_n (fun z => g z.1)] at h
    exact zlf h rfl
theorem m_greatestSeek (hs : μ 21 0 = s) (hW : WF s) (h : K (qgreat s) μ) : ZI f_X8_greatestSeek [vR 20 0] μ K := by
  refine vc_X8_greatestSeek_0 ?_
  have h2 := hW.2.1
  have e : ifold (fun a f => if a < sseek s f then sseek s f else a) (-9) 0 (s 2).toNat = qgreat s := by
    unfold qgreat
    split
    · next q => rw [show (s 2).toNat = 0 by omega]; rfl
    · next q =>
      obtain ⟨m, hm⟩ : ∃ m, (s 2).toNat = m + 1 := ⟨(s 2).toNat - 1, by omega⟩
      rw [hm]
      have hb := sseek_b hW (f := 0) ⟨by omega, by omega⟩
      unfold ifold
      rw [if_pos (by omega), if_pos (by omega)]
  refine ifold_loop (g := fun a f => if a < sseek s f then sseek s f else a) (C := fun d k => ZW f_X8_greatestSeek 4 [vR 20 0, vI d, vI k] [] μ (fun r ν => ∃ a, r = some (vI a) ∧ K a ν)) (I := fun _ _ => True) (lo := 0) (hi := s 2) ?_ ?_ (s 2).toNat (-9) 0 (by omega) (by omega) trivial ?_
  · intro d k _ _ _
    trivial
  · intro d k k0 k1 _ hC
    refine vc_X8_greatestSeek_4 ?_
    rw [hs, if_pos k1]
    refine ⟨by omega, m_seekOf hs hW ⟨k0, k1⟩ ?_⟩
    split
    · next q =>
      rw [if_pos q] at hC
      exact m_seekOf hs hW ⟨k0, k1⟩ ⟨zin_sm (by omega), hC⟩
    · next q =>
      rw [if_neg q] at hC
      exact ⟨zin_sm (by omega), hC⟩
  · intro _
    refine vc_X8_greatestSeek_4 ?_
    rw [hs, if_neg (by omega)]
    exact ⟨by omega, zlf h e⟩
theorem m_dependents {f : Int} (hs : μ 21 0 = s) (hW : WF s) (h : K (qdep s f) μ) : ZI f_X8_dependents [vR 20 0, vI f] μ K := by
  have h2 := hW.2.1
  unfold qdep at h
  refine vc_X8_dependents_0 (m_isFrame hs hW (fun g => ?_) (fun g => ?_))
  · rw [if_neg (by decide)]
    rw [cif_p g] at h
    refine ifold_loop (g := fun d g => d + cif (f ∈ chn s 10 g) 1 0) (C := fun d k => ZW f_X8_dependents 10 [vR 20 0, vI f, vI d, vI k] [] μ (fun r ν => ∃ a, r = some (vI a) ∧ K a ν)) (I := fun d k => 0 ≤ d ∧ d ≤ k) (lo := 0) (hi := s 2) ?_ ?_ (s 2).toNat 0 0 (by omega) (by omega) (by omega) ?_
    · intro d k _ _ hd
      unfold cif
      split <;> omega
    · intro d k k0 k1 hd hC
      refine vc_X8_dependents_10 ?_
      rw [hs, if_pos k1]
      refine ⟨by omega, m_isInChain hs hW ⟨k0, k1⟩ (fun z => ?_) (fun z => ?_)⟩
      · rw [if_neg (by decide)]
        rw [cif_p z] at hC
        exact ⟨zin_sm (by omega), zin_sm (by omega), hC⟩
      · rw [if_pos rfl]
        rw [cif_n z] at hC
        exact ⟨zin_sm (by omega), zin_sm (by omega), hC⟩
    · intro _
      refine vc_X8_dependents_10 ?_
      rw [hs, if_neg (by omega)]
      exact ⟨by omega, zlf h rfl⟩
  · rw [if_pos rfl]
    rw [cif_n g] at h
    exact zlf h rfl
theorem m_patch {f : Int} (hs : μ 21 0 = s) (hW : WF s) (h : K (qpatch s f) μ) : ZI f_X8_patch [vR 20 0, vI f] μ K := by
  have h2 := hW.2.1
  unfold qpatch at h
  refine vc_X8_patch_0 (m_isFrame hs hW (fun g => ?_) (fun g => ?_))
  · rw [if_neg (by decide), hs]
    rw [cif_p g] at h
    refine ⟨zin_sm (by omega), by omega, ?_⟩
    have e0 : s (1600 + f) = slost s f := rfl
    rw [e0]
    split
    · next q => rw [if_pos q] at h; exact zlf h rfl
    · next q =>
      rw [if_neg q] at h
      have key : ∀ (n : Nat) (a k : Int) (v4 : mzV), 0 ≤ k → k + n = s 2 → (a = -9 ∨ isF s a) → K (ifold (pst s f) a k n) μ → ZW f_X8_patch 19 [vR 20 0, vI f, vI a, vI k, v4] [] μ (fun r ν => ∃ a, r = some (vI a) ∧ K a ν) := by
        intro n
        induction n with
        | zero =>
          intro a k v4 k0 k1 ha h
          refine vc_X8_patch_19 ?_
          rw [hs, if_neg (by omega)]
          exact ⟨by omega, zlf h rfl⟩
        | succ n ih =>
          intro a k v4 k0 k1 ha h
          have hk : isF s k := ⟨k0, by omega⟩
          unfold ifold at h
          refine vc_X8_patch_19 ?_
          rw [hs, if_pos (by omega)]
          refine ⟨by omega, m_isGood hs hW hk (fun z => ?_) (fun z => ?_)⟩
          · rw [if_neg (by decide)]
            split
            · next q9 =>
              unfold pst at h
              rw [cif_p ⟨z, Or.inl q9⟩] at h
              exact ⟨zin_sm (by omega), ih _ _ _ (by omega) (by omega) (Or.inr hk) h⟩
            · next q9 =>
              have ha2 : isF s a := by
                rcases ha with z | z
                · exact absurd z q9
                · exact z
              refine m_differing hs hW (Or.inr g) (Or.inr hk) (m_differing hs hW (Or.inr g) (Or.inr ha2) ?_)
              split
              · next q8 =>
                unfold pst at h
                rw [cif_p ⟨z, Or.inr q8⟩] at h
                exact ⟨zin_sm (by omega), ih _ _ _ (by omega) (by omega) (Or.inr hk) h⟩
              · next q8 =>
                unfold pst at h
                rw [cif_n (fun y => by
                  rcases y.2 with y | y
                  · exact q9 y
                  · exact q8 y)] at h
                exact ⟨zin_sm (by omega), ih _ _ _ (by omega) (by omega) ha h⟩
          · rw [if_pos rfl]
            unfold pst at h
            rw [cif_n (fun y => z y.1)] at h
            exact ⟨zin_sm (by omega), ih _ _ _ (by omega) (by omega) ha h⟩
      exact key _ _ _ _ (by omega) (by omega) (Or.inl rfl) h
  · rw [if_pos rfl]
    rw [cif_n g] at h
    exact zlf h rfl
/-- the same sum the other way round -/
theorem isum_plus {g h : Int → Int} : ∀ (n : Nat) (k : Int), isum (fun p => g p + h p) k n = isum g k n + isum h k n
  | 0, _ => rfl
  | n + 1, k => by
    rw [isum_succ, isum_succ, isum_succ, isum_plus n (k + 1)]
    omega
theorem isum_swap {F : Int → Int → Int} (hF : ∀ p q, F p q = F q p) : ∀ N : Nat, isum (fun p => isum (fun q => F p q) (p + 1) ((N : Int) - (p + 1)).toNat) 0 N = isum (fun p => isum (fun q => F p q) 0 p.toNat) 0 N
  | 0 => rfl
  | N + 1 => by
    rw [isum_last, isum_last]
    have e1 : isum (fun p => isum (fun q => F p q) (p + 1) (((N + 1 : Nat) : Int) - (p + 1)).toNat) 0 N = isum (fun p => isum (fun q => F p q) (p + 1) ((N : Int) - (p + 1)).toNat + F p N) 0 N := by
      refine isum_congr N 0 (fun j j0 j1 => ?_)
      rw [show (((N + 1 : Nat) : Int) - (j + 1)).toNat = ((N : Int) - (j + 1)).toNat + 1 by omega, isum_last]
      rw [show j + 1 + ((((N : Int) - (j + 1)).toNat : Nat) : Int) = N by omega]
    rw [e1, isum_plus, isum_swap hF N]
    have e2 : ((((N + 1 : Nat) : Int) - (0 + (N : Int) + 1)).toNat) = 0 := by omega
    rw [e2, isum_zero, Int.zero_add, show ((N : Int)).toNat = N by omega]
    rw [isum_congr (g := fun p => F p N) (g' := fun q => F N q) N 0 (fun j _ _ => hF j N)]
    omega
theorem slike_sym {s : Int → Int} {f x y g a b : Int} (h : slike s f x y g a b) : slike s g a b f x y := fun k k0 k1 => (h k k0 k1).symm
theorem fpair_sym (s : Int → Int) (f p q : Int) : fpair s f p q = fpair s f q p := by
  unfold fpair
  by_cases h : sdig s f (p % (s 0 - 3)) (p / (s 0 - 3)) = sdig s f (q % (s 0 - 3)) (q / (s 0 - 3)) ∧ ¬ slike s f (p % (s 0 - 3)) (p / (s 0 - 3)) f (q % (s 0 - 3)) (q / (s 0 - 3))
  · rw [cif_p h, cif_p ⟨h.1.symm, fun z => h.2 (slike_sym z)⟩]
  · rw [cif_n h, cif_n (fun z => h ⟨z.1.symm, fun y => z.2 (slike_sym y)⟩)]
theorem m_falseMatches {f : Int} (hs : μ 21 0 = s) (hW : WF s) (h : ∀ ν, fr (fun t _ _ => t = 29) μ ν → K (qfalse s f) ν) : ZI f_X8_falseMatches [vR 20 0, vI f] μ K := by
  have hw := WD_w hW.1
  have hN := spn_b hW.1
  unfold qfalse at h
  refine vc_X8_falseMatches_0 (m_isImage hs hW (fun g => ?_) (fun g => ?_))
  · rw [if_neg (by decide)]
    rw [cif_p g] at h
    refine m_isKnown hs hW g (fun z => ?_) (fun z => ?_)
    · rw [if_neg (by decide), hs]
      rw [cif_p z] at h
      have e0 : (s 0 - 3) * (s 1 - 3) = spn s := rfl
      rw [e0]
      refine ⟨by omega, zin_sm (by omega), by omega, zin_sm (by omega), zin_sm (by omega), ?_⟩
      have ef : sfalse s f = isum (fun p => isum (fun q => fpair s f p q) 0 p.toNat) 0 (spn s).toNat := by
        have := isum_swap (F := fpair s f) (fpair_sym s f) (spn s).toNat
        rw [show (((spn s).toNat : Nat) : Int) = spn s by omega] at this
        exact this
      have bnd : ∀ p : Int, 0 ≤ p → p ≤ 81 → 0 ≤ isum (fun p => isum (fun q => fpair s f p q) 0 p.toNat) 0 p.toNat ∧ isum (fun p => isum (fun q => fpair s f p q) 0 p.toNat) 0 p.toNat ≤ 6561 := by
        intro p p0 p1
        have h2 := isum_bound (g := fun p => isum (fun q => fpair s f p q) 0 p.toNat) (lo := 0) (hi := 81) p.toNat 0 (fun j j0 j1 => by
          have := isum_1 (g := fun q => fpair s f j q) 0 j.toNat (fun i => fpair_b s f j i)
          omega)
        omega
      have outer : ∀ p, 0 ≤ p → p ≤ spn s → ∀ (ν : mzM) (v6 v7 : mzV), fr (fun t _ _ => t = 29) μ ν → (∀ j, 0 ≤ j → j < p → ν 29 0 j = sdig s f (j % (s 0 - 3)) (j / (s 0 - 3))) → ZW f_X8_falseMatches 32 [vR 20 0, vI f, vI (s 0 - 3), vI (spn s), vI (isum (fun p => isum (fun q => fpair s f p q) 0 p.toNat) 0 p.toNat), vI p, v6, v7] [] ν (fun r ν => ∃ a, r = some (vI a) ∧ K a ν) := by
        intro p p0 p1
        refine iter_down (C := fun p => ∀ (ν : mzM) (v6 v7 : mzV), fr (fun t _ _ => t = 29) μ ν → (∀ j, 0 ≤ j → j < p → ν 29 0 j = sdig s f (j % (s 0 - 3)) (j / (s 0 - 3))) → ZW f_X8_falseMatches 32 [vR 20 0, vI f, vI (s 0 - 3), vI (spn s), vI (isum (fun p => isum (fun q => fpair s f p q) 0 p.toNat) 0 p.toNat), vI p, v6, v7] [] ν (fun r ν => ∃ a, r = some (vI a) ∧ K a ν)) (lo := 0) (hi := spn s) ?_ ?_ p0 p1
        · intro p p0 p1 ih ν v6 v7 hF hj
          have hs1 : ν 21 0 = s := fr_s hs hF (fun k q => by omega)
          obtain ⟨ax, ay⟩ := spn_at hW.1 p0 p1
          refine vc_X8_falseMatches_32 ?_
          rw [if_pos p1, ztm _ p0, ztd _ p0]
          refine ⟨by omega, ⟨by omega, zin_sm (by omega)⟩, m_digestOf hs1 hW g ax ay ⟨by omega, ?_⟩⟩
          have hF2 : fr (fun t _ _ => t = 29) μ (mup ν 29 0 p (sdig s f (p % (s 0 - 3)) (p / (s 0 - 3)))) := fr_up hF rfl
          have hj2 : ∀ j, 0 ≤ j → j < p + 1 → (mup ν 29 0 p (sdig s f (p % (s 0 - 3)) (p / (s 0 - 3)))) 29 0 j = sdig s f (j % (s 0 - 3)) (j / (s 0 - 3)) := by
            intro j j0 j1
            by_cases q : j = p
            · rw [q, mup_self]
            · rw [mup_k q]; exact hj j j0 (by omega)
          generalize mup ν 29 0 p (sdig s f (p % (s 0 - 3)) (p / (s 0 - 3))) = ξ at *
          have hs2 : ξ 21 0 = s := fr_s hs hF2 (fun k q => by omega)
          have hb := bnd p p0 (by omega)
          have inner : ∀ q, 0 ≤ q → q ≤ p → ∀ v7 : mzV, ZW f_X8_falseMatches 50 [vR 20 0, vI f, vI (s 0 - 3), vI (spn s), vI (isum (fun p => isum (fun q => fpair s f p q) 0 p.toNat) 0 p.toNat + isum (fun q => fpair s f p q) 0 q.toNat), vI p, vI q, v7] [] ξ (fun r ν => ∃ a, r = some (vI a) ∧ K a ν) := by
            intro q q0 q1
            refine iter_down (C := fun q => ∀ v7 : mzV, ZW f_X8_falseMatches 50 [vR 20 0, vI f, vI (s 0 - 3), vI (spn s), vI (isum (fun p => isum (fun q => fpair s f p q) 0 p.toNat) 0 p.toNat + isum (fun q => fpair s f p q) 0 q.toNat), vI p, vI q, v7] [] ξ (fun r ν => ∃ a, r = some (vI a) ∧ K a ν)) (lo := 0) (hi := p) ?_ ?_ q0 q1
            · intro q q0 q1 ihq v7
              obtain ⟨bx, bY⟩ := spn_at hW.1 q0 (show q < spn s by omega)
              have hb2 := isum_1 (g := fun q => fpair s f p q) 0 q.toNat (fun i => fpair_b s f p i)
              have e : isum (fun p => isum (fun q => fpair s f p q) 0 p.toNat) 0 p.toNat + isum (fun q => fpair s f p q) 0 (q + 1).toNat = isum (fun p => isum (fun q => fpair s f p q) 0 p.toNat) 0 p.toNat + isum (fun q => fpair s f p q) 0 q.toNat + fpair s f p q := by
                rw [show (q + 1).toNat = q.toNat + 1 by omega, isum_last, show (0 : Int) + (q.toNat : Int) = q by omega]
                omega
              rw [e] at ihq
              refine vc_X8_falseMatches_50 ?_
              rw [if_pos q1, hj2 q q0 (by omega), hj2 p p0 (by omega), ztm _ p0, ztd _ p0, ztm _ q0, ztd _ q0]
              refine ⟨by omega, by omega, ?_⟩
              split
              · next hd =>
                refine ⟨by omega, ⟨by omega, zin_sm (by omega)⟩, by omega, ⟨by omega, zin_sm (by omega)⟩, m_areAlike hs2 hW g g ax ay bx bY (fun l => ?_) (fun l => ?_)⟩
                · rw [if_neg (by decide)]
                  have e1 : fpair s f p q = 0 := by unfold fpair; rw [cif_n (fun y => y.2 l)]
                  rw [e1] at ihq
                  exact ⟨zin_sm (by omega), zin_sm (by omega), ihq _⟩
                · rw [if_pos rfl]
                  have e1 : fpair s f p q = 1 := by unfold fpair; rw [cif_p ⟨hd.symm, l⟩]
                  rw [e1] at ihq
                  exact ⟨zin_sm (by omega), zin_sm (by omega), ihq _⟩
              · next hd =>
                have e1 : fpair s f p q = 0 := by unfold fpair; rw [cif_n (fun y => hd y.1.symm)]
                rw [e1] at ihq
                exact ⟨zin_sm (by omega), zin_sm (by omega), ihq _⟩
            · intro v7
              refine vc_X8_falseMatches_50 ?_
              rw [if_neg (by omega)]
              refine ⟨zin_sm (by omega), ?_⟩
              have e : isum (fun p => isum (fun q => fpair s f p q) 0 p.toNat) 0 (p + 1).toNat = isum (fun p => isum (fun q => fpair s f p q) 0 p.toNat) 0 p.toNat + isum (fun q => fpair s f p q) 0 p.toNat := by
                rw [show (p + 1).toNat = p.toNat + 1 by omega, isum_last, show (0 : Int) + (p.toNat : Int) = p by omega]
              rw [← e]
              exact ih _ _ _ hF2 hj2
          have i0 := inner 0 (by omega) p0 v7
          have e : isum (fun p => isum (fun q => fpair s f p q) 0 p.toNat) 0 p.toNat + isum (fun q => fpair s f p q) 0 (0 : Int).toNat = isum (fun p => isum (fun q => fpair s f p q) 0 p.toNat) 0 p.toNat := Int.add_zero _
          rw [e] at i0
          exact i0
        · intro ν v6 v7 hF hj
          refine vc_X8_falseMatches_32 ?_
          rw [if_neg (by omega)]
          exact zlf (h ν hF) ef.symm
      exact outer 0 (by omega) (by omega) μ _ _ fr_rf (fun j j0 j1 => by omega)
    · rw [if_pos rfl]
      rw [cif_n z] at h
      exact zlf (h μ fr_rf) rfl
  · rw [if_pos rfl]
    rw [cif_n g] at h
    exact zlf (h μ fr_rf) rfl
end Mas
