/-! ===== the model: draw ===== -/
section Mdw
variable {μ : mzM} {s cv : Int → Int} {T : Int → Int} {L : Int}
abbrev ENDm (ξ : mzM) (K : mzM → Prop) : Prop := if ξ 20 0 7 = 3 then ZV f_X8_takes [vR 20 0, vI 1] ξ (fun ν => (none : Option mzV) = none ∧ K ν) else ZV f_X8_takes [vR 20 0, vI 0] ξ (fun ν => (none : Option mzV) = none ∧ K ν)
theorem ok_hd {ν : mzM} {b : Int} (h : OKF μ ν s cv T L b) : ν 21 0 0 = s 0 ∧ ν 21 0 1 = s 1 := ⟨h.2.2.1.2.1 0 (by omega), h.2.2.1.2.1 1 (by omega)⟩
theorem m_swapl {ν : mzM} {b a c w x3 x4 x5 x6 : Int} {K : mzM → Prop} (hW : WF s) (hO : OKF μ ν s cv T L b) (a0 : 0 ≤ a ∧ a ≤ 15) (c0 : 0 ≤ c ∧ c ≤ 15) (hK : ∀ ξ, OKF μ ξ s (fun k => if cv k = a then c else if cv k = c then a else cv k) T L b → ENDm ξ K) : ZW f_X8_readsCommand 137 [vR 20 0, vL w, none, vI x3, vI x4, vI x5, vI x6, vI a, vI c, vI 0, none] [] ν (fun r ν => r = none ∧ K ν) := by
  have hm := WD_mul hW.1
  have key : ∀ x, 0 ≤ x → x ≤ s 0 * s 1 → ∀ (ζ : mzM) (v : mzV), fr Pcv ν ζ → (∀ k, 0 ≤ k → k < x → ζ 21 0 (6 + k) = if cv k = a then c else if cv k = c then a else cv k) → (∀ k, x ≤ k → k < s 0 * s 1 → ζ 21 0 (6 + k) = cv k) → ZW f_X8_readsCommand 137 [vR 20 0, vL w, none, vI x3, vI x4, vI x5, vI x6, vI a, vI c, vI x, v] [] ζ (fun r ν => r = none ∧ K ν) := by
    intro x x0 x1
    refine iter_down (C := fun x => ∀ (ζ : mzM) (v : mzV), fr Pcv ν ζ → (∀ k, 0 ≤ k → k < x → ζ 21 0 (6 + k) = if cv k = a then c else if cv k = c then a else cv k) → (∀ k, x ≤ k → k < s 0 * s 1 → ζ 21 0 (6 + k) = cv k) → ZW f_X8_readsCommand 137 [vR 20 0, vL w, none, vI x3, vI x4, vI x5, vI x6, vI a, vI c, vI x, v] [] ζ (fun r ν => r = none ∧ K ν)) (lo := 0) (hi := s 0 * s 1) ?_ ?_ x0 x1
    · intro x x0 x1 ih ζ v hF hd hr
      have e0 := (hF 21 0 0 (by omega)).trans (ok_hd hO).1
      have e1 := (hF 21 0 1 (by omega)).trans (ok_hd hO).2
      refine vc_X8_readsCommand_137 (m_cells2 hW.1 e0 e1 ?_)
      rw [if_pos x1, hF 20 0 10 (by omega), if_pos hO.2.1, hr x (Int.le_refl x) x1]
      have upd : ∀ val, (val = if cv x = a then c else if cv x = c then a else cv x) → ∀ v : mzV, ZW f_X8_readsCommand 137 [vR 20 0, vL w, none, vI x3, vI x4, vI x5, vI x6, vI a, vI c, vI (x + 1), v] [] (mup ζ 21 0 (6 + x) val) (fun r ν => r = none ∧ K ν) := by
        intro val hv v
        refine ih _ v (fr_up hF ⟨rfl, rfl, by omega, by omega⟩) (fun k k0 k1 => ?_) (fun k k0 k1 => ?_)
        · by_cases q : k = x
          · rw [q, mup_self]; exact hv
          · rw [mup_k (by omega)]; exact hd k k0 (by omega)
        · rw [mup_k (by omega)]; exact hr k (by omega) k1
      refine ⟨zin_sm (by omega), by omega, zin_sm (by omega), ?_⟩
      by_cases q1 : cv x = a
      · rw [if_pos q1]
        exact ⟨by omega, zin_sm (by omega), upd _ (by rw [if_pos q1]) _⟩
      · rw [if_neg q1]
        by_cases q2 : cv x = c
        · rw [if_pos q2]
          exact ⟨by omega, zin_sm (by omega), upd _ (by rw [if_neg q1, if_pos q2]) _⟩
        · rw [if_neg q2]
          exact ⟨by omega, zin_sm (by omega), upd _ (by rw [if_neg q1, if_neg q2]) _⟩
    · intro ζ v hF hd hr
      have e0 := (hF 21 0 0 (by omega)).trans (ok_hd hO).1
      have e1 := (hF 21 0 1 (by omega)).trans (ok_hd hO).2
      refine vc_X8_readsCommand_137 (m_cells2 hW.1 e0 e1 ?_)
      rw [if_neg (by omega)]
      refine hK ζ (ok_op hO ⟨hd, fun k q => (hF 21 0 k (by omega)).trans (hO.2.2.1.2.1 k q), fun k k0 k1 => ?_⟩ (fr_mono hF (fun t i k q => by omega)))
      dsimp only
      split
      · exact c0
      · split
        · exact a0
        · exact hO.2.2.1.2.2 k k0 k1
  exact key 0 (by omega) (by omega) ν _ fr_rf (fun k k0 k1 => by omega) (fun k k0 k1 => hO.2.2.1.1 k k0 k1)
theorem wr_swapl {ν : mzM} {e a c w x3 x4 x5 x6 : Int} {K : mzM → Prop} (hW : WF s) (hV : DV μ s cv) (h : WRF μ ν e) (hK : ∀ ξ, WRF μ ξ e → K ξ) : ZW f_X8_readsCommand 137 [vR 20 0, vL w, none, vI x3, vI x4, vI x5, vI x6, vI a, vI c, vI 0, none] [] ν (fun r ν => r = none ∧ K ν) := by
  have hm := WD_mul hW.1
  have hd := wr_hd hV h
  refine vc_X8_readsCommand_137 (m_cells2 hW.1 hd.1 hd.2 ?_)
  rw [if_pos (by omega), if_neg (by rw [h.1]; decide)]
  exact wr_end h hK
theorem m_framel {ν : mzM} {b g w x3 x4 x5 x6 : Int} {K : mzM → Prop} (hW : WF s) (hO : OKF μ ν s cv T L b) (hg : isF s g) (hK : ∀ ξ, OKF μ ξ s (fun k => sv s g k) T L b → ENDm ξ K) : ZW f_X8_readsCommand 199 [vR 20 0, vL w, none, vI x3, vI x4, vI x5, vI x6, vI g, vI 0, none, none] [] ν (fun r ν => r = none ∧ K ν) := by
  have hm := WD_mul hW.1
  have h10 := hW.2.1
  have key : ∀ x, 0 ≤ x → x ≤ s 0 * s 1 → ∀ (ζ : mzM), fr Pcv ν ζ → (∀ k, 0 ≤ k → k < x → ζ 21 0 (6 + k) = sv s g k) → (∀ k, x ≤ k → k < s 0 * s 1 → ζ 21 0 (6 + k) = cv k) → ZW f_X8_readsCommand 199 [vR 20 0, vL w, none, vI x3, vI x4, vI x5, vI x6, vI g, vI x, none, none] [] ζ (fun r ν => r = none ∧ K ν) := by
    intro x x0 x1
    refine iter_down (C := fun x => ∀ (ζ : mzM), fr Pcv ν ζ → (∀ k, 0 ≤ k → k < x → ζ 21 0 (6 + k) = sv s g k) → (∀ k, x ≤ k → k < s 0 * s 1 → ζ 21 0 (6 + k) = cv k) → ZW f_X8_readsCommand 199 [vR 20 0, vL w, none, vI x3, vI x4, vI x5, vI x6, vI g, vI x, none, none] [] ζ (fun r ν => r = none ∧ K ν)) (lo := 0) (hi := s 0 * s 1) ?_ ?_ x0 x1
    · intro x x0 x1 ih ζ hF hd hr
      have e0 := (hF 21 0 0 (by omega)).trans (ok_hd hO).1
      have e1 := (hF 21 0 1 (by omega)).trans (ok_hd hO).2
      refine vc_X8_readsCommand_199 (m_cells2 hW.1 e0 e1 ?_)
      rw [if_pos x1, hF 20 0 10 (by omega), if_pos hO.2.1]
      refine ⟨zin_sm (by omega), vc_X8_value_0 ?_⟩
      have eg : ζ 21 0 (150 + 144 * g + x) = sv s g x := by
        rw [hF 21 0 _ (by omega), hO.2.2.1.2.1 _ (by omega)]
        unfold sv
        rw [if_neg (by omega)]
      rw [if_neg (by omega), eg]
      refine ⟨zin_sm (by omega), zin_sm (by omega), zin_sm (by omega), by omega, _, rfl, by omega, zin_sm (by omega), ih _ (fr_up hF ⟨rfl, rfl, by omega, by omega⟩) (fun k k0 k1 => ?_) (fun k k0 k1 => ?_)⟩
      · by_cases q : k = x
        · rw [q, mup_self]
        · rw [mup_k (by omega)]; exact hd k k0 (by omega)
      · rw [mup_k (by omega)]; exact hr k (by omega) k1
    · intro ζ hF hd hr
      have e0 := (hF 21 0 0 (by omega)).trans (ok_hd hO).1
      have e1 := (hF 21 0 1 (by omega)).trans (ok_hd hO).2
      refine vc_X8_readsCommand_199 (m_cells2 hW.1 e0 e1 ?_)
      rw [if_neg (by omega)]
      exact hK ζ (ok_op hO ⟨hd, fun k q => (hF 21 0 k (by omega)).trans (hO.2.2.1.2.1 k q), fun k k0 k1 => (hW.2.2.2.2.2.2 g hg.1 hg.2).1 k k0 k1⟩ (fr_mono hF (fun t i k q => by omega)))
  exact key 0 (by omega) (by omega) ν fr_rf (fun k k0 k1 => by omega) (fun k k0 k1 => hO.2.2.1.1 k k0 k1)
theorem wr_framel {ν : mzM} {e g w x3 x4 x5 x6 : Int} {K : mzM → Prop} (hW : WF s) (hV : DV μ s cv) (h : WRF μ ν e) (hK : ∀ ξ, WRF μ ξ e → K ξ) : ZW f_X8_readsCommand 199 [vR 20 0, vL w, none, vI x3, vI x4, vI x5, vI x6, vI g, vI 0, none, none] [] ν (fun r ν => r = none ∧ K ν) := by
  have hm := WD_mul hW.1
  have hd := wr_hd hV h
  refine vc_X8_readsCommand_199 (m_cells2 hW.1 hd.1 hd.2 ?_)
  rw [if_pos (by omega), if_neg (by rw [h.1]; decide)]
  exact wr_end h hK
theorem wr_fill {ν : mzM} {e x y w h v : Int} {K : mzM → Prop} (hW : WF s) (hV : DV μ s cv) (hR : WRF μ ν e) (hK : ∀ ξ, WRF μ ξ e → K ξ) : ZV f_X8_fillsBox [vR 20 0, vI x, vI y, vI w, vI h, vI v] ν (fun ξ => ENDm ξ K) := m_fillsBox_w hW.1 (wr_hd hV hR).1 (wr_hd hV hR).2 hR.1 (wr_end hR hK)
theorem m_readsCommand {b : Int} {K : mzM → Prop} (hT : MT μ T L) (hW : WF s) (hk : MTK μ T L b) (hw : μ 20 0 10 = 0) (hV : DV μ s cv) (h0 : ∀ e, pcmd s T L b = .inl e → ∀ ν, WRF μ ν e → K ν) (h1 : ∀ q c, pcmd s T L b = .inr (q, c) → ∀ ν, OKF μ ν s (excmd s cv c) T L (sk T L q) → K ν) : ZV f_X8_readsCommand [vR 20 0] μ K := by
  have hT' : ∀ k, 0 ≤ k → k < L → 0 ≤ T k ∧ T k ≤ 255 := fun k k0 k1 => (hT.2.2 k k0 k1).2
  obtain ⟨A0, A1, A2, A3, A4⟩ := cargs_c
  have wrong : cmdof T L b = -1 → ∀ (w x3 x4 x5 x6 : Int), ZW f_X8_readsCommand 57 [vR 20 0, vL w, none, vI x3, vI x4, vI x5, vI x6, none, none, none, none] [vI 0, vR 20 0] μ (fun r ν => r = none ∧ K ν) := by
    intro hc w x3 x4 x5 x6
    refine vc_X8_readsCommand_57 (m_takes_no hw (fun ν e hF => ?_))
    rw [if_neg (by omega)]
    exact ⟨rfl, h0 b (by unfold pcmd; rw [if_pos (by omega)]) ν ⟨e, (hF 20 0 6 (by omega)).trans hk.1.1, fr_mono hF (fun t i k q => by omega)⟩⟩
  have first : ∀ ν : mzM, MTK ν T L (sk T L (te T L b)) → ν 20 0 10 = 0 → fr Ptn μ ν → OKF μ ν s cv T L (sk T L (te T L b)) := fun ν hM e hF => ⟨hM, e, DV_fr hV hF (fun k => by omega), fr_mono hF (fun t i k q => by omega)⟩
  have nn : ∀ {ξ : mzM} {c' : Int → Int} {x : Int}, OKF μ ξ s c' T L x → 0 ≤ x := fun h => h.1.2.1.1
  by_cases hkd : kd T L b = 1
  · refine m_disp (w := whash T L b) (Or.inl ⟨hk.2.2.2.1.trans (mkd_1.mpr hkd), (hk.2.2.2.2.1 hkd).symm⟩) (fun x3 x4 x5 x6 y f3 f4 f5 f6 fy => ?_)
    rcases cmd_h hkd with ⟨hw1, hc⟩ | ⟨hw1, hc⟩ | ⟨hw1, hc⟩ | ⟨hw1, hc⟩ | ⟨hw1, hc⟩ | ⟨hw1, hc⟩
    · -- fill
      rw [hw1] at f3 f4 f5 f6 fy ⊢
      have g3 : x3 = 1 := by omega
      have gy : y = 1 := by omega
      subst g3; subst gy
      refine vc_X8_readsCommand_57 (m_takes_ok hT hk hw (by decide) (fun ν hM e hF => ?_))
      rw [if_pos e, if_neg (by decide)]
      refine ok_tn hT (first ν hM e hF) (Or.inl ⟨rfl, rfl, rfl⟩) (fun a1 ξ hO1 => ?_) (fun a1 ξ hR => ?_)
      · have v1 : 0 ≤ nvl T L (sk T L (te T L b)) ∧ nvl T L (sk T L (te T L b)) ≤ 15 := aok_v hT' (nn (first ν hM e hF)) a1
        refine m_fillsBox hW hO1.2.2.1 hO1.2.1 (by omega) (by omega) (by omega) (by omega) v1 (fun ζ hV2 hF2 => ?_)
        refine ok_end hT (ok_op hO1 hV2 (fr_mono hF2 (fun t i k q => by omega))) (fun q χ hO3 => h1 _ _ (pc_r hc (by decide) A0 (pg_yr a1 (pg_0r q))) χ (ok_c hO3 (fun k k0 k1 => ?_))) (fun q χ hR => h0 _ (pc_e hc (by decide) A0 (pg_ye a1 (pg_0e q))) χ hR)
        have dm := dmod hW.1 k0 k1
        have hwd := WD_w hW.1
        rw [if_pos (by omega)]
        rfl
      · exact wr_fill hW hV hR (fun χ hR2 => h0 _ (pc_e hc (by decide) A0 (pg_n a1)) χ hR2)
    · -- box
      rw [hw1] at f3 f4 f5 f6 fy ⊢
      have g3 : x3 = 0 := by omega
      have g4 : x4 = 1 := by omega
      have gy : y = 1 := by omega
      subst g3; subst g4; subst gy
      refine vc_X8_readsCommand_57 (m_takes_ok hT hk hw (by decide) (fun ν hM e hF => ?_))
      rw [if_pos e, if_pos rfl, if_neg (by decide)]
      refine ok_tn hT (first ν hM e hF) (Or.inr (Or.inl ⟨rfl, rfl, rfl⟩)) (fun a1 ξ1 hO1 => ?_) (fun a1 ξ1 hR1 => ?_)
      · have v1 : 0 ≤ nvl T L (sk T L (te T L b)) ∧ nvl T L (sk T L (te T L b)) ≤ 12 := aok_v hT' (nn (first ν hM e hF)) a1
        refine ok_tn hT hO1 (Or.inr (Or.inl ⟨rfl, rfl, rfl⟩)) (fun a2 ξ2 hO2 => ?_) (fun a2 ξ2 hR2 => ?_)
        · have v2 := aok_v hT' (nn hO1) a2
          refine ok_tn hT hO2 (Or.inr (Or.inl ⟨rfl, rfl, rfl⟩)) (fun a3 ξ3 hO3 => ?_) (fun a3 ξ3 hR3 => ?_)
          · have v3 := aok_v hT' (nn hO2) a3
            refine ok_tn hT hO3 (Or.inr (Or.inl ⟨rfl, rfl, rfl⟩)) (fun a4 ξ4 hO4 => ?_) (fun a4 ξ4 hR4 => ?_)
            · have v4 := aok_v hT' (nn hO3) a4
              refine ok_tn hT hO4 (Or.inl ⟨rfl, rfl, rfl⟩) (fun a5 ξ5 hO5 => ?_) (fun a5 ξ5 hR5 => ?_)
              · have v5 := aok_v hT' (nn hO4) a5
                refine m_fillsBox hW hO5.2.2.1 hO5.2.1 v1 v2 v3 v4 v5 (fun ζ hV2 hF2 => ?_)
                exact ok_end hT (ok_op hO5 hV2 (fr_mono hF2 (fun t i k q => by omega))) (fun q χ hO6 => h1 _ _ (pc_r hc (by decide) A1 (pg_yr a1 (pg_yr a2 (pg_yr a3 (pg_yr a4 (pg_yr a5 (pg_0r q))))))) χ (ok_c hO6 (fun k k0 k1 => rfl))) (fun q χ hR => h0 _ (pc_e hc (by decide) A1 (pg_ye a1 (pg_ye a2 (pg_ye a3 (pg_ye a4 (pg_ye a5 (pg_0e q))))))) χ hR)
              · exact wr_fill hW hV hR5 (fun χ hR => h0 _ (pc_e hc (by decide) A1 (pg_ye a1 (pg_ye a2 (pg_ye a3 (pg_ye a4 (pg_n a5)))))) χ hR)
            · exact wr_tn hR4 (fun r5 χ5 y5 => wr_fill hW hV y5 (fun χ hR => h0 _ (pc_e hc (by decide) A1 (pg_ye a1 (pg_ye a2 (pg_ye a3 (pg_n a4))))) χ hR))
          · exact wr_tn hR3 (fun r4 χ4 y4 => wr_tn y4 (fun r5 χ5 y5 => wr_fill hW hV y5 (fun χ hR => h0 _ (pc_e hc (by decide) A1 (pg_ye a1 (pg_ye a2 (pg_n a3)))) χ hR)))
        · exact wr_tn hR2 (fun r3 χ3 y3 => wr_tn y3 (fun r4 χ4 y4 => wr_tn y4 (fun r5 χ5 y5 => wr_fill hW hV y5 (fun χ hR => h0 _ (pc_e hc (by decide) A1 (pg_ye a1 (pg_n a2))) χ hR))))
      · exact wr_tn hR1 (fun r2 χ2 y2 => wr_tn y2 (fun r3 χ3 y3 => wr_tn y3 (fun r4 χ4 y4 => wr_tn y4 (fun r5 χ5 y5 => wr_fill hW hV y5 (fun χ hR => h0 _ (pc_e hc (by decide) A1 (pg_n a1)) χ hR)))))
    · -- shift
      rw [hw1] at f3 f4 f5 f6 fy ⊢
      have g3 : x3 = 0 := by omega
      have g4 : x4 = 0 := by omega
      have g5 : x5 = 1 := by omega
      have gy : y = 1 := by omega
      subst g3; subst g4; subst g5; subst gy
      refine vc_X8_readsCommand_57 (m_takes_ok hT hk hw (by decide) (fun ν hM e hF => ?_))
      rw [if_pos e, if_pos rfl, if_pos rfl, if_neg (by decide)]
      refine ok_tn hT (first ν hM e hF) (Or.inr (Or.inr ⟨rfl, rfl, rfl⟩)) (fun a1 ξ1 hO1 => ?_) (fun a1 ξ1 hR1 => ?_)
      · have v1 := aok_v hT' (nn (first ν hM e hF)) a1
        refine ok_tn hT hO1 (Or.inr (Or.inr ⟨rfl, rfl, rfl⟩)) (fun a2 ξ2 hO2 => ?_) (fun a2 ξ2 hR2 => ?_)
        · have v2 := aok_v hT' (nn hO1) a2
          refine m_shifts hW hO2.2.2.1 hO2.2.1 v1 v2 (fun ζ hV2 hF2 => ?_)
          have hO3 : OKF μ ζ s (fun k => if (0 ≤ k % s 0 - nvl T L (sk T L (te T L b)) ∧ k % s 0 - nvl T L (sk T L (te T L b)) < s 0) ∧ (0 ≤ k / s 0 - nvl T L (sk T L (te T L (sk T L (te T L b)))) ∧ k / s 0 - nvl T L (sk T L (te T L (sk T L (te T L b)))) < s 1) then cv ((k / s 0 - nvl T L (sk T L (te T L (sk T L (te T L b))))) * s 0 + (k % s 0 - nvl T L (sk T L (te T L b)))) else 0) T L _ := ok_op hO2 hV2 hF2
          exact ok_end hT hO3 (fun q χ hO6 => h1 _ _ (pc_r hc (by decide) A2 (pg_yr a1 (pg_yr a2 (pg_0r q)))) χ (ok_c hO6 (fun k k0 k1 => rfl))) (fun q χ hR => h0 _ (pc_e hc (by decide) A2 (pg_ye a1 (pg_ye a2 (pg_0e q)))) χ hR)
        · exact m_shifts_w hW.1 (wr_hd hV hR2).1 (wr_hd hV hR2).2 hR2.1 (fun ζ hF2 => wr_end (μ := μ) (e := sk T L (te T L (sk T L (te T L b)))) ⟨(hF2 20 0 10 (by omega)).trans hR2.1, (hF2 20 0 6 (by omega)).trans hR2.2.1, fr_tr hR2.2.2 (fr_mono hF2 (fun t i k q => by omega))⟩ (fun χ hR => h0 _ (pc_e hc (by decide) A2 (pg_ye a1 (pg_n a2))) χ hR))
      · exact wr_tn hR1 (fun r2 χ2 hR2 => m_shifts_w hW.1 (wr_hd hV hR2).1 (wr_hd hV hR2).2 hR2.1 (fun ζ hF2 => wr_end (μ := μ) (e := sk T L (te T L b)) ⟨(hF2 20 0 10 (by omega)).trans hR2.1, (hF2 20 0 6 (by omega)).trans hR2.2.1, fr_tr hR2.2.2 (fr_mono hF2 (fun t i k q => by omega))⟩ (fun χ hR => h0 _ (pc_e hc (by decide) A2 (pg_n a1)) χ hR)))
    · -- swap
      rw [hw1] at f3 f4 f5 f6 fy ⊢
      have g3 : x3 = 0 := by omega
      have g4 : x4 = 0 := by omega
      have g5 : x5 = 0 := by omega
      have g6 : x6 = 1 := by omega
      have gy : y = 1 := by omega
      subst g3; subst g4; subst g5; subst g6; subst gy
      refine vc_X8_readsCommand_57 (m_takes_ok hT hk hw (by decide) (fun ν hM e hF => ?_))
      rw [if_pos e, if_pos rfl, if_pos rfl, if_pos rfl, if_neg (by decide)]
      refine ok_tn hT (first ν hM e hF) (Or.inl ⟨rfl, rfl, rfl⟩) (fun a1 ξ1 hO1 => ?_) (fun a1 ξ1 hR1 => ?_)
      · have v1 := aok_v hT' (nn (first ν hM e hF)) a1
        refine ok_tn hT hO1 (Or.inl ⟨rfl, rfl, rfl⟩) (fun a2 ξ2 hO2 => ?_) (fun a2 ξ2 hR2 => ?_)
        · have v2 := aok_v hT' (nn hO1) a2
          exact m_swapl hW hO2 v1 v2 (fun ζ hO3 => ok_end hT hO3 (fun q χ hO6 => h1 _ _ (pc_r hc (by decide) A3 (pg_yr a1 (pg_yr a2 (pg_0r q)))) χ (ok_c hO6 (fun k k0 k1 => rfl))) (fun q χ hR => h0 _ (pc_e hc (by decide) A3 (pg_ye a1 (pg_ye a2 (pg_0e q)))) χ hR))
        · exact wr_swapl hW hV hR2 (fun χ hR => h0 _ (pc_e hc (by decide) A3 (pg_ye a1 (pg_n a2))) χ hR)
      · exact wr_tn hR1 (fun r2 χ2 y2 => wr_swapl hW hV y2 (fun χ hR => h0 _ (pc_e hc (by decide) A3 (pg_n a1)) χ hR))
    · -- frame
      rw [hw1] at f3 f4 f5 f6 fy ⊢
      have g3 : x3 = 0 := by omega
      have g4 : x4 = 0 := by omega
      have g5 : x5 = 0 := by omega
      have g6 : x6 = 0 := by omega
      have gy : y = 1 := by omega
      subst g3; subst g4; subst g5; subst g6; subst gy
      refine vc_X8_readsCommand_57 (m_takes_ok hT hk hw (by decide) (fun ν hM e hF => ?_))
      rw [if_pos e, if_pos rfl, if_pos rfl, if_pos rfl, if_pos rfl]
      have hO := first ν hM e hF
      obtain ⟨hOP, hW2⟩ := DV_wf hW hO.2.2.1
      have hv : ∀ v : Int, (v = nvl T L (sk T L (te T L b)) ∧ nok T L (sk T L (te T L b)) ∧ T (sk T L (te T L b)) ≠ 45) ∨ (v = -1 ∧ ¬ (nok T L (sk T L (te T L b)) ∧ T (sk T L (te T L b)) ≠ 45)) → ZW f_X8_readsCommand 187 [vR 20 0, vL 3544025, none, vI 0, vI 0, vI 0, vI 0, vI v, none, none, none] [vI v, vR 20 0, vR 20 0] ν (fun r ν => r = none ∧ K ν) := by
        intro v hv
        have bad : ¬ aok s T L (sk T L (te T L b)) 102 → ZV f_X8_takes [vR 20 0, vI 0] ν (fun ξ => ZW f_X8_readsCommand 199 [vR 20 0, vL 3544025, none, vI 0, vI 0, vI 0, vI 0, vI v, vI 0, none, none] [] ξ (fun r ν => r = none ∧ K ν)) := by
          intro hn
          refine m_takes_no hO.2.1 (fun ξ e1 hF1 => ?_)
          exact wr_framel hW hV (e := sk T L (te T L b)) ⟨e1, (hF1 20 0 6 (by omega)).trans hO.1.1.1, fr_tr hO.2.2.2 (fr_mono hF1 (fun t i k q => by omega))⟩ (fun χ hR => h0 _ (pc_e hc (by decide) A4 (pg_n hn)) χ hR)
        have ak : aok s T L (sk T L (te T L b)) 102 ↔ (nok T L (sk T L (te T L b)) ∧ T (sk T L (te T L b)) ≠ 45 ∧ isF s (nvl T L (sk T L (te T L b))) ∧ sgood s (nvl T L (sk T L (te T L b)))) := Iff.rfl
        refine vc_X8_readsCommand_187 (m_isFrame rfl hW2 (fun q => ?_) (fun q => ?_))
        · rw [if_neg (by decide)]
          have qs : isF s v := ⟨q.1, by have := q.2; rw [hOP.1.2.2.1] at this; exact this⟩
          have hvv : v = nvl T L (sk T L (te T L b)) ∧ nok T L (sk T L (te T L b)) ∧ T (sk T L (te T L b)) ≠ 45 := by
            rcases hv with z | z
            · exact z
            · omega
          have sg := sgood_cv (s := s) (s' := ν 21 0) (fun k hk => hO.2.2.1.2.1 k (by omega)) v
          refine m_isGood rfl hW2 q (fun g => ?_) (fun g => ?_)
          · rw [if_neg (by decide)]
            have ok : aok s T L (sk T L (te T L b)) 102 := ak.mpr ⟨hvv.2.1, hvv.2.2, by rw [← hvv.1]; exact qs, by rw [← hvv.1]; exact sg.mp g⟩
            refine m_takes_ok (ok_mt hT hO) hO.1 hO.2.1 (by decide) (fun ξ hM1 e1 hF1 => ?_)
            have hO1 : OKF μ ξ s cv T L (sk T L (te T L (sk T L (te T L b)))) := ⟨hM1, e1, DV_fr hO.2.2.1 hF1 (fun k => by omega), fr_tr hO.2.2.2 (fr_mono hF1 (fun t i k q => by omega))⟩
            refine m_framel hW hO1 qs (fun ζ hO3 => ?_)
            exact ok_end hT hO3 (fun q χ hO6 => h1 _ _ (pc_r hc (by decide) A4 (pg_yr ok (pg_0r q))) χ (ok_c hO6 (fun k k0 k1 => by rw [hvv.1]; rfl))) (fun q χ hR => h0 _ (pc_e hc (by decide) A4 (pg_ye ok (pg_0e q))) χ hR)
          · rw [if_pos rfl]
            exact bad (fun z => g (sg.mpr (by rw [hvv.1]; exact (ak.mp z).2.2.2)))
        · rw [if_pos rfl]
          refine bad (fun z => ?_)
          obtain ⟨z1, z2, z3, z4⟩ := ak.mp z
          rcases hv with y | y
          · exact q ⟨by rw [y.1]; exact z3.1, by rw [hOP.1.2.2.1, y.1]; exact z3.2⟩
          · exact y.2 ⟨z1, z2⟩
      rw [hO.1.2.2.2.1, hO.1.2.2.1]
      by_cases q2 : mkd T L (sk T L (te T L b)) = 2
      · rw [if_pos q2]
        have hn := mkd_2.mp q2
        obtain ⟨_, hbL, _, _, n1, n2⟩ := nok_b hT' (nn hO) hn
        by_cases qm : sk T L (te T L b) < L ∧ T (sk T L (te T L b)) = 45
        · rw [if_pos qm, if_neg (by decide)]
          exact hv (-1) (Or.inr ⟨rfl, fun z => z.2 qm.2⟩)
        · rw [if_neg qm, if_pos rfl]
          have h45 : T (sk T L (te T L b)) ≠ 45 := fun z => qm ⟨hbL, z⟩
          have ev : zw (ν 33 0 0) = nvl T L (sk T L (te T L b)) := by
            rw [hO.1.2.2.2.2.2 hn]
            unfold nvl zw
            rw [if_neg h45]
            omega
          rw [ev]
          exact hv _ (Or.inl ⟨rfl, hn, h45⟩)
      · rw [if_neg q2]
        exact hv (-1) (Or.inr ⟨rfl, fun z => q2 (mkd_2.mpr z.1)⟩)
    · have gy : y = 0 := by omega
      subst gy
      exact wrong hc _ _ _ _ _
  · refine m_disp (w := -1) (Or.inr ⟨fun z => hkd (mkd_1.mp (hk.2.2.2.1.symm.trans z)), rfl⟩) (fun x3 x4 x5 x6 y f3 f4 f5 f6 fy => ?_)
    have gy : y = 0 := by omega
    subst gy
    exact wrong (by unfold cmdof; rw [if_neg hkd]) _ _ _ _ _
end Mdw
