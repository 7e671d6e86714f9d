/-! ===== the model: its commands and draw ===== -/
/-- the canvas of the model shows cv -/
def DV (ν : mzM) (s cv : Int → Int) : Prop := (∀ k, 0 ≤ k → k < s 0 * s 1 → ν 21 0 (6 + k) = cv k) ∧ (∀ k, ¬ (6 ≤ k ∧ k < 150) → ν 21 0 k = s k) ∧ ∀ k, 0 ≤ k → k < s 0 * s 1 → 0 ≤ cv k ∧ cv k ≤ 15
abbrev Pcv : Nat → Int → Int → Prop := fun t i k => t = 21 ∧ i = 0 ∧ 6 ≤ k ∧ k < 150
abbrev Pcm : Nat → Int → Int → Prop := fun t i k => (t = 20 ∧ i = 0 ∧ (k = 5 ∨ k = 6 ∨ k = 7 ∨ k = 9 ∨ k = 10)) ∨ (t = 33 ∧ i = 0 ∧ k = 0) ∨ (t = 21 ∧ i = 0 ∧ 6 ≤ k ∧ k < 150) ∨ t = 24
theorem chn_cv {s s' : Int → Int} (h : ∀ k, 1590 ≤ k → s' k = s k) : ∀ (n : Nat) (f : Int), chn s' n f = chn s n f
  | 0, _ => rfl
  | n + 1, f => by
    by_cases q : f < 0
    · rw [chn_neg s' _ q, chn_neg s _ q]
    · rw [chn_pos s' n (by omega), chn_pos s n (by omega), chn_cv h n]
      have e : sref s' f = sref s f := h _ (by omega)
      rw [e]
theorem chn_nn (s : Int → Int) : ∀ (n : Nat) (f g : Int), g ∈ chn s n f → 0 ≤ g
  | 0, _, _, h => by cases h
  | n + 1, f, g, h => by
    by_cases q : f < 0
    · rw [chn_neg s _ q] at h; cases h
    · rw [chn_pos s n (by omega)] at h
      rcases List.mem_cons.mp h with z | z
      · omega
      · exact chn_nn s n _ g z
theorem sgood_cv {s s' : Int → Int} (h : ∀ k, 1590 ≤ k → s' k = s k) (f : Int) : sgood s' f ↔ sgood s f := by
  unfold sgood
  rw [chn_cv h]
  constructor
  · intro w g hg
    have := w g hg
    have e : slost s' g = slost s g := h _ (by have := chn_nn s _ _ g hg; omega)
    rw [← e]; exact this
  · intro w g hg
    have e : slost s' g = slost s g := h _ (by have := chn_nn s _ _ g hg; omega)
    rw [e]; exact w g hg
theorem DV_wf {ν : mzM} {s cv : Int → Int} (hW : WF s) (h : DV ν s cv) : OPcv s (ν 21 0) ∧ WF (ν 21 0) := by
  have h10 := hW.2.1
  obtain ⟨d1, d2, d3⟩ := h
  have hO : OPcv s (ν 21 0) := ⟨⟨d2 0 (by omega), d2 1 (by omega), d2 2 (by omega), d2 3 (by omega), d2 4 (by omega), d2 5 (by omega)⟩, fun f f0 f1 => AG_pt hW.1 ⟨f0, by omega⟩ (fun k q => d2 k (by omega))⟩
  refine ⟨hO, OPcv_wf hW hO (fun c c0 c1 => ?_)⟩
  rw [d2 0 (by omega), d2 1 (by omega)] at c1
  have e : sv (ν 21 0) (-1) c = cv c := d1 c c0 c1
  rw [e]
  exact d3 c c0 c1
theorem DV_fr {P : Nat → Int → Int → Prop} {μ ν : mzM} {s cv : Int → Int} (h : DV μ s cv) (hF : fr P μ ν) (hP : ∀ k, ¬ P 21 0 k) : DV ν s cv :=
  ⟨fun k k0 k1 => (hF 21 0 _ (hP _)).trans (h.1 k k0 k1), fun k q => (hF 21 0 _ (hP _)).trans (h.2.1 k q), h.2.2⟩
section Mdr
variable {μ : mzM} {s cv : Int → Int} {T : Int → Int} {L : Int}
theorem m_cells2 {K : Int → mzM → Prop} (hD : WD s) (h0 : μ 21 0 0 = s 0) (h1 : μ 21 0 1 = s 1) (h : K (s 0 * s 1) μ) : ZI f_X8_cells [vR 20 0] μ K := by
  refine m_cells rfl (WD_same hD h0 h1) ?_
  rw [h0, h1]
  exact h
theorem m_fillsBox_w {x y w h v : Int} {K : mzM → Prop} (hD : WD s) (h0 : μ 21 0 0 = s 0) (h1 : μ 21 0 1 = s 1) (hw : μ 20 0 10 = 1) (hK : K μ) : ZV f_X8_fillsBox [vR 20 0, vI x, vI y, vI w, vI h, vI v] μ K := by
  have hm := WD_mul hD
  refine vc_X8_fillsBox_0 (vc_X8_fillsBox_2 (m_cells2 hD h0 h1 ?_))
  rw [if_pos (by omega), if_neg (by omega)]
  exact ⟨rfl, hK⟩
theorem m_fillsBox {x y w h v : Int} {K : mzM → Prop} (hW : WF s) (hV : DV μ s cv) (hw : μ 20 0 10 = 0) (x0 : 0 ≤ x ∧ x ≤ 12) (y0 : 0 ≤ y ∧ y ≤ 12) (w0 : 0 ≤ w ∧ w ≤ 12) (h0 : 0 ≤ h ∧ h ≤ 12) (v0 : 0 ≤ v ∧ v ≤ 15) (hK : ∀ ν, DV ν s (fun k => if (x ≤ k % s 0 ∧ k % s 0 < x + w) ∧ (y ≤ k / s 0 ∧ k / s 0 < y + h) then v else cv k) → fr Pcv μ ν → K ν) : ZV f_X8_fillsBox [vR 20 0, vI x, vI y, vI w, vI h, vI v] μ K := by
  have hm := WD_mul hW.1
  have hwd := WD_w hW.1
  refine vc_X8_fillsBox_0 ?_
  have key : ∀ c, 0 ≤ c → c ≤ s 0 * s 1 → ∀ (ζ : mzM) (v7 v8 : mzV), fr Pcv μ ζ → (∀ k, 0 ≤ k → k < c → ζ 21 0 (6 + k) = if (x ≤ k % s 0 ∧ k % s 0 < x + w) ∧ (y ≤ k / s 0 ∧ k / s 0 < y + h) then v else cv k) → (∀ k, c ≤ k → k < s 0 * s 1 → ζ 21 0 (6 + k) = cv k) → ZW f_X8_fillsBox 2 [vR 20 0, vI x, vI y, vI w, vI h, vI v, vI c, v7, v8] [] ζ (fun r ν => r = none ∧ K ν) := by
    intro c c0 c1
    refine iter_down (C := fun c => ∀ (ζ : mzM) (v7 v8 : mzV), fr Pcv μ ζ → (∀ k, 0 ≤ k → k < c → ζ 21 0 (6 + k) = if (x ≤ k % s 0 ∧ k % s 0 < x + w) ∧ (y ≤ k / s 0 ∧ k / s 0 < y + h) then v else cv k) → (∀ k, c ≤ k → k < s 0 * s 1 → ζ 21 0 (6 + k) = cv k) → ZW f_X8_fillsBox 2 [vR 20 0, vI x, vI y, vI w, vI h, vI v, vI c, v7, v8] [] ζ (fun r ν => r = none ∧ K ν)) (lo := 0) (hi := s 0 * s 1) ?_ ?_ c0 c1
    · intro c c0 c1 ih ζ v7 v8 hF hd hr
      have e0 : ζ 21 0 0 = s 0 := (hF 21 0 0 (by omega)).trans (hV.2.1 0 (by omega))
      have e1 : ζ 21 0 1 = s 1 := (hF 21 0 1 (by omega)).trans (hV.2.1 1 (by omega))
      have dm := dmod hW.1 c0 c1
      refine vc_X8_fillsBox_2 (m_cells2 hW.1 e0 e1 ?_)
      rw [if_pos c1, hF 20 0 10 (by omega), if_pos hw, e0, ztm _ c0, ztd _ c0]
      have upd : ∀ val, (val = if (x ≤ c % s 0 ∧ c % s 0 < x + w) ∧ (y ≤ c / s 0 ∧ c / s 0 < y + h) then v else cv c) → ∀ v7 v8 : mzV, ZW f_X8_fillsBox 2 [vR 20 0, vI x, vI y, vI w, vI h, vI v, vI (c + 1), v7, v8] [] (mup ζ 21 0 (6 + c) val) (fun r ν => r = none ∧ K ν) := by
        intro val hv v7 v8
        refine ih _ v7 v8 (fr_up hF ⟨rfl, rfl, by omega, by omega⟩) (fun k k0 k1 => ?_) (fun k k0 k1 => ?_)
        · by_cases q : k = c
          · rw [q, mup_self]; exact hv
          · rw [mup_k (by omega)]; exact hd k k0 (by omega)
        · rw [mup_k (by omega)]; exact hr k (by omega) k1
      have ec := hr c (Int.le_refl c) c1
      refine ⟨by omega, by omega, by omega, ⟨by omega, zin_sm (by omega)⟩, zin_sm (by omega), zin_sm (by omega), zin_sm (by omega), m_in (fun q1 => ?_) (fun q1 => ?_)⟩
      · rw [if_neg (by decide)]
        refine ⟨zin_sm (by omega), zin_sm (by omega), m_in (fun q2 => ?_) (fun q2 => ?_)⟩
        · rw [if_neg (by decide)]
          exact ⟨by omega, zin_sm (by omega), upd _ (by rw [if_pos (by omega)]) _ _⟩
        · rw [if_pos rfl, ec]
          exact ⟨zin_sm (by omega), by omega, by omega, zin_sm (by omega), upd _ (by rw [if_neg (by omega)]) _ _⟩
      · rw [if_pos rfl, ec]
        exact ⟨zin_sm (by omega), by omega, by omega, zin_sm (by omega), upd _ (by rw [if_neg (by omega)]) _ _⟩
    · intro ζ v7 v8 hF hd hr
      have e0 : ζ 21 0 0 = s 0 := (hF 21 0 0 (by omega)).trans (hV.2.1 0 (by omega))
      have e1 : ζ 21 0 1 = s 1 := (hF 21 0 1 (by omega)).trans (hV.2.1 1 (by omega))
      refine vc_X8_fillsBox_2 (m_cells2 hW.1 e0 e1 ?_)
      rw [if_neg (by omega)]
      refine ⟨rfl, hK ζ ⟨hd, fun k q => (hF 21 0 k (by omega)).trans (hV.2.1 k q), fun k k0 k1 => ?_⟩ hF⟩
      dsimp only
      split
      · exact v0
      · exact hV.2.2 k k0 k1
  exact key 0 (by omega) (by omega) μ _ _ fr_rf (fun k k0 k1 => by omega) (fun k k0 k1 => hV.1 k k0 k1)
theorem m_keeps {K : mzM → Prop} (hK : ∀ ν, (∀ k, 0 ≤ k → k < 144 → ν 24 0 k = μ 21 0 (6 + k)) → fr (fun t _ _ => t = 24) μ ν → K ν) : ZV f_X8_keeps [vR 20 0] μ K := by
  refine vc_X8_keeps_0 ?_
  have key : ∀ x, 0 ≤ x → x ≤ 144 → ∀ ζ : mzM, fr (fun t _ _ => t = 24) μ ζ → (∀ k, 0 ≤ k → k < x → ζ 24 0 k = μ 21 0 (6 + k)) → ZW f_X8_keeps 2 [vR 20 0, vI x] [] ζ (fun r ν => r = none ∧ K ν) := by
    intro x x0 x1
    refine iter_down (C := fun x => ∀ ζ : mzM, fr (fun t _ _ => t = 24) μ ζ → (∀ k, 0 ≤ k → k < x → ζ 24 0 k = μ 21 0 (6 + k)) → ZW f_X8_keeps 2 [vR 20 0, vI x] [] ζ (fun r ν => r = none ∧ K ν)) (lo := 0) (hi := 144) ?_ ?_ x0 x1
    · intro x x0 x1 ih ζ hF h1
      refine vc_X8_keeps_2 ?_
      rw [if_pos x1, hF 21 0 (6 + x) (by omega)]
      refine ⟨zin_sm (by omega), by omega, by omega, zin_sm (by omega), ih _ (fr_up hF rfl) (fun k k0 k1 => ?_)⟩
      by_cases z : k = x
      · rw [z, mup_self]
      · rw [mup_k z]; exact h1 k k0 (by omega)
    · intro ζ hF h1
      refine vc_X8_keeps_2 ?_
      rw [if_neg (by omega)]
      exact ⟨rfl, hK ζ h1 hF⟩
  exact key 0 (by omega) (by omega) μ fr_rf (fun k k0 k1 => by omega)
theorem m_shifts_w {dx dy : Int} {K : mzM → Prop} (hD : WD s) (h0 : μ 21 0 0 = s 0) (h1 : μ 21 0 1 = s 1) (hw : μ 20 0 10 = 1) (hK : ∀ ν, fr (fun t _ _ => t = 24) μ ν → K ν) : ZV f_X8_shifts [vR 20 0, vI dx, vI dy] μ K := by
  have hm := WD_mul hD
  refine vc_X8_shifts_0 (m_keeps (fun ν _ hF => vc_X8_shifts_4 (m_cells2 hD ((hF 21 0 0 (by omega)).trans h0) ((hF 21 0 1 (by omega)).trans h1) ?_)))
  rw [if_pos (by omega), if_neg (by rw [hF 20 0 10 (by omega)]; omega)]
  exact ⟨rfl, hK ν hF⟩
theorem m_shifts {dx dy : Int} {K : mzM → Prop} (hW : WF s) (hV : DV μ s cv) (hw : μ 20 0 10 = 0) (dx0 : -12 ≤ dx ∧ dx ≤ 12) (dy0 : -12 ≤ dy ∧ dy ≤ 12) (hK : ∀ ν, DV ν s (fun k => if (0 ≤ k % s 0 - dx ∧ k % s 0 - dx < s 0) ∧ (0 ≤ k / s 0 - dy ∧ k / s 0 - dy < s 1) then cv ((k / s 0 - dy) * s 0 + (k % s 0 - dx)) else 0) → fr (fun t i k => (t = 21 ∧ i = 0 ∧ 6 ≤ k ∧ k < 150) ∨ t = 24) μ ν → K ν) : ZV f_X8_shifts [vR 20 0, vI dx, vI dy] μ K := by
  have hm := WD_mul hW.1
  have hwd := WD_w hW.1
  refine vc_X8_shifts_0 (m_keeps (fun ω h24 hF0 => ?_))
  have hV0 := DV_fr hV hF0 (fun k => by omega)
  have key : ∀ c, 0 ≤ c → c ≤ s 0 * s 1 → ∀ (ζ : mzM) (v7 v8 : mzV), fr Pcv ω ζ → (∀ k, 0 ≤ k → k < c → ζ 21 0 (6 + k) = if (0 ≤ k % s 0 - dx ∧ k % s 0 - dx < s 0) ∧ (0 ≤ k / s 0 - dy ∧ k / s 0 - dy < s 1) then cv ((k / s 0 - dy) * s 0 + (k % s 0 - dx)) else 0) → ZW f_X8_shifts 4 [vR 20 0, vI dx, vI dy, vI c, v7, v8] [] ζ (fun r ν => r = none ∧ K ν) := by
    intro c c0 c1
    refine iter_down (C := fun c => ∀ (ζ : mzM) (v7 v8 : mzV), fr Pcv ω ζ → (∀ k, 0 ≤ k → k < c → ζ 21 0 (6 + k) = if (0 ≤ k % s 0 - dx ∧ k % s 0 - dx < s 0) ∧ (0 ≤ k / s 0 - dy ∧ k / s 0 - dy < s 1) then cv ((k / s 0 - dy) * s 0 + (k % s 0 - dx)) else 0) → ZW f_X8_shifts 4 [vR 20 0, vI dx, vI dy, vI c, v7, v8] [] ζ (fun r ν => r = none ∧ K ν)) (lo := 0) (hi := s 0 * s 1) ?_ ?_ c0 c1
    · intro c c0 c1 ih ζ v7 v8 hF hd
      have e0 : ζ 21 0 0 = s 0 := (hF 21 0 0 (by omega)).trans (hV0.2.1 0 (by omega))
      have e1 : ζ 21 0 1 = s 1 := (hF 21 0 1 (by omega)).trans (hV0.2.1 1 (by omega))
      have dm := dmod hW.1 c0 c1
      refine vc_X8_shifts_4 (m_cells2 hW.1 e0 e1 ?_)
      rw [if_pos c1, hF 20 0 10 (by omega), hF0 20 0 10 (by omega), if_pos hw, e0, ztm _ c0, ztd _ c0]
      have upd : ∀ val, (val = if (0 ≤ c % s 0 - dx ∧ c % s 0 - dx < s 0) ∧ (0 ≤ c / s 0 - dy ∧ c / s 0 - dy < s 1) then cv ((c / s 0 - dy) * s 0 + (c % s 0 - dx)) else 0) → ∀ v7 v8 : mzV, ZW f_X8_shifts 4 [vR 20 0, vI dx, vI dy, vI (c + 1), v7, v8] [] (mup ζ 21 0 (6 + c) val) (fun r ν => r = none ∧ K ν) := by
        intro val hv v7 v8
        refine ih _ v7 v8 (fr_up hF ⟨rfl, rfl, by omega, by omega⟩) (fun k k0 k1 => ?_)
        by_cases q : k = c
        · rw [q, mup_self]; exact hv
        · rw [mup_k (by omega)]; exact hd k k0 (by omega)
      refine ⟨by omega, by omega, zin_sm (by omega), by omega, ⟨by omega, zin_sm (by omega)⟩, zin_sm (by omega), zin_sm (by omega), by omega, zin_sm (by omega), m_in (fun q1 => ?_) (fun q1 => ?_)⟩
      · rw [if_neg (by decide), e1]
        refine ⟨by omega, zin_sm (by omega), m_in (fun q2 => ?_) (fun q2 => ?_)⟩
        · rw [if_neg (by decide)]
          obtain ⟨p1, p2, p3⟩ := WD_pl hW.1 (x := c % s 0 - dx) (y := c / s 0 - dy) (by omega) (by omega) (by omega) (by omega)
          refine m_place rfl (WD_same hW.1 e0 e1) (by rw [e0]; omega) (by rw [e1]; omega) ?_
          have ep : spl (ζ 21 0) (c % s 0 - dx) (c / s 0 - dy) = (c / s 0 - dy) * s 0 + (c % s 0 - dx) := by unfold spl; rw [e0]
          unfold spl at p1 p2 p3
          rw [ep, hF 24 0 _ (by omega), h24 _ p1 p3]
          refine ⟨⟨p1, p3⟩, by omega, zin_sm (by omega), upd _ ?_ _ _⟩
          rw [if_pos (by omega)]
          exact hV.1 _ p1 p2
        · rw [if_pos rfl]
          exact ⟨by omega, zin_sm (by omega), upd _ (by rw [if_neg (by omega)]) _ _⟩
      · rw [if_pos rfl]
        exact ⟨by omega, zin_sm (by omega), upd _ (by rw [if_neg (by omega)]) _ _⟩
    · intro ζ v7 v8 hF hd
      have e0 : ζ 21 0 0 = s 0 := (hF 21 0 0 (by omega)).trans (hV0.2.1 0 (by omega))
      have e1 : ζ 21 0 1 = s 1 := (hF 21 0 1 (by omega)).trans (hV0.2.1 1 (by omega))
      refine vc_X8_shifts_4 (m_cells2 hW.1 e0 e1 ?_)
      rw [if_neg (by omega)]
      refine ⟨rfl, hK ζ ⟨hd, fun k q => (hF 21 0 k (by omega)).trans (hV0.2.1 k q), fun k k0 k1 => ?_⟩ (fr_tr (fr_mono hF0 (fun t i k q => by omega)) (fr_mono hF (fun t i k q => by omega)))⟩
      dsimp only
      split
      · next q =>
        obtain ⟨p1, p2, p3⟩ := WD_pl hW.1 (x := k % s 0 - dx) (y := k / s 0 - dy) (by omega) (by omega) (by omega) (by omega)
        exact hV.2.2 _ p1 p2
      · omega
  exact key 0 (by omega) (by omega) ω _ _ fr_rf (fun k k0 k1 => by omega)
/-- a run that failed at e; one that stands at the token b -/
def WRF (μ ν : mzM) (e : Int) : Prop := ν 20 0 10 = 1 ∧ ν 20 0 6 = e ∧ fr Pcm μ ν
def OKF (μ ν : mzM) (s cv T : Int → Int) (L b : Int) : Prop := MTK ν T L b ∧ ν 20 0 10 = 0 ∧ DV ν s cv ∧ fr Pcm μ ν
theorem wr_10 {ν ξ : mzM} {e : Int} (h : WRF μ ν e) (h1 : ξ 20 0 10 = 1) (hF : fr P10 ν ξ) : WRF μ ξ e := ⟨h1, (hF 20 0 6 (by omega)).trans h.2.1, fr_tr h.2.2 (fr_mono hF (fun t i k q => by omega))⟩
theorem wr_tn {ν : mzM} {e lo hi : Int} {K : Int → mzM → Prop} (h : WRF μ ν e) (hK : ∀ r ξ, WRF μ ξ e → K r ξ) : ZI f_X8_takesNumber [vR 20 0, vI lo, vI hi] ν K := m_tn_w h.1 (fun r ξ a b => hK r ξ (wr_10 h a b))
theorem wr_end {ν : mzM} {e : Int} {K : mzM → Prop} (h : WRF μ ν e) (hK : ∀ ξ, WRF μ ξ e → K ξ) : if ν 20 0 7 = 3 then ZV f_X8_takes [vR 20 0, vI 1] ν (fun ν => (none : Option mzV) = none ∧ K ν) else ZV f_X8_takes [vR 20 0, vI 0] ν (fun ν => (none : Option mzV) = none ∧ K ν) := m_end_w h.1 (fun ξ a b => hK ξ (wr_10 h a b))
theorem ok_mt {ν : mzM} {b : Int} (hT : MT μ T L) (h : OKF μ ν s cv T L b) : MT ν T L := MT_fr hT h.2.2.2 (by omega) (fun k => by omega)
theorem ok_tn {ν : mzM} {b a lo hi : Int} {K : Int → mzM → Prop} (hT : MT μ T L) (h : OKF μ ν s cv T L b) (ha : (a = 118 ∧ lo = 0 ∧ hi = 15) ∨ (a = 108 ∧ lo = 0 ∧ hi = 12) ∨ (a = 119 ∧ lo = -12 ∧ hi = 12)) (h1 : aok s T L b a → ∀ ξ, OKF μ ξ s cv T L (sk T L (te T L b)) → K (nvl T L b) ξ) (h0 : ¬ aok s T L b a → ∀ ξ, WRF μ ξ b → K 0 ξ) : ZI f_X8_takesNumber [vR 20 0, vI lo, vI hi] ν K :=
  m_arg (ok_mt hT h) h.1 h.2.1 ha (fun q ξ a c hF => h1 q ξ ⟨a, c, DV_fr h.2.2.1 hF (fun k => by omega), fr_tr h.2.2.2 (fr_mono hF (fun t i k q => by omega))⟩) (fun q ξ a hF => h0 q ξ ⟨a, (hF 20 0 6 (by omega)).trans h.1.1.1, fr_tr h.2.2.2 (fr_mono hF (fun t i k q => by omega))⟩)
theorem ok_end {ν : mzM} {b : Int} {K : mzM → Prop} (hT : MT μ T L) (h : OKF μ ν s cv T L b) (h1 : (kd T L b = 3 ∧ T b = 59) → ∀ ξ, OKF μ ξ s cv T L (sk T L (b + 1)) → K ξ) (h0 : ¬ (kd T L b = 3 ∧ T b = 59) → ∀ ξ, WRF μ ξ b → K ξ) : if ν 20 0 7 = 3 then ZV f_X8_takes [vR 20 0, vI 1] ν (fun ν => (none : Option mzV) = none ∧ K ν) else ZV f_X8_takes [vR 20 0, vI 0] ν (fun ν => (none : Option mzV) = none ∧ K ν) :=
  m_end (ok_mt hT h) h.1 h.2.1 (fun q ξ a c hF => h1 q ξ ⟨a, c, DV_fr h.2.2.1 hF (fun k => by omega), fr_tr h.2.2.2 (fr_mono hF (fun t i k q => by omega))⟩) (fun q ξ a hF => h0 q ξ ⟨a, (hF 20 0 6 (by omega)).trans h.1.1.1, fr_tr h.2.2.2 (fr_mono hF (fun t i k q => by omega))⟩)
theorem ok_op {ν ξ : mzM} {b : Int} {cv' : Int → Int} (h : OKF μ ν s cv T L b) (hV : DV ξ s cv') (hF : fr (fun t i k => (t = 21 ∧ i = 0 ∧ 6 ≤ k ∧ k < 150) ∨ t = 24) ν ξ) : OKF μ ξ s cv' T L b := by
  obtain ⟨⟨⟨a1, a2⟩, a3, a4, a5, a6, a7⟩, b1, b2, b3⟩ := h
  refine ⟨⟨⟨(hF 20 0 6 (by omega)).trans a1, (hF 20 0 5 (by omega)).trans a2⟩, a3, (hF 20 0 9 (by omega)).trans a4, (hF 20 0 7 (by omega)).trans a5, fun z => (hF 33 0 0 (by omega)).trans (a6 z), fun z => (hF 33 0 0 (by omega)).trans (a7 z)⟩, (hF 20 0 10 (by omega)).trans b1, hV, fr_tr b3 (fr_mono hF (fun t i k q => by omega))⟩
theorem ok_c {ν : mzM} {b : Int} {cv' : Int → Int} (h : OKF μ ν s cv T L b) (he : ∀ k, 0 ≤ k → k < s 0 * s 1 → cv k = cv' k) : OKF μ ν s cv' T L b :=
  ⟨h.1, h.2.1, ⟨fun k k0 k1 => (h.2.2.1.1 k k0 k1).trans (he k k0 k1), h.2.2.1.2.1, fun k k0 k1 => by rw [← he k k0 k1]; exact h.2.2.1.2.2 k k0 k1⟩, h.2.2.2⟩
theorem wr_hd {ν : mzM} {e : Int} (hV : DV μ s cv) (h : WRF μ ν e) : ν 21 0 0 = s 0 ∧ ν 21 0 1 = s 1 := ⟨(h.2.2 21 0 0 (by omega)).trans (hV.2.1 0 (by omega)), (h.2.2 21 0 1 (by omega)).trans (hV.2.1 1 (by omega))⟩
/-- what the arguments come to -/
theorem pg_ye {p e a : Int} {as : List Int} (h : aok s T L (sk T L p) a) (hr : pargs s T L as (te T L (sk T L p)) = .inl e) : pargs s T L (a :: as) p = .inl e := by
  unfold pargs
  rw [cif_p h, hr]
theorem pg_yr {p q a : Int} {as vs : List Int} (h : aok s T L (sk T L p) a) (hr : pargs s T L as (te T L (sk T L p)) = .inr (q, vs)) : pargs s T L (a :: as) p = .inr (q, nvl T L (sk T L p) :: vs) := by
  unfold pargs
  rw [cif_p h, hr]
theorem pg_n {p a : Int} {as : List Int} (h : ¬ aok s T L (sk T L p) a) : pargs s T L (a :: as) p = .inl (sk T L p) := by
  unfold pargs
  rw [cif_n h]
theorem pg_0e {p : Int} (h : ¬ (kd T L (sk T L p) = 3 ∧ T (sk T L p) = 59)) : pargs s T L [] p = .inl (sk T L p) := by
  unfold pargs
  rw [if_neg h]
theorem pg_0r {p : Int} (h : kd T L (sk T L p) = 3 ∧ T (sk T L p) = 59) : pargs s T L [] p = .inr (sk T L p + 1, []) := by
  unfold pargs
  rw [if_pos h]
theorem pc_e {b c e : Int} {as : List Int} (hc : cmdof T L b = c) (c0 : 0 ≤ c) (hA : cargs c = as) (hr : pargs s T L as (te T L b) = .inl e) : pcmd s T L b = .inl e := by
  unfold pcmd
  rw [hc, if_neg (by omega), hA, hr]
theorem pc_r {b c q : Int} {as vs : List Int} (hc : cmdof T L b = c) (c0 : 0 ≤ c) (hA : cargs c = as) (hr : pargs s T L as (te T L b) = .inr (q, vs)) : pcmd s T L b = .inr (q, c :: vs) := by
  unfold pcmd
  rw [hc, if_neg (by omega), hA, hr]
theorem zcmp0 {a b : Int} : zcmp a b = 0 ↔ a = b := by
  unfold zcmp
  split
  · exact ⟨fun z => absurd z (by decide), fun z => by omega⟩
  · split
    · next q => exact ⟨fun _ => q, fun _ => rfl⟩
    · next q => exact ⟨fun z => absurd z (by decide), fun z => absurd z q⟩
abbrev flg (x : Int) (w c : Int) : Prop := (x = 1 ∧ w = c) ∨ (x = 0 ∧ w ≠ c)
/-- which command it is -/
theorem m_disp {w : Int} {Q : Option mzV → mzM → Prop} (hw : (μ 20 0 7 = 1 ∧ w = μ 33 0 0) ∨ (μ 20 0 7 ≠ 1 ∧ w = -1)) (h : ∀ x3 x4 x5 x6 y : Int, flg x3 w 124995 → flg x4 w 1887 → flg x5 w 10261586 → flg x6 w 390787 → ((y = 1 ∧ (w = 124995 ∨ w = 1887 ∨ w = 10261586 ∨ w = 390787 ∨ w = 3544025)) ∨ (y = 0 ∧ ¬ (w = 124995 ∨ w = 1887 ∨ w = 10261586 ∨ w = 390787 ∨ w = 3544025))) → ZW f_X8_readsCommand 57 [vR 20 0, vL w, none, vI x3, vI x4, vI x5, vI x6, none, none, none, none] [vI y, vR 20 0] μ Q) : ZW f_X8_readsCommand 0 [vR 20 0, none, none, none, none, none, none, none, none, none, none] [] μ Q := by
  have k43 : ∀ x3 x4 x5 x6, flg x3 w 124995 → flg x4 w 1887 → flg x5 w 10261586 → flg x6 w 390787 → ZW f_X8_readsCommand 43 [vR 20 0, vL w, none, vI x3, vI x4, vI x5, vI x6, none, none, none, none] [vI x3, vR 20 0] μ Q := by
    intro x3 x4 x5 x6 f3 f4 f5 f6
    refine vc_X8_readsCommand_43 ?_
    by_cases q3 : x3 = 0
    · rw [if_pos q3]
      by_cases q4 : x4 = 0
      · rw [if_pos q4]
        by_cases q5 : x5 = 0
        · rw [if_pos q5]
          by_cases q6 : x6 = 0
          · rw [if_pos q6]
            by_cases q7 : zcmp w 3544025 = 0
            · rw [if_pos q7]
              have := zcmp0.mp q7
              exact h _ _ _ _ _ f3 f4 f5 f6 (by omega)
            · rw [if_neg q7]
              have : ¬ w = 3544025 := fun z => q7 (zcmp0.mpr z)
              exact h _ _ _ _ _ f3 f4 f5 f6 (by omega)
          · rw [if_neg q6]; exact h _ _ _ _ _ f3 f4 f5 f6 (by omega)
        · rw [if_neg q5]; exact h _ _ _ _ _ f3 f4 f5 f6 (by omega)
      · rw [if_neg q4]; exact h _ _ _ _ _ f3 f4 f5 f6 (by omega)
    · rw [if_neg q3]; exact h _ _ _ _ _ f3 f4 f5 f6 (by omega)
  have k28 : ∀ x3 x4, flg x3 w 124995 → flg x4 w 1887 → ZW f_X8_readsCommand 28 [vR 20 0, vL w, none, vI x3, vI x4, none, none, none, none, none, none] [vI (zcmp w 10261586)] μ Q := by
    intro x3 x4 f3 f4
    refine vc_X8_readsCommand_28 ?_
    by_cases q5 : zcmp w 10261586 = 0
    · rw [if_pos q5]
      have := zcmp0.mp q5
      by_cases q6 : zcmp w 390787 = 0
      · have := zcmp0.mp q6
        omega
      · rw [if_neg q6]
        exact k43 _ _ _ _ f3 f4 (Or.inl ⟨rfl, this⟩) (Or.inr ⟨rfl, fun z => q6 (zcmp0.mpr z)⟩)
    · rw [if_neg q5]
      by_cases q6 : zcmp w 390787 = 0
      · rw [if_pos q6]
        exact k43 _ _ _ _ f3 f4 (Or.inr ⟨rfl, fun z => q5 (zcmp0.mpr z)⟩) (Or.inl ⟨rfl, zcmp0.mp q6⟩)
      · rw [if_neg q6]
        exact k43 _ _ _ _ f3 f4 (Or.inr ⟨rfl, fun z => q5 (zcmp0.mpr z)⟩) (Or.inr ⟨rfl, fun z => q6 (zcmp0.mpr z)⟩)
  refine vc_X8_readsCommand_0 ?_
  rcases hw with ⟨h7, e⟩ | ⟨h7, e⟩
  · rw [if_pos h7, ← e]
    by_cases q3 : zcmp w 124995 = 0
    · rw [if_pos q3]
      by_cases q4 : zcmp w 1887 = 0
      · rw [if_pos q4]; exact k28 _ _ (Or.inl ⟨rfl, zcmp0.mp q3⟩) (Or.inl ⟨rfl, zcmp0.mp q4⟩)
      · rw [if_neg q4]; exact k28 _ _ (Or.inl ⟨rfl, zcmp0.mp q3⟩) (Or.inr ⟨rfl, fun z => q4 (zcmp0.mpr z)⟩)
    · rw [if_neg q3]
      by_cases q4 : zcmp w 1887 = 0
      · rw [if_pos q4]; exact k28 _ _ (Or.inr ⟨rfl, fun z => q3 (zcmp0.mpr z)⟩) (Or.inl ⟨rfl, zcmp0.mp q4⟩)
      · rw [if_neg q4]; exact k28 _ _ (Or.inr ⟨rfl, fun z => q3 (zcmp0.mpr z)⟩) (Or.inr ⟨rfl, fun z => q4 (zcmp0.mpr z)⟩)
  · rw [if_neg h7]
    subst e
    rw [if_neg (fun z => absurd (zcmp0.mp z) (by decide)), if_neg (fun z => absurd (zcmp0.mp z) (by decide))]
    exact k28 0 0 (Or.inr ⟨rfl, by decide⟩) (Or.inr ⟨rfl, by decide⟩)
end Mdr
