/-! ===== the model: what changes its state ===== -/
def MI (μ : mzM) (s : Int → Int) (n : Int) (p : Int → Int → Int) : Prop := μ 21 0 = s ∧ (μ 20 0 2 = n ∧ 0 ≤ n ∧ n ≤ 6) ∧ ∀ j k, 0 ≤ j → j < n → 0 ≤ k → k < 1880 → μ 22 0 (1880 * j + k) = p j k
/-- the model's memory but the text -/
abbrev Pmm : Nat → Int → Int → Prop := fun t _ k => (t = 20 ∧ k ≠ 4) ∨ t = 21 ∨ t = 22 ∨ (24 ≤ t ∧ t ≤ 29) ∨ (t = 33 ∧ k = 0)
abbrev Pnt : Nat → Int → Int → Prop := fun t _ k => t = 22 ∨ (t = 20 ∧ k = 2)
section Mst
variable {μ : mzM} {s : Int → Int} {n : Int} {p : Int → Int → Int}
theorem MI_fr {P : Nat → Int → Int → Prop} {ν : mzM} (hM : MI μ s n p) (hF : fr P μ ν) (h22 : ∀ k, ¬ P 22 0 k) (h20 : ¬ P 20 0 2) : MI ν (ν 21 0) n p :=
  ⟨rfl, ⟨(hF 20 0 2 h20).trans hM.2.1.1, hM.2.1.2⟩, fun j k j0 j1 k0 k1 => (hF 22 0 _ (h22 _)).trans (hM.2.2 j k j0 j1 k0 k1)⟩
theorem MI_s {s' : Int → Int} (hM : MI μ s n p) (h : μ 21 0 = s') : MI μ s' n p := ⟨h, hM.2⟩
theorem m_note29 {m : Int} {ν : mzM} {K : mzM → Prop} (hs : ν 21 0 = s) (hm : ν 20 0 2 = m) (m0 : 0 ≤ m) (m1 : m ≤ 5) (hK : ∀ ξ, ξ 20 0 2 = m + 1 → (∀ k, 0 ≤ k → k < 1880 → ξ 22 0 (1880 * m + k) = s k) → fr (fun t i k => (t = 22 ∧ i = 0 ∧ 1880 * m ≤ k ∧ k < 1880 * m + 1880) ∨ (t = 20 ∧ i = 0 ∧ k = 2)) ν ξ → K ξ) : ZW f_X8_note 29 [vR 20 0, vI 0] [] ν (fun r ν => r = none ∧ K ν) := by
  have key : ∀ x, 0 ≤ x → x ≤ 1880 → ∀ ζ : mzM, fr (fun t i k => t = 22 ∧ i = 0 ∧ 1880 * m ≤ k ∧ k < 1880 * m + 1880) ν ζ → (∀ k, 0 ≤ k → k < x → ζ 22 0 (1880 * m + k) = s k) → ZW f_X8_note 29 [vR 20 0, vI x] [] ζ (fun r ν => r = none ∧ K ν) := by
    intro x x0 x1
    refine iter_down (C := fun x => ∀ ζ : mzM, fr (fun t i k => t = 22 ∧ i = 0 ∧ 1880 * m ≤ k ∧ k < 1880 * m + 1880) ν ζ → (∀ k, 0 ≤ k → k < x → ζ 22 0 (1880 * m + k) = s k) → ZW f_X8_note 29 [vR 20 0, vI x] [] ζ (fun r ν => r = none ∧ K ν)) (lo := 0) (hi := 1880) ?_ ?_ x0 x1
    · intro x x0 x1 ih ζ hF hR
      have h20 : ζ 20 0 2 = m := (hF 20 0 2 (by omega)).trans hm
      have h21 : ζ 21 0 = s := fr_s hs hF (fun k => by omega)
      refine vc_X8_note_29 ?_
      rw [if_pos x1, h20, h21]
      refine ⟨zin_sm (by omega), zin_sm (by omega), by omega, by omega, zin_sm (by omega), ih _ (fr_up hF ⟨rfl, rfl, by omega, by omega⟩) (fun k k0 k1 => ?_)⟩
      by_cases q : k = x
      · rw [q, mup_self]
      · rw [mup_k (by omega)]; exact hR k k0 (by omega)
    · intro ζ hF hR
      have h20 : ζ 20 0 2 = m := (hF 20 0 2 (by omega)).trans hm
      refine vc_X8_note_29 ?_
      rw [if_neg (by omega), h20]
      refine ⟨zin_sm (by omega), rfl, hK _ (mup_self _ _ _ _ _) (fun k k0 k1 => ?_) (fr_up (fr_mono hF (fun t i k q => Or.inl q)) (Or.inr ⟨rfl, rfl, rfl⟩))⟩
      rw [mup_t (by decide)]
      exact hR k k0 k1
  exact key 0 (by omega) (by omega) ν fr_rf (fun k k0 k1 => by omega)
theorem m_note {K : mzM → Prop} (hM : MI μ s n p) (hK : ∀ ν, MI ν s (pushn n) (pushp p n s) → fr Pnt μ ν → K ν) : ZV f_X8_note [vR 20 0] μ K := by
  obtain ⟨hs, ⟨hn, n0, n6⟩, hr⟩ := hM
  refine vc_X8_note_0 ?_
  rw [hn]
  split
  · next q =>
    have key : ∀ x, 0 ≤ x → x ≤ 9400 → ∀ ζ : mzM, fr (fun t _ _ => t = 22) μ ζ → (∀ k, 0 ≤ k → k < x → ζ 22 0 k = μ 22 0 (k + 1880)) → (∀ k, x ≤ k → ζ 22 0 k = μ 22 0 k) → ZW f_X8_note 6 [vR 20 0, vI x] [] ζ (fun r ν => r = none ∧ K ν) := by
      intro x x0 x1
      refine iter_down (C := fun x => ∀ ζ : mzM, fr (fun t _ _ => t = 22) μ ζ → (∀ k, 0 ≤ k → k < x → ζ 22 0 k = μ 22 0 (k + 1880)) → (∀ k, x ≤ k → ζ 22 0 k = μ 22 0 k) → ZW f_X8_note 6 [vR 20 0, vI x] [] ζ (fun r ν => r = none ∧ K ν)) (lo := 0) (hi := 9400) ?_ ?_ x0 x1
      · intro x x0 x1 ih ζ hF h1 h2
        refine vc_X8_note_6 ?_
        rw [if_pos x1]
        refine ⟨zin_sm (by omega), by omega, by omega, zin_sm (by omega), ih _ (fr_up hF rfl) (fun k k0 k1 => ?_) (fun k k0 => ?_)⟩
        · by_cases z : k = x
          · rw [z, mup_self]; exact h2 _ (by omega)
          · rw [mup_k z]; exact h1 k k0 (by omega)
        · rw [mup_k (by omega)]; exact h2 k (by omega)
      · intro ζ hF h1 h2
        have h20 : ζ 20 0 2 = 6 := by rw [hF 20 0 2 (by omega), hn]; exact q
        refine vc_X8_note_6 ?_
        rw [if_neg (by omega), h20]
        refine ⟨zin_sm (by omega), ?_⟩
        refine m_note29 (s := s) (m := 5) ?_ (mup_self _ _ _ _ _) (by omega) (by omega) (fun ξ e1 e2 e3 => ?_)
        · funext k
          rw [mup_t (by decide), hF 21 0 k (by omega), hs]
        · refine hK ξ ⟨?_, ⟨?_, ?_⟩, fun j k j0 j1 k0 k1 => ?_⟩ ?_
          · funext k
            rw [e3 21 0 k (by omega), mup_t (by decide), hF 21 0 k (by omega), hs]
          · rw [e1]; unfold pushn; rw [if_neg (by omega)]; rfl
          · unfold pushn; rw [if_neg (by omega)]; decide
          · unfold pushn at j1
            rw [if_neg (by omega)] at j1
            unfold pushp
            rw [if_neg (by omega)]
            split
            · next z => rw [z]; exact e2 k k0 k1
            · next z =>
              rw [e3 22 0 _ (by omega), mup_t (by decide), h1 _ (by omega) (by omega), ← hr (j + 1) k (by omega) (by omega) k0 k1]
              congr 1
              omega
          · exact fr_tr (fr_mono hF (fun t i k q => Or.inl q)) (fr_tr (fr_up fr_rf (Or.inr ⟨rfl, rfl⟩)) (fr_mono e3 (fun t i k q => by omega)))
    exact key 0 (by omega) (by omega) μ fr_rf (fun k k0 k1 => by omega) (fun k k0 => rfl)
  · next q =>
    refine m_note29 (s := s) hs hn n0 (by omega) (fun ξ e1 e2 e3 => hK ξ ⟨?_, ⟨?_, ?_⟩, fun j k j0 j1 k0 k1 => ?_⟩ ?_)
    · funext k
      rw [e3 21 0 k (by omega), hs]
    · rw [e1]; unfold pushn; rw [if_pos (by omega)]
    · unfold pushn; rw [if_pos (by omega)]; omega
    · unfold pushn at j1
      rw [if_pos (by omega)] at j1
      unfold pushp
      rw [if_pos (by omega)]
      split
      · next z => rw [z]; exact e2 k k0 k1
      · next z => rw [e3 22 0 _ (by omega)]; exact hr j k j0 (by omega) k0 k1
    · exact fr_mono e3 (fun t i k q => by omega)
theorem m_undo {K : Int → mzM → Prop} (hM : MI μ s n p) (h0 : n = 0 → K (-2) μ) (hK : 0 < n → ∀ ν, (∀ k, 0 ≤ k → k < 1880 → ν 21 0 k = p (n - 1) k) → MI ν (ν 21 0) (n - 1) p → fr Pmm μ ν → K (n - 1) ν) : ZI f_X8_undo [vR 20 0] μ K := by
  obtain ⟨hs, ⟨hn, n0, n6⟩, hr⟩ := hM
  refine vc_X8_undo_0 ?_
  rw [hn]
  split
  · exact zlf (h0 (by omega)) rfl
  · next q =>
    refine ⟨zin_sm (by omega), ?_⟩
    have key : ∀ x, 0 ≤ x → x ≤ 1880 → ∀ ζ : mzM, fr (fun t i k => t = 21 ∨ (t = 20 ∧ k = 2)) μ ζ → ζ 20 0 2 = n - 1 → (∀ k, 0 ≤ k → k < x → ζ 21 0 k = p (n - 1) k) → ZW f_X8_undo 13 [vR 20 0, vI x] [] ζ (fun r ν => ∃ a, r = some (vI a) ∧ K a ν) := by
      intro x x0 x1
      refine iter_down (C := fun x => ∀ ζ : mzM, fr (fun t i k => t = 21 ∨ (t = 20 ∧ k = 2)) μ ζ → ζ 20 0 2 = n - 1 → (∀ k, 0 ≤ k → k < x → ζ 21 0 k = p (n - 1) k) → ZW f_X8_undo 13 [vR 20 0, vI x] [] ζ (fun r ν => ∃ a, r = some (vI a) ∧ K a ν)) (lo := 0) (hi := 1880) ?_ ?_ x0 x1
      · intro x x0 x1 ih ζ hF h20 h1
        refine vc_X8_undo_13 ?_
        rw [if_pos x1, h20]
        have e : ζ 22 0 (1880 * (n - 1) + x) = p (n - 1) x := by rw [hF 22 0 _ (by omega)]; exact hr (n - 1) x (by omega) (by omega) x0 x1
        rw [e]
        refine ⟨zin_sm (by omega), zin_sm (by omega), by omega, by omega, zin_sm (by omega), ih _ (fr_up hF (Or.inl rfl)) ?_ (fun k k0 k1 => ?_)⟩
        · rw [mup_t (by decide)]; exact h20
        · by_cases z : k = x
          · rw [z, mup_self]
          · rw [mup_k z]; exact h1 k k0 (by omega)
      · intro ζ hF h20 h1
        refine vc_X8_undo_13 ?_
        rw [if_neg (by omega)]
        exact zlf (hK (by omega) ζ h1 ⟨rfl, ⟨h20, by omega, by omega⟩, fun j k j0 j1 k0 k1 => (hF 22 0 _ (by omega)).trans (hr j k j0 (by omega) k0 k1)⟩ (fr_mono hF (fun t i k q => by omega))) h20
    exact key 0 (by omega) (by omega) _ (fr_up fr_rf (Or.inr ⟨rfl, rfl⟩)) (mup_self _ _ _ _ _) (fun k k0 k1 => by omega)
/-- frame f of s' is what was coded last -/
def RECS (μ : mzM) (s : Int → Int) (f r : Int) (s' : Int → Int) : Prop := s' (1590 + f) = r ∧ s' (1600 + f) = 0 ∧ (∀ k, 0 ≤ k → k < 27 → s' (1610 + 27 * f + k) = μ 26 0 k) ∧ ∀ k, k ≠ 1590 + f → k ≠ 1600 + f → ¬ (1610 + 27 * f ≤ k ∧ k < 1610 + 27 * f + 27) → s' k = s k
theorem m_records {f r : Int} {K : mzM → Prop} (hs : μ 21 0 = s) (hf : 0 ≤ f ∧ f < 10) (hK : ∀ ν, RECS μ s f r (ν 21 0) → fr (fun t _ _ => t = 21) μ ν → K ν) : ZV f_X8_records [vR 20 0, vI f, vI r] μ K := by
  refine vc_X8_records_0 ?_
  refine ⟨zin_sm (by omega), by omega, zin_sm (by omega), by omega, ?_⟩
  have key : ∀ x, 0 ≤ x → x ≤ 27 → ∀ ζ : mzM, fr (fun t _ _ => t = 21) μ ζ → ζ 21 0 (1590 + f) = r → ζ 21 0 (1600 + f) = 0 → (∀ k, 0 ≤ k → k < x → ζ 21 0 (1610 + 27 * f + k) = μ 26 0 k) → (∀ k, k ≠ 1590 + f → k ≠ 1600 + f → ¬ (1610 + 27 * f ≤ k ∧ k < 1610 + 27 * f + 27) → ζ 21 0 k = s k) → ZW f_X8_records 16 [vR 20 0, vI f, vI r, vI x] [] ζ (fun r ν => r = none ∧ K ν) := by
    intro x x0 x1
    refine iter_down (C := fun x => ∀ ζ : mzM, fr (fun t _ _ => t = 21) μ ζ → ζ 21 0 (1590 + f) = r → ζ 21 0 (1600 + f) = 0 → (∀ k, 0 ≤ k → k < x → ζ 21 0 (1610 + 27 * f + k) = μ 26 0 k) → (∀ k, k ≠ 1590 + f → k ≠ 1600 + f → ¬ (1610 + 27 * f ≤ k ∧ k < 1610 + 27 * f + 27) → ζ 21 0 k = s k) → ZW f_X8_records 16 [vR 20 0, vI f, vI r, vI x] [] ζ (fun r ν => r = none ∧ K ν)) (lo := 0) (hi := 27) ?_ ?_ x0 x1
    · intro x x0 x1 ih ζ hF h1 h2 h3 h4
      refine vc_X8_records_16 ?_
      rw [if_pos x1, hF 26 0 x (by omega)]
      refine ⟨zin_sm (by omega), zin_sm (by omega), zin_sm (by omega), by omega, by omega, zin_sm (by omega), ih _ (fr_up hF rfl) ?_ ?_ (fun k k0 k1 => ?_) (fun k q1 q2 q3 => ?_)⟩
      · rw [mup_k (by omega)]; exact h1
      · rw [mup_k (by omega)]; exact h2
      · by_cases z : k = x
        · rw [z, mup_self]
        · rw [mup_k (by omega)]; exact h3 k k0 (by omega)
      · rw [mup_k (by omega)]; exact h4 k q1 q2 q3
    · intro ζ hF h1 h2 h3 h4
      refine vc_X8_records_16 ?_
      rw [if_neg (by omega)]
      exact ⟨rfl, hK ζ ⟨h1, h2, h3, h4⟩ hF⟩
  refine key 0 (by omega) (by omega) _ (fr_up (fr_up fr_rf rfl) rfl) ?_ (mup_self _ _ _ _ _) (fun k k0 k1 => by omega) (fun k q1 q2 q3 => ?_)
  · rw [mup_k (by omega), mup_self]
  · rw [mup_k q2, mup_k q1, hs]
theorem m_adds {r : Int} {K : Int → mzM → Prop} (hW : WF s) (hM : MI μ s n p) (hn : s 2 < 10) (hr : fok s r) (hK : ∀ ν, MI ν (ν 21 0) (pushn n) (pushp p n s) → OPadd s r (ν 21 0) → fr Pmm μ ν → K (call s (-1) r) ν) : ZI f_X8_adds [vR 20 0, vI r] μ K := by
  have h10 := hW.2.1
  have hm := WD_mul hW.1
  have hbs := WD_blocks hW.1
  refine vc_X8_adds_0 (m_note hM (fun ν hM1 hF1 => ?_))
  rw [hM1.1]
  refine ⟨by omega, m_codesAll hM1.1 hW (Or.inl rfl) hr (fun ξ hC hF2 => ?_)⟩
  have hs2 : ξ 21 0 = s := fr_s hM1.1 hF2 (fun k => by omega)
  have hM2 : MI ξ s (pushn n) (pushp p n s) := MI_s (MI_fr hM1 hF2 (fun k => by omega) (by omega)) hs2
  have key : ∀ x, 0 ≤ x → x ≤ 144 → ∀ ζ : mzM, fr (fun t _ _ => t = 21) ξ ζ → (∀ k, 0 ≤ k → k < x → ζ 21 0 (150 + 144 * s 2 + k) = s (6 + k)) → (∀ k, ¬ (150 + 144 * s 2 ≤ k ∧ k < 150 + 144 * s 2 + 144) → ζ 21 0 k = s k) → ZW f_X8_adds 14 [vR 20 0, vI r, vI (s 2), vI (call s (-1) r), vI x] [] ζ (fun r ν => ∃ a, r = some (vI a) ∧ K a ν) := by
    intro x x0 x1
    refine iter_down (C := fun x => ∀ ζ : mzM, fr (fun t _ _ => t = 21) ξ ζ → (∀ k, 0 ≤ k → k < x → ζ 21 0 (150 + 144 * s 2 + k) = s (6 + k)) → (∀ k, ¬ (150 + 144 * s 2 ≤ k ∧ k < 150 + 144 * s 2 + 144) → ζ 21 0 k = s k) → ZW f_X8_adds 14 [vR 20 0, vI r, vI (s 2), vI (call s (-1) r), vI x] [] ζ (fun r ν => ∃ a, r = some (vI a) ∧ K a ν)) (lo := 0) (hi := 144) ?_ ?_ x0 x1
    · intro x x0 x1 ih ζ hF h1 h2
      refine vc_X8_adds_14 ?_
      rw [if_pos x1, h2 (6 + x) (by omega)]
      refine ⟨zin_sm (by omega), zin_sm (by omega), zin_sm (by omega), zin_sm (by omega), by omega, by omega, zin_sm (by omega), ih _ (fr_up hF rfl) (fun k k0 k1 => ?_) (fun k q => ?_)⟩
      · by_cases z : k = x
        · rw [z, mup_self]
        · rw [mup_k (by omega)]; exact h1 k k0 (by omega)
      · rw [mup_k (by omega)]; exact h2 k q
    · intro ζ hF h1 h2
      refine vc_X8_adds_14 ?_
      rw [if_neg (by omega)]
      refine m_records rfl ⟨h10.1, hn⟩ (fun ω hR hF3 => ?_)
      have e2 : ω 21 0 2 = s 2 := (hR.2.2.2 2 (by omega) (by omega) (by omega)).trans (h2 2 (by omega))
      rw [e2]
      have hF4 : fr (fun t _ _ => t = 21) ξ (mup ω 21 0 2 (s 2 + 1)) := fr_up (fr_tr hF hF3) rfl
      have hrest : ∀ k, k ≠ 2 → (mup ω 21 0 2 (s 2 + 1)) 21 0 k = ω 21 0 k := fun k q => mup_k q
      have h22 : (mup ω 21 0 2 (s 2 + 1)) 21 0 2 = s 2 + 1 := mup_self _ _ _ _ _
      refine ⟨by omega, zin_sm (by omega), by omega, zlf (hK _ (MI_fr hM2 hF4 (fun k => by omega) (by omega)) ?_ ?_) rfl⟩
      · generalize (mup ω 21 0 2 (s 2 + 1)) 21 0 = s' at *
        have keep : ∀ k, k ≠ 2 → k ≠ 1590 + s 2 → k ≠ 1600 + s 2 → ¬ (1610 + 27 * s 2 ≤ k ∧ k < 1610 + 27 * s 2 + 27) → ¬ (150 + 144 * s 2 ≤ k ∧ k < 150 + 144 * s 2 + 144) → s' k = s k := by
          intro k q1 q2 q3 q4 q5
          rw [hrest k q1, hR.2.2.2 k q2 q3 q4, h2 k q5]
        refine ⟨⟨keep 0 (by omega) (by omega) (by omega) (by omega) (by omega), keep 1 (by omega) (by omega) (by omega) (by omega) (by omega), h22, keep 3 (by omega) (by omega) (by omega) (by omega) (by omega), keep 4 (by omega) (by omega) (by omega) (by omega) (by omega), keep 5 (by omega) (by omega) (by omega) (by omega) (by omega)⟩, fun c c0 c1 => ?_, fun f f0 f1 => ⟨⟨fun c c0 c1 => ?_, ?_, fun b b0 b1 => ⟨?_, ?_, ?_⟩⟩, ?_⟩, fun c c0 c1 => ?_, ?_, ?_, fun b b0 b1 => ?_⟩
        · show s' (6 + c) = s (6 + c)
          exact keep _ (by omega) (by omega) (by omega) (by omega) (by omega)
        · unfold sv
          rw [if_neg (by omega), if_neg (by omega)]
          exact keep _ (by omega) (by omega) (by omega) (by omega) (by omega)
        · exact keep _ (by omega) (by omega) (by omega) (by omega) (by omega)
        · exact keep _ (by omega) (by omega) (by omega) (by omega) (by omega)
        · exact keep _ (by omega) (by omega) (by omega) (by omega) (by omega)
        · exact keep _ (by omega) (by omega) (by omega) (by omega) (by omega)
        · exact keep _ (by omega) (by omega) (by omega) (by omega) (by omega)
        · unfold sv
          rw [if_neg (by omega), if_pos (by omega), hrest _ (by omega), hR.2.2.2 _ (by omega) (by omega) (by omega)]
          exact h1 c c0 (by omega)
        · exact (hrest _ (by omega)).trans hR.1
        · exact (hrest _ (by omega)).trans hR.2.1
        · obtain ⟨m, hc⟩ := hC b ⟨b0, b1⟩
          refine ⟨m, ccost s (-1) r b, ?_⟩
          unfold sits
          rw [hrest _ (by omega), hrest _ (by omega), hrest _ (by omega)]
          have e : ∀ j, 0 ≤ j → j < 3 → ω 21 0 (1610 + 27 * s 2 + 3 * b + j) = ξ 26 0 (3 * b + j) := fun j j0 j1 => by
            rw [show 1610 + 27 * s 2 + 3 * b + j = 1610 + 27 * s 2 + (3 * b + j) by omega, hR.2.2.1 _ (by omega) (by omega)]
            exact hF 26 0 _ (by omega)
          have e1 := e 0 (by omega) (by omega)
          rw [Int.add_zero, Int.add_zero] at e1
          rw [e1, e 1 (by omega) (by omega), e 2 (by omega) (by omega)]
          exact hc
      · exact fr_tr (fr_mono hF1 (fun t i k q => by omega)) (fr_tr (fr_mono hF2 (fun t i k q => by omega)) (fr_mono hF4 (fun t i k q => by omega)))
  exact key 0 (by omega) (by omega) ξ fr_rf (fun k k0 k1 => by omega) (fun k q => by rw [hs2])
theorem m_addKey {K : Int → mzM → Prop} (hW : WF s) (hM : MI μ s n p) (hK0 : s 2 = 10 → K (-3) μ) (hK : s 2 < 10 → ∀ ν, MI ν (ν 21 0) (pushn n) (pushp p n s) → OPadd s (-1) (ν 21 0) → fr Pmm μ ν → K (call s (-1) (-1)) ν) : ZI f_X8_addKey [vR 20 0] μ K := by
  have h10 := hW.2.1
  refine vc_X8_addKey_0 ?_
  rw [hM.1]
  refine ⟨by omega, ?_⟩
  split
  · next q => exact zlf (hK0 q) rfl
  · next q => exact m_adds hW hM (by omega) (Or.inl rfl) (fun ν a b c => zlf (hK (by omega) ν a b c) rfl)
theorem m_addDelta {r : Int} {K : Int → mzM → Prop} (hW : WF s) (hM : MI μ s n p) (hK1 : ¬ isF s r → K (-1) μ) (hK2 : isF s r → ¬ (sgood s r ∧ sdepth s r < s 4) → K (-2) μ) (hK3 : isF s r → (sgood s r ∧ sdepth s r < s 4) → s 2 = 10 → K (-3) μ) (hK : isF s r → (sgood s r ∧ sdepth s r < s 4) → s 2 < 10 → ∀ ν, MI ν (ν 21 0) (pushn n) (pushp p n s) → OPadd s r (ν 21 0) → fr Pmm μ ν → K (call s (-1) r) ν) : ZI f_X8_addDelta [vR 20 0, vI r] μ K := by
  have h10 := hW.2.1
  refine vc_X8_addDelta_0 (m_isFrame hM.1 hW (fun g => ?_) (fun g => ?_))
  · rw [if_neg (by decide)]
    refine m_isGood hM.1 hW g (fun z => ?_) (fun z => ?_)
    · rw [if_neg (by decide)]
      refine m_depthOf hM.1 hW g ?_
      rw [hM.1]
      refine ⟨by omega, ?_⟩
      split
      · next q =>
        refine ⟨by omega, ?_⟩
        split
        · next q2 => exact zlf (hK3 g ⟨z, q⟩ q2) rfl
        · next q2 => exact m_adds hW hM (by omega) (Or.inr g) (fun ν a b c => zlf (hK g ⟨z, q⟩ (by omega) ν a b c) rfl)
      · next q => exact zlf (hK2 g (fun y => q y.2)) rfl
    · rw [if_pos rfl]
      exact zlf (hK2 g (fun y => z y.1)) rfl
  · rw [if_pos rfl]
    exact zlf (hK1 g) rfl
theorem m_addChosen {K : Int → mzM → Prop} (hW : WF s) (hM : MI μ s n p) (hK0 : s 2 = 10 → K (-3) μ) (hK : s 2 < 10 → ∀ ν, MI ν (ν 21 0) (pushn n) (pushp p n s) → OPadd s (schosen s) (ν 21 0) → fr Pmm μ ν → K (call s (-1) (schosen s)) ν) : ZI f_X8_addChosen [vR 20 0] μ K := by
  have h10 := hW.2.1
  refine vc_X8_addChosen_0 ?_
  rw [hM.1]
  refine ⟨by omega, ?_⟩
  split
  · next q => exact zlf (hK0 q) rfl
  · next q =>
    refine m_codesAll hM.1 hW (Or.inl rfl) (Or.inl rfl) (fun ν _ hF => ?_)
    have key : ∀ (m : Nat) (a : Int × Int × Int) (k : Int) (v5 v6 v7 : mzV) (ξ : mzM), 0 ≤ k → k + m = s 2 → fr (fun t _ _ => t = 26) μ ξ → (ifold (chstep s) a k m).1 = schosen s → ZW f_X8_addChosen 19 [vR 20 0, vI a.1, vI a.2.1, vI a.2.2, vI k, v5, v6, v7] [] ξ (fun r ν => ∃ a, r = some (vI a) ∧ K a ν) := by
      intro m
      induction m with
      | zero =>
        intro a k v5 v6 v7 ξ k0 k1 hF e
        have hs1 : ξ 21 0 = s := fr_s hM.1 hF (fun k => by omega)
        have hM1 : MI ξ s n p := MI_s (MI_fr hM hF (fun k => by omega) (by omega)) hs1
        have e2 : a.1 = schosen s := e
        refine vc_X8_addChosen_19 ?_
        rw [hs1, if_neg (by omega), e2]
        exact ⟨by omega, m_adds hW hM1 (by omega) (schosen_ok hW) (fun ν a b c => zlf (hK (by omega) ν a b (fr_tr (fr_mono hF (fun t i k q => by omega)) c)) rfl)⟩
      | succ m ih =>
        intro a k v5 v6 v7 ξ k0 k1 hF e
        have hs1 : ξ 21 0 = s := fr_s hM.1 hF (fun k => by omega)
        have hk : isF s k := ⟨k0, by omega⟩
        unfold ifold at e
        refine vc_X8_addChosen_19 ?_
        rw [hs1, if_pos (by omega)]
        refine ⟨by omega, m_isGood hs1 hW hk (fun z => ?_) (fun z => ?_)⟩
        · rw [if_neg (by decide)]
          refine m_depthOf hs1 hW hk ?_
          rw [hs1]
          refine ⟨by omega, ?_⟩
          split
          · next q1 =>
            refine m_codesAll hs1 hW (Or.inl rfl) (Or.inr hk) (fun ζ _ hF2 => ?_)
            have hs2 : ζ 21 0 = s := fr_s hs1 hF2 (fun k => by omega)
            have hF3 := fr_tr hF hF2
            refine m_depthOf hs2 hW hk ⟨zin_sm (by have := hW.2.2.2.1; have : 0 ≤ sdepth s k := Int.natCast_nonneg _; omega), ?_⟩
            have tk : (call s (-1) k < a.2.1 ∨ (call s (-1) k = a.2.1 ∧ sdepth s k + 1 ≤ a.2.2)) → ∀ v5 v6 v7 : mzV, ZW f_X8_addChosen 19 [vR 20 0, vI k, vI (call s (-1) k), vI (sdepth s k + 1), vI (k + 1), v5, v6, v7] [] ζ (fun r ν => ∃ a, r = some (vI a) ∧ K a ν) := by
              intro hc v5 v6 v7
              refine ih (k, call s (-1) k, sdepth s k + 1) (k + 1) _ _ _ ζ (by omega) (by omega) hF3 ?_
              have e3 : chstep s a k = (k, call s (-1) k, sdepth s k + 1) := by unfold chstep; exact cif_p ⟨⟨z, q1⟩, hc⟩
              rw [e3] at e
              exact e
            have sk : ¬ (call s (-1) k < a.2.1 ∨ (call s (-1) k = a.2.1 ∧ sdepth s k + 1 ≤ a.2.2)) → ∀ v5 v6 v7 : mzV, ZW f_X8_addChosen 19 [vR 20 0, vI a.1, vI a.2.1, vI a.2.2, vI (k + 1), v5, v6, v7] [] ζ (fun r ν => ∃ a, r = some (vI a) ∧ K a ν) := by
              intro hc v5 v6 v7
              refine ih a (k + 1) _ _ _ ζ (by omega) (by omega) hF3 ?_
              have e3 : chstep s a k = a := by unfold chstep; exact cif_n (fun y => hc y.2)
              rw [e3] at e
              exact e
            split
            · next c1 => exact ⟨zin_sm (by omega), tk (Or.inl c1) _ _ _⟩
            · next c1 =>
              split
              · next c2 =>
                split
                · next c3 => exact ⟨zin_sm (by omega), sk (by omega) _ _ _⟩
                · next c3 => exact ⟨zin_sm (by omega), tk (Or.inr ⟨c2, by omega⟩) _ _ _⟩
              · next c2 => exact ⟨zin_sm (by omega), sk (by omega) _ _ _⟩
          · next q1 =>
            have e3 : chstep s a k = a := by unfold chstep; exact cif_n (fun y => q1 y.1.2)
            rw [e3] at e
            exact ⟨zin_sm (by omega), ih a (k + 1) _ _ _ ξ (by omega) (by omega) hF e⟩
        · rw [if_pos rfl]
          have e3 : chstep s a k = a := by unfold chstep; exact cif_n (fun y => z y.1.1)
          rw [e3] at e
          exact ⟨zin_sm (by omega), ih a (k + 1) _ _ _ ξ (by omega) (by omega) hF e⟩
    exact key (s 2).toNat (-1, call s (-1) (-1), 0) 0 _ _ _ ν (by omega) (by omega) hF rfl
end Mst
