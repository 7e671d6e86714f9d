/-! ===== the model: draw, its text; states that agree ===== -/
abbrev Pmd : Nat → Int → Int → Prop := fun t _ k => t = 20 ∨ t = 21 ∨ t = 22 ∨ (24 ≤ t ∧ t ≤ 29) ∨ (t = 33 ∧ k = 0)
section Pal
variable {s : Int → Int} {T : Int → Int} {L : Int}
theorem pl_0 {n : Nat} {p : Int} (h : kd T L (sk T L p) = 0) : pall s T L (n + 1) p = .inr [] := by
  unfold pall
  rw [if_pos h]
theorem pl_e {n : Nat} {p e : Int} (h : kd T L (sk T L p) ≠ 0) (hc : pcmd s T L (sk T L p) = .inl e) : pall s T L (n + 1) p = .inl e := by
  unfold pall
  rw [if_neg h, hc]
theorem pl_re {n : Nat} {p e q : Int} {c : List Int} (h : kd T L (sk T L p) ≠ 0) (hc : pcmd s T L (sk T L p) = .inr (q, c)) (hr : pall s T L n q = .inl e) : pall s T L (n + 1) p = .inl e := by
  conv => lhs; unfold pall
  rw [if_neg h, hc]
  dsimp only
  rw [hr]
theorem pl_rr {n : Nat} {p q : Int} {c : List Int} {l : List (List Int)} (h : kd T L (sk T L p) ≠ 0) (hc : pcmd s T L (sk T L p) = .inr (q, c)) (hr : pall s T L n q = .inr l) : pall s T L (n + 1) p = .inr (c :: l) := by
  conv => lhs; unfold pall
  rw [if_neg h, hc]
  dsimp only
  rw [hr]
theorem pall_e (hT : ∀ k, 0 ≤ k → k < L → 0 ≤ T k ∧ T k ≤ 255) : ∀ (n : Nat) (p e : Int), 0 ≤ p → p ≤ L → pall s T L n p = .inl e → 0 ≤ e ∧ e ≤ L
  | 0, p, e, p0, pL, h => by cases h; exact ⟨p0, pL⟩
  | n + 1, p, e, p0, pL, h => by
    have hsk := sk_b (T := T) pL
    by_cases q : kd T L (sk T L p) = 0
    · rw [pl_0 q] at h; cases h
    · have hlt : sk T L p < L := kd_lt q
      cases hr : pcmd s T L (sk T L p) with
      | inl e2 =>
        rw [pl_e q hr] at h
        cases h
        exact pcmd_e (by omega) hlt hr
      | inr r =>
        obtain ⟨q2, c2⟩ := r
        obtain ⟨k1, k2, k3⟩ := pcmd_ok hT (by omega) hlt hr
        cases hr2 : pall s T L n q2 with
        | inl e2 =>
          rw [pl_re q hr hr2] at h
          cases h
          exact pall_e hT n q2 e (by omega) k3 hr2
        | inr l => rw [pl_rr q hr hr2] at h; cases h
end Pal
section Mte
variable {μ : mzM} {s : Int → Int} {T : Int → Int} {L n : Int} {p : Int → Int → Int}
theorem m_exchanges {K : mzM → Prop} (hK : ∀ ν, (∀ k, 0 ≤ k → k < 144 → ν 21 0 (6 + k) = μ 25 0 k ∧ ν 25 0 k = μ 21 0 (6 + k)) → fr (fun t i k => (t = 21 ∧ i = 0 ∧ 6 ≤ k ∧ k < 150) ∨ t = 25) μ ν → K ν) : ZV f_X8_exchanges [vR 20 0] μ K := by
  refine vc_X8_exchanges_0 ?_
  have key : ∀ x, 0 ≤ x → x ≤ 144 → ∀ (ζ : mzM) (v : mzV), fr (fun t i k => (t = 21 ∧ i = 0 ∧ 6 ≤ k ∧ k < 150) ∨ t = 25) μ ζ → (∀ k, 0 ≤ k → k < x → ζ 21 0 (6 + k) = μ 25 0 k ∧ ζ 25 0 k = μ 21 0 (6 + k)) → (∀ k, x ≤ k → ζ 21 0 (6 + k) = μ 21 0 (6 + k) ∧ ζ 25 0 k = μ 25 0 k) → ZW f_X8_exchanges 2 [vR 20 0, vI x, v] [] ζ (fun r ν => r = none ∧ K ν) := by
    intro x x0 x1
    refine iter_down (C := fun x => ∀ (ζ : mzM) (v : mzV), fr (fun t i k => (t = 21 ∧ i = 0 ∧ 6 ≤ k ∧ k < 150) ∨ t = 25) μ ζ → (∀ k, 0 ≤ k → k < x → ζ 21 0 (6 + k) = μ 25 0 k ∧ ζ 25 0 k = μ 21 0 (6 + k)) → (∀ k, x ≤ k → ζ 21 0 (6 + k) = μ 21 0 (6 + k) ∧ ζ 25 0 k = μ 25 0 k) → ZW f_X8_exchanges 2 [vR 20 0, vI x, v] [] ζ (fun r ν => r = none ∧ K ν)) (lo := 0) (hi := 144) ?_ ?_ x0 x1
    · intro x x0 x1 ih ζ v hF h1 h2
      obtain ⟨a1, a2⟩ := h2 x (Int.le_refl x)
      refine vc_X8_exchanges_2 ?_
      rw [if_pos x1, a1, a2]
      refine ⟨zin_sm (by omega), by omega, zin_sm (by omega), by omega, by omega, by omega, zin_sm (by omega), ih _ _ (fr_up (fr_up hF (Or.inl ⟨rfl, rfl, by omega, by omega⟩)) (Or.inr rfl)) (fun k k0 k1 => ?_) (fun k k0 => ?_)⟩
      · by_cases z : k = x
        · rw [z, mup_t (by decide), mup_self, mup_self]
          exact ⟨rfl, rfl⟩
        · rw [mup_t (by decide), mup_k (by omega), mup_k z, mup_t (by decide)]
          exact h1 k k0 (by omega)
      · rw [mup_t (by decide), mup_k (by omega), mup_k (by omega), mup_t (by decide)]
        exact h2 k (by omega)
    · intro ζ v hF h1 h2
      refine vc_X8_exchanges_2 ?_
      rw [if_neg (by omega)]
      exact ⟨rfl, hK ζ h1 hF⟩
  exact key 0 (by omega) (by omega) μ _ fr_rf (fun k k0 k1 => by omega) (fun k _ => ⟨rfl, rfl⟩)
theorem m_draw {K : Int → mzM → Prop} (hW : WF s) (hM : MI μ s n p) (hT : MT μ T L) (hK0 : ∀ e, pall s T L 161 0 = .inl e → ∀ ν, MI ν s n p → MT ν T L → fr Pmd μ ν → K (-10 - e) ν) (hK1 : ∀ l, pall s T L 161 0 = .inr l → ∀ ν, MI ν (ν 21 0) (pushn n) (pushp p n s) → OPdraw s l (ν 21 0) → ν 20 0 4 = 0 → fr Pmd μ ν → K (l.length : Int) ν) : ZI f_X8_draw [vR 20 0] μ K := by
  have hL := hT.2.1
  have hm := WD_mul hW.1
  have hT' : ∀ k, 0 ≤ k → k < L → 0 ≤ T k ∧ T k ≤ 255 := fun k k0 k1 => (hT.2.2 k k0 k1).2
  refine vc_X8_draw_0 ?_
  have copy : ∀ x, 0 ≤ x → x ≤ 144 → ∀ ζ : mzM, fr (fun t _ _ => t = 25) μ ζ → (∀ k, 0 ≤ k → k < x → ζ 25 0 k = s (6 + k)) → ZW f_X8_draw 2 [vR 20 0, vI x] [] ζ (fun r ν => ∃ a, r = some (vI a) ∧ K a ν) := by
    intro x x0 x1
    refine iter_down (C := fun x => ∀ ζ : mzM, fr (fun t _ _ => t = 25) μ ζ → (∀ k, 0 ≤ k → k < x → ζ 25 0 k = s (6 + k)) → ZW f_X8_draw 2 [vR 20 0, vI x] [] ζ (fun r ν => ∃ a, r = some (vI a) ∧ K a ν)) (lo := 0) (hi := 144) ?_ ?_ x0 x1
    · intro x x0 x1 ih ζ hF h1
      have hs1 : ζ 21 0 = s := fr_s hM.1 hF (fun k => by omega)
      refine vc_X8_draw_2 ?_
      rw [if_pos x1, hs1]
      refine ⟨zin_sm (by omega), by omega, by omega, zin_sm (by omega), ih _ (fr_up hF rfl) (fun k k0 k1 => ?_)⟩
      by_cases z : k = x
      · rw [z, mup_self]
      · rw [mup_k z]; exact h1 k k0 (by omega)
    · intro ζ hF h1
      have hs1 : ζ 21 0 = s := fr_s hM.1 hF (fun k => by omega)
      refine vc_X8_draw_2 ?_
      rw [if_neg (by omega)]
      refine ⟨Or.inl rfl, ?_⟩
      have F1 : fr (fun t i k => t = 25 ∨ (t = 20 ∧ i = 0 ∧ (k = 5 ∨ k = 10))) μ (mup (mup ζ 20 0 5 0) 20 0 10 0) := fr_up (fr_up (fr_mono hF (fun t i k q => Or.inl q)) (by omega)) (by omega)
      have k5 : (mup (mup ζ 20 0 5 0) 20 0 10 0) 20 0 5 = 0 := by rw [v5_10, mup_self]
      have k10 : (mup (mup ζ 20 0 5 0) 20 0 10 0) 20 0 10 = 0 := mup_self _ _ _ _ _
      have k25 : ∀ k, 0 ≤ k → k < 144 → (mup (mup ζ 20 0 5 0) 20 0 10 0) 25 0 k = s (6 + k) := fun k k0 k1 => by
        rw [mup_t (by decide), mup_t (by decide)]
        exact h1 k k0 k1
      have ks : (mup (mup ζ 20 0 5 0) 20 0 10 0) 21 0 = s := fr_s hM.1 F1 (fun k => by omega)
      generalize mup (mup ζ 20 0 5 0) 20 0 10 0 = ω at *
      have hTω : MT ω T L := MT_fr hT F1 (by omega) (fun k => by omega)
      have hMω : MI ω s n p := MI_s (MI_fr hM F1 (fun k => by omega) (by omega)) ks
      have hV0 : DV ω s (fun k => sv s (-1) k) := ⟨fun k k0 k1 => by rw [ks]; rfl, fun k _ => by rw [ks], hW.2.2.2.2.2.1⟩
      -- the canvas comes back
      have back : ∀ {ν ξ : mzM}, fr Pcm ω ν → (∀ k, 0 ≤ k → k < 144 → ξ 21 0 (6 + k) = ν 25 0 k ∧ ξ 25 0 k = ν 21 0 (6 + k)) → fr (fun t i k => (t = 21 ∧ i = 0 ∧ 6 ≤ k ∧ k < 150) ∨ t = 25) ν ξ → ξ 21 0 = s := by
        intro ν ξ hF1 hx hF2
        funext k
        by_cases q : 6 ≤ k ∧ k < 150
        · have h := (hx (k - 6) (by omega) (by omega)).1
          rw [show 6 + (k - 6) = k by omega, hF1 25 0 _ (by omega), k25 _ (by omega) (by omega), show 6 + (k - 6) = k by omega] at h
          exact h
        · rw [hF2 21 0 k (by omega), hF1 21 0 k (by omega), ks]
      have toM : ∀ {ν : mzM}, fr Pcm ω ν → fr Pmd μ ν := fun h => fr_tr (fr_mono F1 (fun t i k q => by omega)) (fr_mono h (fun t i k q => by omega))
      -- a failed run
      have E : ∀ e, pall s T L 161 0 = .inl e → ∀ (ν : mzM) (x : Int), WRF ω ν e → ZW f_X8_draw 27 [vR 20 0, vI x] [] ν (fun r ν => ∃ a, r = some (vI a) ∧ K a ν) := by
        intro e he ν x hR
        have hb := pall_e hT' 161 0 e (by omega) hL.1 he
        refine vc_X8_draw_27 ?_
        rw [if_neg (by rw [hR.1]; decide)]
        refine m_exchanges (fun ξ hx hF2 => ?_)
        have hF3 : fr (fun t i k => (t = 20 ∧ i = 0 ∧ (k = 5 ∨ k = 6 ∨ k = 7 ∨ k = 9 ∨ k = 10)) ∨ (t = 33 ∧ i = 0 ∧ k = 0) ∨ (t = 21 ∧ i = 0 ∧ 6 ≤ k ∧ k < 150) ∨ t = 24 ∨ t = 25) ω ξ := fr_tr (fr_mono hR.2.2 (fun t i k q => by omega)) (fr_mono hF2 (fun t i k q => by omega))
        have e10 : ξ 20 0 10 = 1 := (hF2 20 0 10 (by omega)).trans hR.1
        have e6 : ξ 20 0 6 = e := (hF2 20 0 6 (by omega)).trans hR.2.1
        rw [if_neg (by rw [e10]; decide), e6]
        refine ⟨zin_sm (by omega), zlf (hK0 e he ξ ⟨back hR.2.2 hx hF2, ⟨(hF3 20 0 2 (by omega)).trans hMω.2.1.1, hMω.2.1.2⟩, fun j k j0 j1 k0 k1 => (hF3 22 0 _ (by omega)).trans (hMω.2.2 j k j0 j1 k0 k1)⟩ (MT_fr hTω hF3 (by omega) (fun k => by omega)) ?_) rfl⟩
        exact fr_tr (fr_mono F1 (fun t i k q => by omega)) (fr_mono hF3 (fun t i k q => by omega))
      -- a run to the end
      have D : ∀ l, pall s T L 161 0 = .inr l → ∀ (ν : mzM) (b : Int), OKF ω ν s (l.foldl (excmd s) (fun k => sv s (-1) k)) T L b → kd T L b = 0 → ZW f_X8_draw 27 [vR 20 0, vI (l.length : Int)] [] ν (fun r ν => ∃ a, r = some (vI a) ∧ K a ν) := by
        intro l hl ν b hO hkd
        refine vc_X8_draw_27 ?_
        rw [if_pos hO.2.1, if_pos (hO.1.2.2.2.1.trans (mkd_0.mpr hkd))]
        refine m_exchanges (fun ξ hx hF2 => ?_)
        have hF3 : fr (fun t i k => (t = 20 ∧ i = 0 ∧ (k = 5 ∨ k = 6 ∨ k = 7 ∨ k = 9 ∨ k = 10)) ∨ (t = 33 ∧ i = 0 ∧ k = 0) ∨ (t = 21 ∧ i = 0 ∧ 6 ≤ k ∧ k < 150) ∨ t = 24 ∨ t = 25) ω ξ := fr_tr (fr_mono hO.2.2.2 (fun t i k q => by omega)) (fr_mono hF2 (fun t i k q => by omega))
        have e10 : ξ 20 0 10 = 0 := (hF2 20 0 10 (by omega)).trans hO.2.1
        rw [if_pos e10]
        have hM1 : MI ξ s n p := ⟨back hO.2.2.2 hx hF2, ⟨(hF3 20 0 2 (by omega)).trans hMω.2.1.1, hMω.2.1.2⟩, fun j k j0 j1 k0 k1 => (hF3 22 0 _ (by omega)).trans (hMω.2.2 j k j0 j1 k0 k1)⟩
        refine m_note hM1 (fun ζ hM2 hF4 => m_exchanges (fun χ hy hF5 => ?_))
        have hF6 : fr (fun t i k => (t = 21 ∧ i = 0 ∧ 6 ≤ k ∧ k < 150) ∨ t = 25 ∨ (t = 20 ∧ k = 4)) ζ (mup χ 20 0 4 0) := fr_up (fr_mono hF5 (fun t i k q => by omega)) (Or.inr (Or.inr ⟨rfl, rfl⟩))
        refine zlf (hK1 l hl _ (MI_fr hM2 hF6 (fun k => by omega) (by omega)) ⟨?_, fun c c0 c1 => ?_⟩ (mup_self _ _ _ _ _) ?_) rfl
        · have hout : ∀ k, ¬ (6 ≤ k ∧ k < 150) → (mup χ 20 0 4 0) 21 0 k = s k := fun k q => by rw [hF6 21 0 k (by omega), hM2.1]
          exact ⟨⟨hout 0 (by omega), hout 1 (by omega), hout 2 (by omega), hout 3 (by omega), hout 4 (by omega), hout 5 (by omega)⟩, fun f f0 f1 => AG_pt hW.1 ⟨f0, by have := hW.2.1; omega⟩ (fun k q => hout k (by omega))⟩
        · have h1 := (hy c c0 (by omega)).1
          rw [hF4 25 0 c (by omega), (hx c c0 (by omega)).2, hO.2.2.1.1 c c0 c1] at h1
          show (mup χ 20 0 4 0) 21 0 (6 + c) = _
          rw [mup_t (by decide)]
          exact h1
        · exact fr_tr (fr_mono F1 (fun t i k q => by omega)) (fr_tr (fr_mono hF3 (fun t i k q => by omega)) (fr_tr (fr_mono hF4 (fun t i k q => by omega)) (fr_mono hF6 (fun t i k q => by omega))))
      -- the commands
      have run : ∀ (m : Nat) (q x : Int) (cv : Int → Int) (ν : mzM), 0 ≤ q → q ≤ L → L < q + m → 0 ≤ x → x ≤ q → OKF ω ν s cv T L (sk T L q) → (∀ e, pall s T L m q = .inl e → pall s T L 161 0 = .inl e) → (∀ l, pall s T L m q = .inr l → ∃ l', pall s T L 161 0 = .inr l' ∧ (l'.length : Int) = x + l.length ∧ l'.foldl (excmd s) (fun k => sv s (-1) k) = l.foldl (excmd s) cv) → ZW f_X8_draw 27 [vR 20 0, vI x] [] ν (fun r ν => ∃ a, r = some (vI a) ∧ K a ν) := by
        intro m
        induction m with
        | zero => intro q x cv ν q0 qL hm; omega
        | succ m ih =>
          intro q x cv ν q0 qL hm2 x0 xq hO hE hD
          have hsk := sk_b (T := T) qL
          by_cases hkd : kd T L (sk T L q) = 0
          · obtain ⟨l', g1, g2, g3⟩ := hD [] (pl_0 hkd)
            have h := D l' g1 ν (sk T L q) (by rw [g3]; exact hO) hkd
            rw [g2] at h
            rw [show x = x + ((([] : List (List Int)).length : Nat) : Int) by simp]
            exact h
          · have hlt : sk T L q < L := kd_lt hkd
            have hTν : MT ν T L := MT_fr hTω hO.2.2.2 (by omega) (fun k => by omega)
            refine vc_X8_draw_27 ?_
            rw [if_pos hO.2.1, if_neg (fun z => hkd (mkd_0.mp (hO.1.2.2.2.1.symm.trans z)))]
            refine m_readsCommand hTν hW hO.1 hO.2.1 hO.2.2.1 (fun e he ξ hR => ⟨zin_sm (by omega), E e (hE e (pl_e hkd he)) ξ _ ⟨hR.1, hR.2.1, fr_tr hO.2.2.2 hR.2.2⟩⟩) (fun q2 c hc ξ hO2 => ?_)
            obtain ⟨k1, k2, k3⟩ := pcmd_ok hT' (by omega) hlt hc
            refine ⟨zin_sm (by omega), ih q2 (x + 1) (excmd s cv c) ξ (by omega) k3 (by omega) (by omega) (by omega) ⟨hO2.1, hO2.2.1, hO2.2.2.1, fr_tr hO.2.2.2 hO2.2.2.2⟩ (fun e he => hE e (pl_re hkd hc he)) (fun l hl => ?_)⟩
            obtain ⟨l', g1, g2, g3⟩ := hD (c :: l) (pl_rr hkd hc hl)
            refine ⟨l', g1, ?_, g3⟩
            rw [g2, List.length_cons]
            omega
      refine m_readsToken hTω k5 (by omega) hL.1 (fun ν hk hF2 => run 161 0 0 (fun k => sv s (-1) k) ν (by omega) hL.1 (by omega) (by omega) (by omega) ⟨hk, (hF2 20 0 10 (by omega)).trans k10, DV_fr hV0 hF2 (fun k => by omega), fr_mono hF2 (fun t i k q => by omega)⟩ (fun e he => he) (fun l hl => ⟨l, hl, by omega, rfl⟩))
  exact copy 0 (by omega) (by omega) μ fr_rf (fun k k0 k1 => by omega)
theorem m_append {c : Int} {K : Int → mzM → Prop} (hT : MT μ T L) (hK0 : ¬ (0 ≤ c ∧ c ≤ 255) → K (-1) μ) (hK1 : (0 ≤ c ∧ c ≤ 255) → L = 160 → K (-3) μ) (hK : (0 ≤ c ∧ c ≤ 255) → L < 160 → ∀ ν, MT ν (fun k => if k = L then c else T k) (L + 1) → fr (fun t _ k => t = 23 ∨ (t = 20 ∧ k = 4)) μ ν → K (L + 1) ν) : ZI f_X8_appendCharacter [vR 20 0, vI c] μ K := by
  have hL := hT.2.1
  refine vc_X8_appendCharacter_0 (m_in (fun g => ?_) (fun g => ?_))
  · rw [if_neg (by decide), hT.1]
    split
    · next q => exact zlf (hK1 g q) rfl
    · next q =>
      have e1 : ∀ v, (mup μ 23 0 L v) 20 0 4 = L := fun v => (mup_t (by decide)).trans hT.1
      rw [e1, mup_self]
      refine ⟨by omega, zin_sm (by omega), zlf (hK g (by omega) _ ⟨mup_self _ _ _ _ _, by omega, fun k k0 k1 => ?_⟩ (fr_up (fr_up fr_rf (Or.inl rfl)) (Or.inr ⟨rfl, rfl⟩))) rfl⟩
      dsimp only
      rw [mup_t (by decide)]
      by_cases z : k = L
      · rw [if_pos z, z, mup_self]
        exact ⟨(zbc g.1 g.2).2.1, g⟩
      · rw [if_neg z, mup_k z]
        exact hT.2.2 k k0 (by omega)
  · rw [if_pos rfl]
    exact zlf (hK0 g) rfl
theorem m_clearText {K : Int → mzM → Prop} (hT : MT μ T L) (hK : ∀ ν, MT ν T 0 → fr (fun t _ k => t = 20 ∧ k = 4) μ ν → K L ν) : ZI f_X8_clearText [vR 20 0] μ K :=
  vc_X8_clearText_0 (zlf (hK _ ⟨mup_self _ _ _ _ _, by decide, fun k k0 k1 => by omega⟩ (fr_up fr_rf ⟨rfl, rfl⟩)) hT.1)
/-- states that agree where a state is -/
theorem CI_cg {s' : Int → Int} (hW : WF s) (hC : CI μ s n p) (h : ∀ k, 0 ≤ k → k < 1880 → s' k = s k) : CI μ s' n p ∧ WF s' := by
  have h10 := hW.2.1
  have hm := WD_mul hW.1
  have ag : ∀ f, 0 ≤ f → f < s 2 → AG s s' f := fun f f0 f1 => AG_pt hW.1 ⟨f0, by omega⟩ (fun k q => h k (by omega) (by omega))
  have cv : SAME s (-1) s' (-1) := SAME_cv hW.1 (fun k q => h k (by omega) (by omega))
  have e0 := h 0 (by omega) (by omega)
  have e1 := h 1 (by omega) (by omega)
  have e2 := h 2 (by omega) (by omega)
  have e3 := h 3 (by omega) (by omega)
  have e4 := h 4 (by omega) (by omega)
  have e5 := h 5 (by omega) (by omega)
  have hh := hC.1.1
  refine ⟨⟨ST_ag hW hC.1 e0 e1 (by omega) (fun f f0 f1 => ag f f0 (by omega)) ⟨by rw [e2]; exact hh.1, by rw [e3]; exact hh.2.1, by rw [e4]; exact hh.2.2.1, by rw [e5]; exact hh.2.2.2⟩ (IM_cv hC.1.2.1 e0 e1 cv) hC.1.2.2, hC.2⟩, WD_same hW.1 e0 e1, by rw [e2]; exact hW.2.1, by rw [e3]; exact hW.2.2.1, by rw [e4]; exact hW.2.2.2.1, by rw [e5]; exact hW.2.2.2.2.1, fun c c0 c1 => ?_, fun f f0 f1 => WFf_ag e0 e1 (ag f f0 (by omega)) (hW.2.2.2.2.2.2 f f0 (by omega))⟩
  rw [e0, e1] at c1
  rw [cv c c0 c1]
  exact hW.2.2.2.2.2.1 c c0 c1
end Mte
