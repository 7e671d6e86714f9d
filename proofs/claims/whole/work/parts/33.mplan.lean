/-! ===== the model: plans and the other changes ===== -/
section Sam
variable {s s' : Int → Int} {f g b : Int}
theorem slike_same {x y a c : Int} (hD : WD s) (h0 : s' 0 = s 0) (hf : SAME s f s' f) (hg : SAME s g s' g) (hx : 0 ≤ x ∧ x ≤ s 0 - 4) (hy : 0 ≤ y ∧ y ≤ s 1 - 4) (ha : 0 ≤ a ∧ a ≤ s 0 - 4) (hc : 0 ≤ c ∧ c ≤ s 1 - 4) : slike s' f x y g a c ↔ slike s f x y g a c := by
  have e : ∀ u v, spl s' u v = spl s u v := fun u v => by unfold spl; rw [h0]
  have key : ∀ k, 0 ≤ k → k < 16 → sv s' f (spl s' (x + k % 4) (y + k / 4)) = sv s f (spl s (x + k % 4) (y + k / 4)) ∧ sv s' g (spl s' (a + k % 4) (c + k / 4)) = sv s g (spl s (a + k % 4) (c + k / 4)) := by
    intro k k0 k1
    obtain ⟨p1, p2, p3, p4⟩ := part_pl hD hx hy k0 k1
    obtain ⟨q1, q2, q3, q4⟩ := part_pl hD ha hc k0 k1
    rw [e, e]
    exact ⟨hf _ p2 p3, hg _ q2 q3⟩
  constructor
  · intro h k k0 k1
    have := h k k0 k1
    rw [(key k k0 k1).1, (key k k0 k1).2] at this
    exact this
  · intro h k k0 k1
    rw [(key k k0 k1).1, (key k k0 k1).2]
    exact h k k0 k1
theorem sleft_same (h0 : s' 0 = s 0) : sleft s' b = sleft s b := by unfold sleft; rw [h0]
theorem stop_same (h0 : s' 0 = s 0) : stop s' b = stop s b := by unfold stop; rw [h0]
theorem smv_same {dx dy : Int} (hD : WD s) (h0 : s' 0 = s 0) (h1 : s' 1 = s 1) (h3 : s' 3 = s 3) (hf : SAME s f s' f) (hg : SAME s g s' g) (b0 : 0 ≤ b) (b1 : b < sblocks s) : smv s' f g b dx dy ↔ smv s f g b dx dy := by
  obtain ⟨hx, hy⟩ := WD_blk hD b0 b1
  unfold smv
  rw [sleft_same h0, stop_same h0, h0, h1, h3]
  constructor
  · rintro ⟨q1, q2, q3, q4, q5⟩
    exact ⟨q1, q2, q3, q4, (slike_same hD h0 hf hg hx hy q4.1 q4.2).mp q5⟩
  · rintro ⟨q1, q2, q3, q4, q5⟩
    exact ⟨q1, q2, q3, q4, (slike_same hD h0 hf hg hx hy q4.1 q4.2).mpr q5⟩
theorem slk_same (hD : WD s) (h0 : s' 0 = s 0) (hf : SAME s f s' f) (hg : SAME s g s' g) (b0 : 0 ≤ b) (b1 : b < sblocks s) : slk s' f g b ↔ slk s f g b := by
  obtain ⟨hx, hy⟩ := WD_blk hD b0 b1
  unfold slk
  rw [sleft_same h0, stop_same h0]
  exact slike_same hD h0 hf hg hx hy hx hy
theorem CH_same {k dx dy n c : Int} (hD : WD s) (h0 : s' 0 = s 0) (h1 : s' 1 = s 1) (h3 : s' 3 = s 3) (hf : SAME s f s' f) (hg : g ≠ -1 → SAME s g s' g) (b0 : 0 ≤ b) (b1 : b < sblocks s) (h : CH s' f g b k dx dy n c) : CH s f g b k dx dy n c := by
  have r1 : sruns s' f (-1) b = sruns s f (-1) b := sruns_same hD h0 h1 hf Iff.rfl (fun q => absurd rfl q) b0 b1
  have r2 : sruns s' f g b = sruns s f g b := sruns_same hD h0 h1 hf Iff.rfl hg b0 b1
  unfold CH at h
  rw [r1, r2] at h
  rcases h with h | ⟨q, h⟩ | ⟨q, h, hb, h'⟩ | ⟨q, h, hb, h'⟩ | ⟨q, h, hb, h'⟩
  · exact Or.inl h
  · exact Or.inr (Or.inl ⟨q, (slk_same hD h0 hf (hg q) b0 b1).mp h.1, h.2⟩)
  · refine Or.inr (Or.inr (Or.inl ⟨q, fun z => h ((slk_same hD h0 hf (hg q) b0 b1).mpr z), ⟨(smv_same hD h0 h1 h3 hf (hg q) b0 b1).mp hb.1, fun x y hm => hb.2 x y ((smv_same hD h0 h1 h3 hf (hg q) b0 b1).mpr hm)⟩, h'⟩))
  · exact Or.inr (Or.inr (Or.inr (Or.inl ⟨q, fun z => h ((slk_same hD h0 hf (hg q) b0 b1).mpr z), fun x y hm => hb x y ((smv_same hD h0 h1 h3 hf (hg q) b0 b1).mpr hm), h'⟩)))
  · exact Or.inr (Or.inr (Or.inr (Or.inr ⟨q, fun z => h ((slk_same hD h0 hf (hg q) b0 b1).mpr z), fun x y hm => hb x y ((smv_same hD h0 h1 h3 hf (hg q) b0 b1).mpr hm), h'⟩)))
theorem REC_AG {s'' : Int → Int} {r : Int} (h0 : s' 0 = s 0) (h1 : s' 1 = s 1) (hR : REC s g r s' f) (hA : AG s' s'' f) : REC s g r s'' f := by
  refine ⟨fun c c0 c1 => (hA.1.1 c c0 (by rw [h0, h1]; exact c1)).trans (hR.1 c c0 c1), hA.1.2.1.trans hR.2.1, hA.2.trans hR.2.2.1, fun b b0 b1 => ?_⟩
  obtain ⟨e1, e2, e3⟩ := hA.1.2.2 b b0 (by rw [sblocks_same h0 h1]; exact b1)
  rw [e1, e2, e3]
  exact hR.2.2.2 b b0 b1
theorem AG_tr {s'' : Int → Int} (h0 : s' 0 = s 0) (h1 : s' 1 = s 1) (hR : AG s s' f) (hA : AG s' s'' f) : AG s s'' f := by
  refine ⟨⟨fun c c0 c1 => (hA.1.1 c c0 (by rw [h0, h1]; exact c1)).trans (hR.1.1 c c0 c1), hA.1.2.1.trans hR.1.2.1, fun b b0 b1 => ?_⟩, hA.2.trans hR.2⟩
  obtain ⟨e1, e2, e3⟩ := hA.1.2.2 b b0 (by rw [sblocks_same h0 h1]; exact b1)
  rw [e1, e2, e3]
  exact hR.1.2.2 b b0 b1
theorem AG_pt (hD : WD s) (hf : 0 ≤ f ∧ f < 10) (h : ∀ k, (150 + 144 * f ≤ k ∧ k < 150 + 144 * f + 144) ∨ k = 1590 + f ∨ k = 1600 + f ∨ (1610 + 27 * f ≤ k ∧ k < 1610 + 27 * f + 27) → s' k = s k) : AG s s' f := by
  have hm := WD_mul hD
  have hb := WD_blocks hD
  refine ⟨⟨fun c c0 c1 => ?_, h _ (by omega), fun b b0 b1 => ⟨h _ (by omega), h _ (by omega), h _ (by omega)⟩⟩, h _ (by omega)⟩
  unfold sv
  rw [if_neg (by omega), if_neg (by omega)]
  exact h _ (by omega)
theorem SAME_cv (hD : WD s) (h : ∀ k, 6 ≤ k ∧ k < 150 → s' k = s k) : SAME s (-1) s' (-1) := by
  have hm := WD_mul hD
  intro c c0 c1
  show s' (6 + c) = s (6 + c)
  exact h _ (by omega)
theorem SAME_fr (hD : WD s) (hf : 0 ≤ f) (h : ∀ k, 150 + 144 * f ≤ k ∧ k < 150 + 144 * f + 144 → s' k = s k) : SAME s f s' f := by
  have hm := WD_mul hD
  intro c c0 c1
  unfold sv
  rw [if_neg (by omega), if_neg (by omega)]
  exact h _ (by omega)
end Sam
theorem zbit_a : ∀ a : Nat, a < 32 → ∀ b : Nat, b < 32 → ∀ k : Nat, k < 10 → 0 ≤ zand (zshr ((32 * a + b : Nat) : Int) (k : Int)) 1 ∧ zand (zshr ((32 * a + b : Nat) : Int) (k : Int)) 1 ≤ 1 := by decide +kernel
theorem zbit {x k : Int} (h0 : 0 ≤ x) (h1 : x < 1024) (k0 : 0 ≤ k) (k1 : k < 10) : 0 ≤ zand (zshr x k) 1 ∧ zand (zshr x k) 1 ≤ 1 := by
  have h := zbit_a (x.toNat / 32) (by omega) (x.toNat % 32) (by omega) k.toNat (by omega)
  rw [show ((32 * (x.toNat / 32) + x.toNat % 32 : Nat) : Int) = x by omega, show ((k.toNat : Nat) : Int) = k by omega] at h
  exact h
theorem spof_b {s : Int → Int} (hW : WF s) (set : Int) : 0 ≤ spof s set := by
  have h10 := hW.2.1
  have h5 := hW.2.2.2.2.1
  have h := ifold_inv (g := pstep (kcs s) (ncs s) set) (I := fun a k => (0 ≤ a.1 ∧ a.1 ≤ 308 * k) ∧ (0 ≤ a.2.1 ∧ a.2.1 ≤ 308 * k) ∧ (0 ≤ a.2.2 ∧ a.2.2 ≤ 308 * k)) (s 2).toNat (0, 0, 0) 0 (fun a j j0 j1 h => pstep_inv hW.1 h) (by decide)
  have hr := rate_b h5.1 h5.2 h.2.2.1 (by omega)
  unfold spof plof
  omega
theorem pbest_b {s : Int → Int} (hW : WF s) : 0 ≤ (pbest s).1 := by
  unfold pbest
  exact ifold_inv (g := bstep (spof s)) (I := fun a _ => 0 ≤ a.1) (pcnt (s 2)) (spof s 1, 1) 0 (fun a j j0 j1 h => by
    unfold bstep
    split
    · exact spof_b hW _
    · exact h) (spof_b hW 1)
section Mpl
variable {μ : mzM} {s : Int → Int} {n : Int} {p : Int → Int → Int}
theorem m_bits {x : Int} {K : Int → mzM → Prop} (h0 : 0 ≤ x) (h1 : x < 1024) (h : K (sbits x) μ) : ZI f_X8_bits [vI x] μ K := by
  refine vc_X8_bits_0 ?_
  refine ifold_loop (g := fun d k => d + zand (zshr x k) 1) (C := fun d k => ZW f_X8_bits 4 [vI x, vI d, vI k] [] μ (fun r ν => ∃ a, r = some (vI a) ∧ K a ν)) (I := fun d k => 0 ≤ d ∧ d ≤ k) (lo := 0) (hi := 10) ?_ ?_ 10 0 0 (by omega) (by omega) (by omega) ?_
  · intro d k k0 k1 hd
    have := zbit h0 h1 k0 k1
    omega
  · intro d k k0 k1 hd hC
    have := zbit h0 h1 k0 k1
    refine vc_X8_bits_4 ?_
    rw [if_pos k1]
    exact ⟨zin_sm (by omega), zin_sm (by omega), hC⟩
  · intro _
    refine vc_X8_bits_4 ?_
    rw [if_neg (by omega)]
    exact zlf h rfl
theorem m_planOf {set : Int} {K : Int → mzM → Prop} (hs : μ 21 0 = s) (hW : WF s) (h0 : ksel set 0) (hk : ∀ f, 0 ≤ f → f < s 2 → μ 27 0 f = kcs s f) (hc : ∀ f, 1 ≤ f → f < s 2 → μ 28 0 f = ncs s f) (h : K (spof s set) μ) : ZI f_X8_planOf [vR 20 0, vI set] μ K := by
  have h10 := hW.2.1
  have h5 := hW.2.2.2.2.1
  refine vc_X8_planOf_0 ?_
  refine ifold_loop (g := pstep (kcs s) (ncs s) set) (C := fun a k => ∀ v8 v9 : mzV, ZW f_X8_planOf 8 [vR 20 0, vI set, vI a.1, vI a.2.1, vI a.2.2, vI k, v8, v9] [] μ (fun r ν => ∃ a, r = some (vI a) ∧ K a ν)) (I := fun a k => (0 ≤ a.1 ∧ a.1 ≤ 308 * k) ∧ (0 ≤ a.2.1 ∧ a.2.1 ≤ 308 * k) ∧ (0 ≤ a.2.2 ∧ a.2.2 ≤ 308 * k)) (lo := 0) (hi := s 2) ?_ ?_ (s 2).toNat (0, 0, 0) 0 (by omega) (by omega) (by decide) ?_ none none
  · intro a k k0 k1 ha
    exact pstep_inv hW.1 ha
  · intro a k k0 k1 ha hC v8 v9
    refine vc_X8_planOf_8 ?_
    rw [hs, if_pos k1]
    have h1 : 2 ≤ kcs s k ∧ kcs s k ≤ 308 := call_b hW.1 k (-1)
    have h2 : 2 ≤ ncs s k ∧ ncs s k ≤ 308 := call_b hW.1 k (k - 1)
    unfold pstep at hC
    refine ⟨by omega, ?_⟩
    split
    · next q =>
      rw [if_pos q] at hC
      rw [hk k k0 k1]
      refine ⟨by omega, zin_sm (by omega), ?_⟩
      split
      · next z => rw [if_pos z] at hC; exact ⟨zin_sm (by omega), hC _ _⟩
      · next z => rw [if_neg z] at hC; exact ⟨zin_sm (by omega), hC _ _⟩
    · next q =>
      have k2 : 1 ≤ k := by
        rcases Int.lt_or_le k 1 with z | z
        · have : k = 0 := by omega
          rw [this] at q
          exact absurd h0 q
        · exact z
      rw [if_neg q] at hC
      rw [hc k k2 k1]
      refine ⟨by omega, zin_sm (by omega), zin_sm (by omega), ?_⟩
      split
      · next z => rw [if_pos z] at hC; exact ⟨zin_sm (by omega), hC _ _⟩
      · next z => rw [if_neg z] at hC; exact ⟨zin_sm (by omega), hC _ _⟩
  · intro ha v8 v9
    refine vc_X8_planOf_8 ?_
    rw [hs, if_neg (by omega)]
    have hr := rate_b h5.1 h5.2 ha.2.2.1 (by omega)
    exact ⟨by omega, by omega, zin_sm (by omega), zin_sm (by omega), zlf h rfl⟩
abbrev Ppl : Nat → Int → Int → Prop := fun t i k => t = 26 ∨ t = 27 ∨ t = 28 ∨ (t = 20 ∧ i = 0 ∧ k = 16)
theorem m_plans {K : Int → mzM → Prop} (hs : μ 21 0 = s) (hW : WF s) (hn : 1 ≤ s 2) (hK : ∀ ν, ν 20 0 16 = (pbest s).2 → fr Ppl μ ν → K (pbest s).1 ν) : ZI f_X8_plans [vR 20 0] μ K := by
  have h10 := hW.2.1
  obtain ⟨hcnt, h511⟩ := pcnt_ok hn h10.2
  refine vc_X8_plans_0 ?_
  have key2 : ∀ ν : mzM, fr Ppl μ ν → (∀ f, 0 ≤ f → f < s 2 → ν 27 0 f = kcs s f) → (∀ f, 1 ≤ f → f < s 2 → ν 28 0 f = ncs s f) → ∀ v3 v4 : mzV, ν 20 0 16 = 1 → ZW f_X8_plans 41 [vR 20 0, vI (spof s 1), vI 3, v3, v4] [] ν (fun r ν => ∃ a, r = some (vI a) ∧ K a ν) := by
    intro ν hF hk hc v3 v4 e1
    have lp := ifold_loop (g := bstep (spof s)) (C := fun a j => ∀ (ω : mzM) (v3 v4 : mzV), ω 20 0 16 = a.2 → fr Ppl μ ω → (∀ f, 0 ≤ f → f < s 2 → ω 27 0 f = kcs s f) → (∀ f, 1 ≤ f → f < s 2 → ω 28 0 f = ncs s f) → ZW f_X8_plans 41 [vR 20 0, vI a.1, vI (3 + 2 * j), v3, v4] [] ω (fun r ν => ∃ a, r = some (vI a) ∧ K a ν)) (I := fun a _ => 0 ≤ a.2 ∧ a.2 < 1024 ∧ a.2 % 2 = 1) (lo := 0) (hi := (pcnt (s 2) : Int))
    refine lp (fun a j j0 j1 h => bstep_inv (n := pcnt (s 2)) (by omega) j0 j1 h) ?_ (pcnt (s 2)) (spof s 1, 1) 0 (by omega) (by omega) (show (0 : Int) ≤ 1 ∧ (1 : Int) < 1024 ∧ (1 : Int) % 2 = 1 by decide) ?_ ν v3 v4 e1 hF hk hc
    · intro a j j0 j1 ha hC ω v3 v4 e2 hF2 hk2 hc2
      have hs2 : ω 21 0 = s := fr_s hs hF2 (fun k => by omega)
      refine vc_X8_plans_41 ?_
      rw [hs2, if_pos (by rw [hcnt]; omega)]
      refine ⟨by omega, m_planOf hs2 hW (ksel0 (by omega) (by omega) (by omega)) hk2 hc2 ?_⟩
      rw [show 3 + 2 * j + 2 = 3 + 2 * (j + 1) by omega]
      have upd : ∀ (v x : Int), bstep (spof s) a j = (v, x) → ∀ v3 v4 : mzV, ZW f_X8_plans 41 [vR 20 0, vI v, vI (3 + 2 * (j + 1)), v3, v4] [] (mup ω 20 0 16 x) (fun r ν => ∃ a, r = some (vI a) ∧ K a ν) := by
        intro v x hb v3 v4
        have hC' := hC (mup ω 20 0 16 x) v3 v4 (by rw [mup_self, hb]) (fr_up hF2 (by omega)) (fun f f0 f1 => by rw [mup_t (by decide)]; exact hk2 f f0 f1) (fun f f0 f1 => by rw [mup_t (by decide)]; exact hc2 f f0 f1)
        rw [hb] at hC'
        exact hC'
      split
      · next q2 => exact ⟨zin_sm (by omega), upd _ _ (by unfold bstep; rw [if_pos (Or.inl q2)]) _ _⟩
      · next q2 =>
        split
        · next q3 =>
          refine m_bits (by omega) (by omega) ?_
          rw [e2]
          refine m_bits ha.1 ha.2.1 ?_
          split
          · next q4 => exact ⟨zin_sm (by omega), upd _ _ (by unfold bstep; rw [if_pos (Or.inr ⟨q3, q4⟩)]) _ _⟩
          · next q4 => exact ⟨zin_sm (by omega), by rw [e2]; exact upd _ _ (by unfold bstep; rw [if_neg (by rintro (z | z); exact q2 z; exact q4 z.2)]) _ _⟩
        · next q3 => exact ⟨zin_sm (by omega), by rw [e2]; exact upd _ _ (by unfold bstep; rw [if_neg (by rintro (z | z); exact q2 z; exact q3 z.1)]) _ _⟩
    · intro _ ω v3 v4 e2 hF2 hk2 hc2
      have hs2 : ω 21 0 = s := fr_s hs hF2 (fun k => by omega)
      refine vc_X8_plans_41 ?_
      rw [hs2, if_neg (by rw [hcnt]; omega)]
      exact ⟨by omega, zlf (hK ω e2 hF2) rfl⟩
  have key : ∀ f, 0 ≤ f → f ≤ s 2 → ∀ ν : mzM, fr (fun t i k => t = 26 ∨ t = 27 ∨ t = 28) μ ν → (∀ g, 0 ≤ g → g < f → ν 27 0 g = kcs s g) → (∀ g, 1 ≤ g → g < f → ν 28 0 g = ncs s g) → ZW f_X8_plans 2 [vR 20 0, vI f, none, none, none] [] ν (fun r ν => ∃ a, r = some (vI a) ∧ K a ν) := by
    intro f f0 f1
    refine iter_down (C := fun f => ∀ ν : mzM, fr (fun t i k => t = 26 ∨ t = 27 ∨ t = 28) μ ν → (∀ g, 0 ≤ g → g < f → ν 27 0 g = kcs s g) → (∀ g, 1 ≤ g → g < f → ν 28 0 g = ncs s g) → ZW f_X8_plans 2 [vR 20 0, vI f, none, none, none] [] ν (fun r ν => ∃ a, r = some (vI a) ∧ K a ν)) (lo := 0) (hi := s 2) ?_ ?_ f0 f1
    · intro f f0 f1 ih ν hF hk hc
      have hs1 : ν 21 0 = s := fr_s hs hF (fun k => by omega)
      refine vc_X8_plans_2 ?_
      rw [hs1, if_pos f1]
      refine ⟨by omega, m_codesAll hs1 hW (Or.inr ⟨f0, f1⟩) (Or.inl rfl) (fun ξ _ hF2 => ⟨by omega, ?_⟩)⟩
      have hk1 : ∀ g, 0 ≤ g → g < f + 1 → (mup ξ 27 0 f (call s f (-1))) 27 0 g = kcs s g := by
        intro g g0 g1
        by_cases z : g = f
        · rw [z, mup_self]; rfl
        · rw [mup_k z, hF2 27 0 g (by omega)]; exact hk g g0 (by omega)
      have hc1 : ∀ g, 1 ≤ g → g < f → (mup ξ 27 0 f (call s f (-1))) 28 0 g = ncs s g := by
        intro g g0 g1
        rw [mup_t (by decide), hF2 28 0 g (by omega)]; exact hc g g0 g1
      have hF3 : fr (fun t i k => t = 26 ∨ t = 27 ∨ t = 28) μ (mup ξ 27 0 f (call s f (-1))) := fr_up (fr_tr hF (fr_mono hF2 (fun t i k q => Or.inl q))) (Or.inr (Or.inl rfl))
      split
      · next q =>
        refine ⟨by omega, zin_sm (by omega), ih _ (fr_up hF3 (Or.inr (Or.inr rfl))) (fun g g0 g1 => ?_) (fun g g0 g1 => by omega)⟩
        rw [mup_t (by decide)]
        exact hk1 g g0 g1
      · next q =>
        have hs3 : (mup ξ 27 0 f (call s f (-1))) 21 0 = s := fr_s hs hF3 (fun k => by omega)
        refine ⟨zin_sm (by omega), m_codesAll hs3 hW (Or.inr ⟨f0, f1⟩) (Or.inr ⟨by omega, by omega⟩) (fun ζ _ hF4 => ⟨by omega, zin_sm (by omega), ih _ (fr_up (fr_tr hF3 (fr_mono hF4 (fun t i k q => Or.inl q))) (Or.inr (Or.inr rfl))) (fun g g0 g1 => ?_) (fun g g0 g1 => ?_)⟩)⟩
        · rw [mup_t (by decide), hF4 27 0 g (by omega)]
          exact hk1 g g0 g1
        · by_cases z : g = f
          · rw [z, mup_self]; rfl
          · rw [mup_k z, hF4 28 0 g (by omega)]; exact hc1 g g0 (by omega)
    · intro ν hF hk hc
      have hs1 : ν 21 0 = s := fr_s hs hF (fun k => by omega)
      refine vc_X8_plans_2 ?_
      rw [hs1, if_neg (by omega)]
      have hF3 : fr Ppl μ (mup ν 20 0 16 1) := fr_up (fr_mono hF (fun t i k q => by omega)) (by omega)
      have hk1 : ∀ g, 0 ≤ g → g < s 2 → (mup ν 20 0 16 1) 27 0 g = kcs s g := fun g g0 g1 => by rw [mup_t (by decide)]; exact hk g g0 g1
      have hc1 : ∀ g, 1 ≤ g → g < s 2 → (mup ν 20 0 16 1) 28 0 g = ncs s g := fun g g0 g1 => by rw [mup_t (by decide)]; exact hc g g0 g1
      exact ⟨by omega, m_planOf (fr_s hs hF3 (fun k => by omega)) hW (by decide +kernel) hk1 hc1 (key2 _ hF3 hk1 hc1 _ _ (mup_self _ _ _ _ _))⟩
  exact key 0 (by omega) (by omega) μ fr_rf (fun g g0 g1 => by omega) (fun g g0 g1 => by omega)
theorem m_planCost {K : Int → mzM → Prop} (hs : μ 21 0 = s) (hW : WF s) (h : ∀ ν, fr Ppl μ ν → K (qplanCost s) ν) : ZI f_X8_planCost [vR 20 0] μ K := by
  have h10 := hW.2.1
  unfold qplanCost at h
  refine vc_X8_planCost_0 ?_
  rw [hs]
  refine ⟨by omega, ?_⟩
  split
  · next q => rw [if_pos (by omega)] at h; exact zlf (h μ fr_rf) rfl
  · next q =>
    rw [if_neg (by omega)] at h
    exact m_plans hs hW (by omega) (fun ν _ hF => zlf (h ν hF) rfl)
theorem m_planKeys {K : Int → mzM → Prop} (hs : μ 21 0 = s) (hW : WF s) (h : ∀ ν, fr Ppl μ ν → K (qplanKeys s) ν) : ZI f_X8_planKeys [vR 20 0] μ K := by
  have h10 := hW.2.1
  have hb := pbest_b hW
  unfold qplanKeys at h
  refine vc_X8_planKeys_0 ?_
  rw [hs]
  refine ⟨by omega, ?_⟩
  split
  · next q => rw [if_pos (by omega)] at h; exact zlf (h μ fr_rf) rfl
  · next q =>
    rw [if_neg (by omega)] at h
    refine m_plans hs hW (by omega) (fun ν e hF => ?_)
    rw [if_neg (by omega), e]
    exact zlf (h ν hF) rfl
theorem m_recode {K : Int → mzM → Prop} (hW : WF s) (hM : MI μ s n p) (hK0 : s 2 = 0 → K (-2) μ) (hK : 1 ≤ s 2 → ∀ ν, MI ν (ν 21 0) (pushn n) (pushp p n s) → OPrec s (ν 21 0) → fr Pmm μ ν → K (pbest s).1 ν) : ZI f_X8_recode [vR 20 0] μ K := by
  have h10 := hW.2.1
  have hm := WD_mul hW.1
  have hbs := WD_blocks hW.1
  refine vc_X8_recode_0 ?_
  rw [hM.1]
  refine ⟨by omega, ?_⟩
  split
  · next q => exact zlf (hK0 q) rfl
  · next q =>
    refine m_note hM (fun ν hM1 hF1 => m_plans hM1.1 hW (by omega) (fun ξ h16 hF2 => ?_))
    have hs2 : ξ 21 0 = s := fr_s hM1.1 hF2 (fun k => by omega)
    have hM2 : MI ξ s (pushn n) (pushp p n s) := MI_s (MI_fr hM1 hF2 (fun k => by omega) (by omega)) hs2
    have hpr := fun f (f0 : 0 ≤ f) => prf_ok (s := s) (f := f) (by omega) h10.2 f0
    have key : ∀ f, 0 ≤ f → f ≤ s 2 → ∀ (ζ : mzM) (v3 v4 : mzV), fr (fun t _ _ => t = 21 ∨ t = 26) ξ ζ → (∀ k, k < 1590 → ζ 21 0 k = s k) → (∀ g, 0 ≤ g → g < f → REC s g (prf s g) (ζ 21 0) g) → (∀ g, f ≤ g → g < s 2 → AG s (ζ 21 0) g) → ZW f_X8_recode 14 [vR 20 0, vI (pbest s).1, vI f, v3, v4] [] ζ (fun r ν => ∃ a, r = some (vI a) ∧ K a ν) := by
      intro f f0 f1
      refine iter_down (C := fun f => ∀ (ζ : mzM) (v3 v4 : mzV), fr (fun t _ _ => t = 21 ∨ t = 26) ξ ζ → (∀ k, k < 1590 → ζ 21 0 k = s k) → (∀ g, 0 ≤ g → g < f → REC s g (prf s g) (ζ 21 0) g) → (∀ g, f ≤ g → g < s 2 → AG s (ζ 21 0) g) → ZW f_X8_recode 14 [vR 20 0, vI (pbest s).1, vI f, v3, v4] [] ζ (fun r ν => ∃ a, r = some (vI a) ∧ K a ν)) (lo := 0) (hi := s 2) ?_ ?_ f0 f1
      · intro f f0 f1 ih ζ v3 v4 hF hlow hrec hag
        have e0 := hlow 0 (by omega)
        have e1 := hlow 1 (by omega)
        have e2 := hlow 2 (by omega)
        have e3 := hlow 3 (by omega)
        have e4 := hlow 4 (by omega)
        have e5 := hlow 5 (by omega)
        have same : ∀ g, 0 ≤ g → g < s 2 → SAME s g (ζ 21 0) g := fun g g0 g1 => SAME_fr hW.1 g0 (fun k q => hlow k (by omega))
        have hW2 : WF (ζ 21 0) := by
          refine ⟨WD_same hW.1 e0 e1, by rw [e2]; exact hW.2.1, by rw [e3]; exact hW.2.2.1, by rw [e4]; exact hW.2.2.2.1, by rw [e5]; exact hW.2.2.2.2.1, fun c c0 c1 => ?_, fun g g0 g1 => ?_⟩
          · rw [e0, e1] at c1
            have e : sv (ζ 21 0) (-1) c = sv s (-1) c := hlow (6 + c) (by omega)
            rw [e]
            exact hW.2.2.2.2.2.1 c c0 c1
          · rw [e2] at g1
            rcases Int.lt_or_le g f with z | z
            · exact WFf_rec e0 e1 (hrec g g0 z) (hW.2.2.2.2.2.2 g g0 g1).1 (hpr g g0)
            · exact WFf_ag e0 e1 (hag g z g1) (hW.2.2.2.2.2.2 g g0 g1)
        have hf2 : isF (ζ 21 0) f := ⟨f0, by rw [e2]; exact f1⟩
        have h16z : ζ 20 0 16 = (pbest s).2 := (hF 20 0 16 (by omega)).trans h16
        -- what a record does
        have stepf : ∀ r, r = prf s f → fok (ζ 21 0) r → ∀ (ω : mzM), (∀ b, isB (ζ 21 0) b → CM ω (ζ 21 0) f r b) → fr (fun t _ _ => t = 26) ζ ω → ∀ (χ : mzM), RECS ω (ζ 21 0) f r (χ 21 0) → fr (fun t _ _ => t = 21) ω χ → ∀ v3 v4 : mzV, ZW f_X8_recode 14 [vR 20 0, vI (pbest s).1, vI (f + 1), v3, v4] [] χ (fun r ν => ∃ a, r = some (vI a) ∧ K a ν) := by
          intro r hr hrf ω hC hF3 χ hR hF4 v3 v4
          have hoth : ∀ g, 0 ≤ g → g < s 2 → g ≠ f → AG (ζ 21 0) (χ 21 0) g := fun g g0 g1 gf => AG_pt hW2.1 ⟨g0, by omega⟩ (fun k q => hR.2.2.2 k (by omega) (by omega) (by omega))
          refine ih χ v3 v4 (fr_tr hF (fr_tr (fr_mono hF3 (fun t i k q => Or.inr q)) (fr_mono hF4 (fun t i k q => Or.inl q)))) (fun k k0 => ?_) (fun g g0 g1 => ?_) (fun g g0 g1 => ?_)
          · rw [hR.2.2.2 k (by omega) (by omega) (by omega)]
            exact hlow k k0
          · by_cases z : g = f
            · subst z
              refine ⟨fun c c0 c1 => ?_, hR.1.trans hr, hR.2.1, fun b b0 b1 => ?_⟩
              · unfold sv
                rw [if_neg (by omega), if_neg (by omega), hR.2.2.2 _ (by omega) (by omega) (by omega)]
                exact hlow _ (by omega)
              · obtain ⟨m, hc⟩ := hC b ⟨b0, by rw [sblocks_same e0 e1]; exact b1⟩
                refine ⟨m, ccost (ζ 21 0) g r b, ?_⟩
                have hc2 := CH_same hW.1 e0 e1 e3 (same g g0 (by omega)) (fun y => by
                  rcases hrf with y2 | y2
                  · exact absurd y2 y
                  · exact same r y2.1 (by rw [e2] at y2; exact y2.2)) b0 b1 hc
                have e : ∀ j, 0 ≤ j → j < 3 → χ 21 0 (1610 + 27 * g + 3 * b + j) = ω 26 0 (3 * b + j) := fun j j0 j1 => by
                  rw [show 1610 + 27 * g + 3 * b + j = 1610 + 27 * g + (3 * b + j) by omega]
                  exact hR.2.2.1 _ (by omega) (by omega)
                have e6 := e 0 (by omega) (by omega)
                rw [Int.add_zero, Int.add_zero] at e6
                unfold sits
                rw [e6, e 1 (by omega) (by omega), e 2 (by omega) (by omega), ← hr]
                exact hc2
            · exact REC_AG e0 e1 (hrec g g0 (by omega)) (hoth g g0 (by omega) z)
          · exact AG_tr e0 e1 (hag g (by omega) g1) (hoth g (by omega) g1 (by omega))
        refine vc_X8_recode_14 ?_
        rw [e2, if_pos f1, h16z]
        refine ⟨by omega, ?_⟩
        split
        · next q1 =>
          refine m_codesAll rfl hW2 (Or.inr hf2) (Or.inl rfl) (fun ω hC hF3 => ?_)
          have hb := call_b hW2.1 f (-1)
          have hs3 : ω 21 0 = ζ 21 0 := fr_s rfl hF3 (fun k => by omega)
          rw [if_neg (by omega)]
          exact m_records hs3 ⟨f0, by omega⟩ (fun χ hR hF4 => ⟨zin_sm (by omega), stepf (-1) (by unfold prf; rw [if_pos q1]) (Or.inl rfl) ω hC hF3 χ hR hF4 _ _⟩)
        · next q1 =>
          have hp1 := hpr f f0
          have hp2 : prf s f = f - 1 := by unfold prf; rw [if_neg q1]
          have hfo : fok (ζ 21 0) (f - 1) := by
            rw [hp2] at hp1
            rcases hp1 with z | z
            · exact Or.inl z
            · exact Or.inr ⟨z.1, by rw [e2]; omega⟩
          refine ⟨zin_sm (by omega), m_codesAll rfl hW2 (Or.inr hf2) hfo (fun ω hC hF3 => ?_)⟩
          have hb := call_b hW2.1 f (f - 1)
          have hs3 : ω 21 0 = ζ 21 0 := fr_s rfl hF3 (fun k => by omega)
          rw [if_neg (by omega)]
          exact m_records hs3 ⟨f0, by omega⟩ (fun χ hR hF4 => ⟨zin_sm (by omega), stepf (f - 1) hp2.symm hfo ω hC hF3 χ hR hF4 _ _⟩)
      · intro ζ v3 v4 hF hlow hrec hag
        refine vc_X8_recode_14 ?_
        rw [hlow 2 (by omega), if_neg (by omega)]
        refine ⟨by omega, zlf (hK (by omega) ζ (MI_fr hM2 hF (fun k => by omega) (by omega)) ⟨⟨hlow 0 (by omega), hlow 1 (by omega), hlow 2 (by omega), hlow 3 (by omega), hlow 4 (by omega), hlow 5 (by omega)⟩, SAME_cv hW.1 (fun k q => hlow k (by omega)), fun f f0 f1 => hrec f f0 f1⟩ ?_) rfl⟩
        exact fr_tr (fr_mono hF1 (fun t i k q => by omega)) (fr_tr (fr_mono hF2 (fun t i k q => by omega)) (fr_mono hF (fun t i k q => by omega)))
    have ag0 : ∀ g, (0 : Int) ≤ g → g < s 2 → AG s (ξ 21 0) g := fun g g0 g1 => AG_pt hW.1 ⟨g0, by omega⟩ (fun k _ => by rw [hs2])
    exact key 0 (by omega) (by omega) ξ _ _ fr_rf (fun k _ => by rw [hs2]) (fun g g0 g1 => by omega) ag0
theorem m_removeLast {K : Int → mzM → Prop} (hW : WF s) (hM : MI μ s n p) (hK0 : s 2 = 0 → K (-2) μ) (hK : 1 ≤ s 2 → ∀ ν, MI ν (ν 21 0) (pushn n) (pushp p n s) → OPrem s (ν 21 0) → fr Pmm μ ν → K (s 2 - 1) ν) : ZI f_X8_removeLast [vR 20 0] μ K := by
  have h10 := hW.2.1
  refine vc_X8_removeLast_0 ?_
  rw [hM.1]
  refine ⟨by omega, ?_⟩
  split
  · next q => exact zlf (hK0 q) rfl
  · next q =>
    refine m_note hM (fun ν hM1 hF1 => ?_)
    rw [hM1.1]
    have hF2 : fr (fun t _ _ => t = 21) ν (mup ν 21 0 2 (s 2 - 1)) := fr_up fr_rf rfl
    have hk : ∀ k, k ≠ 2 → (mup ν 21 0 2 (s 2 - 1)) 21 0 k = s k := fun k z => by rw [mup_k z, hM1.1]
    have h2 : (mup ν 21 0 2 (s 2 - 1)) 21 0 2 = s 2 - 1 := mup_self _ _ _ _ _
    refine ⟨by omega, zin_sm (by omega), by omega, by omega, zlf (hK (by omega) _ (MI_fr hM1 hF2 (fun k => by omega) (by omega)) ?_ (fr_tr (fr_mono hF1 (fun t i k q => by omega)) (fr_mono hF2 (fun t i k q => by omega)))) h2⟩
    exact ⟨⟨hk 0 (by omega), hk 1 (by omega), h2, hk 3 (by omega), hk 4 (by omega), hk 5 (by omega)⟩, SAME_cv hW.1 (fun k z => hk k (by omega)), fun f f0 f1 => AG_pt hW.1 ⟨f0, by omega⟩ (fun k z => hk k (by omega))⟩
theorem m_setLimits {a b d : Int} {K : Int → mzM → Prop} (hW : WF s) (hM : MI μ s n p) (hK0 : ¬ ((0 ≤ a ∧ a ≤ 4) ∧ (0 ≤ b ∧ b ≤ 9) ∧ (0 ≤ d ∧ d ≤ 9)) → K (-1) μ) (hK : (0 ≤ a ∧ a ≤ 4) → (0 ≤ b ∧ b ≤ 9) → (0 ≤ d ∧ d ≤ 9) → ∀ ν, MI ν (ν 21 0) (pushn n) (pushp p n s) → OPlim s a b d (ν 21 0) → fr Pmm μ ν → K (if s 3 = a ∧ s 4 = b ∧ s 5 = d then 0 else 1) ν) : ZI f_X8_setLimits [vR 20 0, vI a, vI b, vI d] μ K := by
  have h10 := hW.2.1
  refine vc_X8_setLimits_0 (m_in (fun g1 => ?_) (fun g1 => ?_))
  · rw [if_neg (by decide)]
    refine m_in (fun g2 => ?_) (fun g2 => ?_)
    · rw [if_neg (by decide)]
      refine m_in (fun g3 => ?_) (fun g3 => ?_)
      · rw [if_neg (by decide)]
        refine m_note hM (fun ν hM1 hF1 => ?_)
        rw [hM1.1]
        have hF2 : fr (fun t _ _ => t = 21) ν (mup (mup (mup ν 21 0 3 a) 21 0 4 b) 21 0 5 d) := fr_up (fr_up (fr_up fr_rf rfl) rfl) rfl
        have hk : ∀ k, k ≠ 3 → k ≠ 4 → k ≠ 5 → (mup (mup (mup ν 21 0 3 a) 21 0 4 b) 21 0 5 d) 21 0 k = s k := fun k z3 z4 z5 => by rw [mup_k z5, mup_k z4, mup_k z3, hM1.1]
        have e3 : (mup (mup (mup ν 21 0 3 a) 21 0 4 b) 21 0 5 d) 21 0 3 = a := by rw [mup_k (by decide), mup_k (by decide), mup_self]
        have e4 : (mup (mup (mup ν 21 0 3 a) 21 0 4 b) 21 0 5 d) 21 0 4 = b := by rw [mup_k (by decide), mup_self]
        have e5 : (mup (mup (mup ν 21 0 3 a) 21 0 4 b) 21 0 5 d) 21 0 5 = d := mup_self _ _ _ _ _
        have fin := hK g1 g2 g3 _ (MI_fr hM1 hF2 (fun k => by omega) (by omega)) ⟨⟨hk 0 (by omega) (by omega) (by omega), hk 1 (by omega) (by omega) (by omega), hk 2 (by omega) (by omega) (by omega), e3, e4, e5⟩, SAME_cv hW.1 (fun k z => hk k (by omega) (by omega) (by omega)), fun f f0 f1 => AG_pt hW.1 ⟨f0, by omega⟩ (fun k z => hk k (by omega) (by omega) (by omega))⟩ (fr_tr (fr_mono hF1 (fun t i k q => by omega)) (fr_mono hF2 (fun t i k q => by omega)))
        refine ⟨by omega, ?_⟩
        split
        · next y3 =>
          refine ⟨by omega, ?_⟩
          split
          · next y4 =>
            refine ⟨by omega, ?_⟩
            split
            · next y5 =>
              rw [if_pos ⟨y3, y4, y5⟩] at fin
              exact ⟨by omega, by omega, by omega, zlf fin rfl⟩
            · next y5 =>
              rw [if_neg (fun z => y5 z.2.2)] at fin
              exact ⟨by omega, by omega, by omega, zlf fin rfl⟩
          · next y4 =>
            rw [if_neg (fun z => y4 z.2.1)] at fin
            exact ⟨by omega, by omega, by omega, zlf fin rfl⟩
        · next y3 =>
          rw [if_neg (fun z => y3 z.1)] at fin
          exact ⟨by omega, by omega, by omega, zlf fin rfl⟩
      · rw [if_pos rfl]; exact zlf (hK0 (fun z => g3 z.2.2)) rfl
    · rw [if_pos rfl]; exact zlf (hK0 (fun z => g2 z.2.1)) rfl
  · rw [if_pos rfl]; exact zlf (hK0 (fun z => g1 z.1)) rfl
theorem m_setLost {x v : Int} {K : Int → mzM → Prop} (hW : WF s) (hM : MI μ s n p) (hK0 : ¬ ((0 ≤ x ∧ x < s 2) ∧ 0 ≤ v ∧ v ≤ 1) → K (-1) μ) (hK1 : (0 ≤ x ∧ x < s 2) → slost s x = v → K (-2) μ) (hK : (0 ≤ x ∧ x < s 2) → (v = 0 ∨ v = 1) → slost s x ≠ v → ∀ ν, MI ν (ν 21 0) (pushn n) (pushp p n s) → OPlost s x v (ν 21 0) → fr Pmm μ ν → K (sgoods (ν 21 0)) ν) : ZI f_X8_setLost [vR 20 0, vI x, vI v] μ K := by
  have h10 := hW.2.1
  have hm := WD_mul hW.1
  have hbs := WD_blocks hW.1
  refine vc_X8_setLost_0 (m_isFrame hM.1 hW (fun g1 => ?_) (fun g1 => ?_))
  · rw [if_neg (by decide)]
    refine m_in (fun g2 => ?_) (fun g2 => ?_)
    · rw [if_neg (by decide), hM.1]
      refine ⟨zin_sm (by omega), by omega, ?_⟩
      have e0 : s (1600 + x) = slost s x := rfl
      rw [e0]
      split
      · next q => exact zlf (hK1 g1 q) rfl
      · next q =>
        refine m_note hM (fun ν hM1 hF1 => ?_)
        have hF2 : fr (fun t _ _ => t = 21) ν (mup ν 21 0 (1600 + x) v) := fr_up fr_rf rfl
        have hk : ∀ k, k ≠ 1600 + x → (mup ν 21 0 (1600 + x) v) 21 0 k = s k := fun k z => by rw [mup_k z, hM1.1]
        have hx : (mup ν 21 0 (1600 + x) v) 21 0 (1600 + x) = v := mup_self _ _ _ _ _
        have hO : OPlost s x v ((mup ν 21 0 (1600 + x) v) 21 0) := by
          refine ⟨⟨hk 0 (by omega), hk 1 (by omega), hk 2 (by omega), hk 3 (by omega), hk 4 (by omega), hk 5 (by omega)⟩, SAME_cv hW.1 (fun k z => hk k (by omega)), fun f f0 f1 => ⟨⟨SAME_fr hW.1 f0 (fun k z => hk k (by omega)), hk _ (by omega), fun b b0 b1 => ⟨hk _ (by omega), hk _ (by omega), hk _ (by omega)⟩⟩, ?_⟩⟩
          split
          · next z => subst z; exact hx
          · next z => exact hk _ (by omega)
        refine ⟨zin_sm (by omega), by omega, m_goods rfl (OPlost_wf hW (by omega) hO) (zlf (hK g1 (by omega) q _ (MI_fr hM1 hF2 (fun k => by omega) (by omega)) hO (fr_tr (fr_mono hF1 (fun t i k q => by omega)) (fr_mono hF2 (fun t i k q => by omega)))) rfl)⟩
    · rw [if_pos rfl]; exact zlf (hK0 (fun z => g2 z.2)) rfl
  · rw [if_pos rfl]; exact zlf (hK0 (fun z => g1 z.1)) rfl
theorem m_setCell {x v : Int} {K : Int → mzM → Prop} (hW : WF s) (hM : MI μ s n p) (hK0 : ¬ ((0 ≤ x ∧ x < s 0 * s 1) ∧ 0 ≤ v ∧ v ≤ 15) → K (-1) μ) (hK : (0 ≤ x ∧ x < s 0 * s 1) → 0 ≤ v → v ≤ 15 → ∀ ν, MI ν (ν 21 0) (pushn n) (pushp p n s) → OPcell s x v (ν 21 0) → fr Pmm μ ν → K (sv s (-1) x) ν) : ZI f_X8_setCell [vR 20 0, vI x, vI v] μ K := by
  have h10 := hW.2.1
  have hm := WD_mul hW.1
  refine vc_X8_setCell_0 (m_isCell hM.1 hW.1 (fun g1 => ?_) (fun g1 => ?_))
  · rw [if_neg (by decide)]
    refine m_in (fun g2 => ?_) (fun g2 => ?_)
    · rw [if_neg (by decide)]
      refine m_note hM (fun ν hM1 hF1 => ?_)
      have hF2 : fr (fun t _ _ => t = 21) ν (mup ν 21 0 (6 + x) v) := fr_up fr_rf rfl
      have hk : ∀ k, k ≠ 6 + x → (mup ν 21 0 (6 + x) v) 21 0 k = s k := fun k z => by rw [mup_k z, hM1.1]
      have hx : (mup ν 21 0 (6 + x) v) 21 0 (6 + x) = v := mup_self _ _ _ _ _
      have hO : OPcell s x v ((mup ν 21 0 (6 + x) v) 21 0) := by
        refine ⟨⟨⟨hk 0 (by omega), hk 1 (by omega), hk 2 (by omega), hk 3 (by omega), hk 4 (by omega), hk 5 (by omega)⟩, fun f f0 f1 => AG_pt hW.1 ⟨f0, by omega⟩ (fun k z => hk k (by omega))⟩, fun c c0 c1 => ?_⟩
        split
        · next z => subst z; exact hx
        · next z => exact hk (6 + c) (by omega)
      refine ⟨zin_sm (by omega), by omega, zin_sm (by omega), by omega, zlf (hK g1 g2.1 g2.2 _ (MI_fr hM1 hF2 (fun k => by omega) (by omega)) hO (fr_tr (fr_mono hF1 (fun t i k q => by omega)) (fr_mono hF2 (fun t i k q => by omega)))) ?_⟩
      rw [hM1.1]
      rfl
    · rw [if_pos rfl]; exact zlf (hK0 (fun z => g2 z.2)) rfl
  · rw [if_pos rfl]; exact zlf (hK0 (fun z => g1 z.1)) rfl
theorem m_setSize {w h : Int} {K : Int → mzM → Prop} (hW : WF s) (hM : MI μ s n p) (hK0 : ¬ (isz w ∧ isz h) → K (-1) μ) (hK : isz w → isz h → ∀ ν, MI ν (ν 21 0) (pushn n) (pushp p n s) → OPsize s w h (ν 21 0) → fr Pmm μ ν → K (w * h / 16) ν) : ZI f_X8_setSize [vR 20 0, vI w, vI h] μ K := by
  have h10 := hW.2.1
  have tz : ∀ x : Int, isz x → Int.tmod x 4 = 0 := by
    rintro x (z | z | z) <;> subst z <;> decide
  refine vc_X8_setSize_0 ⟨by omega, ?_⟩
  split
  · next t1 =>
    refine ⟨by omega, ?_⟩
    split
    · next t2 =>
      refine m_in (fun g1 => ?_) (fun g1 => ?_)
      · rw [if_neg (by decide)]
        refine m_in (fun g2 => ?_) (fun g2 => ?_)
        · rw [if_neg (by decide)]
          rw [ztm 4 (by omega)] at t1 t2
          have hw : isz w := by omega
          have hh : isz h := by omega
          refine m_note hM (fun ν hM1 hF1 => ⟨by omega, by omega, by omega, ?_⟩)
          have key : ∀ x, 6 ≤ x → x ≤ 1880 → ∀ ζ : mzM, fr (fun t _ _ => t = 21) ν ζ → (ζ 21 0 0 = w ∧ ζ 21 0 1 = h ∧ ζ 21 0 2 = 0 ∧ ζ 21 0 3 = s 3 ∧ ζ 21 0 4 = s 4 ∧ ζ 21 0 5 = s 5) → (∀ k, 6 ≤ k → k < x → ζ 21 0 k = 0) → ZW f_X8_setSize 39 [vR 20 0, vI w, vI h, vI x] [] ζ (fun r ν => ∃ a, r = some (vI a) ∧ K a ν) := by
            intro x x0 x1
            refine iter_down (C := fun x => ∀ ζ : mzM, fr (fun t _ _ => t = 21) ν ζ → (ζ 21 0 0 = w ∧ ζ 21 0 1 = h ∧ ζ 21 0 2 = 0 ∧ ζ 21 0 3 = s 3 ∧ ζ 21 0 4 = s 4 ∧ ζ 21 0 5 = s 5) → (∀ k, 6 ≤ k → k < x → ζ 21 0 k = 0) → ZW f_X8_setSize 39 [vR 20 0, vI w, vI h, vI x] [] ζ (fun r ν => ∃ a, r = some (vI a) ∧ K a ν)) (lo := 6) (hi := 1880) ?_ ?_ x0 x1
            · intro x x0 x1 ih ζ hF hH hz
              refine vc_X8_setSize_39 ?_
              rw [if_pos x1]
              refine ⟨by omega, zin_sm (by omega), ih _ (fr_up hF rfl) ?_ (fun k k0 k1 => ?_)⟩
              · rw [mup_k (by omega), mup_k (by omega), mup_k (by omega), mup_k (by omega), mup_k (by omega), mup_k (by omega)]
                exact hH
              · by_cases z : k = x
                · rw [z, mup_self]
                · rw [mup_k z]; exact hz k k0 (by omega)
            · intro ζ hF hH hz
              obtain ⟨a0, a1, a2, a3, a4, a5⟩ := hH
              have hO : OPsize s w h (ζ 21 0) := ⟨⟨a0, a1, a2, a3, a4, a5⟩, fun c c0 c1 => hz (6 + c) (by omega) (by
                have : w * h ≤ 144 := by
                  rcases hw with z | z | z <;> rcases hh with y | y | y <;> subst z <;> subst y <;> decide
                omega)⟩
              have hW2 := OPsize_wf hW hw hh hO
              refine vc_X8_setSize_39 ?_
              rw [if_neg (by omega)]
              refine m_blocks rfl hW2.1 (zlf (hK hw hh ζ (MI_fr hM1 hF (fun k => by omega) (by omega)) hO (fr_tr (fr_mono hF1 (fun t i k q => by omega)) (fr_mono hF (fun t i k q => by omega)))) ?_)
              unfold sblocks
              rw [a0, a1]
              exact isz_b hw hh
          refine key 6 (by omega) (by omega) _ (fr_up (fr_up (fr_up fr_rf rfl) rfl) rfl) ⟨?_, ?_, mup_self _ _ _ _ _, ?_, ?_, ?_⟩ (fun k k0 k1 => by omega)
          · rw [mup_k (by decide), mup_k (by decide), mup_self]
          · rw [mup_k (by decide), mup_self]
          · rw [mup_k (by decide), mup_k (by decide), mup_k (by decide), hM1.1]
          · rw [mup_k (by decide), mup_k (by decide), mup_k (by decide), hM1.1]
          · rw [mup_k (by decide), mup_k (by decide), mup_k (by decide), hM1.1]
        · rw [if_pos rfl]; exact zlf (hK0 (fun z => g2 (by have := z.2; omega))) rfl
      · rw [if_pos rfl]; exact zlf (hK0 (fun z => g1 (by have := z.1; omega))) rfl
    · next t2 => exact zlf (hK0 (fun z => t2 (tz h z.2))) rfl
  · next t1 => exact zlf (hK0 (fun z => t1 (tz w z.1))) rfl
end Mpl
