/-! ===== the model: leaves and chains ===== -/
section Mod
variable {μ : mzM} {s : Int → Int} {K : Int → mzM → Prop}
theorem fr_s {P : Nat → Int → Int → Prop} {ν : mzM} (hs : μ 21 0 = s) (hF : fr P μ ν) (hP : ∀ k, ¬ P 21 0 k) : ν 21 0 = s := by
  funext k
  rw [← hs]
  exact hF 21 0 k (hP k)
theorem m_in {x a b : Int} (h1 : a ≤ x ∧ x ≤ b → K 1 μ) (h0 : ¬ (a ≤ x ∧ x ≤ b) → K 0 μ) : ZI f_X8_in [vI x, vI a, vI b] μ K := by
  refine vc_X8_in_0 ?_
  split
  · exact zlf (h0 (by omega)) rfl
  · split
    · exact zlf (h0 (by omega)) rfl
    · exact zlf (h1 (by omega)) rfl
theorem m_cells (hs : μ 21 0 = s) (hD : WD s) (h : K (s 0 * s 1) μ) : ZI f_X8_cells [vR 20 0] μ K := by
  refine vc_X8_cells_0 ?_
  rw [hs]
  have hm := WD_mul hD
  exact ⟨by omega, by omega, zin_sm (by omega), zlf h rfl⟩
theorem m_blocks (hs : μ 21 0 = s) (hD : WD s) (h : K (sblocks s) μ) : ZI f_X8_blocks [vR 20 0] μ K := by
  refine vc_X8_blocks_0 (m_cells hs hD ?_)
  have hm := WD_mul hD
  have hb := WD_blocks hD
  have e : s 0 * s 1 / 16 = sblocks s := (isz_b hD.1 hD.2).symm
  rw [ztd 16 (by omega), e]
  exact ⟨⟨by omega, zin_sm (by omega)⟩, zlf h rfl⟩
theorem m_isFrame {x : Int} (hs : μ 21 0 = s) (hW : WF s) (h1 : isF s x → K 1 μ) (h0 : ¬ isF s x → K 0 μ) : ZI f_X8_isFrame [vR 20 0, vI x] μ K := by
  refine vc_X8_isFrame_0 ?_
  rw [hs]
  have := hW.2.1
  exact ⟨by omega, zin_sm (by omega), m_in (fun q => zlf (h1 (by omega)) (by decide)) (fun q => zlf (h0 (by omega)) (by decide))⟩
theorem m_isCell {x : Int} (hs : μ 21 0 = s) (hD : WD s) (h1 : isC s x → K 1 μ) (h0 : ¬ isC s x → K 0 μ) : ZI f_X8_isCell [vR 20 0, vI x] μ K := by
  refine vc_X8_isCell_0 (m_cells hs hD ?_)
  have hm := WD_mul hD
  exact ⟨zin_sm (by omega), m_in (fun q => zlf (h1 (by omega)) (by decide)) (fun q => zlf (h0 (by omega)) (by decide))⟩
theorem m_isBlock {x : Int} (hs : μ 21 0 = s) (hD : WD s) (h1 : isB s x → K 1 μ) (h0 : ¬ isB s x → K 0 μ) : ZI f_X8_isBlock [vR 20 0, vI x] μ K := by
  refine vc_X8_isBlock_0 (m_blocks hs hD ?_)
  have hb := WD_blocks hD
  exact ⟨zin_sm (by omega), m_in (fun q => zlf (h1 (by omega)) (by decide)) (fun q => zlf (h0 (by omega)) (by decide))⟩
theorem m_isImage {x : Int} (hs : μ 21 0 = s) (hW : WF s) (h1 : fok s x → K 1 μ) (h0 : ¬ fok s x → K 0 μ) : ZI f_X8_isImage [vR 20 0, vI x] μ K := by
  refine vc_X8_isImage_0 ?_
  split
  · next q => exact zlf (h1 (Or.inl q)) rfl
  · next q =>
    refine m_isFrame hs hW (fun g => ?_) (fun g => ?_)
    · rw [if_neg (by decide)]; exact zlf (h1 (Or.inr g)) rfl
    · rw [if_pos rfl]; exact zlf (h0 (by rintro (z | z); exact q z; exact g z)) rfl
theorem m_value {f c : Int} (hs : μ 21 0 = s) (hW : WF s) (hf : fok s f) (hc : 0 ≤ c ∧ c < 144) (h : K (sv s f c) μ) : ZI f_X8_value [vR 20 0, vI f, vI c] μ K := by
  refine vc_X8_value_0 ?_
  rw [hs]
  have := hW.2.1
  unfold sv at h
  split
  · next q => rw [if_pos q] at h; exact ⟨zin_sm (by omega), by omega, zlf h rfl⟩
  · next q => rw [if_neg q] at h; exact ⟨zin_sm (by omega), zin_sm (by omega), zin_sm (by omega), by omega, zlf h rfl⟩
theorem m_reference {f : Int} (hs : μ 21 0 = s) (hW : WF s) (hf : isF s f) (h : K (sref s f) μ) : ZI f_X8_reference [vR 20 0, vI f] μ K := by
  refine vc_X8_reference_0 ?_
  rw [hs]
  have := hW.2.1
  exact ⟨zin_sm (by omega), by omega, zlf h rfl⟩
theorem m_place {x y : Int} (hs : μ 21 0 = s) (hD : WD s) (hx : 0 ≤ x ∧ x < s 0) (hy : 0 ≤ y ∧ y < s 1) (h : K (spl s x y) μ) : ZI f_X8_place [vR 20 0, vI x, vI y] μ K := by
  refine vc_X8_place_0 ?_
  rw [hs]
  obtain ⟨p1, p2, p3⟩ := WD_pl hD hx.1 hx.2 hy.1 hy.2
  have hw := WD_w hD
  unfold spl at p1 p3
  exact ⟨by omega, zin_sm (by omega), zin_sm (by omega), zlf h rfl⟩
theorem m_left {b : Int} (hs : μ 21 0 = s) (hD : WD s) (hb : isB s b) (h : K (sleft s b) μ) : ZI f_X8_left [vR 20 0, vI b] μ K := by
  refine vc_X8_left_0 ?_
  have hw := WD_w hD
  rw [hs, ztd 4 (show 0 ≤ s 0 by omega), ztm _ hb.1]
  have h1 : 0 ≤ b % (s 0 / 4) := Int.emod_nonneg _ (by omega)
  have h2 : b % (s 0 / 4) < s 0 / 4 := Int.emod_lt_of_pos _ (by omega)
  exact ⟨by omega, ⟨by omega, zin_sm (by omega)⟩, by omega, zin_sm (by omega), zlf h rfl⟩
theorem m_top {b : Int} (hs : μ 21 0 = s) (hD : WD s) (hb : isB s b) (h : K (stop s b) μ) : ZI f_X8_top [vR 20 0, vI b] μ K := by
  refine vc_X8_top_0 ?_
  have hw := WD_w hD
  have hbs := WD_blocks hD
  rw [hs, ztd 4 (show 0 ≤ s 0 by omega), ztd _ hb.1]
  have h1 : 0 ≤ b / (s 0 / 4) := Int.ediv_nonneg hb.1 (by omega)
  have h2 : b / (s 0 / 4) ≤ b := Int.ediv_le_self _ hb.1
  exact ⟨by omega, ⟨by omega, zin_sm (by omega)⟩, ⟨by omega, zin_sm (by omega)⟩, zin_sm (by omega), zlf h rfl⟩
theorem m_size {x : Int} (hx : -1000 ≤ x ∧ x ≤ 1000) (h : K (sab x) μ) : ZI f_X8_size [vI x] μ K := by
  refine vc_X8_size_0 ?_
  unfold sab at h
  split
  · next q => rw [if_pos q] at h; exact zlf h (by unfold zw; omega)
  · next q => rw [if_neg q] at h; exact zlf h rfl
/-- chains -/
theorem WF_rf (hW : WF s) {l : Int} (hl : isF s l) : sref s l = -1 ∨ (0 ≤ sref s l ∧ sref s l < l) := (hW.2.2.2.2.2.2 l hl.1 hl.2).2.1
theorem m_depthOf {f : Int} (hs : μ 21 0 = s) (hW : WF s) (hf : isF s f) (h : K (sdepth s f) μ) : ZI f_X8_depthOf [vR 20 0, vI f] μ K := by
  refine vc_X8_depthOf_0 ?_
  have h10 := hW.2.1
  have key : ∀ (n : Nat) (l d : Int), isF s l → l ≤ n → 0 ≤ d → d + n ≤ 10 → K (d + ((chn s n (sref s l)).length : Int)) μ → ZW f_X8_depthOf 4 [vR 20 0, vI f, vI d, vI l] [] μ (fun r ν => ∃ a, r = some (vI a) ∧ K a ν) := by
    intro n
    induction n with
    | zero =>
      intro l d hl hn d0 dn h
      have hr := WF_rf hW hl
      refine vc_X8_depthOf_4 (m_reference hs hW hl ?_)
      rw [if_pos (by omega)]
      exact zlf h (by simp [chn])
    | succ n ih =>
      intro l d hl hn d0 dn h
      have hr := WF_rf hW hl
      refine vc_X8_depthOf_4 (m_reference hs hW hl ?_)
      split
      · next q => exact zlf h (by rw [chn_neg s _ (by omega)]; simp)
      · next q =>
        refine ⟨zin_sm (by omega), m_reference hs hW hl (ih _ _ ⟨by omega, by omega⟩ (by omega) (by omega) (by omega) ?_)⟩
        rw [chn_pos s n (by omega), List.length_cons] at h
        rw [show d + 1 + ((chn s n (sref s (sref s l))).length : Int) = d + (((chn s n (sref s (sref s l))).length + 1 : Nat) : Int) by omega]
        exact h
  exact key 10 f 0 hf (by omega) (by omega) (by omega) (by rw [Int.zero_add]; exact h)
theorem m_isGood {f : Int} (hs : μ 21 0 = s) (hW : WF s) (hf : isF s f) (h1 : sgood s f → K 1 μ) (h0 : ¬ sgood s f → K 0 μ) : ZI f_X8_isGood [vR 20 0, vI f] μ K := by
  refine vc_X8_isGood_0 ?_
  rw [hs]
  have h10 := hW.2.1
  have z0 : ∀ l, isF s l → K 0 μ → ZW f_X8_isGood 13 [vR 20 0, vI f, vI 0, vI l] [] μ (fun r ν => ∃ a, r = some (vI a) ∧ K a ν) := by
    intro l hl h
    refine vc_X8_isGood_13 (m_reference hs hW hl ?_)
    split
    · exact zlf h (by decide)
    · rw [if_pos rfl]; exact zlf h (by decide)
  have key : ∀ (n : Nat) (l : Int), isF s l → l ≤ n → ((∀ g ∈ chn s n (sref s l), slost s g = 0) → K 1 μ) → (¬ (∀ g ∈ chn s n (sref s l), slost s g = 0) → K 0 μ) → ZW f_X8_isGood 13 [vR 20 0, vI f, vI 1, vI l] [] μ (fun r ν => ∃ a, r = some (vI a) ∧ K a ν) := by
    intro n
    induction n with
    | zero =>
      intro l hl hn h1 h0
      have hr := WF_rf hW hl
      refine vc_X8_isGood_13 (m_reference hs hW hl ?_)
      rw [if_pos (by omega)]
      exact zlf (h1 (fun g hg => by cases hg)) (by decide)
    | succ n ih =>
      intro l hl hn h1 h0
      have hr := WF_rf hW hl
      refine vc_X8_isGood_13 (m_reference hs hW hl ?_)
      split
      · next q => exact zlf (h1 (fun g hg => by rw [chn_neg s _ (by omega)] at hg; cases hg)) (by decide)
      · next q =>
        rw [if_neg (by decide)]
        refine m_reference hs hW hl ?_
        rw [hs]
        have hl2 : isF s (sref s l) := ⟨by omega, by omega⟩
        refine ⟨zin_sm (by omega), by omega, ?_⟩
        rw [chn_pos s n hl2.1] at h1 h0
        split
        · next q2 =>
          refine m_reference hs hW hl (ih _ hl2 (by omega) (fun z => h1 (fun g hg => ?_)) (fun z => h0 (fun w => z (fun g hg => w g (List.mem_cons_of_mem _ hg)))))
          rcases List.mem_cons.mp hg with rfl | hg
          · exact q2
          · exact z g hg
        · next q2 => exact m_reference hs hW hl (z0 _ hl2 (h0 (fun w => q2 (w _ List.mem_cons_self))))
  unfold sgood at h1 h0
  rw [chn_pos s 9 hf.1] at h1 h0
  refine ⟨zin_sm (by omega), by omega, ?_⟩
  split
  · next q2 =>
    refine key 9 f hf (by omega) (fun z => h1 (fun g hg => ?_)) (fun z => h0 (fun w => z (fun g hg => w g (List.mem_cons_of_mem _ hg))))
    rcases List.mem_cons.mp hg with rfl | hg
    · exact q2
    · exact z g hg
  · next q2 => exact z0 _ hf (h0 (fun w => q2 (w _ List.mem_cons_self)))
theorem m_isKnown {f : Int} (hs : μ 21 0 = s) (hW : WF s) (hf : fok s f) (h1 : sgood s f → K 1 μ) (h0 : ¬ sgood s f → K 0 μ) : ZI f_X8_isKnown [vR 20 0, vI f] μ K := by
  refine vc_X8_isKnown_0 ?_
  split
  · next q => exact zlf (h1 (sgood_neg s q)) rfl
  · next q =>
    refine m_isGood hs hW (by omega) (fun g => ?_) (fun g => ?_)
    · rw [if_neg (by decide)]; exact zlf (h1 g) rfl
    · rw [if_pos rfl]; exact zlf (h0 g) rfl
theorem m_isInChain {w f : Int} (hs : μ 21 0 = s) (hW : WF s) (hf : isF s f) (h1 : w ∈ chn s 10 f → K 1 μ) (h0 : w ∉ chn s 10 f → K 0 μ) : ZI f_X8_isInChain [vR 20 0, vI w, vI f] μ K := by
  refine vc_X8_isInChain_0 ?_
  have h10 := hW.2.1
  have key : ∀ (n : Nat) (l : Int), isF s l → l ≤ n → (w ∈ chn s (n + 1) l → K 1 μ) → (w ∉ chn s (n + 1) l → K 0 μ) → ZW f_X8_isInChain 2 [vR 20 0, vI w, vI f, vI l] [] μ (fun r ν => ∃ a, r = some (vI a) ∧ K a ν) := by
    intro n
    induction n with
    | zero =>
      intro l hl hn h1 h0
      have hr := WF_rf hW hl
      rw [chn_pos s 0 hl.1] at h1 h0
      refine vc_X8_isInChain_2 ?_
      split
      · next q => exact zlf (h1 (by rw [q]; exact List.mem_cons_self)) rfl
      · next q =>
        refine m_reference hs hW hl ?_
        rw [if_pos (by omega)]
        exact zlf (h0 (fun z => by
          rcases List.mem_cons.mp z with z | z
          · exact q z.symm
          · cases z)) rfl
    | succ n ih =>
      intro l hl hn h1 h0
      have hr := WF_rf hW hl
      rw [chn_pos s (n + 1) hl.1] at h1 h0
      refine vc_X8_isInChain_2 ?_
      split
      · next q => exact zlf (h1 (by rw [q]; exact List.mem_cons_self)) rfl
      · next q =>
        refine m_reference hs hW hl ?_
        split
        · next q2 =>
          exact zlf (h0 (fun z => by
            rcases List.mem_cons.mp z with z | z
            · exact q z.symm
            · rw [chn_neg s _ (by omega)] at z; cases z)) rfl
        · next q2 =>
          refine m_reference hs hW hl (ih _ ⟨by omega, by omega⟩ (by omega) (fun z => h1 (List.mem_cons_of_mem _ z)) (fun z => h0 (fun y => ?_)))
          rcases List.mem_cons.mp y with y | y
          · exact q y.symm
          · exact z y
  exact key 9 f hf (by omega) h1 h0
theorem m_goods (hs : μ 21 0 = s) (hW : WF s) (h : K (sgoods s) μ) : ZI f_X8_goods [vR 20 0] μ K := by
  refine vc_X8_goods_0 ?_
  have h2 := hW.2.1
  refine ifold_loop (g := fun d f => d + @ite _ (sgood s f) (Classical.propDecidable _) 1 0) (C := fun d k => ZW f_X8_goods 4 [vR 20 0, vI d, vI k] [] μ (fun r ν => ∃ a, r = some (vI a) ∧ K a ν)) (I := fun d k => 0 ≤ d ∧ d ≤ k) (lo := 0) (hi := s 2) ?_ ?_ (s 2).toNat 0 0 (by omega) (by omega) (by omega) ?_
  · intro d k _ _ hd
    split <;> omega
  · intro d k k0 k1 hd hC
    refine vc_X8_goods_4 ?_
    rw [hs, if_pos k1]
    refine ⟨by omega, m_isGood hs hW ⟨k0, k1⟩ (fun g => ?_) (fun g => ?_)⟩
    · rw [if_neg (by decide)]
      rw [if_pos g] at hC
      exact ⟨zin_sm (by omega), zin_sm (by omega), hC⟩
    · rw [if_pos rfl]
      rw [if_neg g] at hC
      exact ⟨zin_sm (by omega), zin_sm (by omega), hC⟩
  · intro _
    refine vc_X8_goods_4 ?_
    rw [hs, if_neg (by omega)]
    exact ⟨by omega, zlf h rfl⟩
/-- cells of blocks -/
theorem m_given {f r b k : Int} (hs : μ 21 0 = s) (hW : WF s) (hf : fok s f) (hr : fok s r) (hb : isB s b) (k0 : 0 ≤ k) (k1 : k < 16) (h : K (sgiv s f r b k) μ) : ZI f_X8_given [vR 20 0, vI f, vI r, vI b, vI k] μ K := by
  obtain ⟨hx, hy⟩ := WD_blk hW.1 hb.1 hb.2
  have hw := WD_w hW.1
  obtain ⟨p1, p2, p3, p4⟩ := part_pl hW.1 hx hy k0 k1
  refine vc_X8_given_0 (m_left hs hW.1 hb ?_)
  rw [ztm 4 k0, ztd 4 k0]
  refine ⟨by omega, zin_sm (by omega), m_top hs hW.1 hb ⟨⟨by omega, zin_sm (by omega)⟩, zin_sm (by omega), m_place hs hW.1 p1.1 p1.2 ?_⟩⟩
  unfold sgiv at h
  split
  · next q => rw [if_pos q] at h; exact m_value hs hW hf ⟨p2, p4⟩ (zlf h rfl)
  · next q =>
    rw [if_neg q] at h
    have v1 := WF_sv hW hf _ p2 p3
    have v2 := WF_sv hW hr _ p2 p3
    refine m_value hs hW hf ⟨p2, p4⟩ (m_value hs hW hr ⟨p2, p4⟩ ⟨zin_sm (by omega), zin_sm (by omega), by omega, ?_⟩)
    rw [ztm 16 (by omega)]
    exact zlf h rfl
theorem m_runsOf {f r b : Int} (hs : μ 21 0 = s) (hW : WF s) (hf : fok s f) (hr : fok s r) (hb : isB s b) (h : K (sruns s f r b) μ) : ZI f_X8_runsOf [vR 20 0, vI f, vI r, vI b] μ K := by
  refine vc_X8_runsOf_0 ?_
  have key : ∀ (m n : Nat), n + m = 15 → ZW f_X8_runsOf 4 [vR 20 0, vI f, vI r, vI b, vI (num (sgiv s f r b) n + 1), vI ((n : Int) + 1)] [] μ (fun r ν => ∃ a, r = some (vI a) ∧ K a ν) := by
    intro m
    induction m with
    | zero =>
      intro n hn
      refine vc_X8_runsOf_4 ?_
      rw [if_neg (by omega)]
      have e : n = 15 := by omega
      subst e
      exact zlf h rfl
    | succ m ih =>
      intro n hn
      have hl := num_le (sgiv s f r b) n
      have ih1 := ih (n + 1) (by omega)
      rw [num_s, show ((n + 1 : Nat) : Int) = (n : Int) + 1 by omega] at ih1
      refine vc_X8_runsOf_4 ?_
      rw [if_pos (by omega)]
      refine m_given hs hW hf hr hb (by omega) (by omega) ⟨zin_sm (by omega), m_given hs hW hf hr hb (by omega) (by omega) ?_⟩
      rw [show (n : Int) + 1 - 1 = n by omega]
      split
      · next q =>
        rw [if_pos q, Int.add_zero] at ih1
        rw [Int.add_zero]
        exact ⟨zin_sm (by omega), zin_sm (by omega), ih1⟩
      · next q =>
        rw [if_neg q] at ih1
        exact ⟨zin_sm (by omega), zin_sm (by omega), ih1⟩
  exact key 15 0 rfl
theorem m_digestOf {f x y : Int} (hs : μ 21 0 = s) (hW : WF s) (hf : fok s f) (hx : 0 ≤ x ∧ x ≤ s 0 - 4) (hy : 0 ≤ y ∧ y ≤ s 1 - 4) (h : K (sdig s f x y) μ) : ZI f_X8_digestOf [vR 20 0, vI f, vI x, vI y] μ K := by
  refine vc_X8_digestOf_0 ?_
  have hw := WD_w hW.1
  refine ifold_loop (g := fun d k => (d * 31 + sv s f (spl s (x + k % 4) (y + k / 4))) % 9973) (C := fun d k => ZW f_X8_digestOf 4 [vR 20 0, vI f, vI x, vI y, vI d, vI k] [] μ (fun r ν => ∃ a, r = some (vI a) ∧ K a ν)) (I := fun d _ => 0 ≤ d ∧ d < 9973) (lo := 0) (hi := 16) ?_ ?_ 16 7 0 (by omega) (by omega) (by omega) ?_
  · intro d k k0 k1 hd
    exact ⟨Int.emod_nonneg _ (by omega), Int.emod_lt_of_pos _ (by omega)⟩
  · intro d k k0 k1 hd hC
    refine vc_X8_digestOf_4 ?_
    rw [if_pos k1, ztm 4 k0, ztd 4 k0]
    obtain ⟨p1, p2, p3, p4⟩ := part_pl hW.1 hx hy k0 k1
    have hv := WF_sv hW hf _ p2 p3
    refine ⟨zin_sm (by omega), by omega, zin_sm (by omega), ⟨by omega, zin_sm (by omega)⟩, zin_sm (by omega), m_place hs hW.1 p1.1 p1.2 (m_value hs hW hf ⟨p2, p4⟩ ⟨zin_sm (by omega), by omega, zin_sm (by omega), ?_⟩)⟩
    rw [ztm 9973 (by omega)]
    exact hC
  · intro _
    refine vc_X8_digestOf_4 ?_
    rw [if_neg (by omega)]
    exact zlf h rfl
theorem m_digest {f x y : Int} (hs : μ 21 0 = s) (hW : WF s) (h : K (qdigest s f x y) μ) : ZI f_X8_digest [vR 20 0, vI f, vI x, vI y] μ K := by
  have hw := WD_w hW.1
  unfold qdigest at h
  refine vc_X8_digest_0 (m_isImage hs hW (fun g => ?_) (fun g => ?_))
  · rw [if_neg (by decide), hs]
    refine ⟨by omega, zin_sm (by omega), m_in (fun q => ?_) (fun q => ?_)⟩
    · rw [if_neg (by decide), hs]
      refine ⟨by omega, zin_sm (by omega), m_in (fun q2 => ?_) (fun q2 => ?_)⟩
      · rw [if_neg (by decide)]
        rw [cif_p ⟨g, q, q2⟩] at h
        refine m_isKnown hs hW g (fun z => ?_) (fun z => ?_)
        · rw [cif_p z] at h
          rw [if_neg (by decide)]
          exact m_digestOf hs hW g q q2 (zlf h rfl)
        · rw [cif_n z] at h
          rw [if_pos rfl]
          exact zlf h rfl
      · rw [if_pos rfl]
        rw [cif_n (fun z => q2 z.2.2)] at h
        exact zlf h rfl
    · rw [if_pos rfl]
      rw [cif_n (fun z => q z.2.1)] at h
      exact zlf h rfl
  · rw [if_pos rfl]
    rw [cif_n (fun z => g z.1)] at h
    exact zlf h rfl
theorem m_areAlike {f g x y a b : Int} (hs : μ 21 0 = s) (hW : WF s) (hf : fok s f) (hg : fok s g) (hx : 0 ≤ x ∧ x ≤ s 0 - 4) (hy : 0 ≤ y ∧ y ≤ s 1 - 4) (ha : 0 ≤ a ∧ a ≤ s 0 - 4) (hb : 0 ≤ b ∧ b ≤ s 1 - 4) (h1 : slike s f x y g a b → K 1 μ) (h0 : ¬ slike s f x y g a b → K 0 μ) : ZI f_X8_areAlike [vR 20 0, vI f, vI x, vI y, vI g, vI a, vI b] μ K := by
  refine vc_X8_areAlike_0 ?_
  have hw := WD_w hW.1
  have z0 : ∀ k, 0 ≤ k → k ≤ 16 → K 0 μ → ZW f_X8_areAlike 4 [vR 20 0, vI f, vI x, vI y, vI g, vI a, vI b, vI 0, vI k] [] μ (fun r ν => ∃ a, r = some (vI a) ∧ K a ν) := by
    intro k k0 k1 h
    refine iter_down (C := fun k => ZW f_X8_areAlike 4 [vR 20 0, vI f, vI x, vI y, vI g, vI a, vI b, vI 0, vI k] [] μ (fun r ν => ∃ a, r = some (vI a) ∧ K a ν)) (lo := 0) (hi := 16) ?_ ?_ k0 k1
    · intro k k0 k1 ih
      refine vc_X8_areAlike_4 ?_
      rw [if_pos k1, if_pos rfl]
      exact ⟨zin_sm (by omega), ih⟩
    · refine vc_X8_areAlike_4 ?_
      rw [if_neg (by omega)]
      exact zlf h (by decide)
  have key : ∀ k, 0 ≤ k → k ≤ 16 → (∀ j, 0 ≤ j → j < k → sv s f (spl s (x + j % 4) (y + j / 4)) = sv s g (spl s (a + j % 4) (b + j / 4))) → ZW f_X8_areAlike 4 [vR 20 0, vI f, vI x, vI y, vI g, vI a, vI b, vI 1, vI k] [] μ (fun r ν => ∃ a, r = some (vI a) ∧ K a ν) := by
    intro k k0 k1
    refine iter_down (C := fun k => (∀ j, 0 ≤ j → j < k → sv s f (spl s (x + j % 4) (y + j / 4)) = sv s g (spl s (a + j % 4) (b + j / 4))) → ZW f_X8_areAlike 4 [vR 20 0, vI f, vI x, vI y, vI g, vI a, vI b, vI 1, vI k] [] μ (fun r ν => ∃ a, r = some (vI a) ∧ K a ν)) (lo := 0) (hi := 16) ?_ ?_ k0 k1
    · intro k k0 k1 ih hj
      refine vc_X8_areAlike_4 ?_
      rw [if_pos k1, if_neg (by decide), ztm 4 k0, ztd 4 k0]
      obtain ⟨p1, p2, p3, p4⟩ := part_pl hW.1 hx hy k0 k1
      obtain ⟨q1, q2, q3, q4⟩ := part_pl hW.1 ha hb k0 k1
      refine ⟨by omega, zin_sm (by omega), ⟨by omega, zin_sm (by omega)⟩, zin_sm (by omega), m_place hs hW.1 p1.1 p1.2 (m_value hs hW hf ⟨p2, p4⟩ ⟨by omega, zin_sm (by omega), ⟨by omega, zin_sm (by omega)⟩, zin_sm (by omega), m_place hs hW.1 q1.1 q1.2 (m_value hs hW hg ⟨q2, q4⟩ ?_)⟩)⟩
      split
      · next he =>
        refine ⟨zin_sm (by omega), ih (fun j j0 j1 => ?_)⟩
        by_cases hjk : j = k
        · rw [hjk]; exact he
        · exact hj j j0 (by omega)
      · next he => exact ⟨zin_sm (by omega), z0 _ (by omega) (by omega) (h0 (fun hl => he (hl k k0 k1)))⟩
    · intro hj
      refine vc_X8_areAlike_4 ?_
      rw [if_neg (by omega)]
      exact zlf (h1 (fun j j0 j1 => hj j j0 j1)) (by decide)
  exact key 0 (by omega) (by omega) (fun j j0 j1 => by omega)
theorem m_isLike {f g b dx dy : Int} (hs : μ 21 0 = s) (hW : WF s) (hf : fok s f) (hg : fok s g) (hb : isB s b) (hdx : -12 ≤ dx ∧ dx ≤ 12) (hdy : -12 ≤ dy ∧ dy ≤ 12) (h1 : isP s (sleft s b + dx) (stop s b + dy) ∧ slike s f (sleft s b) (stop s b) g (sleft s b + dx) (stop s b + dy) → K 1 μ) (h0 : ¬ (isP s (sleft s b + dx) (stop s b + dy) ∧ slike s f (sleft s b) (stop s b) g (sleft s b + dx) (stop s b + dy)) → K 0 μ) : ZI f_X8_isLike [vR 20 0, vI f, vI g, vI b, vI dx, vI dy] μ K := by
  have hw := WD_w hW.1
  obtain ⟨hx, hy⟩ := WD_blk hW.1 hb.1 hb.2
  have z0 : ∀ k, K 0 μ → ZW f_X8_isLike 38 [vR 20 0, vI f, vI g, vI b, vI dx, vI dy, vI (sleft s b + dx), vI (stop s b + dy), vI 0, vI k] [] μ (fun r ν => ∃ a, r = some (vI a) ∧ K a ν) := by
    intro k h
    refine vc_X8_isLike_38 ?_
    split
    · rw [if_pos rfl]; exact zlf h (by decide)
    · exact zlf h (by decide)
  refine vc_X8_isLike_0 (m_left hs hW.1 hb ⟨zin_sm (by omega), m_top hs hW.1 hb ⟨zin_sm (by omega), by omega, ?_⟩⟩)
  rw [hs]
  refine ⟨zin_sm (by omega), m_in (fun q => ?_) (fun q => ?_)⟩
  · rw [if_neg (by decide), hs]
    refine ⟨by omega, zin_sm (by omega), m_in (fun q2 => ?_) (fun q2 => ?_)⟩
    · rw [if_neg (by decide)]
      have key : ∀ k, 0 ≤ k → k ≤ 16 → (∀ j, 0 ≤ j → j < k → sv s f (spl s (sleft s b + j % 4) (stop s b + j / 4)) = sv s g (spl s (sleft s b + dx + j % 4) (stop s b + dy + j / 4))) → ZW f_X8_isLike 38 [vR 20 0, vI f, vI g, vI b, vI dx, vI dy, vI (sleft s b + dx), vI (stop s b + dy), vI 1, vI k] [] μ (fun r ν => ∃ a, r = some (vI a) ∧ K a ν) := by
        intro k k0 k1
        refine iter_down (C := fun k => (∀ j, 0 ≤ j → j < k → sv s f (spl s (sleft s b + j % 4) (stop s b + j / 4)) = sv s g (spl s (sleft s b + dx + j % 4) (stop s b + dy + j / 4))) → ZW f_X8_isLike 38 [vR 20 0, vI f, vI g, vI b, vI dx, vI dy, vI (sleft s b + dx), vI (stop s b + dy), vI 1, vI k] [] μ (fun r ν => ∃ a, r = some (vI a) ∧ K a ν)) (lo := 0) (hi := 16) ?_ ?_ k0 k1
        · intro k k0 k1 ih hj
          refine vc_X8_isLike_38 ?_
          rw [if_pos k1, if_neg (by decide), ztm 4 k0, ztd 4 k0]
          obtain ⟨p1, p2, p3, p4⟩ := part_pl hW.1 hx hy k0 k1
          obtain ⟨r1, r2, r3, r4⟩ := part_pl hW.1 q q2 k0 k1
          refine m_left hs hW.1 hb ⟨by omega, zin_sm (by omega), m_top hs hW.1 hb ⟨⟨by omega, zin_sm (by omega)⟩, zin_sm (by omega), m_place hs hW.1 p1.1 p1.2 (m_value hs hW hf ⟨p2, p4⟩ ⟨by omega, zin_sm (by omega), ⟨by omega, zin_sm (by omega)⟩, zin_sm (by omega), m_place hs hW.1 r1.1 r1.2 (m_value hs hW hg ⟨r2, r4⟩ ?_)⟩)⟩⟩
          split
          · next he =>
            refine ⟨zin_sm (by omega), ih (fun j j0 j1 => ?_)⟩
            by_cases hjk : j = k
            · rw [hjk]; exact he
            · exact hj j j0 (by omega)
          · next he => exact ⟨zin_sm (by omega), z0 _ (h0 (fun hl => he (hl.2 k k0 k1)))⟩
        · intro hj
          refine vc_X8_isLike_38 ?_
          rw [if_neg (by omega)]
          exact zlf (h1 ⟨⟨q, q2⟩, fun j j0 j1 => hj j j0 j1⟩) (by decide)
      exact key 0 (by omega) (by omega) (fun j j0 j1 => by omega)
    · rw [if_pos rfl]
      exact z0 _ (h0 (fun z => q2 z.1.2))
  · rw [if_pos rfl]
    exact z0 _ (h0 (fun z => q z.1.1))
end Mod
