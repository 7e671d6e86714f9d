/-! ===== the model: its codes and costs ===== -/
/-- how far the scan for a move is -/
def FI (s : Int → Int) (f g b dy dx fd X Y : Int) : Prop :=
  (fd = 0 ∧ ∀ x y, smv s f g b x y → dy < y ∨ (y = dy ∧ dx ≤ x)) ∨
  (fd = 1 ∧ (smv s f g b X Y ∧ (Y < dy ∨ (Y = dy ∧ X < dx))) ∧ ∀ x y, smv s f g b x y → (dy < y ∨ (y = dy ∧ dx ≤ x)) ∨ (sab X + sab Y < sab x + sab y ∨ (sab X + sab Y = sab x + sab y ∧ (Y < y ∨ (Y = y ∧ X ≤ x)))))
theorem FI_skip {s : Int → Int} {f g b dy dx fd X Y : Int} (h : FI s f g b dy dx fd X Y) (hc : smv s f g b dx dy → fd = 1 ∧ sab X + sab Y ≤ sab dx + sab dy) : FI s f g b dy (dx + 1) fd X Y := by
  rcases h with ⟨e, h⟩ | ⟨e, ⟨h1, h2⟩, h⟩
  · refine Or.inl ⟨e, fun x y hm => ?_⟩
    have a := h x y hm
    by_cases q : x = dx ∧ y = dy
    · obtain ⟨rfl, rfl⟩ := q
      have := hc hm
      omega
    · omega
  · refine Or.inr ⟨e, ⟨h1, by omega⟩, fun x y hm => ?_⟩
    have a := h x y hm
    by_cases q : x = dx ∧ y = dy
    · obtain ⟨rfl, rfl⟩ := q
      have := hc hm
      omega
    · omega
theorem FI_take {s : Int → Int} {f g b dy dx fd X Y : Int} (h : FI s f g b dy dx fd X Y) (hm : smv s f g b dx dy) (hc : fd = 1 → sab dx + sab dy < sab X + sab Y) : FI s f g b dy (dx + 1) 1 dx dy := by
  refine Or.inr ⟨rfl, ⟨hm, by omega⟩, fun x y hxy => ?_⟩
  by_cases q : x = dx ∧ y = dy
  · obtain ⟨rfl, rfl⟩ := q
    omega
  · rcases h with ⟨e, h⟩ | ⟨e, ⟨h1, h2⟩, h⟩
    · have a := h x y hxy
      omega
    · have a := h x y hxy
      have c := hc e
      omega
theorem FI_row {s : Int → Int} {f g b dy fd X Y : Int} (h : FI s f g b dy (s 3 + 1) fd X Y) : FI s f g b (dy + 1) (-(s 3)) fd X Y := by
  rcases h with ⟨e, h⟩ | ⟨e, ⟨h1, h2⟩, h⟩
  · refine Or.inl ⟨e, fun x y hm => ?_⟩
    have a := h x y hm
    have c := hm.2.1
    omega
  · refine Or.inr ⟨e, ⟨h1, by omega⟩, fun x y hm => ?_⟩
    have a := h x y hm
    have c := hm.2.1
    omega
theorem FI_end {s : Int → Int} {f g b dx fd X Y : Int} (h : FI s f g b (s 3 + 1) dx fd X Y) : (fd = 0 ∧ ∀ x y, ¬ smv s f g b x y) ∨ (fd = 1 ∧ sbest s f g b X Y) := by
  rcases h with ⟨e, h⟩ | ⟨e, ⟨h1, h2⟩, h⟩
  · refine Or.inl ⟨e, fun x y hm => ?_⟩
    have a := h x y hm
    have c := hm.2.2.1
    omega
  · refine Or.inr ⟨e, h1, fun x y hm => ?_⟩
    have a := h x y hm
    have c := hm.2.2.1
    omega
abbrev Pfd (b : Int) : Nat → Int → Int → Prop := fun t i k => t = 26 ∧ i = 0 ∧ 3 * b ≤ k ∧ k < 3 * b + 3
section Mcd
variable {μ : mzM} {s : Int → Int} {K : Int → mzM → Prop}
theorem m_finds {f g b : Int} (hs : μ 21 0 = s) (hW : WF s) (hf : fok s f) (hg : fok s g) (hb : isB s b) (h1 : ∀ ν, fr (Pfd b) μ ν → sbest s f g b (ν 26 0 (3 * b + 1)) (ν 26 0 (3 * b + 2)) → K 1 ν) (h0 : ∀ ν, fr (Pfd b) μ ν → (∀ x y, ¬ smv s f g b x y) → K 0 ν) : ZI f_X8_finds [vR 20 0, vI f, vI g, vI b] μ K := by
  have hr := hW.2.2.1
  have hbs := WD_blocks hW.1
  obtain ⟨hx, hy⟩ := WD_blk hW.1 hb.1 hb.2
  have hw := WD_w hW.1
  have e0 : zw (-(s 3)) = -(s 3) := by unfold zw; omega
  have hab : ∀ x : Int, (sab x = x ∨ sab x = -x) ∧ 0 ≤ sab x := by intro x; unfold sab; split <;> omega
  refine vc_X8_finds_0 ?_
  rw [hs, e0]
  refine ⟨by omega, ?_⟩
  have outer : ∀ dy, -(s 3) ≤ dy → dy ≤ s 3 + 1 → ∀ (ν : mzM) (fd : Int) (v7 v8 v9 : mzV), fr (Pfd b) μ ν → FI s f g b dy (-(s 3)) fd (ν 26 0 (3 * b + 1)) (ν 26 0 (3 * b + 2)) → ZW f_X8_finds 10 [vR 20 0, vI f, vI g, vI b, vI fd, vI (s 3), vI dy, v7, v8, v9] [] ν (fun r ν => ∃ a, r = some (vI a) ∧ K a ν) := by
    intro dy d0 d1
    refine iter_down (C := fun dy => ∀ (ν : mzM) (fd : Int) (v7 v8 v9 : mzV), fr (Pfd b) μ ν → FI s f g b dy (-(s 3)) fd (ν 26 0 (3 * b + 1)) (ν 26 0 (3 * b + 2)) → ZW f_X8_finds 10 [vR 20 0, vI f, vI g, vI b, vI fd, vI (s 3), vI dy, v7, v8, v9] [] ν (fun r ν => ∃ a, r = some (vI a) ∧ K a ν)) (lo := -(s 3)) (hi := s 3 + 1) ?_ ?_ d0 d1
    · intro dy d0 d1 iho ν fd v7 v8 v9 hF hI
      have inner : ∀ dx, -(s 3) ≤ dx → dx ≤ s 3 + 1 → ∀ (ν : mzM) (fd : Int) (v8 v9 : mzV), fr (Pfd b) μ ν → FI s f g b dy dx fd (ν 26 0 (3 * b + 1)) (ν 26 0 (3 * b + 2)) → ZW f_X8_finds 16 [vR 20 0, vI f, vI g, vI b, vI fd, vI (s 3), vI dy, vI dx, v8, v9] [] ν (fun r ν => ∃ a, r = some (vI a) ∧ K a ν) := by
        intro dx x0 x1
        refine iter_down (C := fun dx => ∀ (ν : mzM) (fd : Int) (v8 v9 : mzV), fr (Pfd b) μ ν → FI s f g b dy dx fd (ν 26 0 (3 * b + 1)) (ν 26 0 (3 * b + 2)) → ZW f_X8_finds 16 [vR 20 0, vI f, vI g, vI b, vI fd, vI (s 3), vI dy, vI dx, v8, v9] [] ν (fun r ν => ∃ a, r = some (vI a) ∧ K a ν)) (lo := -(s 3)) (hi := s 3 + 1) ?_ ?_ x0 x1
        · intro dx x0 x1 ihx ν fd v8 v9 hF hI
          have hs2 : ν 21 0 = s := fr_s hs hF (fun k q => by omega)
          have axd := hab dx
          have ayd := hab dy
          have mvp : smv s f g b dx dy → 0 < sab dx + sab dy := by
            intro hm
            have := hm.1
            omega
          have mvi : 0 < sab dx + sab dy → (isP s (sleft s b + dx) (stop s b + dy) ∧ slike s f (sleft s b) (stop s b) g (sleft s b + dx) (stop s b + dy)) → smv s f g b dx dy := by
            intro hp hq
            refine ⟨?_, by omega, by omega, hq.1, hq.2⟩
            by_cases q : dx = 0 ∧ dy = 0
            · obtain ⟨rfl, rfl⟩ := q
              have : sab 0 = 0 := rfl
              omega
            · omega
          refine vc_X8_finds_16 ?_
          rw [if_neg (by omega)]
          refine m_size (by omega) (m_size (by omega) ⟨zin_sm (by omega), ?_⟩)
          have tk : smv s f g b dx dy → (fd = 1 → sab dx + sab dy < sab (ν 26 0 (3 * b + 1)) + sab (ν 26 0 (3 * b + 2))) → ∀ v8 v9 : mzV, ZW f_X8_finds 16 [vR 20 0, vI f, vI g, vI b, vI 1, vI (s 3), vI dy, vI (dx + 1), v8, v9] [] (mup (mup ν 26 0 (3 * b + 1) dx) 26 0 (3 * b + 2) dy) (fun r ν => ∃ a, r = some (vI a) ∧ K a ν) := by
            intro hm hc v8 v9
            refine ihx _ _ _ _ (fr_up (fr_up hF ⟨rfl, rfl, by omega, by omega⟩) ⟨rfl, rfl, by omega, by omega⟩) ?_
            rw [mup_self, mup_k (by omega), mup_self]
            exact FI_take hI hm hc
          have skp : (smv s f g b dx dy → fd = 1 ∧ sab (ν 26 0 (3 * b + 1)) + sab (ν 26 0 (3 * b + 2)) ≤ sab dx + sab dy) → ∀ v8 v9 : mzV, ZW f_X8_finds 16 [vR 20 0, vI f, vI g, vI b, vI fd, vI (s 3), vI dy, vI (dx + 1), v8, v9] [] ν (fun r ν => ∃ a, r = some (vI a) ∧ K a ν) := fun hc v8 v9 => ihx _ _ _ _ hF (FI_skip hI hc)
          by_cases hfd : fd = 0
          · subst hfd
            rw [if_pos rfl]
            by_cases hp : 0 < sab dx + sab dy
            · rw [if_pos hp]
              refine m_isLike hs2 hW hf hg hb (by omega) (by omega) (fun q => ?_) (fun q => ?_)
              · rw [if_neg (by decide)]
                exact ⟨zin_sm (by omega), zin_sm (by omega), by omega, zin_sm (by omega), zin_sm (by omega), by omega, zin_sm (by omega), tk (mvi hp q) (fun z => by omega) _ _⟩
              · rw [if_pos rfl]
                exact ⟨zin_sm (by omega), skp (fun z => absurd ⟨z.2.2.2.1, z.2.2.2.2⟩ q) _ _⟩
            · rw [if_neg hp]
              exact ⟨zin_sm (by omega), skp (fun z => absurd (mvp z) hp) _ _⟩
          · have hI2 := hI
            rcases hI2 with ⟨e, _⟩ | ⟨e, ⟨hm, _⟩, _⟩
            · exact absurd e hfd
            rw [if_neg hfd]
            have rX := hm.2.1
            have rY := hm.2.2.1
            have aX := hab (ν 26 0 (3 * b + 1))
            have aY := hab (ν 26 0 (3 * b + 2))
            refine ⟨zin_sm (by omega), zin_sm (by omega), by omega, m_size (by omega) ⟨zin_sm (by omega), zin_sm (by omega), by omega, m_size (by omega) ⟨zin_sm (by omega), ?_⟩⟩⟩
            by_cases hn : sab dx + sab dy < sab (ν 26 0 (3 * b + 1)) + sab (ν 26 0 (3 * b + 2))
            · rw [if_pos hn]
              by_cases hp : 0 < sab dx + sab dy
              · rw [if_pos hp]
                refine m_isLike hs2 hW hf hg hb (by omega) (by omega) (fun q => ?_) (fun q => ?_)
                · rw [if_neg (by decide)]
                  exact ⟨zin_sm (by omega), zin_sm (by omega), by omega, zin_sm (by omega), zin_sm (by omega), by omega, zin_sm (by omega), tk (mvi hp q) (fun _ => hn) _ _⟩
                · rw [if_pos rfl]
                  exact ⟨zin_sm (by omega), skp (fun z => absurd ⟨z.2.2.2.1, z.2.2.2.2⟩ q) _ _⟩
              · rw [if_neg hp]
                exact ⟨zin_sm (by omega), skp (fun z => absurd (mvp z) hp) _ _⟩
            · rw [if_neg hn]
              split
              · exact ⟨zin_sm (by omega), skp (fun z => ⟨e, by omega⟩) _ _⟩
              · exact ⟨zin_sm (by omega), skp (fun z => ⟨e, by omega⟩) _ _⟩
        · intro ν fd v8 v9 hF hI
          refine vc_X8_finds_16 ?_
          rw [if_pos (by omega)]
          exact ⟨zin_sm (by omega), iho _ _ _ _ _ hF (FI_row hI)⟩
      refine vc_X8_finds_10 ?_
      rw [if_neg (by omega), e0]
      exact inner _ (by omega) (by omega) _ _ _ _ hF hI
    · intro ν fd v7 v8 v9 hF hI
      refine vc_X8_finds_10 ?_
      rw [if_pos (by omega)]
      rcases FI_end hI with ⟨e, q⟩ | ⟨e, q⟩
      · subst e; exact zlf (h0 ν hF q) (by decide)
      · subst e; exact zlf (h1 ν hF q) (by decide)
  exact outer _ (by omega) (by omega) μ 0 _ _ _ fr_rf (Or.inl ⟨rfl, fun x y hm => by
    have c1 := hm.2.1
    have c2 := hm.2.2.1
    omega⟩)
/-- the code that was made for block b -/
def CM (ν : mzM) (s : Int → Int) (f r b : Int) : Prop := ∃ n, CH s f r b (ν 26 0 (3 * b)) (ν 26 0 (3 * b + 1)) (ν 26 0 (3 * b + 2)) n (ccost s f r b)
theorem m_codes {f r b : Int} (hs : μ 21 0 = s) (hW : WF s) (hf : fok s f) (hr : fok s r) (hb : isB s b) (hK : ∀ ν, CM ν s f r b → fr (Pfd b) μ ν → K (ccost s f r b) ν) : ZI f_X8_codes [vR 20 0, vI f, vI r, vI b] μ K := by
  have hbs := WD_blocks hW.1
  refine vc_X8_codes_0 ?_
  refine ⟨zin_sm (by omega), zin_sm (by omega), by omega, zin_sm (by omega), zin_sm (by omega), by omega, ?_⟩
  have hF0 : fr (Pfd b) μ (mup (mup μ 26 0 (3 * b + 1) 0) 26 0 (3 * b + 2) 0) := fr_up (fr_up fr_rf ⟨rfl, rfl, by omega, by omega⟩) ⟨rfl, rfl, by omega, by omega⟩
  generalize mup (mup μ 26 0 (3 * b + 1) 0) 26 0 (3 * b + 2) 0 = ν0 at *
  have hs0 : ν0 21 0 = s := fr_s hs hF0 (fun k q => by omega)
  have done : ∀ (ν : mzM) (k n v : Int), fr (Pfd b) μ ν → CH s f r b k (ν 26 0 (3 * b + 1)) (ν 26 0 (3 * b + 2)) n v → ∃ a, some (vI v) = some (vI a) ∧ K a (mup ν 26 0 (3 * b) k) := by
    intro ν k n v hF hC
    have hc := CH_cost hC
    refine zlf (hK _ ⟨n, ?_⟩ (fr_up hF ⟨rfl, rfl, by omega, by omega⟩)) hc
    rw [mup_self, mup_k (by omega), mup_k (by omega), ← hc]
    exact hC
  refine m_runsOf hs0 hW hf (Or.inl rfl) hb ?_
  have l1 := sruns_le s f (-1) b
  refine ⟨zin_sm (by omega), zin_sm (by omega), ?_⟩
  split
  · next q =>
    exact ⟨zin_sm (by omega), by omega, done _ _ (sruns s f (-1) b) _ hF0 (Or.inl ⟨q, rfl, rfl, rfl⟩)⟩
  · next q =>
    refine m_isLike hs0 hW hf hr hb (by omega) (by omega) (fun g => ?_) (fun g => ?_)
    · simp only [Int.add_zero] at g
      rw [if_neg (by decide)]
      exact ⟨zin_sm (by omega), by omega, done _ _ 0 _ hF0 (Or.inr (Or.inl ⟨q, g.2, rfl, rfl⟩))⟩
    · simp only [Int.add_zero] at g
      have g2 : ¬ slk s f r b := fun z => g ⟨WD_blk hW.1 hb.1 hb.2, z⟩
      rw [if_pos rfl]
      refine m_finds hs0 hW hf hr hb (fun ν hF hB => ?_) (fun ν hF hN => ?_)
      · rw [if_neg (by decide)]
        exact ⟨zin_sm (by omega), by omega, done _ _ 0 _ (fr_tr hF0 hF) (Or.inr (Or.inr (Or.inl ⟨q, g2, hB, rfl, rfl⟩)))⟩
      · rw [if_pos rfl]
        have hs1 : ν 21 0 = s := fr_s hs0 hF (fun k q => by omega)
        have l2 := sruns_le s f r b
        refine m_runsOf hs1 hW hf hr hb ⟨zin_sm (by omega), zin_sm (by omega), zin_sm (by omega), ?_⟩
        split
        · next z =>
          exact ⟨by omega, done _ _ (sruns s f (-1) b) _ (fr_tr hF0 hF) (Or.inr (Or.inr (Or.inr (Or.inr ⟨q, g2, hN, by omega, rfl, rfl, rfl⟩))))⟩
        · next z =>
          exact ⟨by omega, done _ _ (sruns s f r b) _ (fr_tr hF0 hF) (Or.inr (Or.inr (Or.inr (Or.inl ⟨q, g2, hN, by omega, rfl, rfl, rfl⟩))))⟩
theorem m_codesAll {f r : Int} (hs : μ 21 0 = s) (hW : WF s) (hf : fok s f) (hr : fok s r) (hK : ∀ ν, (∀ b, isB s b → CM ν s f r b) → fr (fun t _ _ => t = 26) μ ν → K (call s f r) ν) : ZI f_X8_codesAll [vR 20 0, vI f, vI r] μ K := by
  have hbs := WD_blocks hW.1
  refine vc_X8_codesAll_0 ?_
  have key : ∀ b, 0 ≤ b → b ≤ sblocks s → ∀ ν : mzM, fr (fun t _ _ => t = 26) μ ν → (∀ b', 0 ≤ b' → b' < b → CM ν s f r b') → ZW f_X8_codesAll 4 [vR 20 0, vI f, vI r, vI (2 + isum (ccost s f r) 0 b.toNat), vI b] [] ν (fun r ν => ∃ a, r = some (vI a) ∧ K a ν) := by
    intro b b0 b1
    refine iter_down (C := fun b => ∀ ν : mzM, fr (fun t _ _ => t = 26) μ ν → (∀ b', 0 ≤ b' → b' < b → CM ν s f r b') → ZW f_X8_codesAll 4 [vR 20 0, vI f, vI r, vI (2 + isum (ccost s f r) 0 b.toNat), vI b] [] ν (fun r ν => ∃ a, r = some (vI a) ∧ K a ν)) (lo := 0) (hi := sblocks s) ?_ ?_ b0 b1
    · intro b b0 b1 ih ν hF hC
      have hs1 : ν 21 0 = s := fr_s hs hF (fun k q => by omega)
      refine vc_X8_codesAll_4 (m_blocks hs1 hW.1 ?_)
      rw [if_pos b1]
      refine m_codes hs1 hW hf hr ⟨b0, b1⟩ (fun ξ hM hF2 => ?_)
      have h2 := isum_bound (g := ccost s f r) (lo := 0) (hi := 34) b.toNat 0 (fun j _ _ => ⟨by have := ccost_b s f r j; omega, (ccost_b s f r j).2⟩)
      have h3 := ccost_b s f r b
      refine ⟨zin_sm (by omega), zin_sm (by omega), ?_⟩
      have e : 2 + isum (ccost s f r) 0 b.toNat + ccost s f r b = 2 + isum (ccost s f r) 0 (b + 1).toNat := by
        rw [show (b + 1).toNat = b.toNat + 1 by omega, isum_last, show (0 : Int) + (b.toNat : Int) = b by omega]
        omega
      rw [e]
      refine ih ξ (fr_tr hF (fr_mono hF2 (fun t i k q => q.1))) (fun b' c0 c1 => ?_)
      by_cases q : b' = b
      · rw [q]; exact hM
      · have hh := hC b' c0 (by omega)
        unfold CM at hh ⊢
        have e : ∀ j, 0 ≤ j → j < 3 → ξ 26 0 (3 * b' + j) = ν 26 0 (3 * b' + j) := fun j j0 j1 => hF2 26 0 (3 * b' + j) (fun z => by omega)
        have e1 := e 0 (by omega) (by omega)
        rw [Int.add_zero] at e1
        rw [e1, e 1 (by omega) (by omega), e 2 (by omega) (by omega)]
        exact hh
    · intro ν hF hC
      have hs1 : ν 21 0 = s := fr_s hs hF (fun k q => by omega)
      refine vc_X8_codesAll_4 (m_blocks hs1 hW.1 ?_)
      rw [if_neg (by omega)]
      exact zlf (hK ν (fun b hb => hC b hb.1 hb.2) hF) rfl
  exact key 0 (by omega) (by omega) μ fr_rf (fun b' c0 c1 => by omega)
theorem m_codeAt {f b : Int} (hf : 0 ≤ f ∧ f < 10) (hb : 0 ≤ b ∧ b < 9) (h : K (1610 + 27 * f + 3 * b) μ) : ZI f_X8_codeAt [vR 20 0, vI f, vI b] μ K := by
  refine vc_X8_codeAt_0 ?_
  exact ⟨zin_sm (by omega), zin_sm (by omega), zin_sm (by omega), zin_sm (by omega), zlf h rfl⟩
theorem m_runsIn {f b : Int} (hs : μ 21 0 = s) (hW : WF s) (hf : isF s f) (hb : isB s b) (h : K (srin s f b) μ) : ZI f_X8_runsIn [vR 20 0, vI f, vI b] μ K := by
  have hbs := WD_blocks hW.1
  have h10 := hW.2.1
  refine vc_X8_runsIn_0 (m_codeAt (by omega) (by omega) ?_)
  rw [hs]
  refine ⟨by omega, ?_⟩
  have e : s (1610 + 27 * f + 3 * b) = sits s f b := rfl
  rw [e]
  unfold srin at h
  split
  · next q =>
    rw [if_pos q] at h
    exact m_reference hs hW hf (m_runsOf hs hW (Or.inr hf) (fok_ref hW hf) hb (zlf h rfl))
  · next q =>
    rw [if_neg q] at h
    split
    · next q2 =>
      rw [if_pos q2] at h
      exact m_runsOf hs hW (Or.inr hf) (Or.inl rfl) hb (zlf h rfl)
    · next q2 =>
      rw [if_neg q2] at h
      exact zlf h rfl
theorem m_costOf {f : Int} (hs : μ 21 0 = s) (hW : WF s) (hf : isF s f) (h : K (scost s f) μ) : ZI f_X8_costOf [vR 20 0, vI f] μ K := by
  have hbs := WD_blocks hW.1
  have h10 := hW.2.1
  refine vc_X8_costOf_0 ?_
  have key : ∀ b, 0 ≤ b → b ≤ sblocks s → ∀ v4 : mzV, ZW f_X8_costOf 4 [vR 20 0, vI f, vI (2 + isum (sccost s f) 0 b.toNat), vI b, v4] [] μ (fun r ν => ∃ a, r = some (vI a) ∧ K a ν) := by
    intro b b0 b1
    refine iter_down (C := fun b => ∀ v4 : mzV, ZW f_X8_costOf 4 [vR 20 0, vI f, vI (2 + isum (sccost s f) 0 b.toNat), vI b, v4] [] μ (fun r ν => ∃ a, r = some (vI a) ∧ K a ν)) (lo := 0) (hi := sblocks s) ?_ ?_ b0 b1
    · intro b b0 b1 ih v4
      refine vc_X8_costOf_4 (m_blocks hs hW.1 ?_)
      rw [if_pos b1]
      refine m_codeAt (by omega) (by omega) ?_
      rw [hs]
      have e0 : s (1610 + 27 * f + 3 * b) = sits s f b := rfl
      rw [e0]
      have h2 := isum_bound (g := sccost s f) (lo := 0) (hi := 34) b.toNat 0 (fun j _ _ => ⟨by have := sccost_b s f j; omega, (sccost_b s f j).2⟩)
      have h3 := sccost_b s f b
      have e : 2 + isum (sccost s f) 0 (b + 1).toNat = 2 + isum (sccost s f) 0 b.toNat + sccost s f b := by
        rw [show (b + 1).toNat = b.toNat + 1 by omega, isum_last, show (0 : Int) + (b.toNat : Int) = b by omega]
        omega
      rw [e] at ih
      refine ⟨by omega, ?_⟩
      split
      · next q =>
        have e1 : sccost s f b = 1 := by unfold sccost; rw [if_pos q]
        rw [e1] at ih
        exact ⟨zin_sm (by omega), zin_sm (by omega), ih _⟩
      · next q =>
        split
        · next q2 =>
          have e1 : sccost s f b = 3 := by unfold sccost; rw [if_neg q, if_pos q2]
          rw [e1] at ih
          exact ⟨zin_sm (by omega), zin_sm (by omega), ih _⟩
        · next q2 =>
          have e1 : sccost s f b = 2 + 2 * srin s f b := by unfold sccost; rw [if_neg q, if_neg q2]
          rw [e1] at ih
          exact m_runsIn hs hW hf ⟨b0, b1⟩ ⟨zin_sm (by omega), zin_sm (by omega), zin_sm (by omega), zin_sm (by omega), ih _⟩
    · intro v4
      refine vc_X8_costOf_4 (m_blocks hs hW.1 ?_)
      rw [if_neg (by omega)]
      exact zlf h rfl
  exact key 0 (by omega) (by omega) _
theorem m_seekOf {f : Int} (hs : μ 21 0 = s) (hW : WF s) (hf : isF s f) (h : K (sseek s f) μ) : ZI f_X8_seekOf [vR 20 0, vI f] μ K := by
  refine vc_X8_seekOf_0 (m_costOf hs hW hf ?_)
  have h10 := hW.2.1
  have key : ∀ (n : Nat) (l d : Int), isF s l → l ≤ n → 0 ≤ d → d + 308 * n ≤ 3080 → K (d + lsum (scost s) (chn s n (sref s l))) μ → ZW f_X8_seekOf 6 [vR 20 0, vI f, vI d, vI l] [] μ (fun r ν => ∃ a, r = some (vI a) ∧ K a ν) := by
    intro n
    induction n with
    | zero =>
      intro l d hl hn d0 dn h
      have hr := WF_rf hW hl
      refine vc_X8_seekOf_6 (m_reference hs hW hl ?_)
      rw [if_pos (by omega)]
      exact zlf h (by simp [chn, lsum])
    | succ n ih =>
      intro l d hl hn d0 dn h
      have hr := WF_rf hW hl
      refine vc_X8_seekOf_6 (m_reference hs hW hl ?_)
      split
      · next q => exact zlf h (by rw [chn_neg s _ (by omega)]; simp [lsum])
      · next q =>
        have hl2 : isF s (sref s l) := ⟨by omega, by omega⟩
        have hc := scost_b hW.1 (sref s l)
        refine m_reference hs hW hl (m_costOf hs hW hl2 ⟨zin_sm (by omega), m_reference hs hW hl (ih _ _ hl2 (by omega) (by omega) (by omega) ?_)⟩)
        rw [chn_pos s n hl2.1] at h
        rw [Int.add_assoc]
        exact h
  have hc := scost_b hW.1 f
  refine key 9 f _ hf (by omega) (by omega) (by omega) ?_
  unfold sseek at h
  rw [chn_pos s 9 hf.1] at h
  exact h
theorem m_codesOf {f q : Int} (hs : μ 21 0 = s) (hW : WF s) (hf : isF s f) (h : K (skinds s f q) μ) : ZI f_X8_codesOf [vR 20 0, vI f, vI q] μ K := by
  refine vc_X8_codesOf_0 ?_
  have h2 := WD_blocks hW.1
  have h10 := hW.2.1
  refine ifold_loop (g := fun d b => d + if sits s f b = q then 1 else 0) (C := fun d k => ZW f_X8_codesOf 4 [vR 20 0, vI f, vI q, vI d, vI k] [] μ (fun r ν => ∃ a, r = some (vI a) ∧ K a ν)) (I := fun d k => 0 ≤ d ∧ d ≤ k) (lo := 0) (hi := sblocks s) ?_ ?_ (sblocks s).toNat 0 0 (by omega) (by omega) (by omega) ?_
  · intro d k _ _ hd
    split <;> omega
  · intro d k k0 k1 hd hC
    refine vc_X8_codesOf_4 (m_blocks hs hW.1 ?_)
    rw [if_pos k1]
    refine m_codeAt (by omega) (by omega) ?_
    rw [hs]
    have e0 : s (1610 + 27 * f + 3 * k) = sits s f k := rfl
    rw [e0]
    refine ⟨by omega, ?_⟩
    split
    · next z =>
      rw [if_pos z] at hC
      exact ⟨zin_sm (by omega), zin_sm (by omega), hC⟩
    · next z =>
      rw [if_neg z] at hC
      exact ⟨zin_sm (by omega), zin_sm (by omega), hC⟩
  · intro _
    refine vc_X8_codesOf_4 (m_blocks hs hW.1 ?_)
    rw [if_neg (by omega)]
    exact zlf h rfl
end Mcd
