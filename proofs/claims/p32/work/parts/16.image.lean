/-! ===== images of the class ===== -/
/-- an image of the class shows frame f of s -/
def IM (μ : mzM) (o : Int) (s : Int → Int) (f : Int) : Prop := μ 3 o 1 = s 0 ∧ μ 3 o 2 = s 1 ∧ ∀ c, 0 ≤ c → c < s 0 * s 1 → μ 4 o c = sv s f c
theorem WD_mul {s : Int → Int} (h : WD s) : s 0 * s 1 ≤ 144 ∧ 16 ≤ s 0 * s 1 := by
  obtain ⟨h1, h2⟩ := h
  rcases h1 with h1 | h1 | h1 <;> rcases h2 with h2 | h2 | h2 <;> rw [h1, h2] <;> decide
theorem WD_w {s : Int → Int} (h : WD s) : (4 ≤ s 0 ∧ s 0 ≤ 12) ∧ (4 ≤ s 1 ∧ s 1 ≤ 12) := by
  obtain ⟨h1, h2⟩ := h
  rcases h1 with h1 | h1 | h1 <;> rcases h2 with h2 | h2 | h2 <;> rw [h1, h2] <;> decide
theorem WD_pl {s : Int → Int} (h : WD s) {x y : Int} (x0 : 0 ≤ x) (x1 : x < s 0) (y0 : 0 ≤ y) (y1 : y < s 1) : 0 ≤ spl s x y ∧ spl s x y < s 0 * s 1 ∧ spl s x y < 144 := by
  obtain ⟨h1, h2⟩ := h
  unfold spl
  rcases h1 with h1 | h1 | h1 <;> rcases h2 with h2 | h2 | h2 <;> rw [h1, h2] <;> rw [h1] at x1 <;> rw [h2] at y1 <;> omega
theorem WD_blocks {s : Int → Int} (h : WD s) : 1 ≤ sblocks s ∧ sblocks s ≤ 9 := by
  obtain ⟨h1, h2⟩ := h
  unfold sblocks
  rcases h1 with h1 | h1 | h1 <;> rcases h2 with h2 | h2 | h2 <;> rw [h1, h2] <;> decide
/-- a block lies in the image -/
theorem WD_blk {s : Int → Int} (h : WD s) {b : Int} (b0 : 0 ≤ b) (b1 : b < sblocks s) : (0 ≤ sleft s b ∧ sleft s b ≤ s 0 - 4) ∧ (0 ≤ stop s b ∧ stop s b ≤ s 1 - 4) := by
  obtain ⟨h1, h2⟩ := h
  unfold sblocks at b1
  unfold sleft stop
  rcases h1 with h1 | h1 | h1 <;> rcases h2 with h2 | h2 | h2 <;> rw [h1, h2] <;> rw [h1, h2] at b1 <;> omega
theorem s_X2_numbered {μ : mzM} {K : Int → mzM → Prop} {o x : Int} (h : K (if 0 ≤ x ∧ x < 144 then μ 4 o x else 0) μ) : ZI f_X2_numbered [vR 3 o, vI x] μ K := by
  refine vc_X2_numbered_0 ?_
  split
  · next q => rw [if_neg (by omega)] at h; exact zlf h rfl
  · split
    · next q => rw [if_pos (by omega)] at h; exact ⟨by omega, zlf h rfl⟩
    · next q => rw [if_neg (by omega)] at h; exact zlf h rfl
theorem s_num {μ : mzM} {K : Int → mzM → Prop} {o x : Int} (h0 : 0 ≤ x) (h1 : x < 144) (h : K (μ 4 o x) μ) : ZI f_X2_numbered [vR 3 o, vI x] μ K := s_X2_numbered (by rw [if_pos ⟨h0, h1⟩]; exact h)
theorem s_X2_putNumbered {μ : mzM} {K : mzM → Prop} {o x v : Int} (h : K (if 0 ≤ x ∧ x < 144 then mup μ 4 o x v else μ)) : ZV f_X2_putNumbered [vR 3 o, vI x, vI v] μ K := by
  refine vc_X2_putNumbered_0 ?_
  split
  · next q => rw [if_neg (by omega)] at h; exact ⟨rfl, h⟩
  · split
    · next q => rw [if_pos (by omega)] at h; exact ⟨by omega, rfl, h⟩
    · next q => rw [if_neg (by omega)] at h; exact ⟨rfl, h⟩
section Img
variable {μ : mzM} {s : Int → Int} {o f : Int} {K : Int → mzM → Prop}
theorem s_X2_hasCell (hD : WD s) (hI : IM μ o s f) {x : Int} (h : K (if 0 ≤ x ∧ x < s 0 * s 1 then 1 else 0) μ) : ZI f_X2_hasCell [vR 3 o, vI x] μ K := by
  refine vc_X2_hasCell_0 ?_
  rw [hI.1, hI.2.1]
  have hm := WD_mul hD
  split
  · next q => rw [if_neg (by omega)] at h; exact zlf h rfl
  · refine ⟨zin_sm (by omega), ?_⟩
    split
    · next q => rw [if_pos (by omega)] at h; exact zlf h rfl
    · next q => rw [if_neg (by omega)] at h; exact zlf h rfl
theorem s_X2_at (hD : WD s) (hI : IM μ o s f) {x y : Int} (h : K (if (0 ≤ x ∧ x < s 0) ∧ (0 ≤ y ∧ y < s 1) then sv s f (spl s x y) else 0) μ) : ZI f_X2_at [vR 3 o, vI x, vI y] μ K := by
  refine vc_X2_at_0 ?_
  rw [hI.1, hI.2.1]
  split
  · rw [if_neg (by omega)] at h; exact zlf h rfl
  split
  · split
    · rw [if_neg (by omega)] at h; exact zlf h rfl
    split
    · next q1 q2 q3 q4 =>
      rw [if_pos (by omega)] at h
      obtain ⟨p1, p2, p3⟩ := WD_pl hD (x := x) (y := y) (by omega) q2 (by omega) q4
      have hw := WD_w hD
      have p4 : zin (y * s 0) := zin_sm (by unfold spl at p1 p3; omega)
      refine ⟨p4, zin_sm (by unfold spl at p1 p3; omega), ?_⟩
      rw [if_pos (by unfold spl at p3; omega)]
      exact ⟨⟨p1, p3⟩, zlf h (hI.2.2 _ p1 p2)⟩
    · rw [if_neg (by omega)] at h; exact zlf h rfl
  · rw [if_neg (by omega)] at h; exact zlf h rfl
theorem s_X2_blocks (hD : WD s) (hI : IM μ o s f) (h : K (sblocks s) μ) : ZI f_X2_blocks [vR 3 o] μ K := by
  refine vc_X2_blocks_0 ?_
  have hb := WD_blocks hD
  have hw := WD_w hD
  rw [hI.1, hI.2.1, ztd 4 (show 0 ≤ s 0 by omega), ztd 4 (show 0 ≤ s 1 by omega)]
  unfold sblocks at h hb
  exact ⟨⟨by omega, zin_sm (by omega)⟩, ⟨by omega, zin_sm (by omega)⟩, zin_sm (by omega), zlf h rfl⟩
theorem s_X2_left (hD : WD s) (hI : IM μ o s f) {b : Int} (b0 : 0 ≤ b) (h : K (sleft s b) μ) : ZI f_X2_left [vR 3 o, vI b] μ K := by
  refine vc_X2_left_0 ?_
  have hw := WD_w hD
  rw [hI.1, ztd 4 (show 0 ≤ s 0 by omega)]
  refine ⟨⟨by omega, zin_sm (by omega)⟩, s_max ?_⟩
  have e : (if (1 : Int) < s 0 / 4 then s 0 / 4 else 1) = s 0 / 4 := by split <;> omega
  rw [e, ztm _ b0]
  have h1 : 0 ≤ b % (s 0 / 4) := Int.emod_nonneg _ (by omega)
  have h2 : b % (s 0 / 4) < s 0 / 4 := Int.emod_lt_of_pos _ (by omega)
  exact ⟨by omega, zin_sm (by omega), zlf h rfl⟩
theorem s_X2_top (hD : WD s) (hI : IM μ o s f) {b : Int} (b0 : 0 ≤ b) (b1 : b < 1000) (h : K (stop s b) μ) : ZI f_X2_top [vR 3 o, vI b] μ K := by
  refine vc_X2_top_0 ?_
  have hw := WD_w hD
  rw [hI.1, ztd 4 (show 0 ≤ s 0 by omega)]
  refine ⟨⟨by omega, zin_sm (by omega)⟩, s_max ?_⟩
  have e : (if (1 : Int) < s 0 / 4 then s 0 / 4 else 1) = s 0 / 4 := by split <;> omega
  rw [e, ztd _ b0]
  have h1 : 0 ≤ b / (s 0 / 4) := Int.ediv_nonneg b0 (by omega)
  have h2 : b / (s 0 / 4) ≤ b := Int.ediv_le_self _ b0
  exact ⟨⟨by omega, zin_sm (by omega)⟩, zin_sm (by omega), zlf h rfl⟩
theorem s_X2_hasPart (hD : WD s) (hI : IM μ o s f) {x y : Int} (h : K (if (0 ≤ x ∧ x ≤ s 0 - 4) ∧ (0 ≤ y ∧ y ≤ s 1 - 4) then 1 else 0) μ) : ZI f_X2_hasPart [vR 3 o, vI x, vI y] μ K := by
  refine vc_X2_hasPart_0 ?_
  have hw := WD_w hD
  rw [hI.1, hI.2.1]
  split
  · rw [if_neg (by omega)] at h; exact zlf h rfl
  refine ⟨zin_sm (by omega), ?_⟩
  split
  · rw [if_neg (by omega)] at h; exact zlf h rfl
  split
  · rw [if_neg (by omega)] at h; exact zlf h rfl
  refine ⟨zin_sm (by omega), ?_⟩
  split
  · rw [if_neg (by omega)] at h; exact zlf h rfl
  · rw [if_pos (by omega)] at h; exact zlf h rfl
/-- the digest of a part -/
def sdig (s : Int → Int) (f x y : Int) : Int := ifold (fun d k => (d * 31 + sv s f (spl s (x + k % 4) (y + k / 4))) % 9973) 7 0 16
/-- the values of the cells are small -/
def SV (s : Int → Int) (f : Int) : Prop := ∀ c, 0 ≤ c → c < s 0 * s 1 → 0 ≤ sv s f c ∧ sv s f c ≤ 15
theorem part_pl (hD : WD s) {x y k : Int} (hx : 0 ≤ x ∧ x ≤ s 0 - 4) (hy : 0 ≤ y ∧ y ≤ s 1 - 4) (k0 : 0 ≤ k) (k1 : k < 16) : ((0 ≤ x + k % 4 ∧ x + k % 4 < s 0) ∧ (0 ≤ y + k / 4 ∧ y + k / 4 < s 1)) ∧ 0 ≤ spl s (x + k % 4) (y + k / 4) ∧ spl s (x + k % 4) (y + k / 4) < s 0 * s 1 ∧ spl s (x + k % 4) (y + k / 4) < 144 :=
  ⟨⟨⟨by omega, by omega⟩, by omega, by omega⟩, WD_pl hD (by omega) (by omega) (by omega) (by omega)⟩
/-- two parts are alike -/
def slike (s : Int → Int) (f x y g a b : Int) : Prop := ∀ k, 0 ≤ k → k < 16 → sv s f (spl s (x + k % 4) (y + k / 4)) = sv s g (spl s (a + k % 4) (b + k / 4))
theorem s_X2_samePart {o' g : Int} (hD : WD s) (hI : IM μ o s f) (hJ : IM μ o' s g) {x y a b : Int} (hx : 0 ≤ x ∧ x ≤ s 0 - 4) (hy : 0 ≤ y ∧ y ≤ s 1 - 4) (ha : 0 ≤ a ∧ a ≤ s 0 - 4) (hb : 0 ≤ b ∧ b ≤ s 1 - 4) (h1 : slike s f x y g a b → K 1 μ) (h0 : ¬ slike s f x y g a b → K 0 μ) : ZI f_X2_samePart [vR 3 o, vI x, vI y, vR 3 o', vI a, vI b] μ K := by
  refine vc_X2_samePart_0 ?_
  have hw := WD_w hD
  have key : ∀ k, 0 ≤ k → k ≤ 16 → ∀ v7 v8 : mzV, (∀ j, 0 ≤ j → j < k → sv s f (spl s (x + j % 4) (y + j / 4)) = sv s g (spl s (a + j % 4) (b + j / 4))) → ZW f_X2_samePart 2 [vR 3 o, vI x, vI y, vR 3 o', vI a, vI b, vI k, v7, v8] [] μ (fun r ν => ∃ a, r = some (vI a) ∧ K a ν) := by
    intro k k0 k1
    refine iter_down (C := fun k => ∀ v7 v8 : mzV, (∀ j, 0 ≤ j → j < k → sv s f (spl s (x + j % 4) (y + j / 4)) = sv s g (spl s (a + j % 4) (b + j / 4))) → ZW f_X2_samePart 2 [vR 3 o, vI x, vI y, vR 3 o', vI a, vI b, vI k, v7, v8] [] μ (fun r ν => ∃ a, r = some (vI a) ∧ K a ν)) (lo := 0) (hi := 16) ?_ ?_ k0 k1
    · intro k k0 k1 ih v7 v8 hj
      refine vc_X2_samePart_2 ?_
      rw [if_pos k1, ztm 4 k0, ztd 4 k0, hI.1, hJ.1]
      obtain ⟨p1, p2, p3, p4⟩ := part_pl hD hx hy k0 k1
      obtain ⟨q1, q2, q3, q4⟩ := part_pl hD ha hb k0 k1
      have e1 : (y + k / 4) * s 0 + x + k % 4 = spl s (x + k % 4) (y + k / 4) := by unfold spl; omega
      have e2 : (b + k / 4) * s 0 + a + k % 4 = spl s (a + k % 4) (b + k / 4) := by unfold spl; omega
      have e3 : (y + k / 4) * s 0 + x = spl s (x + k % 4) (y + k / 4) - k % 4 := by unfold spl; omega
      have e4 : (b + k / 4) * s 0 + a = spl s (a + k % 4) (b + k / 4) - k % 4 := by unfold spl; omega
      have e5 : (y + k / 4) * s 0 = spl s (x + k % 4) (y + k / 4) - k % 4 - x := by unfold spl; omega
      have e6 : (b + k / 4) * s 0 = spl s (a + k % 4) (b + k / 4) - k % 4 - a := by unfold spl; omega
      rw [e1, e2, hI.2.2 _ p2 p3, hJ.2.2 _ q2 q3]
      refine ⟨⟨by omega, zin_sm (by omega)⟩, zin_sm (by omega), zin_sm (by omega), zin_sm (by omega), by omega, zin_sm (by omega), ⟨by omega, zin_sm (by omega)⟩, zin_sm (by omega), zin_sm (by omega), zin_sm (by omega), by omega, zin_sm (by omega), ?_⟩
      rw [if_neg (by omega), if_pos p4, if_neg (by omega), if_pos q4]
      refine ⟨⟨p2, p4⟩, ⟨q2, q4⟩, ?_⟩
      split
      · next he =>
        refine ⟨zin_sm (by omega), ih _ _ (fun j j0 j1 => ?_)⟩
        by_cases hjk : j = k
        · rw [hjk]; exact he
        · exact hj j j0 (by omega)
      · next he => exact zlf (h0 (fun hl => he (hl k k0 k1))) rfl
    · intro v7 v8 hj
      refine vc_X2_samePart_2 ?_
      rw [if_neg (by omega)]
      exact zlf (h1 (fun j j0 j1 => hj j j0 j1)) rfl
  exact key 0 (by omega) (by omega) _ _ (fun j j0 j1 => by omega)
/-- in how many cells two images differ -/
def sdiff (s : Int → Int) (f g : Int) : Int := isum (fun c => if sv s f c = sv s g c then 0 else 1) 0 (s 0 * s 1).toNat
theorem s_X2_cellsUnlike {o' g : Int} (hD : WD s) (hI : IM μ o s f) (hJ : IM μ o' s g) (h : K (sdiff s f g) μ) : ZI f_X2_cellsUnlike [vR 3 o, vR 3 o'] μ K := by
  refine vc_X2_cellsUnlike_0 ?_
  have hm := WD_mul hD
  refine ifold_loop (g := fun d c => d + if sv s f c = sv s g c then 0 else 1) (C := fun d k => ZW f_X2_cellsUnlike 4 [vR 3 o, vR 3 o', vI d, vI k] [] μ (fun r ν => ∃ a, r = some (vI a) ∧ K a ν)) (I := fun d k => 0 ≤ d ∧ d ≤ k) (lo := 0) (hi := s 0 * s 1) ?_ ?_ (s 0 * s 1).toNat 0 0 (by omega) (by omega) (by omega) ?_
  · intro d k k0 k1 hd
    split <;> omega
  · intro d k k0 k1 hd hC
    refine vc_X2_cellsUnlike_4 ?_
    rw [hI.1, hI.2.1, if_pos k1]
    refine ⟨zin_sm (by omega), s_num k0 (by omega) (s_num k0 (by omega) ?_)⟩
    rw [hI.2.2 k k0 k1, hJ.2.2 k k0 k1]
    split
    · next he =>
      rw [if_pos he, Int.add_zero] at hC
      exact ⟨zin_sm (by omega), hC⟩
    · next he =>
      rw [if_neg he] at hC
      exact ⟨zin_sm (by omega), zin_sm (by omega), hC⟩
  · intro _
    refine vc_X2_cellsUnlike_4 ?_
    rw [hI.1, hI.2.1, if_neg (by omega)]
    exact ⟨zin_sm (by omega), zlf h rfl⟩
end Img
