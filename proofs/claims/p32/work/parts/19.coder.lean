/-! ===== the choice of codes ===== -/
def sab (x : Int) : Int := if x < 0 then -x else x
/-- a move that may be -/
def smv (s : Int → Int) (f g b dx dy : Int) : Prop := (dx ≠ 0 ∨ dy ≠ 0) ∧ (-(s 3) ≤ dx ∧ dx ≤ s 3) ∧ (-(s 3) ≤ dy ∧ dy ≤ s 3) ∧ ((0 ≤ sleft s b + dx ∧ sleft s b + dx ≤ s 0 - 4) ∧ (0 ≤ stop s b + dy ∧ stop s b + dy ≤ s 1 - 4)) ∧ slike s f (sleft s b) (stop s b) g (sleft s b + dx) (stop s b + dy)
/-- the move that is due -/
def sbest (s : Int → Int) (f g b dx dy : Int) : Prop := smv s f g b dx dy ∧ ∀ x y, smv s f g b x y → sab dx + sab dy < sab x + sab y ∨ (sab dx + sab dy = sab x + sab y ∧ (dy < y ∨ (dy = y ∧ dx ≤ x)))
theorem sbest_u {s : Int → Int} {f g b dx dy x y : Int} (h1 : sbest s f g b dx dy) (h2 : sbest s f g b x y) : dx = x ∧ dy = y := by
  have a := h1.2 x y h2.1
  have c := h2.2 dx dy h1.1
  omega
def slk (s : Int → Int) (f g b : Int) : Prop := slike s f (sleft s b) (stop s b) g (sleft s b) (stop s b)
/-- the code of a block (kind, dx, dy, runs) and its cost -/
def CH (s : Int → Int) (f r b k dx dy n c : Int) : Prop :=
  (r = -1 ∧ k = 3 ∧ n = sruns s f (-1) b ∧ c = 2 + 2 * sruns s f (-1) b) ∨
  (r ≠ -1 ∧ slk s f r b ∧ k = 0 ∧ c = 1) ∨
  (r ≠ -1 ∧ ¬ slk s f r b ∧ sbest s f r b dx dy ∧ k = 1 ∧ c = 3) ∨
  (r ≠ -1 ∧ ¬ slk s f r b ∧ (∀ x y, ¬ smv s f r b x y) ∧ sruns s f r b ≤ sruns s f (-1) b ∧ k = 2 ∧ n = sruns s f r b ∧ c = 2 + 2 * sruns s f r b) ∨
  (r ≠ -1 ∧ ¬ slk s f r b ∧ (∀ x y, ¬ smv s f r b x y) ∧ sruns s f (-1) b < sruns s f r b ∧ k = 3 ∧ n = sruns s f (-1) b ∧ c = 2 + 2 * sruns s f (-1) b)
noncomputable def ccost (s : Int → Int) (f r b : Int) : Int := if r = -1 then 2 + 2 * sruns s f (-1) b else @ite _ (slk s f r b) (Classical.propDecidable _) 1 (@ite _ (∃ x y, smv s f r b x y) (Classical.propDecidable _) 3 (if sruns s f r b ≤ sruns s f (-1) b then 2 + 2 * sruns s f r b else 2 + 2 * sruns s f (-1) b))
noncomputable def call (s : Int → Int) (f r : Int) : Int := 2 + isum (ccost s f r) 0 (sblocks s).toNat
theorem CH_cost {s : Int → Int} {f r b k dx dy n c : Int} (h : CH s f r b k dx dy n c) : c = ccost s f r b := by
  unfold ccost
  rcases h with ⟨h1, _, _, h2⟩ | ⟨h1, h2, _, h3⟩ | ⟨h1, h2, h3, _, h4⟩ | ⟨h1, h2, h3, h4, _, _, h5⟩ | ⟨h1, h2, h3, h4, _, _, h5⟩
  · rw [if_pos h1]; exact h2
  · rw [if_neg h1, if_pos h2]; exact h3
  · rw [if_neg h1, if_neg h2, if_pos ⟨dx, dy, h3.1⟩]; exact h4
  · rw [if_neg h1, if_neg h2, if_neg (fun ⟨x, y, q⟩ => h3 x y q), if_pos h4]; exact h5
  · rw [if_neg h1, if_neg h2, if_neg (fun ⟨x, y, q⟩ => h3 x y q), if_neg (by omega)]; exact h5
theorem ccost_b (s : Int → Int) (f r b : Int) : 1 ≤ ccost s f r b ∧ ccost s f r b ≤ 34 := by
  have h1 := sruns_le s f r b
  have h2 := sruns_le s f (-1) b
  unfold ccost
  split
  · omega
  · split
    · omega
    · split
      · omega
      · split <;> omega
theorem call_b {s : Int → Int} (hD : WD s) (f r : Int) : 2 ≤ call s f r ∧ call s f r ≤ 308 := by
  have h1 := WD_blocks hD
  have h2 := isum_bound (g := ccost s f r) (lo := 0) (hi := 34) (sblocks s).toNat 0 (fun j _ _ => ⟨by have := ccost_b s f r j; omega, (ccost_b s f r j).2⟩)
  unfold call
  omega
/-- which kind a code with a reference may have -/
theorem CH_kind {s : Int → Int} {f r b k dx dy n c : Int} (h : CH s f r b k dx dy n c) : (0 ≤ k ∧ k ≤ 3) ∧ (r = -1 → k = 3) := by
  rcases h with ⟨h1, h2, _, _⟩ | ⟨h1, h2, h3, _⟩ | ⟨h1, h2, h3, h4, _⟩ | ⟨h1, h2, h3, h4, h5, _⟩ | ⟨h1, h2, h3, h4, h5, _⟩ <;> exact ⟨by omega, fun q => by omega⟩
section Cod
variable {μ : mzM} {s : Int → Int} {o1 o4 f g b : Int}
def set4 (ν : mzM) (F b k dx dy n : Int) : mzM := mup (mup (mup (mup ν 5 F (4 * b) k) 5 F (4 * b + 1) dx) 5 F (4 * b + 2) dy) 5 F (4 * b + 3) n
theorem set4_t {ν : mzM} {F b k dx dy n : Int} {t : Nat} {i j : Int} (h : t ≠ 5) : set4 ν F b k dx dy n t i j = ν t i j := by
  unfold set4
  rw [mup_t h, mup_t h, mup_t h, mup_t h]
theorem set4_e (ν : mzM) (F b k dx dy n : Int) : set4 ν F b k dx dy n 5 F (4 * b) = k ∧ set4 ν F b k dx dy n 5 F (4 * b + 1) = dx ∧ set4 ν F b k dx dy n 5 F (4 * b + 2) = dy ∧ set4 ν F b k dx dy n 5 F (4 * b + 3) = n := by
  unfold set4
  refine ⟨?_, ?_, ?_, mup_self _ _ _ _ _⟩
  · rw [mup_k (by omega), mup_k (by omega), mup_k (by omega), mup_self]
  · rw [mup_k (by omega), mup_k (by omega), mup_self]
  · rw [mup_k (by omega), mup_self]
/-- what one block's coding touches -/
abbrev Pblk (F b : Int) : Nat → Int → Int → Prop := fun t i k => (t = 5 ∧ i = F ∧ 4 * b ≤ k ∧ k < 4 * b + 4) ∨ t = 11 ∨ t = 12 ∨ t = 13 ∨ t = 14
theorem set4_fr (ν : mzM) (F b k dx dy n : Int) : fr (Pblk F b) ν (set4 ν F b k dx dy n) :=
  fr_up (fr_up (fr_up (fr_up fr_rf (Or.inl ⟨rfl, rfl, by omega, by omega⟩)) (Or.inl ⟨rfl, rfl, by omega, by omega⟩)) (Or.inl ⟨rfl, rfl, by omega, by omega⟩)) (Or.inl ⟨rfl, rfl, by omega, by omega⟩)
theorem s_X1_setCode {F k dx dy n : Int} {K : mzM → Prop} (b0 : 0 ≤ b) (b1 : b < 9) (h : K (set4 μ F b k dx dy n)) : ZV f_X1_setCode [vR 2 F, vI b, vI k, vI dx, vI dy, vI n] μ K := by
  refine vc_X1_setCode_0 ?_
  refine ⟨zin_sm (by omega), ?_⟩
  rw [if_neg (by omega)]
  refine ⟨zin_sm (by omega), ?_⟩
  rw [if_pos (by omega)]
  refine ⟨zin_sm (by omega), ⟨by omega, by omega⟩, zin_sm (by omega), ⟨by omega, by omega⟩, zin_sm (by omega), ⟨by omega, by omega⟩, zin_sm (by omega), ⟨by omega, by omega⟩, rfl, ?_⟩
  rw [show b * 4 + 0 = 4 * b by omega, show b * 4 + 1 = 4 * b + 1 by omega, show b * 4 + 2 = 4 * b + 2 by omega, show b * 4 + 3 = 4 * b + 3 by omega]
  exact h
theorem s_findMove {o0 : Int} {K : Int → mzM → Prop} (hD : WD s) (hI : IM μ o1 s f) (hJ : IM μ o4 s g) (hr : 0 ≤ s 3 ∧ s 3 ≤ 4) (b0 : 0 ≤ b) (b1 : b < sblocks s)
    (h1 : ∀ dx dy, sbest s f g b dx dy → K 1 (mup (mup μ 11 o0 2 dx) 11 o0 3 dy)) (h0 : (∀ x y, ¬ smv s f g b x y) → K 0 μ) : ZI f_X0_findMove [vR 11 o0, vR 3 o1, vI (sleft s b), vI (stop s b), vR 3 o4, vI (s 3)] μ K := by
  refine vc_X0_findMove_0 ?_
  obtain ⟨hx, hy⟩ := WD_blk hD b0 b1
  have hw := WD_w hD
  have outer : ∀ sum, 1 ≤ sum → sum ≤ 2 * s 3 + 1 → ∀ v7 v8 v9 : mzV, (∀ x y, smv s f g b x y → sum ≤ sab x + sab y) → ZW f_X0_findMove 2 [vR 11 o0, vR 3 o1, vI (sleft s b), vI (stop s b), vR 3 o4, vI (s 3), vI sum, v7, v8, v9] [] μ (fun r ν => ∃ a, r = some (vI a) ∧ K a ν) := by
    intro sum s0 s1
    refine iter_down (C := fun sum => ∀ v7 v8 v9 : mzV, (∀ x y, smv s f g b x y → sum ≤ sab x + sab y) → ZW f_X0_findMove 2 [vR 11 o0, vR 3 o1, vI (sleft s b), vI (stop s b), vR 3 o4, vI (s 3), vI sum, v7, v8, v9] [] μ (fun r ν => ∃ a, r = some (vI a) ∧ K a ν)) (lo := 1) (hi := 2 * s 3 + 1) ?_ ?_ s0 s1
    · intro sum s0 s1 ihs v7 v8 v9 hinv
      have mid : ∀ dn, -(s 3) ≤ dn → dn ≤ s 3 + 1 → ∀ v8 v9 : mzV, (∀ x y, smv s f g b x y → sum < sab x + sab y ∨ (sum = sab x + sab y ∧ dn ≤ y)) → ZW f_X0_findMove 10 [vR 11 o0, vR 3 o1, vI (sleft s b), vI (stop s b), vR 3 o4, vI (s 3), vI sum, vI dn, v8, v9] [] μ (fun r ν => ∃ a, r = some (vI a) ∧ K a ν) := by
        intro dn d0 d1
        refine iter_down (C := fun dn => ∀ v8 v9 : mzV, (∀ x y, smv s f g b x y → sum < sab x + sab y ∨ (sum = sab x + sab y ∧ dn ≤ y)) → ZW f_X0_findMove 10 [vR 11 o0, vR 3 o1, vI (sleft s b), vI (stop s b), vR 3 o4, vI (s 3), vI sum, vI dn, v8, v9] [] μ (fun r ν => ∃ a, r = some (vI a) ∧ K a ν)) (lo := -(s 3)) (hi := s 3 + 1) ?_ ?_ d0 d1
        · intro dn d0 d1 ihd v8 v9 hinv
          refine vc_X0_findMove_10 ?_
          rw [if_neg (by omega)]
          refine s_abs (by omega) ?_
          have e : (if dn < 0 then -dn else dn) = sab dn := rfl
          rw [e]
          have hsd : 0 ≤ sab dn ∧ sab dn ≤ s 3 ∧ (sab dn = dn ∨ sab dn = -dn) := by unfold sab; split <;> omega
          have hnext : ∀ v8 v9 : mzV, (∀ x y, smv s f g b x y → sum = sab x + sab y → y = dn → False) → ZW f_X0_findMove 10 [vR 11 o0, vR 3 o1, vI (sleft s b), vI (stop s b), vR 3 o4, vI (s 3), vI sum, vI (dn + 1), v8, v9] [] μ (fun r ν => ∃ a, r = some (vI a) ∧ K a ν) := by
            intro v8 v9 hno
            refine ihd v8 v9 (fun x y hm => ?_)
            have a1 := hinv x y hm
            have a2 := hno x y hm
            by_cases hq : sum = sab x + sab y
            · by_cases hy : y = dn
              · exact absurd hy (fun q => a2 hq q)
              · omega
            · omega
          refine ⟨zin_sm (by omega), ?_⟩
          split
          · refine ⟨zin_sm (by omega), hnext _ _ (fun x y hm hq hyy => ?_)⟩
            have : 0 ≤ sab x := by unfold sab; split <;> omega
            subst hyy
            omega
          split
          · refine ⟨zin_sm (by omega), hnext _ _ (fun x y hm hq hyy => ?_)⟩
            have : sab x ≤ s 3 := by have := hm.2.1; unfold sab; split <;> omega
            subst hyy
            omega
          next n1 n2 =>
          obtain ⟨as, eas⟩ : ∃ as, as = sum - sab dn := ⟨_, rfl⟩
          rw [← eas] at n1 n2 ⊢
          have e2 : zw (-as) = -as := by unfold zw; omega
          rw [e2]
          have hexit : ∀ rt, as < rt → (∀ x y, smv s f g b x y → sum = sab x + sab y → y = dn → rt ≤ x) → ZW f_X0_findMove 27 [vR 11 o0, vR 3 o1, vI (sleft s b), vI (stop s b), vR 3 o4, vI (s 3), vI sum, vI dn, vI as, vI rt] [] μ (fun r ν => ∃ a, r = some (vI a) ∧ K a ν) := by
            intro rt hrt hno
            refine vc_X0_findMove_27 ?_
            rw [if_pos hrt]
            refine ⟨zin_sm (by omega), hnext _ _ (fun x y hm hq hyy => ?_)⟩
            have a1 := hno x y hm hq hyy
            have a2 : sab x = x ∨ sab x = -x := by unfold sab; split <;> omega
            have a3 : 0 ≤ sab x := by unfold sab; split <;> omega
            subst hyy
            omega
          have hstep : ∀ rt, (rt = -as ∨ rt = as) → (∀ x y, smv s f g b x y → sum = sab x + sab y → y = dn → rt ≤ x) → (¬ smv s f g b rt dn → ZW f_X0_findMove 27 [vR 11 o0, vR 3 o1, vI (sleft s b), vI (stop s b), vR 3 o4, vI (s 3), vI sum, vI dn, vI as, vI (rt + if (1 : Int) < 2 * as then 2 * as else 1)] [] μ (fun r ν => ∃ a, r = some (vI a) ∧ K a ν)) → ZW f_X0_findMove 27 [vR 11 o0, vR 3 o1, vI (sleft s b), vI (stop s b), vR 3 o4, vI (s 3), vI sum, vI dn, vI as, vI rt] [] μ (fun r ν => ∃ a, r = some (vI a) ∧ K a ν) := by
            intro rt hrt hge hgo
            refine vc_X0_findMove_27 ?_
            rw [if_neg (by omega)]
            refine ⟨zin_sm (by omega), zin_sm (by omega), s_X2_hasPart hD hJ ?_⟩
            by_cases hin : (0 ≤ sleft s b + rt ∧ sleft s b + rt ≤ s 0 - 4) ∧ (0 ≤ stop s b + dn ∧ stop s b + dn ≤ s 1 - 4)
            · rw [if_pos hin, if_neg (by omega)]
              refine ⟨zin_sm (by omega), zin_sm (by omega), s_X2_samePart hD hI hJ hx hy hin.1 hin.2 (fun hl => ?_) (fun hl => ?_)⟩
              · rw [if_neg (by omega)]
                refine zlf (h1 rt dn ?_) rfl
                have a2 : sab rt = as := by unfold sab; split <;> omega
                refine ⟨⟨by omega, by omega, by omega, hin, hl⟩, fun x y hm => ?_⟩
                have a1 := hinv x y hm
                have a3 := hge x y hm
                by_cases q1 : sum = sab x + sab y
                · by_cases q2 : y = dn
                  · have := a3 q1 q2
                    omega
                  · omega
                · omega
              · rw [if_pos rfl]
                exact ⟨zin_sm (by omega), s_max ⟨zin_sm (by split <;> omega), hgo (fun hm => hl hm.2.2.2.2)⟩⟩
            · rw [if_neg hin, if_pos rfl]
              exact ⟨zin_sm (by omega), s_max ⟨zin_sm (by split <;> omega), hgo (fun hm => hin hm.2.2.2.1)⟩⟩
          have hab : ∀ x : Int, (sab x = x ∨ sab x = -x) ∧ 0 ≤ sab x := by intro x; unfold sab; split <;> omega
          refine hstep (-as) (Or.inl rfl) (fun x y hm hq hyy => ?_) (fun hno => ?_)
          · have := hab x
            subst hyy
            omega
          · by_cases ha : as = 0
            · rw [if_neg (by omega)]
              refine hexit _ (by omega) (fun x y hm hq hyy => ?_)
              have := hab x
              subst hyy
              have hx0 : x = -as := by omega
              rw [hx0] at hm
              exact absurd hm hno
            · rw [if_pos (by omega), show -as + 2 * as = as by omega]
              refine hstep as (Or.inr rfl) (fun x y hm hq hyy => ?_) (fun hno2 => ?_)
              · have := hab x
                subst hyy
                by_cases hx0 : x = -as
                · rw [hx0] at hm
                  exact absurd hm hno
                · omega
              · rw [if_pos (by omega)]
                refine hexit _ (by omega) (fun x y hm hq hyy => ?_)
                have := hab x
                subst hyy
                by_cases hx0 : x = -as
                · rw [hx0] at hm
                  exact absurd hm hno
                · have hx1 : x = as := by omega
                  rw [hx1] at hm
                  exact absurd hm hno2
        · intro v8 v9 hinv
          refine vc_X0_findMove_10 ?_
          rw [if_pos (by omega)]
          refine ⟨zin_sm (by omega), ihs _ _ _ (fun x y hm => ?_)⟩
          have a1 := hinv x y hm
          have a2 := hm.2.2.1
          omega
      refine vc_X0_findMove_2 ?_
      refine ⟨zin_sm (by omega), ?_⟩
      rw [if_neg (by omega)]
      have e2 : zw (-(s 3)) = -(s 3) := by unfold zw; omega
      rw [e2]
      refine mid _ (by omega) (by omega) _ _ (fun x y hm => ?_)
      have a1 := hinv x y hm
      have a2 := hm.2.2.1
      omega
    · intro v7 v8 v9 hinv
      refine vc_X0_findMove_2 ?_
      refine ⟨zin_sm (by omega), ?_⟩
      rw [if_pos (by omega)]
      refine zlf (h0 (fun x y hm => ?_)) rfl
      have a1 := hinv x y hm
      have hab : ∀ x : Int, (sab x = x ∨ sab x = -x) ∧ 0 ≤ sab x := by intro x; unfold sab; split <;> omega
      have b1 := hab x
      have b2 := hab y
      have a2 := hm.2.1
      have a3 := hm.2.2.1
      omega
  refine outer 1 (by omega) (by omega) _ _ _ (fun x y hm => ?_)
  have hab : ∀ x : Int, (sab x = x ∨ sab x = -x) ∧ 0 ≤ sab x := by intro x; unfold sab; split <;> omega
  have b1 := hab x
  have b2 := hab y
  have a2 := hm.1
  omega
/-- what a record's coding touches -/
abbrev Pen (F : Int) : Nat → Int → Int → Prop := fun t i k => (t = 2 ∧ i = F ∧ (k = 2 ∨ k = 3 ∨ k = 4)) ∨ (t = 5 ∧ i = F) ∨ t = 11 ∨ t = 12 ∨ t = 13 ∨ t = 14
def CB (ν : mzM) (F : Int) (s : Int → Int) (f r b : Int) : Prop := CH s f r b (ν 5 F (4 * b)) (ν 5 F (4 * b + 1)) (ν 5 F (4 * b + 2)) (ν 5 F (4 * b + 3)) (ccost s f r b)
theorem fr_prl {o F b : Int} {μ ν : mzM} (h : fr (Prl o) μ ν) : fr (Pblk F b) μ ν := fr_mono h (fun t i k q => Or.inr (Or.inr q.1))
theorem CB_of {F r k dx dy n c : Int} {ν : mzM} (h : CH s f r b k dx dy n c) : CB (set4 ν F b k dx dy n) F s f r b := by
  obtain ⟨e1, e2, e3, e4⟩ := set4_e ν F b k dx dy n
  unfold CB
  rw [e1, e2, e3, e4, ← CH_cost h]
  exact h
theorem s_encodeRaw {o0 F : Int} {K : Int → mzM → Prop} (hD : WD s) (hI : IM μ F s f) (b0 : 0 ≤ b) (b1 : b < sblocks s) (hK : ∀ ν, CB ν F s f (-1) b → fr (Pblk F b) μ ν → K (ccost s f (-1) b) ν) : ZI f_X0_encodeRaw [vR 11 o0, vR 2 F, vI b] μ K := by
  have hb := WD_blocks hD
  refine vc_X0_encodeRaw_0 (s_read_raw hD hI b0 b1 (fun ν hR hF => ?_))
  have hn : ν 12 0 2 = sruns s f (-1) b := hR.1
  have hle := sruns_le s f (-1) b
  rw [hn]
  refine s_X1_setCode b0 (by omega) ?_
  have hCH : CH s f (-1) b 3 0 0 (sruns s f (-1) b) (2 + 2 * sruns s f (-1) b) := Or.inl ⟨rfl, rfl, rfl, rfl⟩
  rw [set4_t (by decide), hn]
  exact ⟨zin_sm (by omega), zin_sm (by omega), zlf (hK _ (CB_of hCH) (fr_tr (fr_prl hF) (set4_fr _ _ _ _ _ _ _))) (CH_cost hCH)⟩
theorem s_encodeWith {o0 F r : Int} {K : Int → mzM → Prop} (hD : WD s) (hI : IM μ F s f) (hJ : IM μ o4 s r) (hV : SV s f) (hU : SV s r) (hr : r ≠ -1) (h3 : 0 ≤ s 3 ∧ s 3 ≤ 4) (b0 : 0 ≤ b) (b1 : b < sblocks s) (ho : o0 = 0) (hK : ∀ ν, CB ν F s f r b → fr (Pblk F b) μ ν → K (ccost s f r b) ν) : ZI f_X0_encodeWith [vR 11 o0, vR 2 F, vI b, vR 3 o4, vI (s 3)] μ K := by
  have hb := WD_blocks hD
  obtain ⟨hx, hy⟩ := WD_blk hD b0 b1
  refine vc_X0_encodeWith_0 (s_X2_left hD hI b0 (s_X2_top hD hI b0 (by omega) (s_X2_samePart hD hI hJ hx hy hx hy (fun hl => ?_) (fun hl => ?_))))
  · rw [if_neg (by omega)]
    refine s_X1_setCode b0 (by omega) ?_
    have hCH : CH s f r b 0 0 0 0 1 := Or.inr (Or.inl ⟨hr, hl, rfl, rfl⟩)
    exact zlf (hK _ (CB_of hCH) (set4_fr _ _ _ _ _ _ _)) (CH_cost hCH)
  · rw [if_pos rfl]
    refine s_findMove hD hI hJ h3 b0 b1 (fun dx dy hm => ?_) (fun hm => ?_)
    · rw [if_neg (by omega)]
      rw [mup_k (show (2 : Int) ≠ 3 by decide), mup_self, mup_self]
      refine s_X1_setCode b0 (by omega) ?_
      have hCH : CH s f r b 1 dx dy 0 3 := Or.inr (Or.inr (Or.inl ⟨hr, hl, hm, rfl, rfl⟩))
      exact zlf (hK _ (CB_of hCH) (fr_tr (fr_up (fr_up fr_rf (Or.inr (Or.inl rfl))) (Or.inr (Or.inl rfl))) (set4_fr _ _ _ _ _ _ _))) (CH_cost hCH)
    · rw [if_pos rfl]
      refine s_read_raw hD hI b0 b1 (fun ν hR hF => ?_)
      have hI2 := IM_fr hI hF (fun k q => by omega) (fun k q => by omega)
      have hJ2 := IM_fr hJ hF (fun k q => by omega) (fun k q => by omega)
      refine s_read_base hD hI2 hJ2 hV hU hr b0 b1 (fun ξ hR2 hF2 => ?_)
      have hn1 : ν 12 0 2 = sruns s f (-1) b := hR.1
      have hn2 : ξ 12 1 2 = sruns s f r b := hR2.1
      have hn3 : ξ 12 0 2 = sruns s f (-1) b := (hF2 12 0 2 (fun q => by have := q.2; omega)).trans hn1
      have l1 := sruns_le s f (-1) b
      have l2 := sruns_le s f r b
      rw [hn2, hn3]
      split
      · next q =>
        refine s_X1_setCode b0 (by omega) ?_
        have hCH : CH s f r b 3 0 0 (sruns s f (-1) b) (2 + 2 * sruns s f (-1) b) := Or.inr (Or.inr (Or.inr (Or.inr ⟨hr, hl, hm, q, rfl, rfl, rfl⟩)))
        rw [set4_t (by decide), hn3]
        exact ⟨zin_sm (by omega), zin_sm (by omega), zlf (hK _ (CB_of hCH) (fr_tr (fr_prl hF) (fr_tr (fr_prl hF2) (set4_fr _ _ _ _ _ _ _)))) (CH_cost hCH)⟩
      · next q =>
        refine s_X1_setCode b0 (by omega) ?_
        have hCH : CH s f r b 2 0 0 (sruns s f r b) (2 + 2 * sruns s f r b) := Or.inr (Or.inr (Or.inr (Or.inl ⟨hr, hl, hm, by omega, rfl, rfl, rfl⟩)))
        rw [set4_t (by decide), hn2]
        exact ⟨zin_sm (by omega), zin_sm (by omega), zlf (hK _ (CB_of hCH) (fr_tr (fr_prl hF) (fr_tr (fr_prl hF2) (set4_fr _ _ _ _ _ _ _)))) (CH_cost hCH)⟩
/-- a record that was coded -/
def EN (ν : mzM) (F : Int) (s : Int → Int) (f r : Int) : Prop := ν 2 F 2 = r ∧ ν 2 F 4 = 0 ∧ ν 2 F 3 = call s f r ∧ ∀ b, 0 ≤ b → b < sblocks s → CB ν F s f r b
theorem CB_fr {F r b' : Int} {ν ξ : mzM} (h : CB ν F s f r b) (hF : fr (Pblk F b') ν ξ) (hb : b < b') : CB ξ F s f r b := by
  have e : ∀ j, 0 ≤ j → j < 4 → ξ 5 F (4 * b + j) = ν 5 F (4 * b + j) := fun j j0 j1 => hF 5 F (4 * b + j) (by rintro (q | q | q | q | q) <;> omega)
  have e0 := e 0 (by omega) (by omega)
  rw [Int.add_zero] at e0
  unfold CB
  rw [e0, e 1 (by omega) (by omega), e 2 (by omega) (by omega), e 3 (by omega) (by omega)]
  exact h
theorem fr_blk {F b : Int} {μ ν : mzM} (h : fr (Pblk F b) μ ν) : fr (Pen F) μ ν := fr_mono h (fun t i k q => by
  rcases q with q | q
  · exact Or.inr (Or.inl ⟨q.1, q.2.1⟩)
  · exact Or.inr (Or.inr q))
theorem s_encode {F i r : Int} {K : mzM → Prop} (hD : WD s) (hI : IM μ F s f) (hJ : r ≠ -1 → (0 ≤ r ∧ r < s 2) ∧ s 2 ≤ 10 ∧ IM μ (11 * i + r) s r ∧ SV s r) (hV : SV s f) (h3 : 0 ≤ s 3 ∧ s 3 ≤ 4) (hrg : μ 1 i 4 = s 3) (hK : ∀ ν, EN ν F s f r → fr (Pen F) μ ν → K ν) : ZV f_X0_encode [vR 11 0, vR 2 F, vR 1 i, vI r] μ K := by
  have hb := WD_blocks hD
  have start : ∀ ν0 : mzM, ν0 = mup (mup (mup μ 2 F 2 r) 2 F 4 0) 2 F 3 2 → (ν0 2 F 2 = r ∧ ν0 2 F 4 = 0 ∧ ν0 2 F 3 = 2) ∧ fr (Pen F) μ ν0 := by
    intro ν0 e
    subst e
    refine ⟨⟨?_, ?_, mup_self _ _ _ _ _⟩, fr_up (fr_up (fr_up fr_rf (Or.inl ⟨rfl, rfl, Or.inl rfl⟩)) (Or.inl ⟨rfl, rfl, Or.inr (Or.inr rfl)⟩)) (Or.inl ⟨rfl, rfl, Or.inr (Or.inl rfl)⟩)⟩
    · rw [mup_k (by decide), mup_k (by decide), mup_self]
    · rw [mup_k (by decide), mup_self]
  -- a block more
  have more : ∀ (ν ξ : mzM) (b : Int), 0 ≤ b → b < sblocks s → (ν 2 F 2 = r ∧ ν 2 F 4 = 0 ∧ ν 2 F 3 = 2 + isum (ccost s f r) 0 b.toNat) → fr (Pen F) μ ν → (∀ b', 0 ≤ b' → b' < b → CB ν F s f r b') → CB ξ F s f r b → fr (Pblk F b) ν ξ →
      ((mup ξ 2 F 3 (ν 2 F 3 + ccost s f r b)) 2 F 2 = r ∧ (mup ξ 2 F 3 (ν 2 F 3 + ccost s f r b)) 2 F 4 = 0 ∧ (mup ξ 2 F 3 (ν 2 F 3 + ccost s f r b)) 2 F 3 = 2 + isum (ccost s f r) 0 (b + 1).toNat) ∧ fr (Pen F) μ (mup ξ 2 F 3 (ν 2 F 3 + ccost s f r b)) ∧ (∀ b', 0 ≤ b' → b' < b + 1 → CB (mup ξ 2 F 3 (ν 2 F 3 + ccost s f r b)) F s f r b') := by
    intro ν ξ b b0 b1 ⟨h1, h2, h3⟩ hF hC hCb hF2
    have hx : ∀ k, ξ 2 F k = ν 2 F k := fun k => hF2 2 F k (by rintro (q | q | q | q | q) <;> omega)
    have hcb : ∀ b', CB ξ F s f r b' → CB (mup ξ 2 F 3 (ν 2 F 3 + ccost s f r b)) F s f r b' := by
      intro b' h
      unfold CB
      rw [mup_t (by decide), mup_t (by decide), mup_t (by decide), mup_t (by decide)]
      exact h
    refine ⟨⟨?_, ?_, ?_⟩, fr_up (fr_tr hF (fr_blk hF2)) (Or.inl ⟨rfl, rfl, Or.inr (Or.inl rfl)⟩), fun b' c0 c1 => hcb b' ?_⟩
    · rw [mup_k (by decide), hx]; exact h1
    · rw [mup_k (by decide), hx]; exact h2
    · rw [mup_self, h3, show (b + 1).toNat = b.toNat + 1 by omega, isum_last, show (0 : Int) + (b.toNat : Int) = b by omega]
      omega
    · by_cases q : b' = b
      · rw [q]; exact hCb
      · exact CB_fr (hC b' c0 (by omega)) hF2 (by omega)
  have imF : ∀ ν, fr (Pen F) μ ν → IM ν F s f := fun ν h => IM_fr hI h (fun k q => by omega) (fun k q => by omega)
  have bnd : ∀ (b : Int), 0 ≤ b → b < sblocks s → 0 ≤ isum (ccost s f r) 0 b.toNat ∧ isum (ccost s f r) 0 b.toNat ≤ 34 * b := by
    intro b b0 b1
    have h2 := isum_bound (g := ccost s f r) (lo := 0) (hi := 34) b.toNat 0 (fun j _ _ => ⟨by have := ccost_b s f r j; omega, (ccost_b s f r j).2⟩)
    omega
  refine vc_X0_encode_0 ?_
  split
  · next q =>
    subst q
    obtain ⟨e1, e2⟩ := start _ rfl
    generalize mup (mup (mup μ 2 F 2 (-1)) 2 F 4 0) 2 F 3 2 = ν0 at *
    refine ⟨Or.inl rfl, ?_⟩
    have key : ∀ b, 0 ≤ b → b ≤ sblocks s → ∀ ν : mzM, (ν 2 F 2 = -1 ∧ ν 2 F 4 = 0 ∧ ν 2 F 3 = 2 + isum (ccost s f (-1)) 0 b.toNat) → fr (Pen F) μ ν → (∀ b', 0 ≤ b' → b' < b → CB ν F s f (-1) b') → ZW f_X0_encode 20 [vR 11 0, vR 2 F, vR 1 i, vI (-1), vR 99 0, vI b] [] ν (fun r ν => r = none ∧ K ν) := by
      intro b b0 b1
      refine iter_down (C := fun b => ∀ ν : mzM, (ν 2 F 2 = -1 ∧ ν 2 F 4 = 0 ∧ ν 2 F 3 = 2 + isum (ccost s f (-1)) 0 b.toNat) → fr (Pen F) μ ν → (∀ b', 0 ≤ b' → b' < b → CB ν F s f (-1) b') → ZW f_X0_encode 20 [vR 11 0, vR 2 F, vR 1 i, vI (-1), vR 99 0, vI b] [] ν (fun r ν => r = none ∧ K ν)) (lo := 0) (hi := sblocks s) ?_ ?_ b0 b1
      · intro b b0 b1 ih ν h1 hF hC
        refine vc_X0_encode_20 (s_X2_blocks hD (imF ν hF) ?_)
        rw [if_pos b1]
        refine s_encodeRaw hD (imF ν hF) b0 b1 (fun ξ hCb hF2 => ?_)
        have hbd := bnd b b0 b1
        have hcc := ccost_b s f (-1) b
        refine ⟨zin_sm (by omega), zin_sm (by omega), ?_⟩
        obtain ⟨m1, m2, m3⟩ := more ν ξ b b0 b1 h1 hF hC hCb hF2
        exact ih _ m1 m2 m3
      · intro ν h1 hF hC
        refine vc_X0_encode_20 (s_X2_blocks hD (imF ν hF) ?_)
        rw [if_neg (by omega)]
        exact ⟨rfl, hK ν ⟨h1.1, h1.2.1, h1.2.2, hC⟩ hF⟩
    exact key 0 (by omega) (by omega) ν0 ⟨e1.1, e1.2.1, by rw [e1.2.2]; rfl⟩ e2 (fun b' c0 c1 => by omega)
  · next q =>
    obtain ⟨hr, hr10, hJr, hU⟩ := hJ q
    have him : ∀ K : Int → mzM → Prop, K (11 * i + r) μ → ZR f_X6_imageOf 3 [vR 1 i, vI r] μ K := by
      intro K h
      refine vc_X6_imageOf_0 ?_
      rw [if_neg q]
      refine s_X6_frameAt ?_
      rw [if_pos (by omega)]
      exact zlr h rfl
    refine him _ ?_
    obtain ⟨e1, e2⟩ := start _ rfl
    generalize mup (mup (mup μ 2 F 2 r) 2 F 4 0) 2 F 3 2 = ν0 at *
    refine ⟨Or.inl rfl, ?_⟩
    have key : ∀ b, 0 ≤ b → b ≤ sblocks s → ∀ ν : mzM, (ν 2 F 2 = r ∧ ν 2 F 4 = 0 ∧ ν 2 F 3 = 2 + isum (ccost s f r) 0 b.toNat) → fr (Pen F) μ ν → (∀ b', 0 ≤ b' → b' < b → CB ν F s f r b') → ZW f_X0_encode 20 [vR 11 0, vR 2 F, vR 1 i, vI r, vR 3 (11 * i + r), vI b] [] ν (fun r ν => r = none ∧ K ν) := by
      intro b b0 b1
      refine iter_down (C := fun b => ∀ ν : mzM, (ν 2 F 2 = r ∧ ν 2 F 4 = 0 ∧ ν 2 F 3 = 2 + isum (ccost s f r) 0 b.toNat) → fr (Pen F) μ ν → (∀ b', 0 ≤ b' → b' < b → CB ν F s f r b') → ZW f_X0_encode 20 [vR 11 0, vR 2 F, vR 1 i, vI r, vR 3 (11 * i + r), vI b] [] ν (fun r ν => r = none ∧ K ν)) (lo := 0) (hi := sblocks s) ?_ ?_ b0 b1
      · intro b b0 b1 ih ν h1 hF hC
        refine vc_X0_encode_20b (s_X2_blocks hD (imF ν hF) ?_)
        rw [if_pos b1]
        have hJ2 := IM_fr hJr hF (fun k q => by omega) (fun k q => by omega)
        have hrg2 : ν 1 i 4 = s 3 := (hF 1 i 4 (by rintro (q | q | q | q | q | q) <;> omega)).trans hrg
        rw [hrg2]
        refine s_encodeWith hD (imF ν hF) hJ2 hV hU q h3 b0 b1 rfl (fun ξ hCb hF2 => ?_)
        have hbd := bnd b b0 b1
        have hcc := ccost_b s f r b
        refine ⟨zin_sm (by omega), zin_sm (by omega), ?_⟩
        obtain ⟨m1, m2, m3⟩ := more ν ξ b b0 b1 h1 hF hC hCb hF2
        exact ih _ m1 m2 m3
      · intro ν h1 hF hC
        refine vc_X0_encode_20b (s_X2_blocks hD (imF ν hF) ?_)
        rw [if_neg (by omega)]
        exact ⟨rfl, hK ν ⟨h1.1, h1.2.1, h1.2.2, hC⟩ hF⟩
    exact key 0 (by omega) (by omega) ν0 ⟨e1.1, e1.2.1, by rw [e1.2.2]; rfl⟩ e2 (fun b' c0 c1 => by omega)
end Cod
