/-! ===== what stays, and runs ===== -/
def fr (P : Nat → Int → Int → Prop) (μ ν : mzM) : Prop := ∀ t i k, ¬ P t i k → ν t i k = μ t i k
theorem fr_rf {P : Nat → Int → Int → Prop} {μ : mzM} : fr P μ μ := fun _ _ _ _ => rfl
theorem fr_tr {P : Nat → Int → Int → Prop} {μ ν ξ : mzM} (h1 : fr P μ ν) (h2 : fr P ν ξ) : fr P μ ξ := fun t i k h => (h2 t i k h).trans (h1 t i k h)
theorem fr_mono {P P' : Nat → Int → Int → Prop} {μ ν : mzM} (h : fr P μ ν) (hp : ∀ t i k, P t i k → P' t i k) : fr P' μ ν := fun t i k q => h t i k (fun z => q (hp t i k z))
theorem fr_up {P : Nat → Int → Int → Prop} {μ ν : mzM} {t : Nat} {i k v : Int} (h : fr P μ ν) (hp : P t i k) : fr P μ (mup ν t i k v) := fun t' i' k' q => by
  rw [mup_ne (fun z => q (by rw [z.1, z.2.1, z.2.2]; exact hp))]
  exact h t' i' k' q
theorem mup_t {μ : mzM} {t t' : Nat} {i k v i' k' : Int} (h : t' ≠ t) : mup μ t i k v t' i' k' = μ t' i' k' := mup_ne (fun z => h z.1)
theorem mup_i {μ : mzM} {t t' : Nat} {i k v i' k' : Int} (h : i' ≠ i) : mup μ t i k v t' i' k' = μ t' i' k' := mup_ne (fun z => h z.2.1)
theorem mup_k {μ : mzM} {t t' : Nat} {i k v i' k' : Int} (h : k' ≠ k) : mup μ t i k v t' i' k' = μ t' i' k' := mup_ne (fun z => h z.2.2)
/-- an image that isn't touched -/
theorem IM_fr {P : Nat → Int → Int → Prop} {μ ν : mzM} {o f : Int} {s : Int → Int} (hI : IM μ o s f) (h : fr P μ ν) (h3 : ∀ k, ¬ P 3 o k) (h4 : ∀ k, ¬ P 4 o k) : IM ν o s f :=
  ⟨(h 3 o 1 (h3 1)).trans hI.1, (h 3 o 2 (h3 2)).trans hI.2.1, fun c c0 c1 => (h 4 o c (h4 c)).trans (hI.2.2 c c0 c1)⟩
/-- the number of a place's run, how many places it has among the first n, its value -/
def num (g : Int → Int) : Nat → Int
  | 0 => 0
  | n + 1 => num g n + (if g ((n : Int) + 1) = g n then 0 else 1)
def many (g : Int → Int) (r : Int) : Nat → Int
  | 0 => 0
  | n + 1 => many g r n + (if num g n = r then 1 else 0)
def rval (g : Int → Int) (r : Int) : Nat → Int
  | 0 => 0
  | n + 1 => if num g n = r then g n else rval g r n
theorem num_s (g : Int → Int) (n : Nat) : num g (n + 1) = num g n + (if g ((n : Int) + 1) = g n then 0 else 1) := rfl
theorem num_le (g : Int → Int) : ∀ n : Nat, 0 ≤ num g n ∧ num g n ≤ n
  | 0 => by simp [num]
  | n + 1 => by
    have h := num_le g n
    unfold num
    split <;> omega
theorem num_mono (g : Int → Int) : ∀ (d n : Nat), num g n ≤ num g (n + d)
  | 0, n => Int.le_refl _
  | d + 1, n => by
    have h := num_mono g d n
    show num g n ≤ num g (n + d) + _
    split <;> omega
theorem many_0 (g : Int → Int) (r : Int) : ∀ n : Nat, (∀ j : Nat, j < n → num g j < r) → many g r n = 0
  | 0, _ => rfl
  | n + 1, h => by
    unfold many
    rw [many_0 g r n (fun j hj => h j (by omega)), if_neg (by have := h n (by omega); omega)]
    rfl
theorem many_le (g : Int → Int) (r : Int) : ∀ n : Nat, 0 ≤ many g r n ∧ many g r n ≤ n
  | 0 => by simp [many]
  | n + 1 => by
    have h := many_le g r n
    unfold many
    split <;> omega
theorem num_congr {g g' : Int → Int} : ∀ n : Nat, (∀ k : Int, 0 ≤ k → k ≤ (n : Int) → g k = g' k) → num g n = num g' n
  | 0, _ => rfl
  | n + 1, h => by
    unfold num
    rw [num_congr n (fun k k0 k1 => h k k0 (by omega)), h ((n : Int) + 1) (by omega) (by omega), h n (by omega) (by omega)]
theorem many_congr {g g' : Int → Int} (r : Int) : ∀ n : Nat, (∀ k : Int, 0 ≤ k → k < (n : Int) → g k = g' k) → many g r n = many g' r n
  | 0, _ => rfl
  | n + 1, h => by
    unfold many
    rw [many_congr r n (fun k k0 k1 => h k k0 (by omega)), num_congr n (fun k k0 k1 => h k k0 (by omega))]
theorem rval_congr {g g' : Int → Int} (r : Int) : ∀ n : Nat, (∀ k : Int, 0 ≤ k → k < (n : Int) → g k = g' k) → rval g r n = rval g' r n
  | 0, _ => rfl
  | n + 1, h => by
    unfold rval
    rw [rval_congr r n (fun k k0 k1 => h k k0 (by omega)), num_congr n (fun k k0 k1 => h k k0 (by omega)), h n (by omega) (by omega)]
/-- a run list of the class after n places of g -/
def RLn (μ : mzM) (o : Int) (g : Int → Int) (n : Nat) : Prop := μ 12 o 2 = (match n with | 0 => 0 | m + 1 => num g m + 1) ∧ ∀ r, 0 ≤ r → r < μ 12 o 2 → μ 13 o r = many g r n ∧ μ 14 o r = rval g r n
abbrev Prl (o : Int) : Nat → Int → Int → Prop := fun t i _ => (t = 12 ∨ t = 13 ∨ t = 14) ∧ i = o
theorem s_X4_addCell {μ : mzM} {o v : Int} {K : mzM → Prop} (h1 : 0 ≤ μ 12 o 2) (h2 : μ 12 o 2 ≤ 15) (h3 : 0 < μ 12 o 2 → 0 ≤ μ 13 o (μ 12 o 2 - 1) ∧ μ 13 o (μ 12 o 2 - 1) ≤ 100)
    (hs : 0 < μ 12 o 2 → μ 14 o (μ 12 o 2 - 1) = v → K (mup μ 13 o (μ 12 o 2 - 1) (μ 13 o (μ 12 o 2 - 1) + 1)))
    (hn : ¬ (0 < μ 12 o 2 ∧ μ 14 o (μ 12 o 2 - 1) = v) → K (mup (mup (mup μ 13 o (μ 12 o 2) 1) 14 o (μ 12 o 2) v) 12 o 2 (μ 12 o 2 + 1))) : ZV f_X4_addCell [vR 12 o, vI v] μ K := by
  refine vc_X4_addCell_0 ?_
  refine ⟨zin_sm (by omega), ?_⟩
  have e1 : (mup μ 13 o (μ 12 o 2) 1) 12 o 2 = μ 12 o 2 := mup_t (by decide)
  have e2 : (mup (mup μ 13 o (μ 12 o 2) 1) 14 o (μ 12 o 2) v) 12 o 2 = μ 12 o 2 := by rw [mup_t (by decide), mup_t (by decide)]
  have hnew : (¬ (0 < μ 12 o 2 ∧ μ 14 o (μ 12 o 2 - 1) = v)) → ((0 ≤ (μ 12 o 2) ∧ (μ 12 o 2) < 16) ∧ ((0 ≤ ((mup μ 13 o (μ 12 o 2) 1) 12 o 2) ∧ ((mup μ 13 o (μ 12 o 2) 1) 12 o 2) < 16) ∧ (zin (((mup (mup μ 13 o (μ 12 o 2) 1) 14 o ((mup μ 13 o (μ 12 o 2) 1) 12 o 2) v) 12 o 2) + 1) ∧ (none : Option mzV) = none ∧ K (mup (mup (mup μ 13 o (μ 12 o 2) 1) 14 o ((mup μ 13 o (μ 12 o 2) 1) 12 o 2) v) 12 o 2 (((mup (mup μ 13 o (μ 12 o 2) 1) 14 o ((mup μ 13 o (μ 12 o 2) 1) 12 o 2) v) 12 o 2) + 1))))) := by
    intro q
    rw [e1, e2]
    exact ⟨⟨h1, by omega⟩, ⟨h1, by omega⟩, zin_sm (by omega), rfl, hn q⟩
  split
  · rw [if_neg (by omega), if_pos (by omega), if_pos (by omega)]
    exact hnew (by omega)
  · next q =>
    rw [if_pos (by omega)]
    refine ⟨⟨by omega, by omega⟩, ?_⟩
    split
    · next q2 =>
      rw [if_pos (by omega)]
      have := h3 (by omega)
      exact ⟨⟨by omega, by omega⟩, zin_sm (by omega), ⟨by omega, by omega⟩, rfl, hs (by omega) q2⟩
    · next q2 =>
      rw [if_neg (by omega), if_pos (by omega), if_pos (by omega)]
      exact hnew (fun z => q2 z.2)
theorem rval_last (g : Int → Int) (n : Nat) : rval g (num g n) (n + 1) = g n := by unfold rval; rw [if_pos rfl]
/-- one place more -/
theorem s_add {μ : mzM} {o : Int} {g : Int → Int} {n : Nat} {v : Int} {K : mzM → Prop} (hR : RLn μ o g n) (hn : n < 16) (hv : v = g n) (hK : ∀ ν, RLn ν o g (n + 1) → fr (Prl o) μ ν → K ν) : ZV f_X4_addCell [vR 12 o, vI v] μ K := by
  subst hv
  obtain ⟨hs, hr⟩ := hR
  have hb : 0 ≤ μ 12 o 2 ∧ μ 12 o 2 ≤ n := by
    rw [hs]
    cases n with
    | zero => exact ⟨Int.le_refl 0, Int.le_refl 0⟩
    | succ m => have h := num_le g m; show 0 ≤ num g m + 1 ∧ num g m + 1 ≤ ((m + 1 : Nat) : Int); omega
  refine s_X4_addCell hb.1 (by omega) (fun q => ?_) (fun q1 q2 => ?_) (fun q => ?_)
  · have h1 := hr (μ 12 o 2 - 1) (by omega) (by omega)
    have h2 := many_le g (μ 12 o 2 - 1) n
    rw [h1.1]; omega
  · cases n with
    | zero => have hs : μ 12 o 2 = 0 := hs; omega
    | succ m =>
      have hs : μ 12 o 2 = num g m + 1 := hs
      have h1 := hr (μ 12 o 2 - 1) (by omega) (by omega)
      have e : μ 12 o 2 - 1 = num g m := by omega
      rw [h1.2, e, rval_last] at q2
      have hnum : num g (m + 1) = num g m := by
        rw [num_s, if_pos (by rw [q2]; congr 1)]
        omega
      refine hK _ ⟨?_, fun r r0 r1 => ?_⟩ (fr_up fr_rf ⟨Or.inr (Or.inl rfl), rfl⟩)
      · rw [mup_t (by decide), hs]
        show _ = num g (m + 1) + 1
        rw [hnum]
      · rw [mup_t (by decide)] at r1
        rw [mup_t (show (14 : Nat) ≠ 13 by decide), (hr r r0 r1).2]
        show _ = many g r (m + 1) + (if num g (m + 1) = r then 1 else 0) ∧ _ = if num g (m + 1) = r then g ((m + 1 : Nat) : Int) else rval g r (m + 1)
        by_cases hrr : r = num g m
        · rw [if_pos (by omega), if_pos (by omega), e, hrr, mup_self, ← e, h1.1, e]
          exact ⟨rfl, by rw [rval_last]; exact q2⟩
        · rw [if_neg (by omega), if_neg (by omega), mup_k (by omega), (hr r r0 r1).1]
          exact ⟨by omega, rfl⟩
  · have hnm : num g n = μ 12 o 2 := by
      cases n with
      | zero => have hs : μ 12 o 2 = 0 := hs; rw [hs]; rfl
      | succ m =>
        have hs : μ 12 o 2 = num g m + 1 := hs
        have hnl := num_le g m
        have h1 := hr (μ 12 o 2 - 1) (by omega) (by omega)
        have hne : ¬ μ 14 o (μ 12 o 2 - 1) = g ((m + 1 : Nat) : Int) := fun z => q ⟨by have := num_le g m; omega, z⟩
        have e : μ 12 o 2 - 1 = num g m := by omega
        rw [h1.2, e, rval_last] at hne
        show num g m + (if g ((m : Int) + 1) = g m then 0 else 1) = _
        rw [if_neg (fun z => hne (by rw [← z]; congr 1))]
        omega
    have hlt : ∀ j : Nat, j < n → num g j < num g n := by
      intro j hj
      rw [hnm]
      cases n with
      | zero => omega
      | succ m =>
        have hs : μ 12 o 2 = num g m + 1 := hs
        have h1 := num_mono g (m - j) j
        rw [show j + (m - j) = m by omega] at h1
        omega
    refine hK _ ⟨?_, fun r r0 r1 => ?_⟩ (fr_up (fr_up (fr_up fr_rf ⟨Or.inr (Or.inl rfl), rfl⟩) ⟨Or.inr (Or.inr rfl), rfl⟩) ⟨Or.inl rfl, rfl⟩)
    · rw [mup_self]
      show _ = num g n + 1
      rw [hnm]
    · rw [mup_self] at r1
      rw [mup_t (show (13 : Nat) ≠ 12 by decide), mup_t (show (14 : Nat) ≠ 12 by decide), mup_t (show (13 : Nat) ≠ 14 by decide)]
      show _ = many g r n + (if num g n = r then 1 else 0) ∧ _ = if num g n = r then g n else rval g r n
      by_cases hrr : r = μ 12 o 2
      · rw [hrr, mup_self, mup_self, if_pos hnm, if_pos hnm, ← hnm, many_0 g _ n hlt]
        exact ⟨rfl, rfl⟩
      · rw [mup_k (by omega), mup_k (by omega), mup_t (by decide), if_neg (by omega), if_neg (by omega), (hr r r0 (by omega)).1, (hr r r0 (by omega)).2]
        exact ⟨by omega, rfl⟩
/-- what a block is given by, with a reference (or -1) -/
def sgiv (s : Int → Int) (f r b k : Int) : Int := if r = -1 then sv s f (spl s (sleft s b + k % 4) (stop s b + k / 4)) else (sv s f (spl s (sleft s b + k % 4) (stop s b + k / 4)) - sv s r (spl s (sleft s b + k % 4) (stop s b + k / 4)) + 16) % 16
def sruns (s : Int → Int) (f r b : Int) : Int := num (sgiv s f r b) 15 + 1
theorem sruns_le (s : Int → Int) (f r b : Int) : 1 ≤ sruns s f r b ∧ sruns s f r b ≤ 16 := by
  have := num_le (sgiv s f r b) 15
  unfold sruns
  omega
theorem zand15_a : ∀ n : Nat, n < 31 → zand ((n : Int) - 15) 15 = ((n : Int) - 15 + 16) % 16 := by decide +kernel
theorem zand15 {x : Int} (h1 : -15 ≤ x) (h2 : x ≤ 15) : zand x 15 = (x + 16) % 16 := by
  have h := zand15_a (x + 15).toNat (by omega)
  rw [show (((x + 15).toNat : Nat) : Int) - 15 = x by omega] at h
  exact h
/-- the list of a block without a base -/
theorem s_read_raw {μ : mzM} {s : Int → Int} {o o1 f b : Int} {K : mzM → Prop} (hD : WD s) (hI : IM μ o1 s f) (b0 : 0 ≤ b) (b1 : b < sblocks s) (hK : ∀ ν, RLn ν o (sgiv s f (-1) b) 16 → fr (Prl o) μ ν → K ν) : ZV f_X4_read [vR 12 o, vR 3 o1, vR 99 0, vI b] μ K := by
  have hbk := WD_blocks hD
  refine vc_X4_read_0b (s_X2_left hD hI b0 (s_X2_top hD hI b0 (by omega) ?_))
  obtain ⟨hx, hy⟩ := WD_blk hD b0 b1
  have hw := WD_w hD
  have key : ∀ (m n : Nat) (ν : mzM) (v7 v8 v9 : mzV), n + m = 16 → RLn ν o (sgiv s f (-1) b) n → fr (Prl o) μ ν → ZW f_X4_read 13 [vR 12 o, vR 3 o1, vR 99 0, vI b, vI (sleft s b), vI (stop s b), vI (n : Int), v7, v8, v9] [] ν (fun r ν => r = none ∧ K ν) := by
    intro m
    induction m with
    | zero =>
      intro n ν v7 v8 v9 hn hR hF
      refine vc_X4_read_13b ?_
      rw [if_neg (by omega)]
      have e : n = 16 := by omega
      subst e
      exact ⟨rfl, hK ν hR hF⟩
    | succ m ih =>
      intro n ν v7 v8 v9 hn hR hF
      have hI2 := IM_fr hI hF (fun k q => by omega) (fun k q => by omega)
      refine vc_X4_read_13b ?_
      rw [if_pos (by omega), ztm 4 (show 0 ≤ (n : Int) by omega), ztd 4 (show 0 ≤ (n : Int) by omega)]
      obtain ⟨p1, p2, p3, p4⟩ := part_pl hD hx hy (k := (n : Int)) (by omega) (by omega)
      refine ⟨by omega, zin_sm (by omega), ⟨by omega, zin_sm (by omega)⟩, zin_sm (by omega), s_X2_at hD hI2 ?_⟩
      rw [if_pos p1]
      refine s_add hR (by omega) (by unfold sgiv; rw [if_pos rfl]) (fun ξ hR2 hF2 => ?_)
      refine ⟨zin_sm (by omega), ?_⟩
      rw [show (n : Int) + 1 = ((n + 1 : Nat) : Int) by omega]
      exact ih (n + 1) ξ _ _ _ (by omega) hR2 (fr_tr hF hF2)
  exact key 16 0 _ _ _ _ rfl ⟨by rw [mup_self], fun r r0 r1 => by rw [mup_self] at r1; omega⟩ (fr_up fr_rf ⟨Or.inl rfl, rfl⟩)
/-- the list of a block with a base -/
theorem s_read_base {μ : mzM} {s : Int → Int} {o o1 o2 f g b : Int} {K : mzM → Prop} (hD : WD s) (hI : IM μ o1 s f) (hJ : IM μ o2 s g) (hV : SV s f) (hU : SV s g) (hg : g ≠ -1) (b0 : 0 ≤ b) (b1 : b < sblocks s) (hK : ∀ ν, RLn ν o (sgiv s f g b) 16 → fr (Prl o) μ ν → K ν) : ZV f_X4_read [vR 12 o, vR 3 o1, vR 3 o2, vI b] μ K := by
  have hbk := WD_blocks hD
  refine vc_X4_read_0 (s_X2_left hD hI b0 (s_X2_top hD hI b0 (by omega) ?_))
  obtain ⟨hx, hy⟩ := WD_blk hD b0 b1
  have hw := WD_w hD
  have key : ∀ (m n : Nat) (ν : mzM) (v7 v8 v9 : mzV), n + m = 16 → RLn ν o (sgiv s f g b) n → fr (Prl o) μ ν → ZW f_X4_read 13 [vR 12 o, vR 3 o1, vR 3 o2, vI b, vI (sleft s b), vI (stop s b), vI (n : Int), v7, v8, v9] [] ν (fun r ν => r = none ∧ K ν) := by
    intro m
    induction m with
    | zero =>
      intro n ν v7 v8 v9 hn hR hF
      refine vc_X4_read_13 ?_
      rw [if_neg (by omega)]
      have e : n = 16 := by omega
      subst e
      exact ⟨rfl, hK ν hR hF⟩
    | succ m ih =>
      intro n ν v7 v8 v9 hn hR hF
      have hI2 := IM_fr hI hF (fun k q => by omega) (fun k q => by omega)
      have hJ2 := IM_fr hJ hF (fun k q => by omega) (fun k q => by omega)
      refine vc_X4_read_13 ?_
      rw [if_pos (by omega), ztm 4 (show 0 ≤ (n : Int) by omega), ztd 4 (show 0 ≤ (n : Int) by omega)]
      obtain ⟨p1, p2, p3, p4⟩ := part_pl hD hx hy (k := (n : Int)) (by omega) (by omega)
      refine ⟨by omega, zin_sm (by omega), ⟨by omega, zin_sm (by omega)⟩, zin_sm (by omega), s_X2_at hD hI2 (s_X2_at hD hJ2 ?_)⟩
      rw [if_pos p1, if_pos p1]
      have v1 := hV _ p2 p3
      have v2 := hU _ p2 p3
      refine ⟨zin_sm (by omega), ?_⟩
      refine s_add hR (by omega) (by unfold sgiv; rw [if_neg hg]; exact zand15 (by omega) (by omega)) (fun ξ hR2 hF2 => ?_)
      refine ⟨zin_sm (by omega), ?_⟩
      rw [show (n : Int) + 1 = ((n + 1 : Nat) : Int) by omega]
      exact ih (n + 1) ξ _ _ _ (by omega) hR2 (fr_tr hF hF2)
  exact key 16 0 _ _ _ _ rfl ⟨by rw [mup_self], fun r r0 r1 => by rw [mup_self] at r1; omega⟩ (fr_up fr_rf ⟨Or.inl rfl, rfl⟩)
