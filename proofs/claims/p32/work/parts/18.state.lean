/-! ===== a whole state ===== -/
def sref (s : Int → Int) (f : Int) : Int := s (1590 + f)
def slost (s : Int → Int) (f : Int) : Int := s (1600 + f)
def sits (s : Int → Int) (f b : Int) : Int := s (1610 + 27 * f + 3 * b)
def srin (s : Int → Int) (f b : Int) : Int := if sits s f b = 2 then sruns s f (sref s f) b else if sits s f b = 3 then sruns s f (-1) b else 0
def sccost (s : Int → Int) (f b : Int) : Int := if sits s f b = 0 then 1 else if sits s f b = 1 then 3 else 2 + 2 * srin s f b
def scost (s : Int → Int) (f : Int) : Int := 2 + isum (sccost s f) 0 (sblocks s).toNat
theorem sccost_b (s : Int → Int) (f b : Int) : 1 ≤ sccost s f b ∧ sccost s f b ≤ 34 := by
  have h1 := sruns_le s f (sref s f) b
  have h2 := sruns_le s f (-1) b
  unfold sccost srin
  split
  · omega
  · split
    · omega
    · split
      · omega
      · split <;> omega
theorem scost_b {s : Int → Int} (hD : WD s) (f : Int) : 2 ≤ scost s f ∧ scost s f ≤ 308 := by
  have h1 := WD_blocks hD
  have h2 := isum_bound (g := sccost s f) (lo := 0) (hi := 34) (sblocks s).toNat 0 (fun j _ _ => ⟨by have := sccost_b s f j; omega, (sccost_b s f j).2⟩)
  unfold scost
  omega
/-- a frame that may be: its cells, its reference, its mark, its codes -/
def WFf (s : Int → Int) (f : Int) : Prop := SV s f ∧ (sref s f = -1 ∨ (0 ≤ sref s f ∧ sref s f < f)) ∧ (slost s f = 0 ∨ slost s f = 1) ∧ ∀ b, 0 ≤ b → b < sblocks s → (0 ≤ sits s f b ∧ sits s f b ≤ 3) ∧ (sref s f = -1 → sits s f b = 3)
def WF (s : Int → Int) : Prop := WD s ∧ (0 ≤ s 2 ∧ s 2 ≤ 10) ∧ (0 ≤ s 3 ∧ s 3 ≤ 4) ∧ (0 ≤ s 4 ∧ s 4 ≤ 9) ∧ (0 ≤ s 5 ∧ s 5 ≤ 9) ∧ SV s (-1) ∧ ∀ f, 0 ≤ f → f < s 2 → WFf s f
/-- record F of the class shows frame f of s -/
def FR (μ : mzM) (F : Int) (s : Int → Int) (f : Int) : Prop := IM μ F s f ∧ μ 2 F 2 = sref s f ∧ μ 2 F 4 = slost s f ∧ μ 2 F 3 = scost s f ∧ ∀ b, 0 ≤ b → b < sblocks s → μ 5 F (4 * b) = sits s f b ∧ (sits s f b = 1 → μ 5 F (4 * b + 1) = s (1610 + 27 * f + 3 * b + 1) ∧ μ 5 F (4 * b + 2) = s (1610 + 27 * f + 3 * b + 2)) ∧ (2 ≤ sits s f b → μ 5 F (4 * b + 3) = srin s f b)
/-- state i of the class shows s -/
def ST (μ : mzM) (i : Int) (s : Int → Int) : Prop := (μ 1 i 3 = s 2 ∧ μ 1 i 4 = s 3 ∧ μ 1 i 5 = s 4 ∧ μ 1 i 6 = s 5) ∧ IM μ (78 + i) s (-1) ∧ ∀ f, 0 ≤ f → f < s 2 → FR μ (11 * i + f) s f
/-- the chain of a frame -/
def chn (s : Int → Int) : Nat → Int → List Int
  | 0, _ => []
  | n + 1, f => if f < 0 then [] else f :: chn s n (sref s f)
theorem chn_neg (s : Int → Int) (n : Nat) {f : Int} (h : f < 0) : chn s n f = [] := by
  cases n with
  | zero => rfl
  | succ n => unfold chn; rw [if_pos h]
theorem chn_pos (s : Int → Int) (n : Nat) {f : Int} (h : 0 ≤ f) : chn s (n + 1) f = f :: chn s n (sref s f) := by
  show (if f < 0 then _ else _) = _
  rw [if_neg (by omega)]
/-- a number below 0 or of a frame -/
abbrev fok (s : Int → Int) (f : Int) : Prop := f = -1 ∨ (0 ≤ f ∧ f < s 2)
theorem fok_ref {s : Int → Int} (hW : WF s) {f : Int} (h : 0 ≤ f ∧ f < s 2) : fok s (sref s f) := by
  rcases (hW.2.2.2.2.2.2 f h.1 h.2).2.1 with q | q
  · exact Or.inl q
  · exact Or.inr ⟨q.1, by omega⟩
theorem chn_stab {s : Int → Int} (hW : WF s) : ∀ (n m : Nat) (f : Int), fok s f → f < n → f < m → chn s n f = chn s m f := by
  intro n
  induction n with
  | zero => intro m f hf h1 h2; rw [chn_neg s _ (by omega), chn_neg s _ (by omega)]
  | succ n ih =>
    intro m f hf h1 h2
    rcases hf with hf | hf
    · rw [chn_neg s _ (by omega), chn_neg s _ (by omega)]
    · cases m with
      | zero => omega
      | succ m =>
        rw [chn_pos s n hf.1, chn_pos s m hf.1]
        have hr := fok_ref hW hf
        rcases (hW.2.2.2.2.2.2 f hf.1 hf.2).2.1 with q | q
        · rw [chn_neg s _ (by omega), chn_neg s _ (by omega)]
        · rw [ih m (sref s f) hr (by omega) (by omega)]
theorem chn_len (s : Int → Int) : ∀ (n : Nat) (f : Int), (chn s n f).length ≤ n
  | 0, _ => Nat.le_refl 0
  | n + 1, f => by
    unfold chn
    split
    · exact Nat.zero_le _
    · exact Nat.succ_le_succ (chn_len s n _)
def sgood (s : Int → Int) (f : Int) : Prop := ∀ g ∈ chn s 10 f, slost s g = 0
def sdepth (s : Int → Int) (f : Int) : Int := ((chn s 10 (sref s f)).length : Int)
def lsum (g : Int → Int) : List Int → Int
  | [] => 0
  | x :: l => g x + lsum g l
def sseek (s : Int → Int) (f : Int) : Int := lsum (scost s) (chn s 10 f)
theorem lsum_b {g : Int → Int} {hi : Int} (h : ∀ x, 0 ≤ g x ∧ g x ≤ hi) : ∀ l : List Int, 0 ≤ lsum g l ∧ lsum g l ≤ hi * l.length
  | [] => by simp [lsum]
  | x :: l => by
    have h1 := h x
    have h2 := lsum_b h l
    have e : hi * (((x :: l).length : Nat) : Int) = hi * l.length + hi := by rw [List.length_cons, Int.natCast_succ, Int.mul_add, Int.mul_one]
    unfold lsum
    omega
section St
variable {μ : mzM} {s : Int → Int} {i : Int} {K : Int → mzM → Prop}
theorem s_X6_frameAt {x : Int} (h : K (if 0 ≤ x ∧ x < 10 then 11 * i + x else 11 * i + 10) μ) : ZR f_X6_frameAt 2 [vR 1 i, vI x] μ K := by
  refine vc_X6_frameAt_0 ?_
  split
  · rw [if_neg (by omega)] at h; exact zlr h rfl
  · split
    · rw [if_pos (by omega)] at h; exact ⟨by omega, zlr h rfl⟩
    · rw [if_neg (by omega)] at h; exact zlr h rfl
theorem s_fa (hW : WF s) {x : Int} (hx : 0 ≤ x ∧ x < s 2) (h : K (11 * i + x) μ) : ZR f_X6_frameAt 2 [vR 1 i, vI x] μ K := by
  refine s_X6_frameAt ?_
  have := hW.2.1
  rw [if_pos (by omega)]
  exact h
theorem s_X6_isFrame (hS : ST μ i s) {x : Int} (h : K (if 0 ≤ x ∧ x < s 2 then 1 else 0) μ) : ZI f_X6_isFrame [vR 1 i, vI x] μ K := by
  refine vc_X6_isFrame_0 ?_
  rw [hS.1.1]
  split
  · rw [if_neg (by omega)] at h; exact zlf h rfl
  · split
    · rw [if_pos (by omega)] at h; exact zlf h rfl
    · rw [if_neg (by omega)] at h; exact zlf h rfl
theorem s_X6_isImage (hS : ST μ i s) {x : Int} (h1 : fok s x → K 1 μ) (h0 : ¬ fok s x → K 0 μ) : ZI f_X6_isImage [vR 1 i, vI x] μ K := by
  refine vc_X6_isImage_0 ?_
  split
  · next q => exact zlf (h1 (Or.inl q)) rfl
  · next q =>
    refine s_X6_isFrame hS ?_
    by_cases hx : 0 ≤ x ∧ x < s 2
    · rw [if_pos hx, if_neg (by omega)]; exact zlf (h1 (Or.inr hx)) rfl
    · rw [if_neg hx, if_pos rfl]; exact zlf (h0 (by rintro (z | z); exact q z; exact hx z)) rfl
/-- where the image of a number lies -/
def imo (i x : Int) : Int := if x = -1 then 78 + i else 11 * i + x
theorem s_X6_imageOf (hW : WF s) {x : Int} (hx : fok s x) (h : K (imo i x) μ) : ZR f_X6_imageOf 3 [vR 1 i, vI x] μ K := by
  refine vc_X6_imageOf_0 ?_
  unfold imo at h
  split
  · next q => rw [if_pos q] at h; exact zlr h rfl
  · next q =>
    rw [if_neg q] at h
    rcases hx with hx | hx
    · exact absurd hx q
    · exact s_fa hW hx (zlr h rfl)
theorem ST_im (hS : ST μ i s) {x : Int} (hx : fok s x) : IM μ (imo i x) s x := by
  unfold imo
  split
  · next q => rw [q]; exact hS.2.1
  · next q =>
    rcases hx with hx | hx
    · exact absurd hx q
    · exact (hS.2.2 x hx.1 hx.2).1
theorem WF_sv (hW : WF s) {x : Int} (hx : fok s x) : SV s x := by
  rcases hx with hx | hx
  · rw [hx]; exact hW.2.2.2.2.2.1
  · exact (hW.2.2.2.2.2.2 x hx.1 hx.2).1
theorem s_X6_isReadable (hW : WF s) (hS : ST μ i s) {x : Int} (hx : fok s x) (h1 : sgood s x → K 1 μ) (h0 : ¬ sgood s x → K 0 μ) : ZI f_X6_isReadable [vR 1 i, vI x] μ K := by
  refine vc_X6_isReadable_0 ?_
  have key : ∀ (n : Nat) (k l : Int), 0 ≤ k → k + n = 10 → fok s l → ((∀ g ∈ chn s n l, slost s g = 0) → K 1 μ) → (¬ (∀ g ∈ chn s n l, slost s g = 0) → K 0 μ) → ZW f_X6_isReadable 4 [vR 1 i, vI x, vI l, vI k] [] μ (fun r ν => ∃ a, r = some (vI a) ∧ K a ν) := by
    intro n
    induction n with
    | zero =>
      intro k l _ hk _ h1 _
      refine vc_X6_isReadable_4 ?_
      rw [if_neg (by omega)]
      exact zlf (h1 (fun g hg => by cases hg)) rfl
    | succ n ih =>
      intro k l hk0 hk hl h1 h0
      refine vc_X6_isReadable_4 ?_
      rw [if_pos (by omega)]
      split
      · next q => exact zlf (h1 (fun g hg => by rw [chn_neg s _ q] at hg; cases hg)) rfl
      · next q =>
        have hl2 : 0 ≤ l ∧ l < s 2 := by omega
        have hF := hS.2.2 l hl2.1 hl2.2
        rw [chn_pos s n hl2.1] at h1 h0
        refine s_fa hW hl2 ?_
        rw [hF.2.2.1]
        split
        · next q2 =>
          refine s_fa hW hl2 ⟨zin_sm (by omega), ?_⟩
          rw [hF.2.1]
          refine ih (k + 1) (sref s l) (by omega) (by omega) (fok_ref hW hl2) (fun z => h1 (fun g hg => ?_)) (fun z => h0 (fun w => z (fun g hg => w g (List.mem_cons_of_mem _ hg))))
          rcases List.mem_cons.mp hg with rfl | hg
          · exact q2
          · exact z g hg
        · next q2 => exact zlf (h0 (fun w => q2 (w l List.mem_cons_self))) rfl
  exact key 10 0 x (by omega) (by omega) hx h1 h0
theorem s_X6_depthOf (hW : WF s) (hS : ST μ i s) {x : Int} (hx : 0 ≤ x ∧ x < s 2) (h : K (sdepth s x) μ) : ZI f_X6_depthOf [vR 1 i, vI x] μ K := by
  refine vc_X6_depthOf_0 (s_fa hW hx ?_)
  have hF := hS.2.2 x hx.1 hx.2
  rw [hF.2.1]
  have key : ∀ (n : Nat) (k l d : Int), k + n = 10 → fok s l → 0 ≤ d → d ≤ k → K (d + ((chn s n l).length : Int)) μ → ZW f_X6_depthOf 9 [vR 1 i, vI x, vI d, vI l, vI k] [] μ (fun r ν => ∃ a, r = some (vI a) ∧ K a ν) := by
    intro n
    induction n with
    | zero =>
      intro k l d hk _ _ _ h
      refine vc_X6_depthOf_9 ?_
      rw [if_neg (by omega)]
      exact zlf h (by simp [chn])
    | succ n ih =>
      intro k l d hk hl d0 dk h
      refine vc_X6_depthOf_9 ?_
      rw [if_pos (by omega)]
      split
      · next q => exact zlf h (by rw [chn_neg s _ q]; simp)
      · next q =>
        have hl2 : 0 ≤ l ∧ l < s 2 := by omega
        have hF2 := hS.2.2 l hl2.1 hl2.2
        refine ⟨zin_sm (by omega), s_fa hW hl2 ⟨zin_sm (by omega), ?_⟩⟩
        rw [hF2.2.1]
        refine ih (k + 1) (sref s l) (d + 1) (by omega) (fok_ref hW hl2) (by omega) (by omega) ?_
        rw [chn_pos s n hl2.1, List.length_cons] at h
        rw [show d + 1 + ((chn s n (sref s l)).length : Int) = d + (((chn s n (sref s l)).length + 1 : Nat) : Int) by omega]
        exact h
  exact key 10 0 (sref s x) 0 (by omega) (fok_ref hW hx) (by omega) (by omega) (by rw [Int.zero_add]; exact h)
theorem s_X6_mayBe (hW : WF s) (hS : ST μ i s) {x : Int} (hx : 0 ≤ x ∧ x < s 2) (h1 : sgood s x ∧ sdepth s x < s 4 → K 1 μ) (h0 : ¬ (sgood s x ∧ sdepth s x < s 4) → K 0 μ) : ZI f_X6_mayBeReference [vR 1 i, vI x] μ K := by
  refine vc_X6_mayBeReference_0 (s_X6_isReadable hW hS (Or.inr hx) (fun g => ?_) (fun g => ?_))
  · rw [if_neg (by omega)]
    refine s_X6_depthOf hW hS hx ?_
    rw [hS.1.2.2.1]
    split
    · next q => exact zlf (h1 ⟨g, q⟩) rfl
    · next q => exact zlf (h0 (fun z => q z.2)) rfl
  · rw [if_pos rfl]; exact zlf (h0 (fun z => g z.1)) rfl
theorem s_X6_seekCost (hW : WF s) (hS : ST μ i s) {x : Int} (hx : 0 ≤ x ∧ x < s 2) (h : K (sseek s x) μ) : ZI f_X6_seekCost [vR 1 i, vI x] μ K := by
  refine vc_X6_seekCost_0 ?_
  have key : ∀ (n : Nat) (k l d : Int), k + n = 10 → fok s l → 0 ≤ d → d ≤ 308 * k → K (d + lsum (scost s) (chn s n l)) μ → ZW f_X6_seekCost 6 [vR 1 i, vI x, vI d, vI l, vI k] [] μ (fun r ν => ∃ a, r = some (vI a) ∧ K a ν) := by
    intro n
    induction n with
    | zero =>
      intro k l d hk _ _ _ h
      refine vc_X6_seekCost_6 ?_
      rw [if_neg (by omega)]
      exact zlf h (by simp [chn, lsum])
    | succ n ih =>
      intro k l d hk hl d0 dk h
      refine vc_X6_seekCost_6 ?_
      rw [if_pos (by omega)]
      split
      · next q => exact zlf h (by rw [chn_neg s _ q]; simp [lsum])
      · next q =>
        have hl2 : 0 ≤ l ∧ l < s 2 := by omega
        have hF2 := hS.2.2 l hl2.1 hl2.2
        have hb := scost_b hW.1 l
        refine s_fa hW hl2 ?_
        rw [hF2.2.2.2.1]
        refine ⟨zin_sm (by omega), s_fa hW hl2 ⟨zin_sm (by omega), ?_⟩⟩
        rw [hF2.2.1]
        refine ih (k + 1) (sref s l) (d + scost s l) (by omega) (fok_ref hW hl2) (by omega) (by omega) ?_
        rw [chn_pos s n hl2.1] at h
        rw [Int.add_assoc]
        exact h
  exact key 10 0 x 0 (by omega) (Or.inr hx) (by omega) (by omega) (by rw [Int.zero_add]; exact h)
theorem s_X6_chainHas (hW : WF s) (hS : ST μ i s) {x w : Int} (hx : 0 ≤ x ∧ x < s 2) (h1 : w ∈ chn s 10 x → K 1 μ) (h0 : w ∉ chn s 10 x → K 0 μ) : ZI f_X6_chainHas [vR 1 i, vI x, vI w] μ K := by
  refine vc_X6_chainHas_0 ?_
  have key : ∀ (n : Nat) (k l : Int), 0 ≤ k → k + n = 10 → fok s l → (w ∈ chn s n l → K 1 μ) → (w ∉ chn s n l → K 0 μ) → ZW f_X6_chainHas 4 [vR 1 i, vI x, vI w, vI l, vI k] [] μ (fun r ν => ∃ a, r = some (vI a) ∧ K a ν) := by
    intro n
    induction n with
    | zero =>
      intro k l _ hk _ _ h0
      refine vc_X6_chainHas_4 ?_
      rw [if_neg (by omega)]
      exact zlf (h0 (fun z => by cases z)) rfl
    | succ n ih =>
      intro k l hk0 hk hl h1 h0
      refine vc_X6_chainHas_4 ?_
      rw [if_pos (by omega)]
      split
      · next q => exact zlf (h0 (fun z => by rw [chn_neg s _ q] at z; cases z)) rfl
      · next q =>
        have hl2 : 0 ≤ l ∧ l < s 2 := by omega
        have hF2 := hS.2.2 l hl2.1 hl2.2
        rw [chn_pos s n hl2.1] at h1 h0
        split
        · next q2 => exact zlf (h1 (by rw [q2]; exact List.mem_cons_self)) rfl
        · next q2 =>
          refine s_fa hW hl2 ⟨zin_sm (by omega), ?_⟩
          rw [hF2.2.1]
          refine ih (k + 1) (sref s l) (by omega) (by omega) (fok_ref hW hl2) (fun z => h1 (List.mem_cons_of_mem _ z)) (fun z => h0 (fun y => ?_))
          rcases List.mem_cons.mp y with y | y
          · exact q2 y.symm
          · exact z y
  exact key 10 0 x (by omega) (by omega) (Or.inr hx) h1 h0
/-- how many frames can be decoded -/
noncomputable def sgoods (s : Int → Int) : Int := isum (fun f => @ite _ (sgood s f) (Classical.propDecidable _) 1 0) 0 (s 2).toNat
theorem s_X6_readable (hW : WF s) (hS : ST μ i s) (h : K (sgoods s) μ) : ZI f_X6_readableFrames [vR 1 i] μ K := by
  refine vc_X6_readableFrames_0 ?_
  have h2 := hW.2.1
  refine ifold_loop (g := fun d f => d + @ite _ (sgood s f) (Classical.propDecidable _) 1 0) (C := fun d k => ZW f_X6_readableFrames 4 [vR 1 i, vI d, vI k] [] μ (fun r ν => ∃ a, r = some (vI a) ∧ K a ν)) (I := fun d k => 0 ≤ d ∧ d ≤ k) (lo := 0) (hi := s 2) ?_ ?_ (s 2).toNat 0 0 (by omega) (by omega) (by omega) ?_
  · intro d k _ _ hd
    split <;> omega
  · intro d k k0 k1 hd hC
    refine vc_X6_readableFrames_4 ?_
    rw [hS.1.1, if_pos k1]
    refine s_X6_isReadable hW hS (Or.inr ⟨k0, k1⟩) (fun g => ?_) (fun g => ?_)
    · rw [if_neg (by omega)]
      rw [if_pos g] at hC
      exact ⟨zin_sm (by omega), zin_sm (by omega), hC⟩
    · rw [if_pos rfl]
      rw [if_neg g, Int.add_zero] at hC
      exact ⟨zin_sm (by omega), hC⟩
  · intro _
    refine vc_X6_readableFrames_4 ?_
    rw [hS.1.1, if_neg (by omega)]
    exact zlf h rfl
def scosts (s : Int → Int) : Int := isum (scost s) 0 (s 2).toNat
theorem s_X6_costOfRecords (hW : WF s) (hS : ST μ i s) (h : K (scosts s) μ) : ZI f_X6_costOfRecords [vR 1 i] μ K := by
  refine vc_X6_costOfRecords_0 ?_
  have h2 := hW.2.1
  refine ifold_loop (g := fun d f => d + scost s f) (C := fun d k => ZW f_X6_costOfRecords 4 [vR 1 i, vI d, vI k] [] μ (fun r ν => ∃ a, r = some (vI a) ∧ K a ν)) (I := fun d k => 0 ≤ d ∧ d ≤ 308 * k) (lo := 0) (hi := s 2) ?_ ?_ (s 2).toNat 0 0 (by omega) (by omega) (by omega) ?_
  · intro d k _ _ hd
    have := scost_b hW.1 k
    omega
  · intro d k k0 k1 hd hC
    refine vc_X6_costOfRecords_4 ?_
    rw [hS.1.1, if_pos k1]
    have hb := scost_b hW.1 k
    refine s_fa hW ⟨k0, k1⟩ ?_
    rw [(hS.2.2 k k0 k1).2.2.2.1]
    exact ⟨zin_sm (by omega), zin_sm (by omega), hC⟩
  · intro _
    refine vc_X6_costOfRecords_4 ?_
    rw [hS.1.1, if_neg (by omega)]
    exact zlf h rfl
theorem s_X1_codePart {F b p : Int} (b0 : 0 ≤ b) (b1 : b < 9) (p0 : 0 ≤ p) (p1 : p < 4) (h : K (μ 5 F (4 * b + p)) μ) : ZI f_X1_codePart [vR 2 F, vI b, vI p] μ K := by
  refine vc_X1_codePart_0 ?_
  rw [show b * 4 + p = 4 * b + p by omega]
  refine ⟨zin_sm (by omega), zin_sm (by omega), ?_⟩
  rw [if_neg (by omega), if_pos (by omega)]
  exact ⟨⟨by omega, by omega⟩, zlf h rfl⟩
/-- how many codes of a kind -/
def skinds (s : Int → Int) (f k : Int) : Int := isum (fun b => if sits s f b = k then 1 else 0) 0 (sblocks s).toNat
theorem s_X1_codesOfKind (hD : WD s) {F f : Int} (hF : FR μ F s f) {q : Int} (h : K (skinds s f q) μ) : ZI f_X1_codesOfKind [vR 2 F, vI q] μ K := by
  refine vc_X1_codesOfKind_0 ?_
  have h2 := WD_blocks hD
  refine ifold_loop (g := fun d b => d + if sits s f b = q then 1 else 0) (C := fun d k => ZW f_X1_codesOfKind 4 [vR 2 F, vI q, vI d, vI k] [] μ (fun r ν => ∃ a, r = some (vI a) ∧ K a ν)) (I := fun d k => 0 ≤ d ∧ d ≤ k) (lo := 0) (hi := sblocks s) ?_ ?_ (sblocks s).toNat 0 0 (by omega) (by omega) (by omega) ?_
  · intro d k _ _ hd
    split <;> omega
  · intro d k k0 k1 hd hC
    refine vc_X1_codesOfKind_4 (s_X2_blocks hD hF.1 ?_)
    rw [if_pos k1]
    refine s_X1_codePart k0 (by omega) (by omega) (by omega) ?_
    rw [Int.add_zero, (hF.2.2.2.2 k k0 k1).1]
    split
    · next z =>
      rw [if_pos z] at hC
      exact ⟨zin_sm (by omega), zin_sm (by omega), hC⟩
    · next z =>
      rw [if_neg z, Int.add_zero] at hC
      exact ⟨zin_sm (by omega), hC⟩
  · intro _
    refine vc_X1_codesOfKind_4 (s_X2_blocks hD hF.1 ?_)
    rw [if_neg (by omega)]
    exact zlf h rfl
end St
