/-! ===== the questions: their answers, and the class's ===== -/
noncomputable def cif {α : Type} (p : Prop) (a b : α) : α := @ite α p (Classical.propDecidable p) a b
theorem cif_p {α : Type} {p : Prop} {a b : α} (h : p) : cif p a b = a := by unfold cif; rw [if_pos h]
theorem cif_n {α : Type} {p : Prop} {a b : α} (h : ¬ p) : cif p a b = b := by unfold cif; rw [if_neg h]
abbrev isF (s : Int → Int) (f : Int) : Prop := 0 ≤ f ∧ f < s 2
abbrev isC (s : Int → Int) (c : Int) : Prop := 0 ≤ c ∧ c < s 0 * s 1
abbrev isB (s : Int → Int) (b : Int) : Prop := 0 ≤ b ∧ b < sblocks s
abbrev isP (s : Int → Int) (x y : Int) : Prop := (0 ≤ x ∧ x ≤ s 0 - 4) ∧ (0 ≤ y ∧ y ≤ s 1 - 4)
noncomputable def qcell (s : Int → Int) (x : Int) : Int := cif (isC s x) (sv s (-1) x) (-1)
noncomputable def qdigest (s : Int → Int) (f x y : Int) : Int := cif (fok s f ∧ isP s x y) (cif (sgood s f) (sdig s f x y) (-2)) (-1)
noncomputable def qframe (s : Int → Int) (f w : Int) : Int := cif (isF s f) (if w = 0 then (if sref s f = -1 then -9 else sref s f) else if w = 1 then scost s f else if w = 2 then sseek s f else if w = 3 then sdepth s f else if w = 4 then cif (sgood s f) 1 0 else if w = 5 then skinds s f 0 else if w = 6 then skinds s f 1 else if w = 7 then skinds s f 2 else if w = 8 then skinds s f 3 else -1) (-1)
noncomputable def qcode (s : Int → Int) (f b p : Int) : Int := cif (isF s f ∧ isB s b) (if p = 0 then sits s f b else if p = 1 then (if sits s f b = 1 then s (1610 + 27 * f + 3 * b + 1) else -9) else if p = 2 then (if sits s f b = 1 then s (1610 + 27 * f + 3 * b + 2) else -9) else if p = 3 then (if 2 ≤ sits s f b then srin s f b else -9) else -1) (-1)
noncomputable def qrun (s : Int → Int) (f b r p : Int) : Int := cif ((isF s f ∧ isB s b) ∧ 0 ≤ r ∧ 0 ≤ p ∧ p ≤ 1) (if r < srin s f b then (if p = 0 then many (sgiv s f (if sits s f b = 2 then sref s f else -1) b) r 16 else rval (sgiv s f (if sits s f b = 2 then sref s f else -1) b) r 16) else -9) (-1)
noncomputable def qpixel (s : Int → Int) (f c : Int) : Int := cif (isF s f ∧ isC s c) (cif (sgood s f) (sv s f c) (-2)) (-1)
noncomputable def qcount (s : Int → Int) (n t w : Int) : Int := if w = 0 then s 0 else if w = 1 then s 1 else if w = 2 then s 2 else if w = 3 then s 3 else if w = 4 then s 4 else if w = 5 then s 5 else if w = 6 then scosts s else if w = 7 then sgoods s else if w = 8 then t else if w = 9 then n else -1
noncomputable def qcostWith (s : Int → Int) (r : Int) : Int := cif (fok s r) (cif (sgood s r) (call s (-1) r) (-2)) (-1)
noncomputable def qdiff (s : Int → Int) (f g : Int) : Int := cif (fok s f ∧ fok s g) (cif (sgood s f ∧ sgood s g) (sdiff s f g) (-2)) (-1)
/-- the first part in a row that is like block b of the canvas, else e -/
noncomputable def frow (s : Int → Int) (f b y e : Int) : Nat → Int → Int
  | 0, _ => e
  | n + 1, x => cif (slike s (-1) (sleft s b) (stop s b) f x y) (100 * x + y) (frow s f b y e n (x + 1))
noncomputable def fall (s : Int → Int) (f b : Int) : Nat → Int → Int
  | 0, _ => -9
  | n + 1, y => frow s f b y (fall s f b n (y + 1)) (s 0 - 3).toNat 0
noncomputable def qfind (s : Int → Int) (f b : Int) : Int := cif (isF s f ∧ isB s b) (cif (sgood s f) (fall s f b (s 1 - 3).toNat 0) (-2)) (-1)
/-- parts p and q (by their numbers) have one digest and differ -/
noncomputable def fpair (s : Int → Int) (f p q : Int) : Int := cif (sdig s f (p % (s 0 - 3)) (p / (s 0 - 3)) = sdig s f (q % (s 0 - 3)) (q / (s 0 - 3)) ∧ ¬ slike s f (p % (s 0 - 3)) (p / (s 0 - 3)) f (q % (s 0 - 3)) (q / (s 0 - 3))) 1 0
def spn (s : Int → Int) : Int := (s 0 - 3) * (s 1 - 3)
noncomputable def sfalse (s : Int → Int) (f : Int) : Int := isum (fun p => isum (fun q => fpair s f p q) (p + 1) (spn s - (p + 1)).toNat) 0 (spn s).toNat
noncomputable def qfalse (s : Int → Int) (f : Int) : Int := cif (fok s f) (cif (sgood s f) (sfalse s f) (-2)) (-1)
def qgreat (s : Int → Int) : Int := if s 2 < 1 then -9 else ifold (fun a f => if a < sseek s f then sseek s f else a) 0 0 (s 2).toNat
noncomputable def qdep (s : Int → Int) (f : Int) : Int := cif (isF s f) (isum (fun g => cif (f ∈ chn s 10 g) 1 0) 0 (s 2).toNat) (-1)
noncomputable def pst (s : Int → Int) (f : Int) (a g : Int) : Int := cif (sgood s g ∧ (a = -9 ∨ sdiff s f g < sdiff s f a)) g a
noncomputable def qpatch (s : Int → Int) (f : Int) : Int := cif (isF s f) (if slost s f = 0 then -2 else ifold (pst s f) (-9) 0 (s 2).toNat) (-1)
noncomputable def qplanCost (s : Int → Int) : Int := if s 2 < 1 then -9 else (pbest s).1
noncomputable def qplanKeys (s : Int → Int) : Int := if s 2 < 1 then -9 else (pbest s).2
noncomputable def chstep (s : Int → Int) (a : Int × Int × Int) (f : Int) : Int × Int × Int := cif ((sgood s f ∧ sdepth s f < s 4) ∧ (call s (-1) f < a.2.1 ∨ (call s (-1) f = a.2.1 ∧ sdepth s f + 1 ≤ a.2.2))) (f, call s (-1) f, sdepth s f + 1) a
noncomputable def schosen (s : Int → Int) : Int := (ifold (chstep s) (-1, call s (-1) (-1), 0) 0 (s 2).toNat).1
theorem sgood_neg (s : Int → Int) {f : Int} (h : f < 0) : sgood s f := fun g hg => by rw [chn_neg s _ h] at hg; cases hg
theorem sdiff_b {s : Int → Int} (hD : WD s) (f g : Int) : 0 ≤ sdiff s f g ∧ sdiff s f g ≤ 144 := by
  have hm := WD_mul hD
  have h := isum_bound (g := fun c => if sv s f c = sv s g c then 0 else 1) (lo := 0) (hi := 1) (s 0 * s 1).toNat 0 (fun j _ _ => by split <;> omega)
  unfold sdiff
  omega
theorem sseek_b {s : Int → Int} (hW : WF s) {f : Int} (hf : isF s f) : 2 ≤ sseek s f ∧ sseek s f ≤ 3080 := by
  have h1 := lsum_b (g := scost s) (hi := 308) (fun x => ⟨by have := scost_b hW.1 x; omega, (scost_b hW.1 x).2⟩)
  have h2 := chn_len s 10 f
  have h3 := h1 (chn s 10 f)
  have h4 := h1 (chn s 9 (sref s f))
  have h5 := scost_b hW.1 f
  unfold sseek
  refine ⟨?_, by omega⟩
  rw [chn_pos s 9 hf.1]
  show 2 ≤ scost s f + lsum (scost s) (chn s 9 (sref s f))
  omega
theorem schosen_ok {s : Int → Int} (hW : WF s) : fok s (schosen s) := by
  have h10 := hW.2.1
  unfold schosen
  exact ifold_inv (g := chstep s) (I := fun a _ => fok s a.1) (s 2).toNat (-1, call s (-1) (-1), 0) 0 (fun a j j0 j1 h => by
    unfold chstep cif
    split
    · exact Or.inr ⟨j0, by omega⟩
    · exact h) (Or.inl rfl)
section Ask
variable {μ : mzM} {s : Int → Int} {n : Int} {p : Int → Int → Int} {K : Int → mzM → Prop}
theorem s_cell {x : Int} (hW : WF s) (hS : ST μ 0 s) (h : K (qcell s x) μ) : ZI f_X7_cell [vR 0 0, vI x] μ K := by
  have hm := WD_mul hW.1
  refine vc_X7_cell_0 (s_X2_hasCell hW.1 hS.2.1 ?_)
  unfold qcell at h
  by_cases hx : isC s x
  · rw [cif_p hx] at h
    rw [if_pos hx, if_neg (by omega)]
    exact s_num hx.1 (by omega) (zlf h (hS.2.1.2.2 x hx.1 hx.2))
  · rw [cif_n hx] at h
    rw [if_neg hx, if_pos rfl]
    exact zlf h rfl
theorem s_frame {f w : Int} (hW : WF s) (hS : ST μ 0 s) (h : K (qframe s f w) μ) : ZI f_X7_frame [vR 0 0, vI f, vI w] μ K := by
  unfold qframe at h
  refine vc_X7_frame_0 (s_X6_isFrame hS ?_)
  by_cases hf : isF s f
  · rw [cif_p hf] at h
    rw [if_pos hf, if_neg (by omega)]
    refine s_fa hW hf ?_
    have hR := hS.2.2 f hf.1 hf.2
    rw [hR.2.1, hR.2.2.2.1]
    split
    · next q =>
      rw [if_pos q] at h
      split
      · next z => rw [if_pos z] at h; exact zlf h rfl
      · next z => rw [if_neg z] at h; exact zlf h rfl
    rename_i q
    rw [if_neg q] at h
    split
    · next q => rw [if_pos q] at h; exact zlf h rfl
    rename_i q
    rw [if_neg q] at h
    split
    · next q => rw [if_pos q] at h; exact s_X6_seekCost hW hS hf (zlf h rfl)
    rename_i q
    rw [if_neg q] at h
    split
    · next q => rw [if_pos q] at h; exact s_X6_depthOf hW hS hf (zlf h rfl)
    rename_i q
    rw [if_neg q] at h
    split
    · next q =>
      rw [if_pos q] at h
      refine s_X6_isReadable hW hS (Or.inr hf) (fun g => ?_) (fun g => ?_)
      · rw [cif_p g] at h; rw [if_neg (by omega)]; exact zlf h rfl
      · rw [cif_n g] at h; rw [if_pos rfl]; exact zlf h rfl
    rename_i q
    rw [if_neg q] at h
    split
    · next q => rw [if_pos q] at h; exact s_X1_codesOfKind hW.1 hR (zlf h rfl)
    rename_i q
    rw [if_neg q] at h
    split
    · next q => rw [if_pos q] at h; exact s_X1_codesOfKind hW.1 hR (zlf h rfl)
    rename_i q
    rw [if_neg q] at h
    split
    · next q => rw [if_pos q] at h; exact s_X1_codesOfKind hW.1 hR (zlf h rfl)
    rename_i q
    rw [if_neg q] at h
    split
    · next q => rw [if_pos q] at h; exact s_X1_codesOfKind hW.1 hR (zlf h rfl)
    next q => rw [if_neg q] at h; exact zlf h rfl
  · rw [cif_n hf] at h
    rw [if_neg hf, if_pos rfl]
    exact zlf h rfl
theorem s_pixel {f c : Int} (hW : WF s) (hS : ST μ 0 s) (h : K (qpixel s f c) μ) : ZI f_X7_pixel [vR 0 0, vI f, vI c] μ K := by
  unfold qpixel at h
  have hm := WD_mul hW.1
  refine vc_X7_pixel_0 (s_X6_isFrame hS ?_)
  by_cases hf : isF s f
  · rw [if_pos hf, if_neg (by omega)]
    refine s_X2_hasCell hW.1 hS.2.1 ?_
    by_cases hc : isC s c
    · rw [cif_p ⟨hf, hc⟩] at h
      rw [if_pos hc, if_neg (by omega)]
      refine s_X6_isReadable hW hS (Or.inr hf) (fun g => ?_) (fun g => ?_)
      · rw [cif_p g] at h
        rw [if_neg (by omega)]
        exact s_X6_imageOf hW (Or.inr hf) (s_num hc.1 (by omega) (zlf h ((ST_im hS (Or.inr hf)).2.2 c hc.1 hc.2)))
      · rw [cif_n g] at h
        rw [if_pos rfl]
        exact zlf h rfl
    · rw [cif_n (fun z => hc z.2)] at h
      rw [if_neg hc, if_pos rfl]
      exact zlf h rfl
  · rw [cif_n (fun z => hf z.1)] at h
    rw [if_neg hf, if_pos rfl]
    exact zlf h rfl
theorem s_count {w : Int} (hW : WF s) (hC : CI μ s n p) (h : K (qcount s n (μ 8 0 1) w) μ) : ZI f_X7_count [vR 0 0, vI w] μ K := by
  unfold qcount at h
  obtain ⟨hS, -, hn, -⟩ := hC
  refine vc_X7_count_0 ?_
  have e1 : μ 3 78 1 = s 0 := hS.2.1.1
  have e2 : μ 3 78 2 = s 1 := hS.2.1.2.1
  rw [e1, e2, hS.1.1, hS.1.2.1, hS.1.2.2.1, hS.1.2.2.2, hn.1]
  split
  · next q => rw [if_pos q] at h; exact zlf h rfl
  rename_i q
  rw [if_neg q] at h
  split
  · next q => rw [if_pos q] at h; exact zlf h rfl
  rename_i q
  rw [if_neg q] at h
  split
  · next q => rw [if_pos q] at h; exact zlf h rfl
  rename_i q
  rw [if_neg q] at h
  split
  · next q => rw [if_pos q] at h; exact zlf h rfl
  rename_i q
  rw [if_neg q] at h
  split
  · next q => rw [if_pos q] at h; exact zlf h rfl
  rename_i q
  rw [if_neg q] at h
  split
  · next q => rw [if_pos q] at h; exact zlf h rfl
  rename_i q
  rw [if_neg q] at h
  split
  · next q => rw [if_pos q] at h; exact s_X6_costOfRecords hW hS (zlf h rfl)
  rename_i q
  rw [if_neg q] at h
  split
  · next q => rw [if_pos q] at h; exact s_X6_readable hW hS (zlf h rfl)
  rename_i q
  rw [if_neg q] at h
  split
  · next q => rw [if_pos q] at h; exact zlf h rfl
  rename_i q
  rw [if_neg q] at h
  split
  · next q => rw [if_pos q] at h; exact zlf h rfl
  next q => rw [if_neg q] at h; exact zlf h rfl
theorem s_costWith {r : Int} (hW : WF s) (hS : ST μ 0 s) (h : ∀ ν, fr Psc μ ν → K (qcostWith s r) ν) : ZI f_X7_costWith [vR 0 0, vI r] μ K := by
  have hμ := h μ fr_rf
  unfold qcostWith at h hμ
  refine vc_X7_costWith_0 (s_X6_isImage hS (fun hf => ?_) (fun hf => ?_))
  · rw [cif_p hf] at h hμ
    rw [if_neg (by omega)]
    refine s_X6_isReadable hW hS hf (fun g => ?_) (fun g => ?_)
    · rw [cif_p g] at h
      rw [if_neg (by omega)]
      exact s_costOfCanvas hW hS hf (fun ν _ hF => zlf (h ν hF) rfl)
    · rw [cif_n g] at hμ
      rw [if_pos rfl]
      exact zlf hμ rfl
  · rw [cif_n hf] at hμ
    rw [if_pos rfl]
    exact zlf hμ rfl
theorem s_difference {f g : Int} (hW : WF s) (hS : ST μ 0 s) (h : K (qdiff s f g) μ) : ZI f_X7_difference [vR 0 0, vI f, vI g] μ K := by
  unfold qdiff at h
  refine vc_X7_difference_0 (s_X6_isImage hS (fun hf => ?_) (fun hf => ?_))
  · rw [if_neg (by omega)]
    refine s_X6_isImage hS (fun hg => ?_) (fun hg => ?_)
    · rw [cif_p ⟨hf, hg⟩] at h
      rw [if_neg (by omega)]
      refine s_X6_isReadable hW hS hf (fun g1 => ?_) (fun g1 => ?_)
      · rw [if_neg (by omega)]
        refine s_X6_isReadable hW hS hg (fun g2 => ?_) (fun g2 => ?_)
        · rw [cif_p ⟨g1, g2⟩] at h
          rw [if_neg (by omega)]
          exact s_X6_imageOf hW hf (s_X6_imageOf hW hg (s_X2_cellsUnlike hW.1 (ST_im hS hf) (ST_im hS hg) (zlf h rfl)))
        · rw [cif_n (fun z => g2 z.2)] at h
          rw [if_pos rfl]
          exact zlf h rfl
      · rw [cif_n (fun z => g1 z.1)] at h
        rw [if_pos rfl]
        exact zlf h rfl
    · rw [cif_n (fun z => hg z.2)] at h
      rw [if_pos rfl]
      exact zlf h rfl
  · rw [cif_n (fun z => hf z.1)] at h
    rw [if_pos rfl]
    exact zlf h rfl
end Ask
