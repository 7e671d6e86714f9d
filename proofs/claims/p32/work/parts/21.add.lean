/-! ===== states that agree; a record that is added ===== -/
def SAME (s : Int → Int) (g : Int) (s' : Int → Int) (f : Int) : Prop := ∀ c, 0 ≤ c → c < s 0 * s 1 → sv s' f c = sv s g c
/-- frame f is the same in both -/
def AGx (s s' : Int → Int) (f : Int) : Prop := SAME s f s' f ∧ sref s' f = sref s f ∧ ∀ b, 0 ≤ b → b < sblocks s → sits s' f b = sits s f b ∧ s' (1610 + 27 * f + 3 * b + 1) = s (1610 + 27 * f + 3 * b + 1) ∧ s' (1610 + 27 * f + 3 * b + 2) = s (1610 + 27 * f + 3 * b + 2)
def AG (s s' : Int → Int) (f : Int) : Prop := AGx s s' f ∧ slost s' f = slost s f
theorem sgiv_same {s s' : Int → Int} {f f' r r' b : Int} (hD : WD s) (h0 : s' 0 = s 0) (h1 : s' 1 = s 1) (hf : SAME s f s' f') (hr : r = -1 ↔ r' = -1) (hg : r ≠ -1 → SAME s r s' r') (b0 : 0 ≤ b) (b1 : b < sblocks s) {k : Int} (k0 : 0 ≤ k) (k1 : k < 16) : sgiv s' f' r' b k = sgiv s f r b k := by
  obtain ⟨hx, hy⟩ := WD_blk hD b0 b1
  obtain ⟨p1, p2, p3, p4⟩ := part_pl hD hx hy k0 k1
  have e1 : sleft s' b = sleft s b := by unfold sleft; rw [h0]
  have e2 : stop s' b = stop s b := by unfold stop; rw [h0]
  unfold sgiv
  rw [e1, e2]
  have e3 : spl s' (sleft s b + k % 4) (stop s b + k / 4) = spl s (sleft s b + k % 4) (stop s b + k / 4) := by unfold spl; rw [h0]
  rw [e3, hf _ p2 p3]
  by_cases q : r = -1
  · rw [if_pos q, if_pos (hr.mp q)]
  · rw [if_neg q, if_neg (fun z => q (hr.mpr z)), hg q _ p2 p3]
theorem sruns_same {s s' : Int → Int} {f f' r r' b : Int} (hD : WD s) (h0 : s' 0 = s 0) (h1 : s' 1 = s 1) (hf : SAME s f s' f') (hr : r = -1 ↔ r' = -1) (hg : r ≠ -1 → SAME s r s' r') (b0 : 0 ≤ b) (b1 : b < sblocks s) : sruns s' f' r' b = sruns s f r b := by
  unfold sruns
  rw [num_congr 15 (fun k k0 k1 => sgiv_same hD h0 h1 hf hr hg b0 b1 k0 (by omega))]
theorem sblocks_same {s s' : Int → Int} (h0 : s' 0 = s 0) (h1 : s' 1 = s 1) : sblocks s' = sblocks s := by unfold sblocks; rw [h0, h1]
theorem WD_same {s s' : Int → Int} (hD : WD s) (h0 : s' 0 = s 0) (h1 : s' 1 = s 1) : WD s' := by unfold WD; rw [h0, h1]; exact hD
/-- a frame that agrees has the same costs -/
theorem srin_ag {s s' : Int → Int} {f b : Int} (hD : WD s) (h0 : s' 0 = s 0) (h1 : s' 1 = s 1) (hA : AGx s s' f) (hg : sref s f ≠ -1 → SAME s (sref s f) s' (sref s f)) (b0 : 0 ≤ b) (b1 : b < sblocks s) : srin s' f b = srin s f b := by
  obtain ⟨a1, a2, a4⟩ := hA
  unfold srin
  rw [(a4 b b0 b1).1, a2, sruns_same hD h0 h1 a1 Iff.rfl hg b0 b1, sruns_same hD h0 h1 a1 Iff.rfl (fun q => absurd rfl q) b0 b1]
theorem scost_ag {s s' : Int → Int} {f : Int} (hD : WD s) (h0 : s' 0 = s 0) (h1 : s' 1 = s 1) (hA : AGx s s' f) (hg : sref s f ≠ -1 → SAME s (sref s f) s' (sref s f)) : scost s' f = scost s f := by
  unfold scost
  rw [sblocks_same h0 h1]
  have hb := WD_blocks hD
  rw [isum_congr (sblocks s).toNat 0 (fun b b0 b1 => ?_)]
  unfold sccost
  rw [(hA.2.2 b b0 (by omega)).1, srin_ag hD h0 h1 hA hg b0 (by omega)]
theorem FR_agx {μ : mzM} {F : Int} {s s' : Int → Int} {f : Int} (hD : WD s) (h0 : s' 0 = s 0) (h1 : s' 1 = s 1) (hA : AGx s s' f) (hg : sref s f ≠ -1 → SAME s (sref s f) s' (sref s f)) (hI : IM μ F s f) (h2 : μ 2 F 2 = sref s f) (h3 : μ 2 F 3 = scost s f) (h4 : μ 2 F 4 = slost s' f) (h5 : ∀ b, 0 ≤ b → b < sblocks s → μ 5 F (4 * b) = sits s f b ∧ (sits s f b = 1 → μ 5 F (4 * b + 1) = s (1610 + 27 * f + 3 * b + 1) ∧ μ 5 F (4 * b + 2) = s (1610 + 27 * f + 3 * b + 2)) ∧ (2 ≤ sits s f b → μ 5 F (4 * b + 3) = srin s f b)) : FR μ F s' f := by
  refine ⟨⟨hI.1.trans h0.symm, hI.2.1.trans h1.symm, fun c c0 c1 => ?_⟩, h2.trans hA.2.1.symm, h4, h3.trans (scost_ag hD h0 h1 hA hg).symm, fun b b0 b1 => ?_⟩
  · rw [h0, h1] at c1
    rw [hA.1 c c0 c1]
    exact hI.2.2 c c0 c1
  · rw [sblocks_same h0 h1] at b1
    obtain ⟨d1, d2, d3⟩ := hA.2.2 b b0 b1
    rw [d1, d2, d3, srin_ag hD h0 h1 hA hg b0 b1]
    exact h5 b b0 b1
theorem FR_ag {μ : mzM} {F : Int} {s s' : Int → Int} {f : Int} (hD : WD s) (h0 : s' 0 = s 0) (h1 : s' 1 = s 1) (hA : AG s s' f) (hg : sref s f ≠ -1 → SAME s (sref s f) s' (sref s f)) (hR : FR μ F s f) : FR μ F s' f :=
  FR_agx hD h0 h1 hA.1 hg hR.1 hR.2.1 hR.2.2.2.1 (hR.2.2.1.trans hA.2.symm) hR.2.2.2.2
/-- frame f of s' is the record of image g of s, coded with r -/
def REC (s : Int → Int) (g r : Int) (s' : Int → Int) (f : Int) : Prop := SAME s g s' f ∧ sref s' f = r ∧ slost s' f = 0 ∧ ∀ b, 0 ≤ b → b < sblocks s → ∃ n c, CH s g r b (sits s' f b) (s' (1610 + 27 * f + 3 * b + 1)) (s' (1610 + 27 * f + 3 * b + 2)) n c
theorem CH_det {s : Int → Int} {f r b k dx dy n c k' x y n' c' : Int} (h : CH s f r b k dx dy n c) (h' : CH s f r b k' x y n' c') : k = k' ∧ (k = 1 → dx = x ∧ dy = y) ∧ (2 ≤ k → n = n' ∧ n = (if k = 2 then sruns s f r b else sruns s f (-1) b)) ∧ c = c' ∧ c = (if k = 0 then 1 else if k = 1 then 3 else 2 + 2 * (if k = 2 then sruns s f r b else sruns s f (-1) b)) := by
  have hc : c = c' := (CH_cost h).trans (CH_cost h').symm
  rcases h with ⟨h1, h2, h3, h4⟩ | ⟨h1, h2, h3, h4⟩ | ⟨h1, h2, h3, h4, h5⟩ | ⟨h1, h2, h3, h4, h5, h6, h7⟩ | ⟨h1, h2, h3, h4, h5, h6, h7⟩ <;>
    rcases h' with ⟨g1, g2, g3, g4⟩ | ⟨g1, g2, g3, g4⟩ | ⟨g1, g2, g3, g4, g5⟩ | ⟨g1, g2, g3, g4, g5, g6, g7⟩ | ⟨g1, g2, g3, g4, g5, g6, g7⟩ <;>
    first
    | exact absurd g1 (by omega)
    | exact absurd h1 (by omega)
    | exact absurd h2 g2
    | exact absurd g2 h2
    | exact absurd h3.1 (g3 _ _)
    | exact absurd g3.1 (h3 _ _)
    | (exfalso; omega)
    | (have hu := sbest_u h3 g3
       subst h4 g4
       exact ⟨rfl, fun _ => hu, fun q => by omega, hc, by rw [if_neg (by decide), if_pos rfl]; exact h5⟩)
    | (subst h3 g3
       exact ⟨rfl, fun q => by omega, fun q => by omega, hc, by rw [if_pos rfl]; exact h4⟩)
    | (subst h2 g2
       refine ⟨rfl, fun q => by omega, fun q => ⟨by omega, ?_⟩, hc, ?_⟩
       · rw [if_neg (by decide)]; exact h3
       · rw [if_neg (by decide), if_neg (by decide), if_neg (by decide)]; exact h4)
    | (subst h5 g5
       refine ⟨rfl, fun q => by omega, fun q => ⟨by omega, ?_⟩, hc, ?_⟩
       · rw [if_pos rfl]; exact h6
       · rw [if_neg (by decide), if_neg (by decide), if_pos rfl]; exact h7)
    | (subst h5 g5
       refine ⟨rfl, fun q => by omega, fun q => ⟨by omega, ?_⟩, hc, ?_⟩
       · rw [if_neg (by decide)]; exact h6
       · rw [if_neg (by decide), if_neg (by decide), if_neg (by decide)]; exact h7)
theorem srin_rec {s s' : Int → Int} {g r f : Int} (hD : WD s) (h0 : s' 0 = s 0) (h1 : s' 1 = s 1) (hR : REC s g r s' f) (hg : r ≠ -1 → SAME s r s' r) {b : Int} (b0 : 0 ≤ b) (b1 : b < sblocks s) (hk : 2 ≤ sits s' f b) (hk3 : sits s' f b ≤ 3) : srin s' f b = (if sits s' f b = 2 then sruns s g r b else sruns s g (-1) b) := by
  unfold srin
  rw [hR.2.1, sruns_same hD h0 h1 hR.1 Iff.rfl hg b0 b1, sruns_same hD h0 h1 hR.1 Iff.rfl (fun q => absurd rfl q) b0 b1]
  by_cases q : sits s' f b = 2
  · rw [if_pos q, if_pos q]
  · rw [if_neg q, if_neg q, if_pos (by omega)]
theorem scost_rec {s s' : Int → Int} {g r f : Int} (hD : WD s) (h0 : s' 0 = s 0) (h1 : s' 1 = s 1) (hR : REC s g r s' f) (hg : r ≠ -1 → SAME s r s' r) : scost s' f = call s g r := by
  unfold scost call
  rw [sblocks_same h0 h1]
  have hb := WD_blocks hD
  rw [isum_congr (sblocks s).toNat 0 (fun b b0 b1 => ?_)]
  have b1 : b < sblocks s := by omega
  obtain ⟨n, c, hC⟩ := hR.2.2.2 b b0 b1
  obtain ⟨-, -, -, -, hd⟩ := CH_det hC hC
  have hkd := (CH_kind hC).1
  rw [← CH_cost hC, hd]
  unfold sccost
  by_cases q0 : sits s' f b = 0
  · rw [if_pos q0, if_pos q0]
  · rw [if_neg q0, if_neg q0]
    by_cases q1 : sits s' f b = 1
    · rw [if_pos q1, if_pos q1]
    · rw [if_neg q1, if_neg q1, srin_rec hD h0 h1 hR hg b0 b1 (by omega) (by omega)]
/-- what was coded shows the record -/
theorem FR_rec {ν : mzM} {s s' : Int → Int} {F g r f : Int} (hD : WD s) (h0 : s' 0 = s 0) (h1 : s' 1 = s 1) (hI : IM ν F s g) (hE : EN ν F s g r) (hR : REC s g r s' f) (hg : r ≠ -1 → SAME s r s' r) : FR ν F s' f := by
  obtain ⟨e1, e2, e3, e4⟩ := hE
  refine ⟨⟨hI.1.trans h0.symm, hI.2.1.trans h1.symm, fun c c0 c1 => ?_⟩, e1.trans hR.2.1.symm, e2.trans hR.2.2.1.symm, e3.trans (scost_rec hD h0 h1 hR hg).symm, fun b b0 b1 => ?_⟩
  · rw [h0, h1] at c1
    rw [hR.1 c c0 c1]
    exact hI.2.2 c c0 c1
  · rw [sblocks_same h0 h1] at b1
    obtain ⟨n, c, hC⟩ := hR.2.2.2 b b0 b1
    have hB := e4 b b0 b1
    unfold CB at hB
    obtain ⟨d1, d2, d3, d4, d5⟩ := CH_det hB hC
    have hkd := (CH_kind hC).1
    refine ⟨d1, fun q => d2 (by rw [d1]; exact q), fun q => ?_⟩
    rw [srin_rec hD h0 h1 hR hg b0 b1 q hkd.2, ← d1]
    exact (d3 (by omega)).2
/-- WF of a frame that agrees -/
theorem WFf_agx {s s' : Int → Int} {f : Int} (h0 : s' 0 = s 0) (h1 : s' 1 = s 1) (hA : AGx s s' f) (hl : slost s' f = 0 ∨ slost s' f = 1) (hW : WFf s f) : WFf s' f := by
  obtain ⟨w1, w2, w3, w4⟩ := hW
  refine ⟨fun c c0 c1 => ?_, ?_, hl, fun b b0 b1 => ?_⟩
  · rw [h0, h1] at c1
    rw [hA.1 c c0 c1]
    exact w1 c c0 c1
  · rw [hA.2.1]; exact w2
  · rw [sblocks_same h0 h1] at b1
    rw [(hA.2.2 b b0 b1).1, hA.2.1]
    exact w4 b b0 b1
theorem WFf_ag {s s' : Int → Int} {f : Int} (h0 : s' 0 = s 0) (h1 : s' 1 = s 1) (hA : AG s s' f) (hW : WFf s f) : WFf s' f := WFf_agx h0 h1 hA.1 (by rw [hA.2]; exact hW.2.2.1) hW
theorem WFf_rec {s s' : Int → Int} {g r f : Int} (h0 : s' 0 = s 0) (h1 : s' 1 = s 1) (hR : REC s g r s' f) (hV : SV s g) (hr : r = -1 ∨ (0 ≤ r ∧ r < f)) : WFf s' f := by
  refine ⟨fun c c0 c1 => ?_, ?_, Or.inl hR.2.2.1, fun b b0 b1 => ?_⟩
  · rw [h0, h1] at c1
    rw [hR.1 c c0 c1]
    exact hV c c0 c1
  · rw [hR.2.1]; exact hr
  · rw [sblocks_same h0 h1] at b1
    obtain ⟨n, c, hC⟩ := hR.2.2.2 b b0 b1
    rw [hR.2.1]
    exact CH_kind hC
/-- the canvas becomes frame s 2 with reference r -/
def OPadd (s : Int → Int) (r : Int) (s' : Int → Int) : Prop := (s' 0 = s 0 ∧ s' 1 = s 1 ∧ s' 2 = s 2 + 1 ∧ s' 3 = s 3 ∧ s' 4 = s 4 ∧ s' 5 = s 5) ∧ SAME s (-1) s' (-1) ∧ (∀ f, 0 ≤ f → f < s 2 → AG s s' f) ∧ REC s (-1) r s' (s 2)
theorem OPadd_wf {s s' : Int → Int} {r : Int} (hW : WF s) (hn : s 2 < 10) (hr : fok s r) (h : OPadd s r s') : WF s' := by
  obtain ⟨⟨h0, h1, h2, h3, h4, h5⟩, h6, h7, h8⟩ := h
  obtain ⟨w0, w1, w2, w3, w4, w5, w6⟩ := hW
  refine ⟨WD_same w0 h0 h1, by rw [h2]; omega, by rw [h3]; exact w2, by rw [h4]; exact w3, by rw [h5]; exact w4, fun c c0 c1 => ?_, fun f f0 f1 => ?_⟩
  · rw [h0, h1] at c1
    rw [h6 c c0 c1]
    exact w5 c c0 c1
  · by_cases q : f = s 2
    · rw [q]; exact WFf_rec h0 h1 h8 w5 (by rcases hr with hr | hr; exact Or.inl hr; exact Or.inr hr)
    · exact WFf_ag h0 h1 (h7 f f0 (by omega)) (w6 f f0 (by omega))
theorem push_wf {s : Int → Int} {n : Int} {p : Int → Int → Int} (hW : WF s) (hp : ∀ j, 0 ≤ j → j < n → WF (p j)) (h6 : 0 ≤ n ∧ n ≤ 6) : ∀ j, 0 ≤ j → j < pushn n → WF (pushp p n s j) := by
  intro j j0 j1
  unfold pushn at j1
  unfold pushp
  split
  · next q =>
    rw [if_pos q] at j1
    split
    · exact hW
    · exact hp j j0 (by omega)
  · next q =>
    rw [if_neg q] at j1
    split
    · exact hW
    · exact hp (j + 1) (by omega) (by omega)
section Add
variable {μ : mzM} {s : Int → Int} {n : Int} {p : Int → Int → Int}
theorem s_add_rec {r : Int} {K : Int → mzM → Prop} (hW : WF s) (hp : ∀ j, 0 ≤ j → j < n → WF (p j)) (hC : CI μ s n p) (hn : s 2 < 10) (hr : fok s r) (hK : ∀ ν, (∀ s', OPadd s r s' → CI ν s' (pushn n) (pushp p n s)) → fr Pcl μ ν → K (call s (-1) r) ν) : ZI f_X7_add [vR 0 0, vI r] μ K := by
  have h10 := hW.2.1
  have hp' := push_wf hW hp hC.2.2.1.2
  refine vc_X7_add_0 (s_save hW hp hC (fun ν hC1 hF1 => ?_))
  obtain ⟨c1, -⟩ := id hC1
  rw [c1.1.1]
  refine s_X6_frameAt ?_
  rw [if_pos (by omega)]
  have h3 := hW.2.2.1
  refine s_takeI hW.1 c1.2.1 (fun ξ hI hF2 => ?_)
  have hS2 : ST ξ 0 s := ST_fr c1 hF2 (fun k => by omega) (fun k => ⟨by omega, by omega⟩) (fun f f0 f1 k => ⟨by omega, by omega, by omega, by omega⟩)
  refine s_encode hW.1 hI (fun q => ?_) hW.2.2.2.2.2.1 h3 hS2.1.2.1 (fun ζ hE hF3 => ?_)
  · rcases hr with hr | hr
    · exact absurd hr q
    · exact ⟨hr, by omega, (hS2.2.2 r hr.1 hr.2).1, (hW.2.2.2.2.2.2 r hr.1 hr.2).1⟩
  · have e3 : ζ 1 0 3 = s 2 := (hF3 1 0 3 (by omega)).trans hS2.1.1
    rw [e3]
    refine ⟨zin_sm (by omega), zlf (hK _ (fun s' hO => ?_) ?_) ?_⟩
    · have hF4 : fr (fun t i k => (t = 1 ∧ i = 0) ∨ ((t = 2 ∨ t = 3 ∨ t = 4 ∨ t = 5) ∧ i = s 2) ∨ (11 ≤ t ∧ t ≤ 14)) ν (mup ζ 1 0 3 (s 2 + 1)) := fr_up (fr_tr (fr_mono hF2 (fun t i k q => by omega)) (fr_mono hF3 (fun t i k q => by omega))) (Or.inl ⟨rfl, rfl⟩)
      refine CI_st hp' hC1 hF4 (fun t i k q => by omega) ?_
      obtain ⟨⟨o0, o1, o2, o3, o4, o5⟩, o6, o7, o8⟩ := hO
      have hS3 : ST ζ 0 s := ⟨⟨e3, (hF3 1 0 4 (by omega)).trans hS2.1.2.1, (hF3 1 0 5 (by omega)).trans hS2.1.2.2.1, (hF3 1 0 6 (by omega)).trans hS2.1.2.2.2⟩, IM_fr hS2.2.1 hF3 (fun k => by omega) (fun k => by omega), fun f f0 f1 => FR_fr (hS2.2.2 f f0 f1) hF3 (fun k => ⟨by omega, by omega, by omega, by omega⟩)⟩
      have mvI : ∀ (i : Int) (q : Int → Int) (f : Int), IM ζ i q f → IM (mup ζ 1 0 3 (s 2 + 1)) i q f := fun i q f h => IM_fr (P := fun t _ _ => t = 1) h (fr_up fr_rf rfl) (fun k => by omega) (fun k => by omega)
      have mvF : ∀ (i : Int) (q : Int → Int) (f : Int), FR ζ i q f → FR (mup ζ 1 0 3 (s 2 + 1)) i q f := fun i q f h => FR_fr (P := fun t _ _ => t = 1) h (fr_up fr_rf rfl) (fun k => ⟨by omega, by omega, by omega, by omega⟩)
      have hsame : ∀ g, 0 ≤ g → g < s 2 → SAME s g s' g := fun g g0 g1 => (o7 g g0 g1).1.1
      refine ⟨⟨?_, ?_, ?_, ?_⟩, mvI _ _ _ ⟨hS3.2.1.1.trans o0.symm, hS3.2.1.2.1.trans o1.symm, fun c d0 d1 => ?_⟩, fun f f0 f1 => mvF _ _ _ ?_⟩
      · rw [mup_self, o2]
      · rw [mup_k (by decide), o3]; exact hS3.1.2.1
      · rw [mup_k (by decide), o4]; exact hS3.1.2.2.1
      · rw [mup_k (by decide), o5]; exact hS3.1.2.2.2
      · rw [o0, o1] at d1
        rw [o6 c d0 d1]
        exact hS3.2.1.2.2 c d0 d1
      · by_cases q : f = s 2
        · rw [q]
          refine FR_rec hW.1 o0 o1 ?_ hE o8 (fun z => ?_)
          · exact IM_fr hI hF3 (fun k => by omega) (fun k => by omega)
          · rcases hr with hr | hr
            · exact absurd hr z
            · exact hsame r hr.1 hr.2
        · refine FR_ag hW.1 o0 o1 (o7 f f0 (by omega)) (fun z => ?_) (hS3.2.2 f f0 (by omega))
          rcases (hW.2.2.2.2.2.2 f f0 (by omega)).2.1 with y | y
          · exact absurd y z
          · exact hsame _ y.1 (by omega)
    · refine fr_up (fr_tr (fr_mono hF1 (fun t i k q => ⟨by omega, by omega, fun _ => by omega⟩)) (fr_tr (fr_mono hF2 (fun t i k q => ⟨by omega, by omega, fun _ => by omega⟩)) (fr_mono hF3 (fun t i k q => ⟨by omega, by omega, fun _ => by omega⟩)))) ⟨by omega, by omega, fun _ => by omega⟩
    · rw [mup_t (by decide), show (11 : Int) * 0 + s 2 = s 2 by omega] at *
      exact hE.2.2.1
/-- what the canvas would cost -/
theorem s_costOfCanvas {r : Int} {K : Int → mzM → Prop} (hW : WF s) (hS : ST μ 0 s) (hr : fok s r) (hK : ∀ ν, ST ν 0 s → fr Psc μ ν → K (call s (-1) r) ν) : ZI f_X7_costOfCanvas [vR 0 0, vI r] μ K := by
  have h10 := hW.2.1
  have h3 := hW.2.2.1
  refine vc_X7_costOfCanvas_0 (s_takeI hW.1 hS.2.1 (fun ξ hI hF2 => ?_))
  have hS2 : ST ξ 0 s := ST_fr hS hF2 (fun k => by omega) (fun k => ⟨by omega, by omega⟩) (fun f f0 f1 k => ⟨by omega, by omega, by omega, by omega⟩)
  refine s_encode hW.1 hI (fun q => ?_) hW.2.2.2.2.2.1 h3 hS2.1.2.1 (fun ζ hE hF3 => ?_)
  · rcases hr with hr | hr
    · exact absurd hr q
    · exact ⟨hr, by omega, (hS2.2.2 r hr.1 hr.2).1, (hW.2.2.2.2.2.2 r hr.1 hr.2).1⟩
  · have hS3 : ST ζ 0 s := ST_fr hS2 hF3 (fun k => by omega) (fun k => ⟨by omega, by omega⟩) (fun f f0 f1 k => ⟨by omega, by omega, by omega, by omega⟩)
    exact zlf (hK ζ hS3 (fr_tr (fr_mono hF2 (fun t i k q => by omega)) (fr_mono hF3 (fun t i k q => by omega)))) hE.2.2.1
end Add
