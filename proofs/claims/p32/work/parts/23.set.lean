/-! ===== the calls of the class that change the state ===== -/
theorem EN_fr {P : Nat → Int → Int → Prop} {ν ξ : mzM} {F f r : Int} {s : Int → Int} (h : EN ν F s f r) (hF : fr P ν ξ) (hp : ∀ k, ¬ P 2 F k ∧ ¬ P 5 F k) : EN ξ F s f r := by
  obtain ⟨e1, e2, e3, e4⟩ := h
  refine ⟨(hF 2 F 2 (hp 2).1).trans e1, (hF 2 F 4 (hp 4).1).trans e2, (hF 2 F 3 (hp 3).1).trans e3, fun b b0 b1 => ?_⟩
  unfold CB
  rw [hF 5 F _ (hp _).2, hF 5 F _ (hp _).2, hF 5 F _ (hp _).2, hF 5 F _ (hp _).2]
  exact e4 b b0 b1
/-- all is coded anew by the best plan -/
def OPrec (s s' : Int → Int) : Prop := (s' 0 = s 0 ∧ s' 1 = s 1 ∧ s' 2 = s 2 ∧ s' 3 = s 3 ∧ s' 4 = s 4 ∧ s' 5 = s 5) ∧ SAME s (-1) s' (-1) ∧ ∀ f, 0 ≤ f → f < s 2 → REC s f (prf s f) s' f
theorem OPrec_wf {s s' : Int → Int} (hW : WF s) (hn : 1 ≤ s 2) (h : OPrec s s') : WF s' := by
  obtain ⟨⟨h0, h1, h2, h3, h4, h5⟩, h6, h7⟩ := h
  obtain ⟨w0, w1, w2, w3, w4, w5, w6⟩ := hW
  refine ⟨WD_same w0 h0 h1, by rw [h2]; exact w1, by rw [h3]; exact w2, by rw [h4]; exact w3, by rw [h5]; exact w4, fun c c0 c1 => ?_, fun f f0 f1 => ?_⟩
  · rw [h0, h1] at c1
    rw [h6 c c0 c1]
    exact w5 c c0 c1
  · rw [h2] at f1
    exact WFf_rec h0 h1 (h7 f f0 f1) (w6 f f0 f1).1 (prf_ok hn w1.2 f0)
/-- a new size -/
def OPsize (s : Int → Int) (w h : Int) (s' : Int → Int) : Prop := (s' 0 = w ∧ s' 1 = h ∧ s' 2 = 0 ∧ s' 3 = s 3 ∧ s' 4 = s 4 ∧ s' 5 = s 5) ∧ ∀ c, 0 ≤ c → c < w * h → sv s' (-1) c = 0
theorem OPsize_wf {s s' : Int → Int} {w h : Int} (hW : WF s) (hw : isz w) (hh : isz h) (hO : OPsize s w h s') : WF s' := by
  obtain ⟨⟨h0, h1, h2, h3, h4, h5⟩, h6⟩ := hO
  obtain ⟨w0, w1, w2, w3, w4, w5, w6⟩ := hW
  refine ⟨⟨by rw [h0]; exact hw, by rw [h1]; exact hh⟩, by rw [h2]; decide, by rw [h3]; exact w2, by rw [h4]; exact w3, by rw [h5]; exact w4, fun c c0 c1 => ?_, fun f f0 f1 => by omega⟩
  rw [h0, h1] at c1
  rw [h6 c c0 c1]
  decide
/-- the frames up to m and the header but for three places are the same -/
def OPhd (s s' : Int → Int) : Prop := s' 0 = s 0 ∧ s' 1 = s 1
def OPcv (s s' : Int → Int) : Prop := (s' 0 = s 0 ∧ s' 1 = s 1 ∧ s' 2 = s 2 ∧ s' 3 = s 3 ∧ s' 4 = s 4 ∧ s' 5 = s 5) ∧ ∀ f, 0 ≤ f → f < s 2 → AG s s' f
/-- another canvas -/
theorem OPcv_wf {s s' : Int → Int} (hW : WF s) (h : OPcv s s') (hV : SV s' (-1)) : WF s' := by
  obtain ⟨⟨h0, h1, h2, h3, h4, h5⟩, h7⟩ := h
  obtain ⟨w0, w1, w2, w3, w4, w5, w6⟩ := hW
  exact ⟨WD_same w0 h0 h1, by rw [h2]; exact w1, by rw [h3]; exact w2, by rw [h4]; exact w3, by rw [h5]; exact w4, hV, fun f f0 f1 => by rw [h2] at f1; exact WFf_ag h0 h1 (h7 f f0 f1) (w6 f f0 f1)⟩
def OPcell (s : Int → Int) (x v : Int) (s' : Int → Int) : Prop := OPcv s s' ∧ ∀ c, 0 ≤ c → c < s 0 * s 1 → sv s' (-1) c = if c = x then v else sv s (-1) c
theorem OPcell_wf {s s' : Int → Int} {x v : Int} (hW : WF s) (v0 : 0 ≤ v) (v1 : v ≤ 15) (h : OPcell s x v s') : WF s' := by
  refine OPcv_wf hW h.1 (fun c c0 c1 => ?_)
  rw [h.1.1.1, h.1.1.2.1] at c1
  rw [h.2 c c0 c1]
  split
  · exact ⟨v0, v1⟩
  · exact hW.2.2.2.2.2.1 c c0 c1
/-- other limits -/
def OPlim (s : Int → Int) (a b d : Int) (s' : Int → Int) : Prop := (s' 0 = s 0 ∧ s' 1 = s 1 ∧ s' 2 = s 2 ∧ s' 3 = a ∧ s' 4 = b ∧ s' 5 = d) ∧ SAME s (-1) s' (-1) ∧ ∀ f, 0 ≤ f → f < s 2 → AG s s' f
theorem OPlim_wf {s s' : Int → Int} {a b d : Int} (hW : WF s) (ha : 0 ≤ a ∧ a ≤ 4) (hb : 0 ≤ b ∧ b ≤ 9) (hd : 0 ≤ d ∧ d ≤ 9) (h : OPlim s a b d s') : WF s' := by
  obtain ⟨⟨h0, h1, h2, h3, h4, h5⟩, h6, h7⟩ := h
  obtain ⟨w0, w1, w2, w3, w4, w5, w6⟩ := hW
  refine ⟨WD_same w0 h0 h1, by rw [h2]; exact w1, by rw [h3]; exact ha, by rw [h4]; exact hb, by rw [h5]; exact hd, fun c c0 c1 => ?_, fun f f0 f1 => by rw [h2] at f1; exact WFf_ag h0 h1 (h7 f f0 f1) (w6 f f0 f1)⟩
  rw [h0, h1] at c1
  rw [h6 c c0 c1]
  exact w5 c c0 c1
/-- without the last frame -/
def OPrem (s s' : Int → Int) : Prop := (s' 0 = s 0 ∧ s' 1 = s 1 ∧ s' 2 = s 2 - 1 ∧ s' 3 = s 3 ∧ s' 4 = s 4 ∧ s' 5 = s 5) ∧ SAME s (-1) s' (-1) ∧ ∀ f, 0 ≤ f → f < s 2 - 1 → AG s s' f
theorem OPrem_wf {s s' : Int → Int} (hW : WF s) (hn : 1 ≤ s 2) (h : OPrem s s') : WF s' := by
  obtain ⟨⟨h0, h1, h2, h3, h4, h5⟩, h6, h7⟩ := h
  obtain ⟨w0, w1, w2, w3, w4, w5, w6⟩ := hW
  refine ⟨WD_same w0 h0 h1, by rw [h2]; omega, by rw [h3]; exact w2, by rw [h4]; exact w3, by rw [h5]; exact w4, fun c c0 c1 => ?_, fun f f0 f1 => by rw [h2] at f1; exact WFf_ag h0 h1 (h7 f f0 f1) (w6 f f0 (by omega))⟩
  rw [h0, h1] at c1
  rw [h6 c c0 c1]
  exact w5 c c0 c1
/-- a mark -/
def OPlost (s : Int → Int) (x v : Int) (s' : Int → Int) : Prop := (s' 0 = s 0 ∧ s' 1 = s 1 ∧ s' 2 = s 2 ∧ s' 3 = s 3 ∧ s' 4 = s 4 ∧ s' 5 = s 5) ∧ SAME s (-1) s' (-1) ∧ ∀ f, 0 ≤ f → f < s 2 → AGx s s' f ∧ slost s' f = if f = x then v else slost s f
theorem OPlost_wf {s s' : Int → Int} {x v : Int} (hW : WF s) (hv : v = 0 ∨ v = 1) (h : OPlost s x v s') : WF s' := by
  obtain ⟨⟨h0, h1, h2, h3, h4, h5⟩, h6, h7⟩ := h
  obtain ⟨w0, w1, w2, w3, w4, w5, w6⟩ := hW
  refine ⟨WD_same w0 h0 h1, by rw [h2]; exact w1, by rw [h3]; exact w2, by rw [h4]; exact w3, by rw [h5]; exact w4, fun c c0 c1 => ?_, fun f f0 f1 => ?_⟩
  · rw [h0, h1] at c1
    rw [h6 c c0 c1]
    exact w5 c c0 c1
  · rw [h2] at f1
    obtain ⟨a1, a2⟩ := h7 f f0 f1
    refine WFf_agx h0 h1 a1 ?_ (w6 f f0 f1)
    rw [a2]
    split
    · exact hv
    · exact (w6 f f0 f1).2.2.1
section Sets
variable {μ : mzM} {s : Int → Int} {n : Int} {p : Int → Int → Int} {K : Int → mzM → Prop}
/-- frames that agree: the state is that of s' but for what the header says -/
theorem ST_ag {s' : Int → Int} (hW : WF s) (hS : ST μ 0 s) (h0 : s' 0 = s 0) (h1 : s' 1 = s 1) (hn : s' 2 ≤ s 2) (hA : ∀ f, 0 ≤ f → f < s' 2 → AG s s' f) {ν : mzM} (hh : ν 1 0 3 = s' 2 ∧ ν 1 0 4 = s' 3 ∧ ν 1 0 5 = s' 4 ∧ ν 1 0 6 = s' 5) (hc : IM ν 78 s' (-1)) (hF : ∀ f, 0 ≤ f → f < s 2 → FR ν (11 * 0 + f) s f) : ST ν 0 s' := by
  refine ⟨hh, hc, fun f f0 f1 => FR_ag hW.1 h0 h1 (hA f f0 f1) (fun q => ?_) (hF f f0 (by omega))⟩
  rcases (hW.2.2.2.2.2.2 f f0 (by omega)).2.1 with y | y
  · exact absurd y q
  · exact (hA _ y.1 (by omega)).1.1
theorem IM_cv {s' : Int → Int} (hI : IM μ 78 s (-1)) (h0 : s' 0 = s 0) (h1 : s' 1 = s 1) (hc : SAME s (-1) s' (-1)) : IM μ 78 s' (-1) := ⟨hI.1.trans h0.symm, hI.2.1.trans h1.symm, fun c c0 c1 => by rw [h0, h1] at c1; rw [hc c c0 c1]; exact hI.2.2 c c0 c1⟩
theorem s_recode (hW : WF s) (hp : ∀ j, 0 ≤ j → j < n → WF (p j)) (hC : CI μ s n p) (hK0 : s 2 = 0 → K (-2) μ) (hK : 1 ≤ s 2 → ∀ ν, (∀ s', OPrec s s' → CI ν s' (pushn n) (pushp p n s)) → fr Pcl μ ν → K (pbest s).1 ν) : ZI f_X7_recode [vR 0 0] μ K := by
  have h10 := hW.2.1
  have h3 := hW.2.2.1
  have hp' := push_wf hW hp hC.2.2.1.2
  refine vc_X7_recode_0 ?_
  rw [hC.1.1.1]
  split
  · exact zlf (hK0 (by omega)) rfl
  · next q1 =>
    refine s_save hW hp hC (fun ν hC1 hF1 => s_plan hW hC1.1 (by omega) (fun ξ hS hF2 hb1 hb2 => ?_))
    have hC2 := CI_sc hW hp' hC1 hF2
    have key : ∀ f, 0 ≤ f → f ≤ s 2 → ∀ ω : mzM, fr (fun t i k => (t = 2 ∧ 0 ≤ i ∧ i < s 2) ∨ (t = 5 ∧ 0 ≤ i ∧ i < s 2) ∨ (11 ≤ t ∧ t ≤ 14)) ξ ω → (∀ g, 0 ≤ g → g < f → EN ω (11 * 0 + g) s g (prf s g)) → ZW f_X7_recode 20 [vR 0 0, vI f] [] ω (fun r ν => ∃ a, r = some (vI a) ∧ K a ν) := by
      intro f f0 f1
      refine iter_down (C := fun f => ∀ ω : mzM, fr (fun t i k => (t = 2 ∧ 0 ≤ i ∧ i < s 2) ∨ (t = 5 ∧ 0 ≤ i ∧ i < s 2) ∨ (11 ≤ t ∧ t ≤ 14)) ξ ω → (∀ g, 0 ≤ g → g < f → EN ω (11 * 0 + g) s g (prf s g)) → ZW f_X7_recode 20 [vR 0 0, vI f] [] ω (fun r ν => ∃ a, r = some (vI a) ∧ K a ν)) (lo := 0) (hi := s 2) ?_ ?_ f0 f1
      · intro f f0 f1 ih ω hF3 hE
        refine vc_X7_recode_20 ?_
        have e1 : ω 1 0 3 = s 2 := (hF3 1 0 3 (by omega)).trans hS.1.1
        have im : ∀ g, 0 ≤ g → g < s 2 → IM ω (11 * 0 + g) s g := fun g g0 g1 => IM_fr (hS.2.2 g g0 g1).1 hF3 (fun k => by omega) (fun k => by omega)
        rw [e1, if_pos f1]
        refine s_fa hW ⟨f0, f1⟩ (s_referenceOf f0 (by omega) ((hF3 15 0 3 (by omega)).trans hb2) ?_)
        refine s_encode hW.1 (im f f0 f1) (fun q => ?_) (hW.2.2.2.2.2.2 f f0 f1).1 h3 ((hF3 1 0 4 (by omega)).trans hS.1.2.1) (fun ζ hE2 hF4 => ?_)
        · rcases prf_ok (by omega) h10.2 f0 with z | z
          · exact absurd z q
          · exact ⟨⟨z.1, by omega⟩, by omega, im _ z.1 (by omega), (hW.2.2.2.2.2.2 _ z.1 (by omega)).1⟩
        · refine ⟨zin_sm (by omega), ih ζ (fr_tr hF3 (fr_mono hF4 (fun t i k q => by omega))) (fun g g0 g1 => ?_)⟩
          by_cases z : g = f
          · rw [z]; exact hE2
          · exact EN_fr (hE g g0 (by omega)) hF4 (fun k => ⟨by omega, by omega⟩)
      · intro ω hF3 hE
        refine vc_X7_recode_20 ?_
        have e1 : ω 1 0 3 = s 2 := (hF3 1 0 3 (by omega)).trans hS.1.1
        rw [e1, if_neg (by omega)]
        refine zlf (hK (by omega) ω (fun s' hO => ?_) ?_) ((hF3 15 0 2 (by omega)).trans hb1)
        · refine CI_st hp' hC2 hF3 (fun t i k q => by omega) ?_
          obtain ⟨⟨o0, o1, o2, o3, o4, o5⟩, o6, o7⟩ := hO
          refine ⟨⟨e1.trans o2.symm, ((hF3 1 0 4 (by omega)).trans hS.1.2.1).trans o3.symm, ((hF3 1 0 5 (by omega)).trans hS.1.2.2.1).trans o4.symm, ((hF3 1 0 6 (by omega)).trans hS.1.2.2.2).trans o5.symm⟩, IM_cv (IM_fr hS.2.1 hF3 (fun k => by omega) (fun k => by omega)) o0 o1 o6, fun f f0 f1 => ?_⟩
          rw [o2] at f1
          refine FR_rec hW.1 o0 o1 (IM_fr (hS.2.2 f f0 f1).1 hF3 (fun k => by omega) (fun k => by omega)) (hE f f0 f1) (o7 f f0 f1) (fun z => ?_)
          rcases prf_ok (by omega) h10.2 f0 with y | y
          · exact absurd y z
          · exact (o7 _ y.1 (by omega)).1
        · exact fr_tr (fr_mono hF1 (fun t i k q => ⟨by omega, by omega, fun _ => by omega⟩)) (fr_tr (fr_mono hF2 (fun t i k q => Psc_cl q)) (fr_mono hF3 (fun t i k q => ⟨by omega, by omega, fun _ => by omega⟩)))
    exact key 0 (by omega) (by omega) ξ fr_rf (fun g g0 g1 => by omega)
theorem s_isSize {x : Int} (h1 : isz x → K 1 μ) (h0 : ¬ isz x → K 0 μ) : ZI f_X7_isSize [vI x] μ K := by
  refine vc_X7_isSize_0 ?_
  split
  · next q => exact zlf (h1 (Or.inl q)) rfl
  · split
    · next q => exact zlf (h1 (Or.inr (Or.inl q))) rfl
    · split
      · next q => exact zlf (h1 (Or.inr (Or.inr q))) rfl
      · next a b c => exact zlf (h0 (by rintro (z | z | z); exact a z; exact b z; exact c z)) rfl
theorem s_reset {o w h : Int} {K : mzM → Prop} (hK : ∀ ν, (ν 3 o 1 = w ∧ ν 3 o 2 = h ∧ ∀ c, 0 ≤ c → c < 144 → ν 4 o c = 0) → fr (Pim o) μ ν → K ν) : ZV f_X2_reset [vR 3 o, vI w, vI h] μ K := by
  refine vc_X2_reset_0 ?_
  have key : ∀ k, 0 ≤ k → k ≤ 144 → ∀ ν : mzM, (ν 3 o 1 = w ∧ ν 3 o 2 = h ∧ ∀ c, 0 ≤ c → c < k → ν 4 o c = 0) → fr (Pim o) μ ν → ZW f_X2_reset 8 [vR 3 o, vI w, vI h, vI k] [] ν (fun r ν => r = none ∧ K ν) := by
    intro k k0 k1
    refine iter_down (C := fun k => ∀ ν : mzM, (ν 3 o 1 = w ∧ ν 3 o 2 = h ∧ ∀ c, 0 ≤ c → c < k → ν 4 o c = 0) → fr (Pim o) μ ν → ZW f_X2_reset 8 [vR 3 o, vI w, vI h, vI k] [] ν (fun r ν => r = none ∧ K ν)) (lo := 0) (hi := 144) ?_ ?_ k0 k1
    · intro k k0 k1 ih ν h1 hF
      refine vc_X2_reset_8 ?_
      rw [if_pos k1]
      refine ⟨⟨k0, k1⟩, zin_sm (by omega), ih _ ⟨?_, ?_, fun c c0 c1 => ?_⟩ (fr_up hF ⟨Or.inr rfl, rfl⟩)⟩
      · rw [mup_t (by decide)]; exact h1.1
      · rw [mup_t (by decide)]; exact h1.2.1
      · by_cases q : c = k
        · rw [q, mup_self]
        · rw [mup_k q]; exact h1.2.2 c c0 (by omega)
    · intro ν h1 hF
      refine vc_X2_reset_8 ?_
      rw [if_neg (by omega)]
      exact ⟨rfl, hK ν h1 hF⟩
  refine key 0 (by omega) (by omega) _ ⟨?_, ?_, fun c c0 c1 => by omega⟩ (fr_up (fr_up fr_rf ⟨Or.inl rfl, rfl⟩) ⟨Or.inl rfl, rfl⟩)
  · rw [mup_k (by decide), mup_self]
  · rw [mup_self]
theorem isz_b {w h : Int} (hw : isz w) (hh : isz h) : w / 4 * (h / 4) = w * h / 16 := by
  rcases hw with e | e | e <;> rcases hh with g | g | g <;> rw [e, g] <;> decide
theorem s_setSize {w h : Int} (hW : WF s) (hp : ∀ j, 0 ≤ j → j < n → WF (p j)) (hC : CI μ s n p) (hK0 : ¬ (isz w ∧ isz h) → K (-1) μ) (hK : isz w → isz h → ∀ ν, (∀ s', OPsize s w h s' → CI ν s' (pushn n) (pushp p n s)) → fr Pcl μ ν → K (w * h / 16) ν) : ZI f_X7_setSize [vR 0 0, vI w, vI h] μ K := by
  have hp' := push_wf hW hp hC.2.2.1.2
  refine vc_X7_setSize_0 (s_isSize (fun hw => ?_) (fun hw => ?_))
  · rw [if_neg (by omega)]
    refine s_isSize (fun hh => ?_) (fun hh => ?_)
    · rw [if_neg (by omega)]
      refine s_save hW hp hC (fun ν hC1 hF1 => s_reset (fun ξ hX hF2 => ?_))
      obtain ⟨x1, x2, x3⟩ := hX
      have hm : w * h ≤ 144 := by
        rcases hw with e | e | e <;> rcases hh with g | g | g <;> rw [e, g] <;> decide
      have hS1 := hC1.1.1
      have e1 : ξ 1 0 3 = 0 := (hF2 1 0 3 (by omega)).trans (mup_self _ _ _ _ _)
      have e4 : ξ 1 0 4 = s 3 := (hF2 1 0 4 (by omega)).trans ((mup_k (by decide)).trans hS1.2.1)
      have e5 : ξ 1 0 5 = s 4 := (hF2 1 0 5 (by omega)).trans ((mup_k (by decide)).trans hS1.2.2.1)
      have e6 : ξ 1 0 6 = s 5 := (hF2 1 0 6 (by omega)).trans ((mup_k (by decide)).trans hS1.2.2.2)
      have im : ∀ s', OPsize s w h s' → IM ξ 78 s' (-1) := by
        intro s' hO
        refine ⟨x1.trans hO.1.1.symm, x2.trans hO.1.2.1.symm, fun c c0 c1 => ?_⟩
        rw [hO.1.1, hO.1.2.1] at c1
        rw [hO.2 c c0 c1]
        exact x3 c c0 (by omega)
      have hO1 : OPsize s w h (fun k => if k = 0 then w else if k = 1 then h else if k = 2 then 0 else if k < 6 then s k else 0) := by
        refine ⟨⟨rfl, rfl, rfl, rfl, rfl, rfl⟩, fun c c0 c1 => ?_⟩
        show (if (-1 : Int) < 0 then _ else _) = (0 : Int)
        rw [if_pos (by decide)]
        dsimp only
        rw [if_neg (by omega), if_neg (by omega), if_neg (by omega), if_neg (by omega)]
      refine s_X2_blocks (OPsize_wf hW hw hh hO1).1 (im _ hO1) ?_
      refine zlf (hK hw hh ξ (fun s' hO => ?_) ?_) (isz_b hw hh)
      · refine CI_st (P := fun t i k => (t = 1 ∧ i = 0) ∨ ((t = 3 ∨ t = 4) ∧ i = 78)) hp' hC1 (fr_tr (fr_up fr_rf (Or.inl ⟨rfl, rfl⟩)) (fr_mono hF2 (fun t i k q => Or.inr q))) (fun t i k q => by omega) ⟨⟨e1.trans hO.1.2.2.1.symm, e4.trans hO.1.2.2.2.1.symm, e5.trans hO.1.2.2.2.2.1.symm, e6.trans hO.1.2.2.2.2.2.symm⟩, im s' hO, fun f f0 f1 => by rw [hO.1.2.2.1] at f1; omega⟩
      · exact fr_tr (fr_mono hF1 (fun t i k q => ⟨by omega, by omega, fun _ => by omega⟩)) (fr_tr (fr_up fr_rf ⟨by decide, by decide, fun q => by omega⟩) (fr_mono hF2 (fun t i k q => ⟨by omega, by omega, fun _ => by omega⟩)))
    · rw [if_pos rfl]; exact zlf (hK0 (fun z => hh z.2)) rfl
  · rw [if_pos rfl]; exact zlf (hK0 (fun z => hw z.1)) rfl
theorem s_setCell {x v : Int} (hW : WF s) (hp : ∀ j, 0 ≤ j → j < n → WF (p j)) (hC : CI μ s n p) (hK0 : ¬ ((0 ≤ x ∧ x < s 0 * s 1) ∧ 0 ≤ v ∧ v ≤ 15) → K (-1) μ) (hK : (0 ≤ x ∧ x < s 0 * s 1) → 0 ≤ v → v ≤ 15 → ∀ ν, (∀ s', OPcell s x v s' → CI ν s' (pushn n) (pushp p n s)) → fr Pcl μ ν → K (sv s (-1) x) ν) : ZI f_X7_setCell [vR 0 0, vI x, vI v] μ K := by
  have hp' := push_wf hW hp hC.2.2.1.2
  have hm := WD_mul hW.1
  refine vc_X7_setCell_0 (s_X2_hasCell hW.1 hC.1.2.1 ?_)
  by_cases hx : 0 ≤ x ∧ x < s 0 * s 1
  · rw [if_pos hx, if_neg (by omega)]
    split
    · exact zlf (hK0 (by omega)) rfl
    split
    · exact zlf (hK0 (by omega)) rfl
    · refine s_save hW hp hC (fun ν hC1 hF1 => s_num hx.1 (by omega) (s_X2_putNumbered ?_))
      rw [if_pos ⟨hx.1, by omega⟩]
      have hI : IM ν 78 s (-1) := hC1.1.2.1
      refine zlf (hK hx (by omega) (by omega) _ (fun s' hO => ?_) ?_) (hI.2.2 x hx.1 hx.2)
      · have hF : fr (fun t i k => t = 4 ∧ i = 78) ν (mup ν 4 78 x v) := fr_up fr_rf ⟨rfl, rfl⟩
        refine CI_st hp' hC1 hF (fun t i k q => by omega) ?_
        obtain ⟨⟨⟨o0, o1, o2, o3, o4, o5⟩, o6⟩, o7⟩ := hO
        have hh := hC1.1.1
        refine ST_ag hW hC1.1 o0 o1 (by omega) (fun f f0 f1 => o6 f f0 (by omega)) ⟨?_, ?_, ?_, ?_⟩ ⟨?_, ?_, fun c c0 c1 => ?_⟩ (fun f f0 f1 => FR_fr (hC1.1.2.2 f f0 f1) hF (fun k => by have := hW.2.1; exact ⟨by omega, by omega, by omega, by omega⟩))
        · rw [mup_t (by decide), o2]; exact hh.1
        · rw [mup_t (by decide), o3]; exact hh.2.1
        · rw [mup_t (by decide), o4]; exact hh.2.2.1
        · rw [mup_t (by decide), o5]; exact hh.2.2.2
        · rw [mup_t (by decide), o0]; exact hI.1
        · rw [mup_t (by decide), o1]; exact hI.2.1
        · rw [o0, o1] at c1
          rw [o7 c c0 c1]
          by_cases q : c = x
          · rw [if_pos q, q, mup_self]
          · rw [if_neg q, mup_k q]; exact hI.2.2 c c0 c1
      · exact fr_up (fr_mono hF1 (fun t i k q => ⟨by omega, by omega, fun _ => by omega⟩)) ⟨by decide, by decide, fun q => by omega⟩
  · rw [if_neg hx, if_pos rfl]; exact zlf (hK0 (fun z => hx z.1)) rfl
theorem s_removeLast (hW : WF s) (hp : ∀ j, 0 ≤ j → j < n → WF (p j)) (hC : CI μ s n p) (hK0 : s 2 = 0 → K (-2) μ) (hK : 1 ≤ s 2 → ∀ ν, (∀ s', OPrem s s' → CI ν s' (pushn n) (pushp p n s)) → fr Pcl μ ν → K (s 2 - 1) ν) : ZI f_X7_removeLast [vR 0 0] μ K := by
  have hp' := push_wf hW hp hC.2.2.1.2
  have h10 := hW.2.1
  refine vc_X7_removeLast_0 ?_
  rw [hC.1.1.1]
  split
  · exact zlf (hK0 (by omega)) rfl
  · refine s_save hW hp hC (fun ν hC1 hF1 => ?_)
    have hh := hC1.1.1
    rw [hh.1, mup_self]
    refine ⟨zin_sm (by omega), zlf (hK (by omega) _ (fun s' hO => ?_) ?_) rfl⟩
    · have hF : fr (fun t i k => t = 1 ∧ i = 0) ν (mup ν 1 0 3 (s 2 - 1)) := fr_up fr_rf ⟨rfl, rfl⟩
      refine CI_st hp' hC1 hF (fun t i k q => by omega) ?_
      obtain ⟨⟨o0, o1, o2, o3, o4, o5⟩, o6, o7⟩ := hO
      refine ST_ag hW hC1.1 o0 o1 (by omega) (fun f f0 f1 => o7 f f0 (by omega)) ⟨?_, ?_, ?_, ?_⟩ (IM_cv (IM_fr hC1.1.2.1 hF (fun k => by omega) (fun k => by omega)) o0 o1 o6) (fun f f0 f1 => FR_fr (hC1.1.2.2 f f0 f1) hF (fun k => ⟨by omega, by omega, by omega, by omega⟩))
      · rw [mup_self, o2]
      · rw [mup_k (by decide), o3]; exact hh.2.1
      · rw [mup_k (by decide), o4]; exact hh.2.2.1
      · rw [mup_k (by decide), o5]; exact hh.2.2.2
    · exact fr_up (fr_mono hF1 (fun t i k q => ⟨by omega, by omega, fun _ => by omega⟩)) ⟨by decide, by decide, fun q => by omega⟩
theorem s_setLimits {a b d : Int} (hW : WF s) (hp : ∀ j, 0 ≤ j → j < n → WF (p j)) (hC : CI μ s n p) (hK0 : ¬ ((0 ≤ a ∧ a ≤ 4) ∧ (0 ≤ b ∧ b ≤ 9) ∧ (0 ≤ d ∧ d ≤ 9)) → K (-1) μ) (hK : (0 ≤ a ∧ a ≤ 4) → (0 ≤ b ∧ b ≤ 9) → (0 ≤ d ∧ d ≤ 9) → ∀ ν, (∀ s', OPlim s a b d s' → CI ν s' (pushn n) (pushp p n s)) → fr Pcl μ ν → K (if s 3 = a ∧ s 4 = b ∧ s 5 = d then 0 else 1) ν) : ZI f_X7_setLimits [vR 0 0, vI a, vI b, vI d] μ K := by
  have hp' := push_wf hW hp hC.2.2.1.2
  have h10 := hW.2.1
  refine vc_X7_setLimits_0 ?_
  split
  · exact zlf (hK0 (by omega)) rfl
  split
  · exact zlf (hK0 (by omega)) rfl
  split
  · exact zlf (hK0 (by omega)) rfl
  split
  · exact zlf (hK0 (by omega)) rfl
  split
  · exact zlf (hK0 (by omega)) rfl
  split
  · exact zlf (hK0 (by omega)) rfl
  · refine s_save hW hp hC (fun ν hC1 hF1 => ?_)
    have hh := hC1.1.1
    rw [hh.2.1, hh.2.2.1, hh.2.2.2]
    have fin : K (if s 3 = a ∧ s 4 = b ∧ s 5 = d then 0 else 1) (mup (mup (mup ν 1 0 4 a) 1 0 5 b) 1 0 6 d) := by
      refine hK (by omega) (by omega) (by omega) _ (fun s' hO => ?_) ?_
      · have hF : fr (fun t i k => t = 1 ∧ i = 0) ν (mup (mup (mup ν 1 0 4 a) 1 0 5 b) 1 0 6 d) := fr_up (fr_up (fr_up fr_rf ⟨rfl, rfl⟩) ⟨rfl, rfl⟩) ⟨rfl, rfl⟩
        refine CI_st hp' hC1 hF (fun t i k q => by omega) ?_
        obtain ⟨⟨o0, o1, o2, o3, o4, o5⟩, o6, o7⟩ := hO
        refine ST_ag hW hC1.1 o0 o1 (by omega) (fun f f0 f1 => o7 f f0 (by omega)) ⟨?_, ?_, ?_, ?_⟩ (IM_cv (IM_fr hC1.1.2.1 hF (fun k => by omega) (fun k => by omega)) o0 o1 o6) (fun f f0 f1 => FR_fr (hC1.1.2.2 f f0 f1) hF (fun k => ⟨by omega, by omega, by omega, by omega⟩))
        · rw [mup_k (by decide), mup_k (by decide), mup_k (by decide), o2]; exact hh.1
        · rw [mup_k (by decide), mup_k (by decide), mup_self, o3]
        · rw [mup_k (by decide), mup_self, o4]
        · rw [mup_self, o5]
      · exact fr_up (fr_up (fr_up (fr_mono hF1 (fun t i k q => ⟨by omega, by omega, fun _ => by omega⟩)) ⟨by decide, by decide, fun q => by omega⟩) ⟨by decide, by decide, fun q => by omega⟩) ⟨by decide, by decide, fun q => by omega⟩
    split
    · split
      · split
        · next q1 q2 q3 => rw [if_pos ⟨q1, q2, q3⟩] at fin; exact zlf fin rfl
        · next q1 q2 q3 => rw [if_neg (fun z => q3 z.2.2)] at fin; exact zlf fin rfl
      · next q1 q2 => rw [if_neg (fun z => q2 z.2.1)] at fin; exact zlf fin rfl
    · next q1 => rw [if_neg (fun z => q1 z.1)] at fin; exact zlf fin rfl
theorem s_setLost {x v : Int} (hW : WF s) (hp : ∀ j, 0 ≤ j → j < n → WF (p j)) (hC : CI μ s n p) (hK0 : ¬ ((0 ≤ x ∧ x < s 2) ∧ 0 ≤ v ∧ v ≤ 1) → K (-1) μ) (hK1 : (0 ≤ x ∧ x < s 2) → slost s x = v → K (-2) μ) (hK : (0 ≤ x ∧ x < s 2) → (v = 0 ∨ v = 1) → slost s x ≠ v → ∀ ν, (∀ s', OPlost s x v s' → CI ν s' (pushn n) (pushp p n s)) → fr Pcl μ ν → ∀ s', OPlost s x v s' → K (sgoods s') ν) : ZI f_X7_setLost [vR 0 0, vI x, vI v] μ K := by
  have hp' := push_wf hW hp hC.2.2.1.2
  have h10 := hW.2.1
  refine vc_X7_setLost_0 (s_X6_isFrame hC.1 ?_)
  by_cases hx : 0 ≤ x ∧ x < s 2
  · rw [if_pos hx, if_neg (by omega)]
    have hl := (hW.2.2.2.2.2.2 x hx.1 hx.2).2.2.1
    have go : (v = 0 ∨ v = 1) → slost s x ≠ v → ∀ ν, CI ν s (pushn n) (pushp p n s) → fr Psv μ ν → ZI f_X6_readableFrames [vR 1 0] (mup ν 2 (11 * 0 + x) 4 v) (fun r ν => ∃ a, some (vI r) = some (vI a) ∧ K a ν) := by
      intro hv hne ν hC1 hF1
      have hF : fr (fun t i k => t = 2 ∧ i = 11 * 0 + x) ν (mup ν 2 (11 * 0 + x) 4 v) := fr_up fr_rf ⟨rfl, rfl⟩
      have hST : ∀ s', OPlost s x v s' → ST (mup ν 2 (11 * 0 + x) 4 v) 0 s' := by
        intro s' hO
        obtain ⟨⟨o0, o1, o2, o3, o4, o5⟩, o6, o7⟩ := hO
        have hh := hC1.1.1
        refine ⟨⟨?_, ?_, ?_, ?_⟩, IM_cv (IM_fr hC1.1.2.1 hF (fun k => by omega) (fun k => by omega)) o0 o1 o6, fun f f0 f1 => ?_⟩
        · rw [mup_t (by decide), o2]; exact hh.1
        · rw [mup_t (by decide), o3]; exact hh.2.1
        · rw [mup_t (by decide), o4]; exact hh.2.2.1
        · rw [mup_t (by decide), o5]; exact hh.2.2.2
        · rw [o2] at f1
          obtain ⟨r1, r2, r3, r4, r5⟩ := hC1.1.2.2 f f0 f1
          refine FR_agx hW.1 o0 o1 (o7 f f0 f1).1 (fun q => ?_) (IM_fr r1 hF (fun k => by omega) (fun k => by omega)) ?_ ?_ ?_ (fun b b0 b1 => ?_)
          · rcases (hW.2.2.2.2.2.2 f f0 f1).2.1 with y | y
            · exact absurd y q
            · exact (o7 _ y.1 (by omega)).1.1
          · rw [mup_k (by decide)]; exact r2
          · rw [mup_k (by decide)]; exact r4
          · rw [(o7 f f0 f1).2]
            by_cases q : f = x
            · rw [if_pos q, q, mup_self]
            · rw [if_neg q, mup_i (by omega)]; exact r3
          · rw [mup_t (by decide), mup_t (by decide), mup_t (by decide), mup_t (by decide)]
            exact r5 b b0 b1
      have hO1 : OPlost s x v (fun k => if k = 1600 + x then v else s k) := by
        have ne : ∀ k : Int, k ≠ 1600 + x → (fun k => if k = 1600 + x then v else s k) k = s k := fun k h => by show (if _ then _ else _) = _; rw [if_neg h]
        have ag : ∀ f, 0 ≤ f → f < 10 → ∀ c, 0 ≤ c → c < 144 → (fun k => if k = 1600 + x then v else s k) (150 + 144 * f + c) = s (150 + 144 * f + c) := fun f f0 f1 c c0 c1 => ne _ (by omega)
        have hm := WD_mul hW.1
        have hb := WD_blocks hW.1
        refine ⟨⟨ne 0 (by omega), ne 1 (by omega), ne 2 (by omega), ne 3 (by omega), ne 4 (by omega), ne 5 (by omega)⟩, fun c c0 c1 => ?_, fun f f0 f1 => ⟨⟨fun c c0 c1 => ?_, ?_, fun b b0 b1 => ⟨?_, ?_, ?_⟩⟩, ?_⟩⟩
        · unfold sv
          rw [if_pos (by decide), if_pos (by decide)]
          exact ne _ (by omega)
        · unfold sv
          rw [if_neg (by omega), if_neg (by omega)]
          exact ne _ (by omega)
        · exact ne _ (by omega)
        · exact ne _ (by omega)
        · exact ne _ (by omega)
        · exact ne _ (by omega)
        · unfold slost
          by_cases q : f = x
          · rw [if_pos q]
            dsimp only
            rw [if_pos (by omega)]
          · rw [if_neg q]
            dsimp only
            rw [if_neg (by omega)]
      have hgo : ∀ s', OPlost s x v s' → K (sgoods s') (mup ν 2 (11 * 0 + x) 4 v) := hK hx hv hne _ (fun s' hO => CI_st hp' hC1 hF (fun t i k q => by omega) (hST s' hO)) (fr_up (fr_mono hF1 (fun t i k q => ⟨by omega, by omega, fun _ => by omega⟩)) ⟨by decide, by decide, fun q => by omega⟩)
      exact s_X6_readable (OPlost_wf hW hv hO1) (hST _ hO1) (zlf (hgo _ hO1) rfl)
    split
    · exact zlf (hK0 (by omega)) rfl
    split
    · exact zlf (hK0 (by omega)) rfl
    split
    · next q =>
      refine s_fa hW hx ?_
      rw [(hC.1.2.2 x hx.1 hx.2).2.2.1]
      split
      · next q2 => exact zlf (hK1 hx (by omega)) rfl
      · next q2 => exact s_save hW hp hC (fun ν hC1 hF1 => s_fa hW hx ⟨Or.inr rfl, by have h := go (Or.inr q) (by omega) ν hC1 hF1; rw [q] at h; exact h⟩)
    · next q =>
      refine s_fa hW hx ?_
      rw [(hC.1.2.2 x hx.1 hx.2).2.2.1]
      have hv0 : v = 0 := by omega
      split
      · next q2 => exact zlf (hK1 hx (by omega)) rfl
      · next q2 => exact s_save hW hp hC (fun ν hC1 hF1 => s_fa hW hx ⟨Or.inl rfl, by have h := go (Or.inl hv0) (by omega) ν hC1 hF1; rw [hv0] at h; exact h⟩)
  · rw [if_neg hx, if_pos rfl]; exact zlf (hK0 (fun z => hx z.1)) rfl
end Sets
