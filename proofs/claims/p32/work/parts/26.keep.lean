/-! ===== there are states that meet what the calls promise ===== -/
theorem sv_p {s : Int → Int} {f c : Int} (h : 0 ≤ f) : sv s f c = s (150 + 144 * f + c) := by unfold sv; rw [if_neg (by omega)]
theorem sv_n (s : Int → Int) (c : Int) : sv s (-1) c = s (6 + c) := by unfold sv; rw [if_pos (by decide)]
/-- a memory that shows image g in the trial record, and the frames -/
def kmem (s : Int → Int) (g : Int) : mzM := fun t i k => if t = 3 then (if k = 1 then s 0 else s 1) else if t = 4 then (if i = 77 then sv s g k else sv s i k) else s 3
theorem CH_ex {s : Int → Int} {g r : Int} (hW : WF s) (hV : SV s g) (hr : r = -1 ∨ (0 ≤ r ∧ r < s 2)) : ∃ c : Int → Int → Int, ∀ b, 0 ≤ b → b < sblocks s → ∃ n q, CH s g r b (c b 0) (c b 1) (c b 2) n q := by
  have h10 := hW.2.1
  have h : ZV f_X0_encode [vR 11 0, vR 2 77, vR 1 0, vI r] (kmem s g) (fun ν => EN ν 77 s g r) := by
    refine s_encode (i := 0) hW.1 ⟨rfl, rfl, fun c _ _ => rfl⟩ (fun q => ?_) hV hW.2.2.1 rfl (fun ν h _ => h)
    have hr2 : 0 ≤ r ∧ r < s 2 := by
      rcases hr with hr | hr
      · exact absurd hr q
      · exact hr
    refine ⟨hr2, h10.2, ⟨rfl, rfl, fun c _ _ => ?_⟩, (hW.2.2.2.2.2.2 r hr2.1 hr2.2).1⟩
    show (if 11 * 0 + r = 77 then sv s g c else sv s (11 * 0 + r) c) = sv s r c
    rw [if_neg (by omega), show 11 * 0 + r = r by omega]
  obtain ⟨_, _, ν, _, _, hE⟩ := h
  refine ⟨fun b j => ν 5 77 (4 * b + j), fun b b0 b1 => ⟨ν 5 77 (4 * b + 3), ccost s g r b, ?_⟩⟩
  have hB := hE.2.2.2 b b0 b1
  show CH s g r b (ν 5 77 (4 * b + 0)) (ν 5 77 (4 * b + 1)) (ν 5 77 (4 * b + 2)) _ _
  rw [Int.add_zero]
  exact hB
/-- a state of m frames; from frame lo on they are coded anew -/
def nst (s : Int → Int) (m lo : Int) (src rf : Int → Int) (cd : Int → Int → Int → Int) : Int → Int := fun k =>
  if k = 2 then m else if k < 150 then s k
  else if k < 1590 then (if (k - 150) / 144 < lo then s k else sv s (src ((k - 150) / 144)) ((k - 150) % 144))
  else if k < 1600 then (if k - 1590 < lo then s k else rf (k - 1590))
  else if k < 1610 then (if k - 1600 < lo then s k else 0)
  else (if (k - 1610) / 27 < lo then s k else cd ((k - 1610) / 27) ((k - 1610) % 27 / 3) ((k - 1610) % 3))
section Nst
variable {s : Int → Int} {m lo : Int} {src rf : Int → Int} {cd : Int → Int → Int → Int} {f : Int}
theorem nst_lo {k : Int} (h : k < 150) (h2 : k ≠ 2) : nst s m lo src rf cd k = s k := by unfold nst; rw [if_neg h2, if_pos h]
theorem nst_2 : nst s m lo src rf cd 2 = m := by unfold nst; rw [if_pos rfl]
theorem nst_im {c : Int} (f0 : 0 ≤ f) (f1 : f < 10) (c0 : 0 ≤ c) (c1 : c < 144) : sv (nst s m lo src rf cd) f c = if f < lo then sv s f c else sv s (src f) c := by
  rw [sv_p f0, sv_p f0]
  unfold nst
  rw [if_neg (by omega), if_neg (by omega), if_pos (by omega), show (150 + 144 * f + c - 150) / 144 = f by omega, show (150 + 144 * f + c - 150) % 144 = c by omega]
theorem nst_rf (f0 : 0 ≤ f) (f1 : f < 10) : sref (nst s m lo src rf cd) f = if f < lo then sref s f else rf f := by
  unfold sref nst
  rw [if_neg (by omega), if_neg (by omega), if_neg (by omega), if_pos (by omega), show 1590 + f - 1590 = f by omega]
theorem nst_ls (f0 : 0 ≤ f) (f1 : f < 10) : slost (nst s m lo src rf cd) f = if f < lo then slost s f else 0 := by
  unfold slost nst
  rw [if_neg (by omega), if_neg (by omega), if_neg (by omega), if_neg (by omega), if_pos (by omega), show 1600 + f - 1600 = f by omega]
theorem nst_cd {b j : Int} (f0 : 0 ≤ f) (b0 : 0 ≤ b) (b1 : b < 9) (j0 : 0 ≤ j) (j1 : j < 3) : nst s m lo src rf cd (1610 + 27 * f + 3 * b + j) = if f < lo then s (1610 + 27 * f + 3 * b + j) else cd f b j := by
  unfold nst
  rw [if_neg (by omega), if_neg (by omega), if_neg (by omega), if_neg (by omega), if_neg (by omega), show (1610 + 27 * f + 3 * b + j - 1610) / 27 = f by omega, show (1610 + 27 * f + 3 * b + j - 1610) % 27 / 3 = b by omega, show (1610 + 27 * f + 3 * b + j - 1610) % 3 = j by omega]
theorem nst_ag (hD : WD s) (f0 : 0 ≤ f) (f1 : f < 10) (h : f < lo) : AG s (nst s m lo src rf cd) f := by
  have hm := WD_mul hD
  have hb := WD_blocks hD
  refine ⟨⟨fun c c0 c1 => ?_, ?_, fun b b0 b1 => ⟨?_, ?_, ?_⟩⟩, ?_⟩
  · rw [nst_im f0 f1 c0 (by omega), if_pos h]
  · rw [nst_rf f0 f1, if_pos h]
  · have e := nst_cd (s := s) (m := m) (lo := lo) (src := src) (rf := rf) (cd := cd) (j := 0) f0 b0 (by omega) (by omega) (by omega)
    rw [Int.add_zero, if_pos h] at e
    exact e
  · rw [nst_cd f0 b0 (by omega) (by omega) (by omega), if_pos h]
  · rw [nst_cd f0 b0 (by omega) (by omega) (by omega), if_pos h]
  · rw [nst_ls f0 f1, if_pos h]
theorem nst_rec {g r : Int} (hD : WD s) (f0 : 0 ≤ f) (f1 : f < 10) (h : ¬ f < lo) (hg : src f = g) (hr : rf f = r) (hc : ∀ b, 0 ≤ b → b < sblocks s → ∃ n q, CH s g r b (cd f b 0) (cd f b 1) (cd f b 2) n q) : REC s g r (nst s m lo src rf cd) f := by
  have hm := WD_mul hD
  have hb := WD_blocks hD
  refine ⟨fun c c0 c1 => ?_, ?_, ?_, fun b b0 b1 => ?_⟩
  · rw [nst_im f0 f1 c0 (by omega), if_neg h, hg]
  · rw [nst_rf f0 f1, if_neg h, hr]
  · rw [nst_ls f0 f1, if_neg h]
  · have e := nst_cd (s := s) (m := m) (lo := lo) (src := src) (rf := rf) (cd := cd) (j := 0) f0 b0 (by omega) (by omega) (by omega)
    rw [Int.add_zero, if_neg h] at e
    unfold sits
    rw [e, nst_cd f0 b0 (by omega) (by omega) (by omega), nst_cd f0 b0 (by omega) (by omega) (by omega), if_neg h, if_neg h]
    exact hc b b0 b1
theorem nst_cv (hD : WD s) : SAME s (-1) (nst s m lo src rf cd) (-1) := fun c c0 c1 => by
  have hm := WD_mul hD
  rw [sv_n, sv_n, nst_lo (by omega) (by omega)]
end Nst
theorem OPadd_ex {s : Int → Int} {r : Int} (hW : WF s) (hn : s 2 < 10) (hr : fok s r) : ∃ s', OPadd s r s' ∧ WF s' := by
  have h10 := hW.2.1
  obtain ⟨c, hc⟩ := CH_ex hW hW.2.2.2.2.2.1 hr
  have hO : OPadd s r (nst s (s 2 + 1) (s 2) (fun _ => -1) (fun _ => r) (fun _ => c)) :=
    ⟨⟨nst_lo (by decide) (by decide), nst_lo (by decide) (by decide), nst_2, nst_lo (by decide) (by decide), nst_lo (by decide) (by decide), nst_lo (by decide) (by decide)⟩, nst_cv hW.1, fun f f0 f1 => nst_ag hW.1 f0 (by omega) f1, nst_rec hW.1 h10.1 hn (by omega) rfl rfl hc⟩
  exact ⟨_, hO, OPadd_wf hW hn hr hO⟩
theorem OPrec_ex {s : Int → Int} (hW : WF s) (hn : 1 ≤ s 2) : ∃ s', OPrec s s' ∧ WF s' := by
  have h10 := hW.2.1
  have H : ∀ f : Int, ∃ c : Int → Int → Int, 0 ≤ f → f < s 2 → ∀ b, 0 ≤ b → b < sblocks s → ∃ n q, CH s f (prf s f) b (c b 0) (c b 1) (c b 2) n q := by
    intro f
    by_cases hf : 0 ≤ f ∧ f < s 2
    · obtain ⟨c, hc⟩ := CH_ex (g := f) (r := prf s f) hW (hW.2.2.2.2.2.2 f hf.1 hf.2).1 (by
        rcases prf_ok hn h10.2 hf.1 with q | q
        · exact Or.inl q
        · exact Or.inr ⟨q.1, by omega⟩)
      exact ⟨c, fun _ _ => hc⟩
    · exact ⟨fun _ _ => 0, fun a b => absurd ⟨a, b⟩ hf⟩
  obtain ⟨cd, hcd⟩ := Classical.axiomOfChoice H
  have hO : OPrec s (nst s (s 2) 0 (fun f => f) (prf s) cd) :=
    ⟨⟨nst_lo (by decide) (by decide), nst_lo (by decide) (by decide), nst_2, nst_lo (by decide) (by decide), nst_lo (by decide) (by decide), nst_lo (by decide) (by decide)⟩, nst_cv hW.1, fun f f0 f1 => nst_rec hW.1 f0 (by omega) (by omega) rfl rfl (hcd f f0 f1)⟩
  exact ⟨_, hO, OPrec_wf hW hn hO⟩
theorem AGx_of {s s' : Int → Int} {f : Int} (hD : WD s) (h : ∀ k, 150 ≤ k → ¬ (1600 ≤ k ∧ k < 1610) → s' k = s k) (f0 : 0 ≤ f) (f1 : f < 10) : AGx s s' f := by
  have hm := WD_mul hD
  refine ⟨fun c c0 c1 => ?_, h _ (by omega) (by omega), fun b b0 b1 => ⟨h _ (by omega) (by omega), h _ (by omega) (by omega), h _ (by omega) (by omega)⟩⟩
  rw [sv_p f0, sv_p f0]
  exact h _ (by omega) (by omega)
theorem AG_of {s s' : Int → Int} {f : Int} (hD : WD s) (h : ∀ k, 150 ≤ k → s' k = s k) (f0 : 0 ≤ f) (f1 : f < 10) : AG s s' f := ⟨AGx_of hD (fun k k0 _ => h k k0) f0 f1, h _ (by omega)⟩
theorem cv_of {s s' : Int → Int} (hD : WD s) (h : ∀ k, 6 ≤ k → k < 150 → s' k = s k) : SAME s (-1) s' (-1) := fun c c0 c1 => by
  have hm := WD_mul hD
  rw [sv_n, sv_n, h _ (by omega) (by omega)]
theorem OPsize_ex {s : Int → Int} {w h : Int} (hW : WF s) (hw : isz w) (hh : isz h) : ∃ s', OPsize s w h s' ∧ WF s' := by
  have hO : OPsize s w h (fun k => if k = 0 then w else if k = 1 then h else if k = 2 then 0 else if k < 6 then s k else 0) :=
    ⟨⟨rfl, rfl, rfl, rfl, rfl, rfl⟩, fun c c0 c1 => by
      rw [sv_n]
      show (if 6 + c = 0 then _ else _) = _
      rw [if_neg (by omega), if_neg (by omega), if_neg (by omega), if_neg (by omega)]⟩
  exact ⟨_, hO, OPsize_wf hW hw hh hO⟩
theorem OPcell_ex {s : Int → Int} {x v : Int} (hW : WF s) (hx : 0 ≤ x ∧ x < s 0 * s 1) (v0 : 0 ≤ v) (v1 : v ≤ 15) : ∃ s', OPcell s x v s' ∧ WF s' := by
  have hm := WD_mul hW.1
  have h10 := hW.2.1
  have e : ∀ k, k ≠ 6 + x → (fun k => if k = 6 + x then v else s k) k = s k := fun k h => if_neg h
  have hO : OPcell s x v (fun k => if k = 6 + x then v else s k) := by
    refine ⟨⟨⟨e _ (by omega), e _ (by omega), e _ (by omega), e _ (by omega), e _ (by omega), e _ (by omega)⟩, fun f f0 f1 => AG_of hW.1 (fun k k0 => e k (by omega)) f0 (by omega)⟩, fun c c0 c1 => ?_⟩
    rw [sv_n, sv_n]
    show (if 6 + c = 6 + x then v else s (6 + c)) = _
    by_cases q : c = x
    · rw [if_pos q, if_pos (by omega)]
    · rw [if_neg q, if_neg (by omega)]
  exact ⟨_, hO, OPcell_wf hW v0 v1 hO⟩
theorem OPlim_ex {s : Int → Int} {a b d : Int} (hW : WF s) (ha : 0 ≤ a ∧ a ≤ 4) (hb : 0 ≤ b ∧ b ≤ 9) (hd : 0 ≤ d ∧ d ≤ 9) : ∃ s', OPlim s a b d s' ∧ WF s' := by
  have h10 := hW.2.1
  have e : ∀ k, 6 ≤ k → (fun k => if k = 3 then a else if k = 4 then b else if k = 5 then d else s k) k = s k := fun k h => by
    show (if k = 3 then a else _) = _
    rw [if_neg (by omega), if_neg (by omega), if_neg (by omega)]
  have hO : OPlim s a b d (fun k => if k = 3 then a else if k = 4 then b else if k = 5 then d else s k) :=
    ⟨⟨rfl, rfl, rfl, rfl, rfl, rfl⟩, cv_of hW.1 (fun k k0 _ => e k k0), fun f f0 f1 => AG_of hW.1 (fun k k0 => e k (by omega)) f0 (by omega)⟩
  exact ⟨_, hO, OPlim_wf hW ha hb hd hO⟩
theorem OPrem_ex {s : Int → Int} (hW : WF s) (hn : 1 ≤ s 2) : ∃ s', OPrem s s' ∧ WF s' := by
  have h10 := hW.2.1
  have e : ∀ k, k ≠ 2 → (fun k => if k = 2 then s 2 - 1 else s k) k = s k := fun k h => if_neg h
  have hO : OPrem s (fun k => if k = 2 then s 2 - 1 else s k) :=
    ⟨⟨rfl, rfl, rfl, rfl, rfl, rfl⟩, cv_of hW.1 (fun k k0 _ => e k (by omega)), fun f f0 f1 => AG_of hW.1 (fun k k0 => e k (by omega)) f0 (by omega)⟩
  exact ⟨_, hO, OPrem_wf hW hn hO⟩
theorem OPlost_ex {s : Int → Int} {x v : Int} (hW : WF s) (hx : 0 ≤ x ∧ x < s 2) (hv : v = 0 ∨ v = 1) : ∃ s', OPlost s x v s' ∧ WF s' := by
  have h10 := hW.2.1
  have e : ∀ k, ¬ (1600 ≤ k ∧ k < 1610) → (fun k => if k = 1600 + x then v else s k) k = s k := fun k h => if_neg (by omega)
  have hO : OPlost s x v (fun k => if k = 1600 + x then v else s k) := by
    refine ⟨⟨e _ (by omega), e _ (by omega), e _ (by omega), e _ (by omega), e _ (by omega), e _ (by omega)⟩, cv_of hW.1 (fun k k0 _ => e k (by omega)), fun f f0 f1 => ⟨AGx_of hW.1 (fun k _ k1 => e k k1) f0 (by omega), ?_⟩⟩
    show (if 1600 + f = 1600 + x then v else s (1600 + f)) = _
    by_cases q : f = x
    · rw [if_pos q, if_pos (by omega)]
    · rw [if_neg q, if_neg (by omega)]; rfl
  exact ⟨_, hO, OPlost_wf hW hv hO⟩
