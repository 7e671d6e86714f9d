/-! ===== the law's loop ===== -/
/-- the class and the model are in one state -/
def LJ (μ : mzM) (s : Int → Int) (n : Int) (p : Int → Int → Int) (T : Int → Int) (L : Int) : Prop := CI μ s n p ∧ MI μ s n p ∧ WF s ∧ (∀ j, 0 ≤ j → j < n → WF (p j)) ∧ TX μ T L ∧ MT μ T L
def SCR (μ ν : mzM) : Prop := (∀ k, ν 32 0 k = μ 32 0 k) ∧ ν 33 0 1 = μ 33 0 1
section Law
variable {μ : mzM} {s : Int → Int} {n : Int} {p : Int → Int → Int} {T : Int → Int} {L : Int}
theorem scr_rf : SCR μ μ := ⟨fun _ => rfl, rfl⟩
theorem scr_fr {P : Nat → Int → Int → Prop} {ν : mzM} (hF : fr P μ ν) (h32 : ∀ k, ¬ P 32 0 k) (h33 : ¬ P 33 0 1) : SCR μ ν := ⟨fun k => hF 32 0 k (h32 k), hF 33 0 1 h33⟩
theorem scr_tr {ν ξ : mzM} (h1 : SCR μ ν) (h2 : SCR ν ξ) : SCR μ ξ := ⟨fun k => (h2.1 k).trans (h1.1 k), h2.2.trans h1.2⟩
theorem CI_k {P : Nat → Int → Int → Prop} {ν : mzM} (hC : CI μ s n p) (hF : fr P μ ν) (hP : ∀ t i k, P t i k → 5 < t) : CI ν s n p := by
  obtain ⟨c1, c2, c3, c4⟩ := hC
  have st : ∀ (i : Int) (q : Int → Int), ST μ i q → ST ν i q := fun i q h => ST_fr h hF (fun k z => by have := hP _ _ _ z; omega) (fun k => ⟨fun z => by have := hP _ _ _ z; omega, fun z => by have := hP _ _ _ z; omega⟩) (fun f f0 f1 k => ⟨fun z => by have := hP _ _ _ z; omega, fun z => by have := hP _ _ _ z; omega, fun z => by have := hP _ _ _ z; omega, fun z => by have := hP _ _ _ z; omega⟩)
  have e2 : ν 0 0 2 = μ 0 0 2 := hF 0 0 2 (fun z => by have := hP _ _ _ z; omega)
  have e3 : ν 0 0 3 = μ 0 0 3 := hF 0 0 3 (fun z => by have := hP _ _ _ z; omega)
  exact ⟨st 0 s c1, by rw [e2]; exact c2, by rw [e3]; exact c3, fun j j0 j1 => by rw [e2]; exact st _ _ (c4 j j0 j1)⟩
theorem MI_cl {P : Nat → Int → Int → Prop} {ν : mzM} (hM : MI μ s n p) (hF : fr P μ ν) (hP : ∀ t i k, P t i k → t ≤ 18) : MI ν s n p :=
  MI_s (MI_fr hM hF (fun k z => by have := hP _ _ _ z; omega) (fun z => by have := hP _ _ _ z; omega)) (fr_s hM.1 hF (fun k z => by have := hP _ _ _ z; omega))
theorem lj_sc {ν : mzM} (hJ : LJ μ s n p T L) (hF : fr Psc μ ν) : LJ ν s n p T L ∧ SCR μ ν := by
  obtain ⟨h1, h2, h3, h4, h5, h6⟩ := hJ
  exact ⟨⟨CI_sc h3 h4 h1 hF, MI_cl h2 hF (fun t i k q => by omega), h3, h4, TX_fr h5 hF (by omega) (fun k => by omega), MT_fr h6 hF (by omega) (fun k => by omega)⟩, scr_fr hF (fun k => by omega) (by omega)⟩
theorem lj_md {P : Nat → Int → Int → Prop} {ν : mzM} (hJ : LJ μ s n p T L) (hF : fr P μ ν) (hP : ∀ t i k, P t i k → (24 ≤ t ∧ t ≤ 29) ∨ (t = 20 ∧ k ≠ 2 ∧ k ≠ 4) ∨ (t = 33 ∧ k = 0)) : LJ ν s n p T L ∧ SCR μ ν := by
  obtain ⟨h1, h2, h3, h4, h5, h6⟩ := hJ
  have hF := fr_mono hF hP
  exact ⟨⟨CI_k h1 hF (fun t i k q => by omega), MI_s (MI_fr h2 hF (fun k => by omega) (by omega)) (fr_s h2.1 hF (fun k => by omega)), h3, h4, TX_fr h5 hF (by omega) (fun k => by omega), MT_fr h6 hF (by omega) (fun k => by omega)⟩, scr_fr hF (fun k => by omega) (by omega)⟩
theorem lj_mut {ν ξ : mzM} (hJ : LJ μ s n p T L) (hF : fr Pcl μ ν) (hF2 : fr Pmm ν ξ) (hM2 : MI ξ (ξ 21 0) (pushn n) (pushp p n s)) (hC2 : CI ν (ξ 21 0) (pushn n) (pushp p n s)) (hW2 : WF (ξ 21 0)) : LJ ξ (ξ 21 0) (pushn n) (pushp p n s) T L ∧ SCR μ ξ := by
  obtain ⟨h1, h2, h3, h4, h5, h6⟩ := hJ
  exact ⟨⟨CI_k hC2 hF2 (fun t i k q => by omega), hM2, hW2, push_wf h3 h4 h2.2.1.2, TX_fr (TX_fr h5 hF (by omega) (fun k => by omega)) hF2 (by omega) (fun k => by omega), MT_fr (MT_fr h6 hF (by omega) (fun k => by omega)) hF2 (by omega) (fun k => by omega)⟩, scr_tr (scr_fr hF (fun k => by omega) (by omega)) (scr_fr hF2 (fun k => by omega) (by omega))⟩
theorem chn_ag {s1 s2 : Int → Int} {N : Int} (hr : ∀ f, 0 ≤ f → f < N → sref s1 f = sref s2 f ∧ sref s1 f < N) : ∀ (m : Nat) (f : Int), f < N → chn s1 m f = chn s2 m f ∧ ∀ g ∈ chn s1 m f, 0 ≤ g ∧ g < N
  | 0, f, _ => ⟨rfl, fun g hg => by cases hg⟩
  | m + 1, f, hf => by
    by_cases q : f < 0
    · rw [chn_neg s1 _ q, chn_neg s2 _ q]
      exact ⟨rfl, fun g hg => by cases hg⟩
    · obtain ⟨a1, a2⟩ := hr f (by omega) hf
      obtain ⟨b1, b2⟩ := chn_ag hr m (sref s1 f) a2
      rw [chn_pos s1 m (by omega), chn_pos s2 m (by omega), ← a1]
      refine ⟨by rw [b1], fun g hg => ?_⟩
      rcases List.mem_cons.mp hg with z | z
      · omega
      · exact b2 g z
theorem goods_ag {s1 s2 : Int → Int} (h2 : s1 2 = s2 2) (hr : ∀ f, 0 ≤ f → f < s1 2 → sref s1 f = sref s2 f ∧ sref s1 f < s1 2) (hl : ∀ f, 0 ≤ f → f < s1 2 → slost s1 f = slost s2 f) : sgoods s1 = sgoods s2 := by
  unfold sgoods
  rw [← h2]
  refine isum_congr _ 0 (fun f f0 f1 => ?_)
  obtain ⟨b1, b2⟩ := chn_ag hr 10 f (by omega)
  have e : sgood s1 f ↔ sgood s2 f := by
    unfold sgood
    rw [← b1]
    exact ⟨fun w g hg => by rw [← hl g (b2 g hg).1 (b2 g hg).2]; exact w g hg, fun w g hg => by rw [hl g (b2 g hg).1 (b2 g hg).2]; exact w g hg⟩
  by_cases z : sgood s1 f
  · rw [if_pos z, if_pos (e.mp z)]
  · rw [if_neg z, if_neg (fun y => z (e.mpr y))]
variable {Q : Option mzV → mzM → Prop} {x : Int}
abbrev NX (μ : mzM) (x : Int) (Q : Option mzV → mzM → Prop) : Prop := ∀ (ν : mzM) (s : Int → Int) (n : Int) (p : Int → Int → Int) (T : Int → Int) (L : Int), LJ ν s n p T L → SCR μ ν → (zin (x + 5) ∧ ZW f_L_law 10 [vR 32 0, vR 0 0, vR 20 0, vI (x + 5)] [] ν Q)
abbrev XB (μ : mzM) (x : Int) : Prop := 0 ≤ x ∧ x + 5 ≤ μ 33 0 1 ∧ μ 33 0 1 ≤ 2147483647
theorem xz {j : Int} (hX : XB μ x) (h0 : 0 ≤ j) (h1 : j ≤ 5) : zin (x + j) := ⟨by omega, by omega⟩
theorem L_cell (hJ : LJ μ s n p T L) (hX : XB μ x) (nx : NX μ x Q) : ZW f_L_law 76 [vR 32 0, vR 0 0, vR 20 0, vI x] [] μ Q := by
  obtain ⟨hC, hM, hW, hp, hT, hU⟩ := id hJ
  refine vc_L_law_76 ⟨xz hX (by decide) (by decide), by omega, s_cell hW hC.1 ⟨xz hX (by decide) (by decide), by omega, m_cell hM.1 hW ?_⟩⟩
  rw [if_pos rfl]
  exact nx μ _ _ _ _ _ hJ scr_rf
theorem L_digest (hJ : LJ μ s n p T L) (hX : XB μ x) (nx : NX μ x Q) : ZW f_L_law 124 [vR 32 0, vR 0 0, vR 20 0, vI x] [] μ Q := by
  obtain ⟨hC, hM, hW, hp, hT, hU⟩ := id hJ
  refine vc_L_law_124 ⟨xz hX (by decide) (by decide), by omega, xz hX (by decide) (by decide), by omega, xz hX (by decide) (by decide), by omega, s_digest hW hC.1 ⟨xz hX (by decide) (by decide), by omega, xz hX (by decide) (by decide), by omega, xz hX (by decide) (by decide), by omega, m_digest hM.1 hW ?_⟩⟩
  rw [if_pos rfl]
  exact nx μ _ _ _ _ _ hJ scr_rf
theorem L_frame (hJ : LJ μ s n p T L) (hX : XB μ x) (nx : NX μ x Q) : ZW f_L_law 270 [vR 32 0, vR 0 0, vR 20 0, vI x] [] μ Q := by
  obtain ⟨hC, hM, hW, hp, hT, hU⟩ := id hJ
  refine vc_L_law_270 ⟨xz hX (by decide) (by decide), by omega, xz hX (by decide) (by decide), by omega, s_frame hW hC.1 ⟨xz hX (by decide) (by decide), by omega, xz hX (by decide) (by decide), by omega, m_frame hM.1 hW ?_⟩⟩
  rw [if_pos rfl]
  exact nx μ _ _ _ _ _ hJ scr_rf
theorem L_code (hJ : LJ μ s n p T L) (hX : XB μ x) (nx : NX μ x Q) : ZW f_L_law 297 [vR 32 0, vR 0 0, vR 20 0, vI x] [] μ Q := by
  obtain ⟨hC, hM, hW, hp, hT, hU⟩ := id hJ
  refine vc_L_law_297 ⟨xz hX (by decide) (by decide), by omega, xz hX (by decide) (by decide), by omega, xz hX (by decide) (by decide), by omega, s_code hW hC.1 ⟨xz hX (by decide) (by decide), by omega, xz hX (by decide) (by decide), by omega, xz hX (by decide) (by decide), by omega, m_code hM.1 hW ?_⟩⟩
  rw [if_pos rfl]
  exact nx μ _ _ _ _ _ hJ scr_rf
theorem L_pixel (hJ : LJ μ s n p T L) (hX : XB μ x) (nx : NX μ x Q) : ZW f_L_law 381 [vR 32 0, vR 0 0, vR 20 0, vI x] [] μ Q := by
  obtain ⟨hC, hM, hW, hp, hT, hU⟩ := id hJ
  refine vc_L_law_381 ⟨xz hX (by decide) (by decide), by omega, xz hX (by decide) (by decide), by omega, s_pixel hW hC.1 ⟨xz hX (by decide) (by decide), by omega, xz hX (by decide) (by decide), by omega, m_pixel hM.1 hW ?_⟩⟩
  rw [if_pos rfl]
  exact nx μ _ _ _ _ _ hJ scr_rf
theorem L_difference (hJ : LJ μ s n p T L) (hX : XB μ x) (nx : NX μ x Q) : ZW f_L_law 442 [vR 32 0, vR 0 0, vR 20 0, vI x] [] μ Q := by
  obtain ⟨hC, hM, hW, hp, hT, hU⟩ := id hJ
  refine vc_L_law_442 ⟨xz hX (by decide) (by decide), by omega, xz hX (by decide) (by decide), by omega, s_difference hW hC.1 ⟨xz hX (by decide) (by decide), by omega, xz hX (by decide) (by decide), by omega, m_difference hM.1 hW ?_⟩⟩
  rw [if_pos rfl]
  exact nx μ _ _ _ _ _ hJ scr_rf
theorem L_findBlock (hJ : LJ μ s n p T L) (hX : XB μ x) (nx : NX μ x Q) : ZW f_L_law 469 [vR 32 0, vR 0 0, vR 20 0, vI x] [] μ Q := by
  obtain ⟨hC, hM, hW, hp, hT, hU⟩ := id hJ
  refine vc_L_law_469 ⟨xz hX (by decide) (by decide), by omega, xz hX (by decide) (by decide), by omega, s_findBlock hW hC.1 ⟨xz hX (by decide) (by decide), by omega, xz hX (by decide) (by decide), by omega, m_findBlock hM.1 hW ?_⟩⟩
  rw [if_pos rfl]
  exact nx μ _ _ _ _ _ hJ scr_rf
theorem L_greatestSeek (hJ : LJ μ s n p T L) (hX : XB μ x) (nx : NX μ x Q) : ZW f_L_law 513 [vR 32 0, vR 0 0, vR 20 0, vI x] [] μ Q := by
  obtain ⟨hC, hM, hW, hp, hT, hU⟩ := id hJ
  refine vc_L_law_513 (s_greatestSeek hW hC.1 (m_greatestSeek hM.1 hW ?_))
  rw [if_pos rfl]
  exact nx μ _ _ _ _ _ hJ scr_rf
theorem L_dependents (hJ : LJ μ s n p T L) (hX : XB μ x) (nx : NX μ x Q) : ZW f_L_law 520 [vR 32 0, vR 0 0, vR 20 0, vI x] [] μ Q := by
  obtain ⟨hC, hM, hW, hp, hT, hU⟩ := id hJ
  refine vc_L_law_520 ⟨xz hX (by decide) (by decide), by omega, s_dependents hW hC.1 ⟨xz hX (by decide) (by decide), by omega, m_dependents hM.1 hW ?_⟩⟩
  rw [if_pos rfl]
  exact nx μ _ _ _ _ _ hJ scr_rf
theorem L_patch (hJ : LJ μ s n p T L) (hX : XB μ x) (nx : NX μ x Q) : ZW f_L_law 537 [vR 32 0, vR 0 0, vR 20 0, vI x] [] μ Q := by
  obtain ⟨hC, hM, hW, hp, hT, hU⟩ := id hJ
  refine vc_L_law_537 ⟨xz hX (by decide) (by decide), by omega, s_patch hW hC.1 ⟨xz hX (by decide) (by decide), by omega, m_patch hM.1 hW ?_⟩⟩
  rw [if_pos rfl]
  exact nx μ _ _ _ _ _ hJ scr_rf
theorem L_count (hJ : LJ μ s n p T L) (hX : XB μ x) (nx : NX μ x Q) : ZW f_L_law 408 [vR 32 0, vR 0 0, vR 20 0, vI x] [] μ Q := by
  obtain ⟨hC, hM, hW, hp, hT, hU⟩ := id hJ
  refine vc_L_law_408 ⟨xz hX (by decide) (by decide), by omega, s_count hW hC ⟨xz hX (by decide) (by decide), by omega, m_count hM.1 hW ?_⟩⟩
  rw [hT.1, hM.2.1.1, hU.1, if_pos rfl]
  exact nx μ _ _ _ _ _ hJ scr_rf
theorem L_run (hJ : LJ μ s n p T L) (hX : XB μ x) (nx : NX μ x Q) : ZW f_L_law 334 [vR 32 0, vR 0 0, vR 20 0, vI x] [] μ Q := by
  obtain ⟨hC, hM, hW, hp, hT, hU⟩ := id hJ
  refine vc_L_law_334 ⟨xz hX (by decide) (by decide), by omega, xz hX (by decide) (by decide), by omega, xz hX (by decide) (by decide), by omega, xz hX (by decide) (by decide), by omega, s_run hW hC.1 (fun ν hF => ?_)⟩
  obtain ⟨hJ1, hc⟩ := lj_sc hJ hF
  have hc2 := hc.2
  rw [hc.1 (x + 1)]
  rw [hc.1 (x + 2)]
  rw [hc.1 (x + 3)]
  rw [hc.1 (x + 4)]
  refine ⟨xz hX (by decide) (by decide), by omega, xz hX (by decide) (by decide), by omega, xz hX (by decide) (by decide), by omega, xz hX (by decide) (by decide), by omega, m_run hJ1.2.1.1 hW ?_⟩
  rw [if_pos rfl]
  exact nx ν _ _ _ _ _ hJ1 hc
theorem L_costWith (hJ : LJ μ s n p T L) (hX : XB μ x) (nx : NX μ x Q) : ZW f_L_law 425 [vR 32 0, vR 0 0, vR 20 0, vI x] [] μ Q := by
  obtain ⟨hC, hM, hW, hp, hT, hU⟩ := id hJ
  refine vc_L_law_425 ⟨xz hX (by decide) (by decide), by omega, s_costWith hW hC.1 (fun ν hF => ?_)⟩
  obtain ⟨hJ1, hc⟩ := lj_sc hJ hF
  have hc2 := hc.2
  rw [hc.1 (x + 1)]
  refine ⟨xz hX (by decide) (by decide), by omega, m_costWith hJ1.2.1.1 hW (fun ξ hF2 => ?_)⟩
  rw [if_pos rfl]
  obtain ⟨hJ2, hd⟩ := lj_md hJ1 hF2 (fun t i k q => by omega)
  exact nx ξ _ _ _ _ _ hJ2 (scr_tr hc hd)
theorem L_falseMatches (hJ : LJ μ s n p T L) (hX : XB μ x) (nx : NX μ x Q) : ZW f_L_law 496 [vR 32 0, vR 0 0, vR 20 0, vI x] [] μ Q := by
  obtain ⟨hC, hM, hW, hp, hT, hU⟩ := id hJ
  refine vc_L_law_496 ⟨xz hX (by decide) (by decide), by omega, s_falseMatches hW hC.1 (fun ν hF => ?_)⟩
  obtain ⟨hJ1, hc⟩ := lj_sc hJ hF
  have hc2 := hc.2
  rw [hc.1 (x + 1)]
  refine ⟨xz hX (by decide) (by decide), by omega, m_falseMatches hJ1.2.1.1 hW (fun ξ hF2 => ?_)⟩
  rw [if_pos rfl]
  obtain ⟨hJ2, hd⟩ := lj_md hJ1 hF2 (fun t i k q => by omega)
  exact nx ξ _ _ _ _ _ hJ2 (scr_tr hc hd)
theorem L_planCost (hJ : LJ μ s n p T L) (hX : XB μ x) (nx : NX μ x Q) : ZW f_L_law 554 [vR 32 0, vR 0 0, vR 20 0, vI x] [] μ Q := by
  obtain ⟨hC, hM, hW, hp, hT, hU⟩ := id hJ
  refine vc_L_law_554 (s_planCost hW hC.1 (fun ν hF => ?_))
  obtain ⟨hJ1, hc⟩ := lj_sc hJ hF
  have hc2 := hc.2
  refine m_planCost hJ1.2.1.1 hW (fun ξ hF2 => ?_)
  rw [if_pos rfl]
  obtain ⟨hJ2, hd⟩ := lj_md hJ1 hF2 (fun t i k q => by omega)
  exact nx ξ _ _ _ _ _ hJ2 (scr_tr hc hd)
theorem L_planKeys (hJ : LJ μ s n p T L) (hX : XB μ x) (nx : NX μ x Q) : ZW f_L_law 561 [vR 32 0, vR 0 0, vR 20 0, vI x] [] μ Q := by
  obtain ⟨hC, hM, hW, hp, hT, hU⟩ := id hJ
  refine vc_L_law_561 (s_planKeys hW hC.1 (fun ν hF => ?_))
  obtain ⟨hJ1, hc⟩ := lj_sc hJ hF
  have hc2 := hc.2
  refine m_planKeys hJ1.2.1.1 hW (fun ξ hF2 => ?_)
  rw [if_pos rfl]
  obtain ⟨hJ2, hd⟩ := lj_md hJ1 hF2 (fun t i k q => by omega)
  exact nx ξ _ _ _ _ _ hJ2 (scr_tr hc hd)
theorem L_addKey (hJ : LJ μ s n p T L) (hX : XB μ x) (nx : NX μ x Q) : ZW f_L_law 161 [vR 32 0, vR 0 0, vR 20 0, vI x] [] μ Q := by
  obtain ⟨hC, hM, hW, hp, hT, hU⟩ := id hJ
  refine vc_L_law_161 (s_addKey hW hp hC (fun g1 => ?_) (fun g2 ν hCI hF => ?_))
  · exact m_addKey hW hM (fun z1 => by rw [if_pos rfl]; exact nx μ _ _ _ _ _ hJ scr_rf) (fun z2 ξ a1 a2 a3 => by omega)
  · have hc := scr_fr hF (fun k => by omega) (by omega)
    have hc2 := hc.2
    refine m_addKey hW (MI_cl hM hF (fun t i k q => q.1)) (fun z1 => by omega) (fun z2 ξ hM2 hO hF2 => ?_)
    obtain ⟨hJ2, hd⟩ := lj_mut hJ hF hF2 hM2 (hCI _ hO) (OPadd_wf hW g2 (Or.inl rfl) hO)
    rw [if_pos rfl]
    exact nx ξ _ _ _ _ _ hJ2 hd
theorem L_addDelta (hJ : LJ μ s n p T L) (hX : XB μ x) (nx : NX μ x Q) : ZW f_L_law 168 [vR 32 0, vR 0 0, vR 20 0, vI x] [] μ Q := by
  obtain ⟨hC, hM, hW, hp, hT, hU⟩ := id hJ
  refine vc_L_law_168 ⟨xz hX (by decide) (by decide), by omega, s_addDelta hW hp hC (fun g1 => ?_) (fun g1 g2 => ?_) (fun g1 g2 g3 => ?_) (fun g1 g2 g3 ν hCI hF => ?_)⟩
  · exact ⟨xz hX (by decide) (by decide), by omega, m_addDelta hW hM (fun z1 => by rw [if_pos rfl]; exact nx μ _ _ _ _ _ hJ scr_rf) (fun z1 z2 => by exact absurd z1 g1) (fun z1 z2 z3 => by exact absurd z1 g1) (fun z1 z2 z3 ξ a1 a2 a3 => by exact absurd z1 g1)⟩
  · exact ⟨xz hX (by decide) (by decide), by omega, m_addDelta hW hM (fun z1 => by exact absurd g1 z1) (fun z1 z2 => by rw [if_pos rfl]; exact nx μ _ _ _ _ _ hJ scr_rf) (fun z1 z2 z3 => by exact absurd z2 g2) (fun z1 z2 z3 ξ a1 a2 a3 => by exact absurd z2 g2)⟩
  · exact ⟨xz hX (by decide) (by decide), by omega, m_addDelta hW hM (fun z1 => by exact absurd g1 z1) (fun z1 z2 => by exact absurd g2 z2) (fun z1 z2 z3 => by rw [if_pos rfl]; exact nx μ _ _ _ _ _ hJ scr_rf) (fun z1 z2 z3 ξ a1 a2 a3 => by omega)⟩
  · have hc := scr_fr hF (fun k => by omega) (by omega)
    have hc2 := hc.2
    rw [hc.1 (x + 1)]
    refine ⟨xz hX (by decide) (by decide), by omega, m_addDelta hW (MI_cl hM hF (fun t i k q => q.1)) (fun z1 => by exact absurd g1 z1) (fun z1 z2 => by exact absurd g2 z2) (fun z1 z2 z3 => by omega) (fun z1 z2 z3 ξ hM2 hO hF2 => ?_)⟩
    obtain ⟨hJ2, hd⟩ := lj_mut hJ hF hF2 hM2 (hCI _ hO) (OPadd_wf hW g3 (Or.inr g1) hO)
    rw [if_pos rfl]
    exact nx ξ _ _ _ _ _ hJ2 hd
theorem L_addChosen (hJ : LJ μ s n p T L) (hX : XB μ x) (nx : NX μ x Q) : ZW f_L_law 185 [vR 32 0, vR 0 0, vR 20 0, vI x] [] μ Q := by
  obtain ⟨hC, hM, hW, hp, hT, hU⟩ := id hJ
  refine vc_L_law_185 (s_addChosen hW hp hC (fun g1 => ?_) (fun g2 ν hCI hF => ?_))
  · exact m_addChosen hW hM (fun z1 => by rw [if_pos rfl]; exact nx μ _ _ _ _ _ hJ scr_rf) (fun z2 ξ a1 a2 a3 => by omega)
  · have hc := scr_fr hF (fun k => by omega) (by omega)
    have hc2 := hc.2
    refine m_addChosen hW (MI_cl hM hF (fun t i k q => q.1)) (fun z1 => by omega) (fun z2 ξ hM2 hO hF2 => ?_)
    obtain ⟨hJ2, hd⟩ := lj_mut hJ hF hF2 hM2 (hCI _ hO) (OPadd_wf hW g2 (schosen_ok hW) hO)
    rw [if_pos rfl]
    exact nx ξ _ _ _ _ _ hJ2 hd
theorem L_removeLast (hJ : LJ μ s n p T L) (hX : XB μ x) (nx : NX μ x Q) : ZW f_L_law 192 [vR 32 0, vR 0 0, vR 20 0, vI x] [] μ Q := by
  obtain ⟨hC, hM, hW, hp, hT, hU⟩ := id hJ
  refine vc_L_law_192 (s_removeLast hW hp hC (fun g1 => ?_) (fun g2 ν hCI hF => ?_))
  · exact m_removeLast hW hM (fun z1 => by rw [if_pos rfl]; exact nx μ _ _ _ _ _ hJ scr_rf) (fun z2 ξ a1 a2 a3 => by omega)
  · have hc := scr_fr hF (fun k => by omega) (by omega)
    have hc2 := hc.2
    refine m_removeLast hW (MI_cl hM hF (fun t i k q => q.1)) (fun z1 => by omega) (fun z2 ξ hM2 hO hF2 => ?_)
    obtain ⟨hJ2, hd⟩ := lj_mut hJ hF hF2 hM2 (hCI _ hO) (OPrem_wf hW g2 hO)
    rw [if_pos rfl]
    exact nx ξ _ _ _ _ _ hJ2 hd
theorem L_recode (hJ : LJ μ s n p T L) (hX : XB μ x) (nx : NX μ x Q) : ZW f_L_law 199 [vR 32 0, vR 0 0, vR 20 0, vI x] [] μ Q := by
  obtain ⟨hC, hM, hW, hp, hT, hU⟩ := id hJ
  refine vc_L_law_199 (s_recode hW hp hC (fun g1 => ?_) (fun g2 ν hCI hF => ?_))
  · exact m_recode hW hM (fun z1 => by rw [if_pos rfl]; exact nx μ _ _ _ _ _ hJ scr_rf) (fun z2 ξ a1 a2 a3 => by omega)
  · have hc := scr_fr hF (fun k => by omega) (by omega)
    have hc2 := hc.2
    refine m_recode hW (MI_cl hM hF (fun t i k q => q.1)) (fun z1 => by omega) (fun z2 ξ hM2 hO hF2 => ?_)
    obtain ⟨hJ2, hd⟩ := lj_mut hJ hF hF2 hM2 (hCI _ hO) (OPrec_wf hW g2 hO)
    rw [if_pos rfl]
    exact nx ξ _ _ _ _ _ hJ2 hd
theorem L_setSize (hJ : LJ μ s n p T L) (hX : XB μ x) (nx : NX μ x Q) : ZW f_L_law 22 [vR 32 0, vR 0 0, vR 20 0, vI x] [] μ Q := by
  obtain ⟨hC, hM, hW, hp, hT, hU⟩ := id hJ
  refine vc_L_law_22 ⟨xz hX (by decide) (by decide), by omega, xz hX (by decide) (by decide), by omega, s_setSize hW hp hC (fun g1 => ?_) (fun g2 g3 ν hCI hF => ?_)⟩
  · exact ⟨xz hX (by decide) (by decide), by omega, xz hX (by decide) (by decide), by omega, m_setSize hW hM (fun z1 => by rw [if_pos rfl]; exact nx μ _ _ _ _ _ hJ scr_rf) (fun z2 z3 ξ a1 a2 a3 => by exact absurd ⟨z2, z3⟩ g1)⟩
  · have hc := scr_fr hF (fun k => by omega) (by omega)
    have hc2 := hc.2
    rw [hc.1 (x + 1)]
    rw [hc.1 (x + 2)]
    refine ⟨xz hX (by decide) (by decide), by omega, xz hX (by decide) (by decide), by omega, m_setSize hW (MI_cl hM hF (fun t i k q => q.1)) (fun z1 => by exact absurd ⟨g2, g3⟩ z1) (fun z2 z3 ξ hM2 hO hF2 => ?_)⟩
    obtain ⟨hJ2, hd⟩ := lj_mut hJ hF hF2 hM2 (hCI _ hO) (OPsize_wf hW g2 g3 hO)
    rw [if_pos rfl]
    exact nx ξ _ _ _ _ _ hJ2 hd
theorem L_setCell (hJ : LJ μ s n p T L) (hX : XB μ x) (nx : NX μ x Q) : ZW f_L_law 49 [vR 32 0, vR 0 0, vR 20 0, vI x] [] μ Q := by
  obtain ⟨hC, hM, hW, hp, hT, hU⟩ := id hJ
  refine vc_L_law_49 ⟨xz hX (by decide) (by decide), by omega, xz hX (by decide) (by decide), by omega, s_setCell hW hp hC (fun g1 => ?_) (fun g2 g3 g4 ν hCI hF => ?_)⟩
  · exact ⟨xz hX (by decide) (by decide), by omega, xz hX (by decide) (by decide), by omega, m_setCell hW hM (fun z1 => by rw [if_pos rfl]; exact nx μ _ _ _ _ _ hJ scr_rf) (fun z2 z3 z4 ξ a1 a2 a3 => by exact absurd ⟨z2, z3, z4⟩ g1)⟩
  · have hc := scr_fr hF (fun k => by omega) (by omega)
    have hc2 := hc.2
    rw [hc.1 (x + 1)]
    rw [hc.1 (x + 2)]
    refine ⟨xz hX (by decide) (by decide), by omega, xz hX (by decide) (by decide), by omega, m_setCell hW (MI_cl hM hF (fun t i k q => q.1)) (fun z1 => by exact absurd ⟨g2, g3, g4⟩ z1) (fun z2 z3 z4 ξ hM2 hO hF2 => ?_)⟩
    obtain ⟨hJ2, hd⟩ := lj_mut hJ hF hF2 hM2 (hCI _ hO) (OPcell_wf hW g3 g4 hO)
    rw [if_pos rfl]
    exact nx ξ _ _ _ _ _ hJ2 hd
theorem L_setLimits (hJ : LJ μ s n p T L) (hX : XB μ x) (nx : NX μ x Q) : ZW f_L_law 206 [vR 32 0, vR 0 0, vR 20 0, vI x] [] μ Q := by
  obtain ⟨hC, hM, hW, hp, hT, hU⟩ := id hJ
  refine vc_L_law_206 ⟨xz hX (by decide) (by decide), by omega, xz hX (by decide) (by decide), by omega, xz hX (by decide) (by decide), by omega, s_setLimits hW hp hC (fun g1 => ?_) (fun g2 g3 g4 ν hCI hF => ?_)⟩
  · exact ⟨xz hX (by decide) (by decide), by omega, xz hX (by decide) (by decide), by omega, xz hX (by decide) (by decide), by omega, m_setLimits hW hM (fun z1 => by rw [if_pos rfl]; exact nx μ _ _ _ _ _ hJ scr_rf) (fun z2 z3 z4 ξ a1 a2 a3 => by exact absurd ⟨z2, z3, z4⟩ g1)⟩
  · have hc := scr_fr hF (fun k => by omega) (by omega)
    have hc2 := hc.2
    rw [hc.1 (x + 1)]
    rw [hc.1 (x + 2)]
    rw [hc.1 (x + 3)]
    refine ⟨xz hX (by decide) (by decide), by omega, xz hX (by decide) (by decide), by omega, xz hX (by decide) (by decide), by omega, m_setLimits hW (MI_cl hM hF (fun t i k q => q.1)) (fun z1 => by exact absurd ⟨g2, g3, g4⟩ z1) (fun z2 z3 z4 ξ hM2 hO hF2 => ?_)⟩
    obtain ⟨hJ2, hd⟩ := lj_mut hJ hF hF2 hM2 (hCI _ hO) (OPlim_wf hW g2 g3 g4 hO)
    rw [if_pos rfl]
    exact nx ξ _ _ _ _ _ hJ2 hd
theorem L_setLost (hJ : LJ μ s n p T L) (hX : XB μ x) (nx : NX μ x Q) : ZW f_L_law 243 [vR 32 0, vR 0 0, vR 20 0, vI x] [] μ Q := by
  obtain ⟨hC, hM, hW, hp, hT, hU⟩ := id hJ
  refine vc_L_law_243 ⟨xz hX (by decide) (by decide), by omega, xz hX (by decide) (by decide), by omega, s_setLost hW hp hC (fun g1 => ?_) (fun g1 g2 => ?_) (fun g1 g2 g3 ν hCI hF s1 hO1 => ?_)⟩
  · exact ⟨xz hX (by decide) (by decide), by omega, xz hX (by decide) (by decide), by omega, m_setLost hW hM (fun z1 => by rw [if_pos rfl]; exact nx μ _ _ _ _ _ hJ scr_rf) (fun z1 z2 => by exact absurd z2 (fun q => g1 ⟨z1, by have := (hW.2.2.2.2.2.2 _ z1.1 z1.2).2.2.1; omega⟩)) (fun z1 z2 z3 ξ a1 a2 a3 => by exact absurd ⟨z1, by omega⟩ g1)⟩
  · exact ⟨xz hX (by decide) (by decide), by omega, xz hX (by decide) (by decide), by omega, m_setLost hW hM (fun z1 => by exact absurd ⟨g1, by have := (hW.2.2.2.2.2.2 _ g1.1 g1.2).2.2.1; omega⟩ z1) (fun z1 z2 => by rw [if_pos rfl]; exact nx μ _ _ _ _ _ hJ scr_rf) (fun z1 z2 z3 ξ a1 a2 a3 => by exact absurd g2 z3)⟩
  · have hc := scr_fr hF (fun k => by omega) (by omega)
    have hc2 := hc.2
    rw [hc.1 (x + 1)]
    rw [hc.1 (x + 2)]
    refine ⟨xz hX (by decide) (by decide), by omega, xz hX (by decide) (by decide), by omega, m_setLost hW (MI_cl hM hF (fun t i k q => q.1)) (fun z1 => by exact absurd ⟨g1, by omega⟩ z1) (fun z1 z2 => by exact absurd z2 g3) (fun z1 z2 z3 ξ hM2 hO hF2 => ?_)⟩
    obtain ⟨hJ2, hd⟩ := lj_mut hJ hF hF2 hM2 (hCI _ hO) (OPlost_wf hW g2 hO)
    rw [if_pos (goods_ag ?_ ?_ ?_)]
    · exact nx ξ _ _ _ _ _ hJ2 hd
    · rw [hO1.1.2.2.1, hO.1.2.2.1]
    · intro f f0 f1
      rw [hO1.1.2.2.1] at f1
      have a := (hO1.2.2 f f0 f1).1.2.1
      have c := (hO.2.2 f f0 f1).1.2.1
      refine ⟨a.trans c.symm, ?_⟩
      rw [a, hO1.1.2.2.1]
      rcases (hW.2.2.2.2.2.2 f f0 f1).2.1 with z | z <;> omega
    · intro f f0 f1
      rw [hO1.1.2.2.1] at f1
      exact (hO1.2.2 f f0 f1).2.trans (hO.2.2 f f0 f1).2.symm
theorem L_append (hJ : LJ μ s n p T L) (hX : XB μ x) (nx : NX μ x Q) : ZW f_L_law 93 [vR 32 0, vR 0 0, vR 20 0, vI x] [] μ Q := by
  obtain ⟨hC, hM, hW, hp, hT, hU⟩ := id hJ
  refine vc_L_law_93 ⟨xz hX (by decide) (by decide), by omega, s_append hT (fun g1 => ?_) (fun g1 g2 => ?_) (fun g1 g2 ν hT2 hF => ?_)⟩
  · exact ⟨xz hX (by decide) (by decide), by omega, m_append hU (fun _ => by rw [if_pos rfl]; exact nx μ _ _ _ _ _ hJ scr_rf) (fun z1 _ => absurd z1 g1) (fun z1 _ _ _ _ => absurd z1 g1)⟩
  · exact ⟨xz hX (by decide) (by decide), by omega, m_append hU (fun z1 => absurd g1 z1) (fun _ _ => by rw [if_pos rfl]; exact nx μ _ _ _ _ _ hJ scr_rf) (fun _ z2 _ _ _ => by omega)⟩
  · have hc := scr_fr hF (fun k => by omega) (by omega)
    have hc2 := hc.2
    rw [hc.1 (x + 1)]
    refine ⟨xz hX (by decide) (by decide), by omega, m_append (MT_fr hU hF (by omega) (fun k => by omega)) (fun z1 => absurd g1 z1) (fun _ z2 => by omega) (fun _ _ ξ hU2 hF2 => ?_)⟩
    rw [if_pos rfl]
    refine nx ξ s n p _ (L + 1) ⟨CI_k (CI_k hC hF (fun t i k q => by omega)) hF2 (fun t i k q => by omega), ?_, hW, hp, TX_fr hT2 hF2 (by omega) (fun k => by omega), hU2⟩ (scr_tr hc (scr_fr hF2 (fun k => by omega) (by omega)))
    have hM1 := MI_cl hM hF (fun t i k q => by omega)
    exact MI_s (MI_fr hM1 hF2 (fun k => by omega) (by omega)) (fr_s hM1.1 hF2 (fun k => by omega))
theorem L_clear (hJ : LJ μ s n p T L) (hX : XB μ x) (nx : NX μ x Q) : ZW f_L_law 110 [vR 32 0, vR 0 0, vR 20 0, vI x] [] μ Q := by
  obtain ⟨hC, hM, hW, hp, hT, hU⟩ := id hJ
  refine vc_L_law_110 (s_clearText hT (fun ν hT2 hF => ?_))
  have hc := scr_fr hF (fun k => by omega) (by omega)
  refine m_clearText (MT_fr hU hF (by omega) (fun k => by omega)) (fun ξ hU2 hF2 => ?_)
  rw [if_pos rfl]
  have hM1 := MI_cl hM hF (fun t i k q => by omega)
  exact nx ξ s n p T 0 ⟨CI_k (CI_k hC hF (fun t i k q => by omega)) hF2 (fun t i k q => by omega), MI_s (MI_fr hM1 hF2 (fun k => by omega) (by omega)) (fr_s hM1.1 hF2 (fun k => by omega)), hW, hp, TX_fr hT2 hF2 (by omega) (fun k => by omega), hU2⟩ (scr_tr hc (scr_fr hF2 (fun k => by omega) (by omega)))
theorem L_draw (hJ : LJ μ s n p T L) (hX : XB μ x) (nx : NX μ x Q) : ZW f_L_law 117 [vR 32 0, vR 0 0, vR 20 0, vI x] [] μ Q := by
  obtain ⟨hC, hM, hW, hp, hT, hU⟩ := id hJ
  have hT' : ∀ k, 0 ≤ k → k < L → 0 ≤ T k ∧ T k ≤ 255 := fun k k0 k1 => (hT.2.2 k k0 k1).2
  have hL := hT.2.1
  refine vc_L_law_117 (s_draw hW hp hC hT (fun e he ν hC1 hF _ => ?_) (fun l hl ν hCI h8 hF => ?_) (fun e he => by have := pall_e hT' 161 0 e (by omega) hL.1 he; omega))
  · have hc := scr_fr hF (fun k => by omega) (by omega)
    have hM1 := MI_cl hM hF (fun t i k q => by omega)
    refine m_draw hW hM1 (MT_fr hU hF (by omega) (fun k => by omega)) (fun e2 he2 ξ hM2 hU2 hF2 => ?_) (fun l hl ξ _ _ _ _ => by rw [he] at hl; cases hl)
    rw [he] at he2
    cases he2
    rw [if_pos rfl]
    exact nx ξ s n p T L ⟨CI_k hC1 hF2 (fun t i k q => by omega), hM2, hW, hp, TX_fr (TX_fr hT hF (by omega) (fun k => by omega)) hF2 (by omega) (fun k => by omega), hU2⟩ (scr_tr hc (scr_fr hF2 (fun k => by omega) (by omega)))
  · have hc := scr_fr hF (fun k => by omega) (by omega)
    have hM1 := MI_cl hM hF (fun t i k q => by omega)
    refine m_draw hW hM1 (MT_fr hU hF (by omega) (fun k => by omega)) (fun e he ξ _ _ _ => by rw [hl] at he; cases he) (fun l2 hl2 ξ hM2 hO h4 hF2 => ?_)
    rw [hl] at hl2
    cases hl2
    rw [if_pos rfl]
    exact nx ξ (ξ 21 0) (pushn n) (pushp p n s) T 0 ⟨CI_k (hCI _ hO) hF2 (fun t i k q => by omega), hM2, OPdraw_wf hW (pall_ok hT' 161 0 l (by omega) hL.1 hl) hO, push_wf hW hp hM.2.1.2, ⟨(hF2 8 0 1 (by omega)).trans h8, by decide, fun k k0 k1 => by omega⟩, ⟨h4, by decide, fun k k0 k1 => by omega⟩⟩ (scr_tr hc (scr_fr hF2 (fun k => by omega) (by omega)))
theorem L_undo (hJ : LJ μ s n p T L) (hX : XB μ x) (nx : NX μ x Q) : ZW f_L_law 568 [vR 32 0, vR 0 0, vR 20 0, vI x] [] μ Q := by
  obtain ⟨hC, hM, hW, hp, hT, hU⟩ := id hJ
  refine vc_L_law_568 (s_undo hp hC (fun g1 => ?_) (fun g1 ν hC1 hF => ?_))
  · exact m_undo hM (fun _ => by rw [if_pos rfl]; exact nx μ _ _ _ _ _ hJ scr_rf) (fun z1 _ _ _ _ => by omega)
  · have hc := scr_fr hF (fun k => by omega) (by omega)
    refine m_undo (MI_cl hM hF (fun t i k q => q.1)) (fun z1 => by omega) (fun _ ξ hk hM2 hF2 => ?_)
    rw [if_pos rfl]
    have hW1 := hp (n - 1) (by omega) (by omega)
    obtain ⟨hC2, hW2⟩ := CI_cg hW1 hC1 hk
    exact nx ξ (ξ 21 0) (n - 1) p T L ⟨CI_k hC2 hF2 (fun t i k q => by omega), hM2, hW2, fun j j0 j1 => hp j j0 (by omega), TX_fr (TX_fr hT hF (by omega) (fun k => by omega)) hF2 (by omega) (fun k => by omega), MT_fr (MT_fr hU hF (by omega) (fun k => by omega)) hF2 (by omega) (fun k => by omega)⟩ (scr_tr hc (scr_fr hF2 (fun k => by omega) (by omega)))
/-- the loop -/
theorem law_loop (hlen : μ 33 0 1 ≤ 2147483647) (h0 : 0 ≤ μ 33 0 1) (hQ : ∀ ν, Q (some (vI 1)) ν) : ∀ (m : Nat) (x : Int) (ν : mzM) (s : Int → Int) (n : Int) (p : Int → Int → Int) (T : Int → Int) (L : Int), m = (μ 33 0 1 - x).toNat → 0 ≤ x → LJ ν s n p T L → SCR μ ν → ZW f_L_law 10 [vR 32 0, vR 0 0, vR 20 0, vI x] [] ν Q := by
  intro m
  induction m using Nat.strongRecOn with
  | ind m ih =>
    intro x ν s n p T L hm x0 hJ hS
    refine vc_L_law_10 ?_
    rw [hS.2]
    refine ⟨⟨by omega, by omega⟩, ?_⟩
    by_cases hx : μ 33 0 1 - 5 < x
    · rw [if_pos hx]
      exact hQ ν
    · rw [if_neg hx]
      have hX : XB ν x := ⟨x0, by rw [hS.2]; omega, by rw [hS.2]; exact hlen⟩
      have nx : NX ν x Q := fun ξ s n p T L hJ2 hS2 => ⟨⟨by omega, by omega⟩, ih (μ 33 0 1 - (x + 5)).toNat (by omega) (x + 5) ξ s n p T L rfl (by omega) hJ2 (scr_tr hS hS2)⟩
      refine ⟨by omega, ?_⟩
      by_cases c0 : zand (ν 32 0 x) 31 = 0
      · rw [if_pos c0]
        exact L_setSize hJ hX nx
      rw [if_neg c0]
      by_cases c1 : zand (ν 32 0 x) 31 = 1
      · rw [if_pos c1]
        exact L_setCell hJ hX nx
      rw [if_neg c1]
      by_cases c2 : zand (ν 32 0 x) 31 = 2
      · rw [if_pos c2]
        exact L_cell hJ hX nx
      rw [if_neg c2]
      by_cases c3 : zand (ν 32 0 x) 31 = 3
      · rw [if_pos c3]
        exact L_append hJ hX nx
      rw [if_neg c3]
      by_cases c4 : zand (ν 32 0 x) 31 = 4
      · rw [if_pos c4]
        exact L_clear hJ hX nx
      rw [if_neg c4]
      by_cases c5 : zand (ν 32 0 x) 31 = 5
      · rw [if_pos c5]
        exact L_draw hJ hX nx
      rw [if_neg c5]
      by_cases c6 : zand (ν 32 0 x) 31 = 6
      · rw [if_pos c6]
        exact L_digest hJ hX nx
      rw [if_neg c6]
      by_cases c7 : zand (ν 32 0 x) 31 = 7
      · rw [if_pos c7]
        exact L_addKey hJ hX nx
      rw [if_neg c7]
      by_cases c8 : zand (ν 32 0 x) 31 = 8
      · rw [if_pos c8]
        exact L_addDelta hJ hX nx
      rw [if_neg c8]
      by_cases c9 : zand (ν 32 0 x) 31 = 9
      · rw [if_pos c9]
        exact L_addChosen hJ hX nx
      rw [if_neg c9]
      by_cases c10 : zand (ν 32 0 x) 31 = 10
      · rw [if_pos c10]
        exact L_removeLast hJ hX nx
      rw [if_neg c10]
      by_cases c11 : zand (ν 32 0 x) 31 = 11
      · rw [if_pos c11]
        exact L_recode hJ hX nx
      rw [if_neg c11]
      by_cases c12 : zand (ν 32 0 x) 31 = 12
      · rw [if_pos c12]
        exact L_setLimits hJ hX nx
      rw [if_neg c12]
      by_cases c13 : zand (ν 32 0 x) 31 = 13
      · rw [if_pos c13]
        exact L_setLost hJ hX nx
      rw [if_neg c13]
      by_cases c14 : zand (ν 32 0 x) 31 = 14
      · rw [if_pos c14]
        exact L_frame hJ hX nx
      rw [if_neg c14]
      by_cases c15 : zand (ν 32 0 x) 31 = 15
      · rw [if_pos c15]
        exact L_code hJ hX nx
      rw [if_neg c15]
      by_cases c16 : zand (ν 32 0 x) 31 = 16
      · rw [if_pos c16]
        exact L_run hJ hX nx
      rw [if_neg c16]
      by_cases c17 : zand (ν 32 0 x) 31 = 17
      · rw [if_pos c17]
        exact L_pixel hJ hX nx
      rw [if_neg c17]
      by_cases c18 : zand (ν 32 0 x) 31 = 18
      · rw [if_pos c18]
        exact L_count hJ hX nx
      rw [if_neg c18]
      by_cases c19 : zand (ν 32 0 x) 31 = 19
      · rw [if_pos c19]
        exact L_costWith hJ hX nx
      rw [if_neg c19]
      by_cases c20 : zand (ν 32 0 x) 31 = 20
      · rw [if_pos c20]
        exact L_difference hJ hX nx
      rw [if_neg c20]
      by_cases c21 : zand (ν 32 0 x) 31 = 21
      · rw [if_pos c21]
        exact L_findBlock hJ hX nx
      rw [if_neg c21]
      by_cases c22 : zand (ν 32 0 x) 31 = 22
      · rw [if_pos c22]
        exact L_falseMatches hJ hX nx
      rw [if_neg c22]
      by_cases c23 : zand (ν 32 0 x) 31 = 23
      · rw [if_pos c23]
        exact L_greatestSeek hJ hX nx
      rw [if_neg c23]
      by_cases c24 : zand (ν 32 0 x) 31 = 24
      · rw [if_pos c24]
        exact L_dependents hJ hX nx
      rw [if_neg c24]
      by_cases c25 : zand (ν 32 0 x) 31 = 25
      · rw [if_pos c25]
        exact L_patch hJ hX nx
      rw [if_neg c25]
      by_cases c26 : zand (ν 32 0 x) 31 = 26
      · rw [if_pos c26]
        exact L_planCost hJ hX nx
      rw [if_neg c26]
      by_cases c27 : zand (ν 32 0 x) 31 = 27
      · rw [if_pos c27]
        exact L_planKeys hJ hX nx
      rw [if_neg c27]
      by_cases c28 : zand (ν 32 0 x) 31 = 28
      · rw [if_pos c28]
        exact L_undo hJ hX nx
      rw [if_neg c28]
      exact nx ν _ _ _ _ _ hJ scr_rf
end Law
