/-! ===== a script's number, and what it does ===== -/
/-- the class shows s and its kept states, and there is no text -/
def LJ (ν : mzM) (s : Int → Int) (n : Int) (p : Int → Int → Int) : Prop := CI ν s n p ∧ WF s ∧ (∀ j, 0 ≤ j → j < n → WF (p j)) ∧ ν 8 0 1 = 0
/-- a frame was added at the cost v -/
def ADD (s : Int → Int) (v z : Int) (s' : Int → Int) : Prop := ∃ r, (fok s r ∧ sgood s r) ∧ s 2 < 10 ∧ OPadd s r s' ∧ v = call s (-1) r ∧ (7 < z → v ≤ call s (-1) (-1))
theorem tmod_ab (x : Int) {m : Int} (hm : 0 < m) : -m < x.tmod m ∧ x.tmod m < m := by
  have h : (x.tmod m).natAbs < m.natAbs := by
    rw [Int.natAbs_tmod]
    exact Nat.mod_lt _ (by omega)
  omega
theorem one_b (c : Prop) : 0 ≤ (@ite Int c (Classical.propDecidable _) 1 0) ∧ (@ite Int c (Classical.propDecidable _) 1 0) ≤ 1 := by split <;> omega
section Does
variable {μ : mzM} {s : Int → Int} {n : Int} {p : Int → Int → Int} {K : Int → mzM → Prop}
theorem s_low {x m : Int} (hm : 0 < m) (h : ∀ v, -m < v → v < m → K v μ) : ZI f_L_low [vI x, vI m] μ K := by
  have hb := tmod_ab (zand x 2147483647) hm
  exact vc_L_low_0 ⟨by omega, zlf (h _ hb.1 hb.2) rfl⟩
theorem s_Lcell {x : Int} (x0 : 0 ≤ x) (x1 : x < 40) (h : ∀ v, K v μ) : ZI f_L_cell [vR 32 0, vI x] μ K := by
  refine vc_L_cell_0 ?_
  split
  · next q => exact ⟨⟨x0, q⟩, zlf (h _) rfl⟩
  · have h1 : 0 ≤ 7919 * (x + 3) * (x + 11) := Int.mul_nonneg (by omega) (by omega)
    have h2 : 7919 * (x + 3) * (x + 11) ≤ 340000 * 60 := Int.mul_le_mul (by omega) (by omega) (by omega) (by omega)
    exact ⟨zin_sm (by omega), zin_sm (by omega), zin_sm (by omega), ⟨by omega, by omega⟩, zlf (h _) rfl⟩
theorem mkLJ {ν : mzM} {s' : Int → Int} (hJ : LJ μ s n p) (hF : fr Pcl μ ν) (hc : CI ν s' (pushn n) (pushp p n s)) (hw : WF s') : LJ ν s' (pushn n) (pushp p n s) :=
  ⟨hc, hw, push_wf hJ.2.1 hJ.2.2.1 hJ.1.2.2.1.2, (hF 8 0 1 (fun q => q.2.2 rfl rfl)).trans hJ.2.2.2⟩
theorem best_pos (hW : WF s) : 0 ≤ (pbest s).1 ∧ (pbest s).1 ≤ 31000 := by
  have h10 := hW.2.1
  have h5 := hW.2.2.2.2.1
  rw [best_cost]
  have h := ifold_inv (g := pstep (kcs s) (ncs s) (pbest s).2) (I := fun a f => (0 ≤ a.1 ∧ a.1 ≤ 308 * f) ∧ (0 ≤ a.2.1 ∧ a.2.1 ≤ 308 * f) ∧ (0 ≤ a.2.2 ∧ a.2.2 ≤ 308 * f)) (s 2).toNat (0, 0, 0) 0 (fun a j _ _ ha => pstep_inv hW.1 ha) ⟨⟨Int.le_refl 0, Int.le_refl 0⟩, ⟨Int.le_refl 0, Int.le_refl 0⟩, ⟨Int.le_refl 0, Int.le_refl 0⟩⟩
  unfold spof plof
  generalize ifold (pstep (kcs s) (ncs s) (pbest s).2) (0, 0, 0) 0 (s 2).toNat = a at *
  have hr := rate_b h5.1 h5.2 h.2.2.1 (by omega)
  omega
theorem goods_b (s : Int → Int) : 0 ≤ sgoods s := by
  have h := isum_bound (g := fun f => @ite _ (sgood s f) (Classical.propDecidable _) 1 0) (lo := 0) (hi := 1) (s 2).toNat 0 (fun j _ _ => one_b (sgood s j))
  unfold sgoods
  omega
theorem s_does {x : Int} (hJ : LJ μ s n p) (h1 : ∀ v, v < 0 → K v μ) (h2 : ∀ (v : Int) (ν : mzM) (s' : Int → Int), 0 ≤ v → LJ ν s' (pushn n) (pushp p n s) → (4 < zand x 15 → zand x 15 < 10 → ADD s v (zand x 15) s') → K v ν) : ZI f_L_does [vR 0 0, vI x] μ K := by
  obtain ⟨hC, hW, hp, hT⟩ := id hJ
  have h10 := hW.2.1
  have lost : ∀ a b : Int, zand x 15 = 3 ∨ zand x 15 = 4 → ZI f_X7_setLost [vR 0 0, vI a, vI b] μ (fun v ν => ∃ a, some (vI v) = some (vI a) ∧ K a ν) := by
    intro a b hz
    exact s_setLost hW hp hC (fun _ => zlf (h1 _ (by decide)) rfl) (fun _ _ => zlf (h1 _ (by decide)) rfl) (fun ha hv _ ν hc hF s' hO => zlf (h2 _ ν s' (goods_b s') (mkLJ hJ hF (hc s' hO) (OPlost_wf hW hv hO)) (fun q => absurd q (by omega))) rfl)
  have dlt : ∀ a : Int, zand x 15 = 6 ∨ zand x 15 = 7 → ZI f_X7_addDelta [vR 0 0, vI a] μ (fun v ν => ∃ a, some (vI v) = some (vI a) ∧ K a ν) := by
    intro a hz
    refine s_addDelta hW hp hC (fun _ => zlf (h1 _ (by decide)) rfl) (fun _ _ => zlf (h1 _ (by decide)) rfl) (fun _ _ _ => zlf (h1 _ (by decide)) rfl) (fun hf hg hn ν hc hF => ?_)
    obtain ⟨s', hO, hw⟩ := OPadd_ex hW hn (Or.inr hf)
    have hb := call_b hW.1 (-1) a
    exact zlf (h2 _ ν s' (by omega) (mkLJ hJ hF (hc s' hO) hw) (fun _ _ => ⟨a, ⟨Or.inr hf, hg.1⟩, hn, hO, rfl, fun q => absurd q (by omega)⟩)) rfl
  have chs : ZI f_X7_addChosen [vR 0 0] μ (fun v ν => ∃ a, some (vI v) = some (vI a) ∧ K a ν) := by
    refine s_addChosen hW hp hC (fun _ => zlf (h1 _ (by decide)) rfl) (fun hn ν hc hF => ?_)
    obtain ⟨k1, k2⟩ := chosen_ok hW
    have hf : fok s (schosen s) ∧ sgood s (schosen s) := by
      rcases k1 with k1 | k1
      · exact ⟨Or.inl k1, by rw [k1]; exact good_m1 s⟩
      · exact ⟨Or.inr k1.1, k1.2⟩
    obtain ⟨s', hO, hw⟩ := OPadd_ex hW hn hf.1
    have hb := call_b hW.1 (-1) (schosen s)
    exact zlf (h2 _ ν s' (by omega) (mkLJ hJ hF (hc s' hO) hw) (fun _ _ => ⟨_, hf, hn, hO, rfl, fun _ => k2⟩)) rfl
  refine vc_L_does_0 ?_
  by_cases z0 : zand x 15 = 0
  · rw [if_pos z0]
    split
    · refine s_low (by decide) (fun v v0 v1 => ⟨zin_sm (by omega), ?_⟩)
      refine s_setSize hW hp hC (fun _ => zlf (h1 _ (by decide)) rfl) (fun a b ν hc hF => ?_)
      obtain ⟨s', hO, hw⟩ := OPsize_ex hW a b
      exact zlf (h2 _ ν s' (by rcases a with a | a | a <;> omega) (mkLJ hJ hF (hc s' hO) hw) (fun q => absurd q (by omega))) rfl
    · refine s_recode hW hp hC (fun _ => zlf (h1 _ (by decide)) rfl) (fun hn ν hc hF => ?_)
      obtain ⟨s', hO, hw⟩ := OPrec_ex hW hn
      exact zlf (h2 _ ν s' (best_pos hW).1 (mkLJ hJ hF (hc s' hO) hw) (fun q => absurd q (by omega))) rfl
  rw [if_neg z0]
  by_cases z1 : zand x 15 = 1
  · rw [if_pos z1]
    refine s_low (by decide) (fun v _ _ => s_low (by decide) (fun w _ _ => s_low (by decide) (fun u _ _ => ?_)))
    refine s_setLimits hW hp hC (fun _ => zlf (h1 _ (by decide)) rfl) (fun a b d ν hc hF => ?_)
    obtain ⟨s', hO, hw⟩ := OPlim_ex hW a b d
    exact zlf (h2 _ ν s' (by split <;> omega) (mkLJ hJ hF (hc s' hO) hw) (fun q => absurd q (by omega))) rfl
  rw [if_neg z1]
  by_cases z2 : zand x 15 = 2
  · rw [if_pos z2]
    refine s_removeLast hW hp hC (fun _ => zlf (h1 _ (by decide)) rfl) (fun hn ν hc hF => ?_)
    obtain ⟨s', hO, hw⟩ := OPrem_ex hW hn
    exact zlf (h2 _ ν s' (by omega) (mkLJ hJ hF (hc s' hO) hw) (fun q => absurd q (by omega))) rfl
  rw [if_neg z2]
  by_cases z3 : zand x 15 = 3
  · rw [if_pos z3]
    exact s_low (by decide) (fun v _ _ => lost _ _ (Or.inl z3))
  rw [if_neg z3]
  by_cases z4 : zand x 15 = 4
  · rw [if_pos z4]
    exact s_low (by decide) (fun v _ _ => lost _ _ (Or.inr z4))
  rw [if_neg z4]
  by_cases z5 : zand x 15 = 5
  · rw [if_pos z5]
    refine s_addKey hW hp hC (fun _ => zlf (h1 _ (by decide)) rfl) (fun hn ν hc hF => ?_)
    obtain ⟨s', hO, hw⟩ := OPadd_ex (r := -1) hW hn (Or.inl rfl)
    have hb := call_b hW.1 (-1) (-1)
    exact zlf (h2 _ ν s' (by omega) (mkLJ hJ hF (hc s' hO) hw) (fun _ _ => ⟨-1, ⟨Or.inl rfl, good_m1 s⟩, hn, hO, rfl, fun _ => Int.le_refl _⟩)) rfl
  rw [if_neg z5]
  by_cases z6 : zand x 15 = 6
  · rw [if_pos z6]
    exact s_low (by decide) (fun v _ _ => dlt _ (Or.inl z6))
  rw [if_neg z6]
  by_cases z7 : zand x 15 = 7
  · rw [if_pos z7]
    exact s_low (by decide) (fun v _ _ => dlt _ (Or.inr z7))
  rw [if_neg z7]
  by_cases z8 : zand x 15 = 8
  · rw [if_pos z8]
    exact chs
  rw [if_neg z8]
  by_cases z9 : zand x 15 = 9
  · rw [if_pos z9]
    exact chs
  rw [if_neg z9]
  refine s_low (by decide) (fun v _ _ => s_low (by decide) (fun w _ _ => ?_))
  refine s_setCell hW hp hC (fun _ => zlf (h1 _ (by decide)) rfl) (fun a b d ν hc hF => ?_)
  obtain ⟨s', hO, hw⟩ := OPcell_ex hW a b d
  exact zlf (h2 _ ν s' (hW.2.2.2.2.2.1 _ a.1 a.2).1 (mkLJ hJ hF (hc s' hO) hw) (fun q q2 => absurd q (by omega))) rfl
end Does
