section Ask2
variable {μ : mzM} {s : Int → Int} {n : Int} {p : Int → Int → Int} {K : Int → mzM → Prop}
theorem s_greatestSeek (hW : WF s) (hS : ST μ 0 s) (h : K (qgreat s) μ) : ZI f_X7_greatestSeek [vR 0 0] μ K := by
  unfold qgreat at h
  have h10 := hW.2.1
  refine vc_X7_greatestSeek_0 ?_
  rw [hS.1.1]
  split
  · next q => rw [if_pos q] at h; exact zlf h rfl
  · next q =>
    rw [if_neg q] at h
    refine ifold_loop (g := fun a f => if a < sseek s f then sseek s f else a) (C := fun a k => ZW f_X7_greatestSeek 11 [vR 0 0, vI a, vI k] [] μ (fun r ν => ∃ a, r = some (vI a) ∧ K a ν)) (I := fun _ _ => True) (lo := 0) (hi := s 2) (fun _ _ _ _ _ => trivial) ?_ (s 2).toNat 0 0 (by omega) (by omega) trivial ?_
    · intro a k k0 k1 _ hC
      refine vc_X7_greatestSeek_11 ?_
      rw [hS.1.1, if_pos k1]
      exact s_X6_seekCost hW hS ⟨k0, k1⟩ (s_max ⟨zin_sm (by omega), hC⟩)
    · intro _
      refine vc_X7_greatestSeek_11 ?_
      rw [hS.1.1, if_neg (by omega)]
      exact zlf h rfl
theorem s_dependents {f : Int} (hW : WF s) (hS : ST μ 0 s) (h : K (qdep s f) μ) : ZI f_X7_dependents [vR 0 0, vI f] μ K := by
  unfold qdep at h
  have h10 := hW.2.1
  refine vc_X7_dependents_0 (s_X6_isFrame hS ?_)
  by_cases hf : isF s f
  · rw [cif_p hf] at h
    rw [if_pos hf, if_neg (by omega)]
    refine ifold_loop (g := fun a g => a + cif (f ∈ chn s 10 g) 1 0) (C := fun a k => ZW f_X7_dependents 11 [vR 0 0, vI f, vI a, vI k] [] μ (fun r ν => ∃ a, r = some (vI a) ∧ K a ν)) (I := fun a k => 0 ≤ a ∧ a ≤ k) (lo := 0) (hi := s 2) ?_ ?_ (s 2).toNat 0 0 (by omega) (by omega) (by omega) ?_
    · intro a k _ _ ha
      unfold cif
      split <;> omega
    · intro a k k0 k1 ha hC
      refine vc_X7_dependents_11 ?_
      rw [hS.1.1, if_pos k1]
      refine s_X6_chainHas hW hS ⟨k0, k1⟩ (fun g => ?_) (fun g => ?_)
      · rw [cif_p g] at hC
        rw [if_neg (by omega)]
        exact ⟨zin_sm (by omega), zin_sm (by omega), hC⟩
      · rw [cif_n g, Int.add_zero] at hC
        rw [if_pos rfl]
        exact ⟨zin_sm (by omega), hC⟩
    · intro _
      refine vc_X7_dependents_11 ?_
      rw [hS.1.1, if_neg (by omega)]
      exact zlf h rfl
  · rw [cif_n hf] at h
    rw [if_neg hf, if_pos rfl]
    exact zlf h rfl
theorem s_planCost (hW : WF s) (hS : ST μ 0 s) (h : ∀ ν, fr Psc μ ν → K (qplanCost s) ν) : ZI f_X7_planCost [vR 0 0] μ K := by
  have hμ := h μ fr_rf
  unfold qplanCost at h hμ
  refine vc_X7_planCost_0 ?_
  rw [hS.1.1]
  split
  · next q => rw [if_pos q] at hμ; exact zlf hμ rfl
  · next q => rw [if_neg q] at h; exact s_plan hW hS (by omega) (fun ν _ hF h1 _ => zlf (h ν hF) h1)
theorem spn_b {s : Int → Int} (hD : WD s) : 1 ≤ spn s ∧ spn s ≤ 81 := by
  obtain ⟨h1, h2⟩ := hD
  unfold spn
  rcases h1 with h1 | h1 | h1 <;> rcases h2 with h2 | h2 | h2 <;> rw [h1, h2] <;> decide
/-- where part number k lies -/
theorem spn_at {s : Int → Int} (hD : WD s) {k : Int} (k0 : 0 ≤ k) (k1 : k < spn s) : (0 ≤ k % (s 0 - 3) ∧ k % (s 0 - 3) ≤ s 0 - 4) ∧ (0 ≤ k / (s 0 - 3) ∧ k / (s 0 - 3) ≤ s 1 - 4) := by
  obtain ⟨h1, h2⟩ := hD
  unfold spn at k1
  rcases h1 with h1 | h1 | h1 <;> rcases h2 with h2 | h2 | h2 <;> rw [h1, h2] <;> rw [h1, h2] at k1 <;> omega
theorem isum_1 {g : Int → Int} (k : Int) (m : Nat) (h : ∀ j, 0 ≤ g j ∧ g j ≤ 1) : 0 ≤ isum g k m ∧ isum g k m ≤ m := by
  have := isum_bound (g := g) (lo := 0) (hi := 1) m k (fun j _ _ => h j)
  omega
theorem fpair_b (s : Int → Int) (f q j : Int) : 0 ≤ fpair s f q j ∧ fpair s f q j ≤ 1 := by
  unfold fpair cif
  split <;> omega
theorem s_addKey (hW : WF s) (hp : ∀ j, 0 ≤ j → j < n → WF (p j)) (hC : CI μ s n p) (hK0 : s 2 = 10 → K (-3) μ) (hK : s 2 < 10 → ∀ ν, (∀ s', OPadd s (-1) s' → CI ν s' (pushn n) (pushp p n s)) → fr Pcl μ ν → K (call s (-1) (-1)) ν) : ZI f_X7_addKey [vR 0 0] μ K := by
  have h10 := hW.2.1
  refine vc_X7_addKey_0 ?_
  rw [hC.1.1.1]
  split
  · next q => exact s_add_rec hW hp hC q (Or.inl rfl) (fun ν h1 h2 => zlf (hK q ν h1 h2) rfl)
  · exact zlf (hK0 (by omega)) rfl
theorem s_addDelta {r : Int} (hW : WF s) (hp : ∀ j, 0 ≤ j → j < n → WF (p j)) (hC : CI μ s n p) (hK1 : ¬ isF s r → K (-1) μ) (hK2 : isF s r → ¬ (sgood s r ∧ sdepth s r < s 4) → K (-2) μ) (hK3 : isF s r → (sgood s r ∧ sdepth s r < s 4) → s 2 = 10 → K (-3) μ) (hK : isF s r → (sgood s r ∧ sdepth s r < s 4) → s 2 < 10 → ∀ ν, (∀ s', OPadd s r s' → CI ν s' (pushn n) (pushp p n s)) → fr Pcl μ ν → K (call s (-1) r) ν) : ZI f_X7_addDelta [vR 0 0, vI r] μ K := by
  have h10 := hW.2.1
  refine vc_X7_addDelta_0 (s_X6_isFrame hC.1 ?_)
  by_cases hf : isF s r
  · rw [if_pos hf, if_neg (by omega)]
    refine s_X6_mayBe hW hC.1 hf (fun g => ?_) (fun g => ?_)
    · rw [if_neg (by omega), hC.1.1.1]
      split
      · next q => exact s_add_rec hW hp hC q (Or.inr hf) (fun ν h1 h2 => zlf (hK hf g q ν h1 h2) rfl)
      · exact zlf (hK3 hf g (by omega)) rfl
    · rw [if_pos rfl]; exact zlf (hK2 hf g) rfl
  · rw [if_neg hf, if_pos rfl]; exact zlf (hK1 hf) rfl
theorem s_chosen (hW : WF s) (hS : ST μ 0 s) (h : ∀ ν, ST ν 0 s → fr Psc μ ν → K (schosen s) ν) : ZI f_X7_chosenReference [vR 0 0] μ K := by
  have h10 := hW.2.1
  refine vc_X7_chosenReference_0 (s_costOfCanvas hW hS (Or.inl rfl) (fun ν hS1 hF1 => ?_))
  have lp := ifold_loop (g := chstep s) (C := fun a k => ∀ ν : mzM, ∀ v5 v6 : mzV, ST ν 0 s → fr Psc μ ν → ZW f_X7_chosenReference 10 [vR 0 0, vI a.1, vI a.2.1, vI a.2.2, vI k, v5, v6] [] ν (fun r ν => ∃ a, r = some (vI a) ∧ K a ν)) (I := fun _ _ => True) (lo := 0) (hi := s 2) (fun _ _ _ _ _ => trivial) ?_ (s 2).toNat (-1, call s (-1) (-1), 0) 0 (by omega) (by omega) trivial ?_ ν none none hS1 hF1
  · exact lp
  · intro a k k0 k1 _ hC ν v5 v6 hS1 hF1
    refine vc_X7_chosenReference_10 ?_
    rw [hS1.1.1, if_pos k1]
    unfold chstep at hC
    refine s_X6_mayBe hW hS1 ⟨k0, k1⟩ (fun g => ?_) (fun g => ?_)
    · rw [if_neg (by omega)]
      refine s_costOfCanvas hW hS1 (Or.inr ⟨k0, k1⟩) (fun ξ hS2 hF2 => s_X6_depthOf hW hS2 ⟨k0, k1⟩ ?_)
      have hF := fr_tr hF1 hF2
      have hd : 0 ≤ sdepth s k ∧ sdepth s k ≤ 10 := by
        have := chn_len s 10 (sref s k)
        unfold sdepth
        omega
      refine ⟨zin_sm (by omega), ?_⟩
      split
      · next q => rw [cif_p ⟨g, Or.inl q⟩] at hC; exact ⟨zin_sm (by omega), hC ξ _ _ hS2 hF⟩
      · next q =>
        split
        · next q2 =>
          split
          · next q3 =>
            rw [cif_n (by rintro ⟨_, z | z⟩; exact q z; omega)] at hC
            exact ⟨zin_sm (by omega), hC ξ _ _ hS2 hF⟩
          · next q3 => rw [cif_p ⟨g, Or.inr ⟨q2, by omega⟩⟩] at hC; exact ⟨zin_sm (by omega), hC ξ _ _ hS2 hF⟩
        · next q2 =>
          rw [cif_n (by rintro ⟨_, z | z⟩; exact q z; exact q2 z.1)] at hC
          exact ⟨zin_sm (by omega), hC ξ _ _ hS2 hF⟩
    · rw [cif_n (fun z => g z.1)] at hC
      rw [if_pos rfl]
      exact ⟨zin_sm (by omega), hC ν _ _ hS1 hF1⟩
  · intro _ ν v5 v6 hS1 hF1
    refine vc_X7_chosenReference_10 ?_
    rw [hS1.1.1, if_neg (by omega)]
    exact zlf (h ν hS1 hF1) rfl
theorem s_addChosen (hW : WF s) (hp : ∀ j, 0 ≤ j → j < n → WF (p j)) (hC : CI μ s n p) (hK0 : s 2 = 10 → K (-3) μ) (hK : s 2 < 10 → ∀ ν, (∀ s', OPadd s (schosen s) s' → CI ν s' (pushn n) (pushp p n s)) → fr Pcl μ ν → K (call s (-1) (schosen s)) ν) : ZI f_X7_addChosen [vR 0 0] μ K := by
  have h10 := hW.2.1
  refine vc_X7_addChosen_0 ?_
  rw [hC.1.1.1]
  split
  · next q =>
    refine s_chosen hW hC.1 (fun ν hS hF => ?_)
    exact s_add_rec hW hp (CI_sc hW hp hC hF) q (schosen_ok hW) (fun ξ h1 h2 => zlf (hK q ξ h1 (fr_tr (fr_mono hF (fun t i k z => Psc_cl z)) h2)) rfl)
  · exact zlf (hK0 (by omega)) rfl
end Ask2
