/-! ===== the tale of an object ===== -/
noncomputable def tl1 (s : Int → Int) : Int := ifold (fun a k => zw6 (zw6 (a * 31) + qcount s 0 0 k)) 3 0 9
noncomputable def tl2 (s : Int → Int) : Int := ifold (fun a c => zw6 (zw6 (a * 37) + qcell s c)) (tl1 s) 0 (s 0 * s 1).toNat
noncomputable def tl3 (s : Int → Int) (f a : Int) : Int := ifold (fun a w => zw6 (zw6 (a * 41) + qframe s f w)) a 0 9
noncomputable def tl4 (s : Int → Int) (a f : Int) : Int := zw6 (zw6 (zw6 (tl3 s f a * 43) + qpixel s f 0) + zw6 (3 * qpixel s f 9))
noncomputable def tale (s : Int → Int) : Int := ifold (tl4 s) (tl2 s) 0 (s 2).toNat
theorem count_n (s : Int → Int) (n t : Int) {k : Int} (h : k < 9) (ht : t = 0) : qcount s n t k = qcount s 0 0 k := by
  subst ht
  unfold qcount
  have h9 : ¬ k = 9 := by omega
  rw [if_neg h9, if_neg h9]
section Tale
variable {μ : mzM} {s : Int → Int} {n : Int} {p : Int → Int → Int} {K : Int → mzM → Prop}
theorem cnt_at (hW : WF s) (hC : CI μ s n p) {w v : Int} (e : qcount s n (μ 8 0 1) w = v) (h : K v μ) : ZI f_X7_count [vR 0 0, vI w] μ K := s_count hW hC (by rw [e]; exact h)
theorem s_tale4 (hW : WF s) (hC : CI μ s n p) {Q : Option mzV → mzM → Prop} (h : Q (some (vL (tale s))) μ) : ZW f_L_tale 42 [vR 0 0, vL (tl2 s), none, vI 0, none] [] μ Q := by
  have h10 := hW.2.1
  have lp := ifold_loop (g := tl4 s) (C := fun a f => ∀ v4 : mzV, ZW f_L_tale 42 [vR 0 0, vL a, none, vI f, v4] [] μ Q) (I := fun _ _ => True) (lo := 0) (hi := s 2) (fun _ _ _ _ _ => trivial) ?_ (s 2).toNat (tl2 s) 0 (by omega) (by omega) trivial ?_
  · exact lp none
  · intro a f f0 f1 _ hN v4
    refine vc_L_tale_42 (cnt_at hW hC (v := s 2) rfl ?_)
    rw [if_pos f1]
    refine ifold_loop (g := fun a w => zw6 (zw6 (a * 41) + qframe s f w)) (C := fun a w => ZW f_L_tale 49 [vR 0 0, vL a, none, vI f, vI w] [] μ Q) (I := fun _ _ => True) (lo := 0) (hi := 9) (fun _ _ _ _ _ => trivial) ?_ 9 a 0 (by omega) (by omega) trivial ?_
    · intro a w w0 w1 _ hN2
      refine vc_L_tale_49 ?_
      rw [if_pos w1]
      exact s_frame hW hC.1 ⟨zin_sm (by omega), hN2⟩
    · intro _
      refine vc_L_tale_49 ?_
      rw [if_neg (by omega)]
      exact s_pixel hW hC.1 (s_pixel hW hC.1 ⟨zin_sm (by omega), hN _⟩)
  · intro _ v4
    refine vc_L_tale_42 (cnt_at hW hC (v := s 2) rfl ?_)
    rw [if_neg (by omega)]
    exact h
theorem s_tale2 (hW : WF s) (hC : CI μ s n p) {Q : Option mzV → mzM → Prop} (h : Q (some (vL (tale s))) μ) : ZW f_L_tale 20 [vR 0 0, vL (tl1 s), none, vI 0, none] [] μ Q := by
  have hm := WD_mul hW.1
  refine ifold_loop (g := fun a c => zw6 (zw6 (a * 37) + qcell s c)) (C := fun a c => ZW f_L_tale 20 [vR 0 0, vL a, none, vI c, none] [] μ Q) (I := fun _ _ => True) (lo := 0) (hi := s 0 * s 1) (fun _ _ _ _ _ => trivial) ?_ (s 0 * s 1).toNat (tl1 s) 0 (by omega) (by omega) trivial ?_
  · intro a c c0 c1 _ hN
    refine vc_L_tale_20 (cnt_at hW hC (v := s 0) rfl (cnt_at hW hC (v := s 1) rfl ⟨zin_sm (by omega), ?_⟩))
    rw [if_pos c1]
    exact s_cell hW hC.1 ⟨zin_sm (by omega), hN⟩
  · intro _
    refine vc_L_tale_20 (cnt_at hW hC (v := s 0) rfl (cnt_at hW hC (v := s 1) rfl ⟨zin_sm (by omega), ?_⟩))
    rw [if_neg (by omega)]
    exact s_tale4 hW hC h
theorem s_tale (hW : WF s) (hC : CI μ s n p) (hT : μ 8 0 1 = 0) (h : K (tale s) μ) : ZL f_L_tale [vR 0 0] μ K := by
  refine vc_L_tale_0 ?_
  refine ifold_loop (g := fun a k => zw6 (zw6 (a * 31) + qcount s 0 0 k)) (C := fun a k => ZW f_L_tale 4 [vR 0 0, vL a, none, vI k, none] [] μ _) (I := fun _ _ => True) (lo := 0) (hi := 9) (fun _ _ _ _ _ => trivial) ?_ 9 3 0 (by omega) (by omega) trivial ?_
  · intro a k k0 k1 _ hN
    refine vc_L_tale_4 ?_
    rw [if_pos k1]
    exact cnt_at hW hC (count_n s n (μ 8 0 1) k1 hT) ⟨zin_sm (by omega), hN⟩
  · intro _
    refine vc_L_tale_4 ?_
    rw [if_neg (by omega)]
    exact s_tale2 hW hC ⟨_, rfl, h⟩
end Tale
