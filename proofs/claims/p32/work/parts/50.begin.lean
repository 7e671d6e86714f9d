/-! ===== the law's start ===== -/
theorem zt1 {w : Cond} (h : w ∈ tables_1) : w ∈ lw_tbl := List.mem_append_right _ h
theorem zz_1 : Cond.initialized "FrameDeltas" ∈ lw_tbl := zt1 (List.mem_of_getElem? (i := 1) (by decide +kernel))
theorem zz_12 : Cond.classLink "FrameDeltasLaw" (13) "FrameDeltas" ∈ lw_tbl := zt1 (List.mem_of_getElem? (i := 12) (by decide +kernel))
theorem zz_13 : Cond.instantiable "FrameDeltas" (10) ∈ lw_tbl := zt1 (List.mem_of_getElem? (i := 13) (by decide +kernel))
theorem zz_14 : Cond.methodLink "FrameDeltasLaw" (68) ({ cls := "FrameDeltas", name := "<init>", desc := "()V" }) ∈ lw_tbl := zt1 (List.mem_of_getElem? (i := 14) (by decide +kernel))
theorem zz_15 : Cond.instanceMethod ({ cls := "FrameDeltas", name := "<init>", desc := "()V" }) ∈ lw_tbl := zt1 (List.mem_of_getElem? (i := 15) (by decide +kernel))
theorem zz_21 : Cond.instantiable "FrameDeltas$State" (7) ∈ lw_tbl := zt1 (List.mem_of_getElem? (i := 21) (by decide +kernel))
theorem zz_27 : Cond.instantiable "FrameDeltas$Image" (3) ∈ lw_tbl := zt1 (List.mem_of_getElem? (i := 27) (by decide +kernel))
theorem zz_44 : Cond.arrayClass ClassFile.FieldType.int ∈ lw_tbl := zt1 (List.mem_of_getElem? (i := 44) (by decide +kernel))
theorem zz_46 : Cond.arrayOver (ClassFile.FieldType.object "FrameDeltas$Frame") ∈ lw_tbl := zt1 (List.mem_of_getElem? (i := 46) (by decide +kernel))
theorem zz_47 : Cond.instantiable "FrameDeltas$Frame" (5) ∈ lw_tbl := zt1 (List.mem_of_getElem? (i := 47) (by decide +kernel))
theorem zz_114 : Cond.arrayOver (ClassFile.FieldType.object "FrameDeltas$State") ∈ lw_tbl := zt1 (List.mem_of_getElem? (i := 114) (by decide +kernel))
theorem zz_116 : Cond.instantiable "FrameDeltas$Script" (8) ∈ lw_tbl := zt1 (List.mem_of_getElem? (i := 116) (by decide +kernel))
theorem zz_147 : Cond.arrayClass ClassFile.FieldType.char ∈ lw_tbl := zt1 (List.mem_of_getElem? (i := 147) (by decide +kernel))
theorem zz_149 : Cond.instantiable "FrameDeltas$Coder" (4) ∈ lw_tbl := zt1 (List.mem_of_getElem? (i := 149) (by decide +kernel))
theorem zz_155 : Cond.instantiable "FrameDeltas$RunList" (3) ∈ lw_tbl := zt1 (List.mem_of_getElem? (i := 155) (by decide +kernel))
theorem zz_185 : Cond.instantiable "FrameDeltas$Planner" (4) ∈ lw_tbl := zt1 (List.mem_of_getElem? (i := 185) (by decide +kernel))
/-- the classes, the script at the start -/
theorem start_bk {s : State} {b b0 L : Nat} {xs : Nat → Int32} (hb0 : s.heap.size = b0) (hts : ∀ w ∈ lw_tbl, w.before #[Value.ref b] s = true) (hX : va_X b L xs s s.heap) (hbl : b < b0) (hL : L ≤ 260) (hgv : (Jvm.Cond.and given_1 narrow_1).before #[Value.ref b] s = true) : ∃ (D : va_G) (ca : Nat → ClassId) (adK adV : Nat → Nat), zBk b0 D ca adK adV b L xs s := by
  obtain ⟨c0, i0, k0⟩ := u_known (C := zR_0) (T := zF_0) (N := 10) (n := 10) hts zin_0 (hts _ zz_13)
  obtain ⟨c1, i1, k1⟩ := u_known (C := zR_1) (T := zF_1) (N := 7) (n := 7) hts zin_1 (hts _ zz_21)
  obtain ⟨c2, i2, k2⟩ := u_known (C := zR_2) (T := zF_2) (N := 5) (n := 5) hts zin_2 (hts _ zz_47)
  obtain ⟨c3, i3, k3⟩ := u_known (C := zR_3) (T := zF_3) (N := 3) (n := 3) hts zin_3 (hts _ zz_27)
  obtain ⟨c4, i4, k4⟩ := u_known (C := zR_8) (T := zF_8) (N := 8) (n := 8) hts zin_8 (hts _ zz_116)
  obtain ⟨c5, i5, k5⟩ := u_known (C := zR_11) (T := zF_11) (N := 4) (n := 4) hts zin_11 (hts _ zz_149)
  obtain ⟨c6, i6, k6⟩ := u_known (C := zR_12) (T := zF_12) (N := 3) (n := 3) hts zin_12 (hts _ zz_155)
  obtain ⟨c7, i7, k7⟩ := u_known (C := zR_15) (T := zF_15) (N := 4) (n := 4) hts zin_15 (hts _ zz_185)
  obtain ⟨a0, kA0, p0, f0, g0, e0⟩ := Cond.arrayClass_spec (hts _ zz_44)
  obtain ⟨a1, kA1, p1, f1, g1, e1⟩ := Cond.arrayClass_spec (hts _ zz_147)
  obtain ⟨p3, a3, kA3, h3, -, g3, e3, f3⟩ := Cond.arrayOver_spec (hts _ zz_114)
  obtain ⟨p4, a4, kA4, h4, -, g4, e4, f4⟩ := Cond.arrayOver_spec (hts _ zz_46)
  refine ⟨(fun k => match k with | 0 => c0 | 1 => c1 | 2 => c2 | 3 => c3 | 4 => c4 | 5 => c5 | 6 => c6 | _ => c7, fun k => match k with | 0 => i0 | 1 => i1 | 2 => i2 | 3 => i3 | 4 => i4 | 5 => i5 | 6 => i6 | _ => i7), (fun k => match k with | 0 => a0 | 1 => a1 | 2 => a0 | 3 => a3 | _ => a4), fun _ => 0, fun _ => 0, ⟨?_, ?_⟩, hX, ⟨hbl, by omega, by omega⟩, fun w hw => ?_⟩
  · intro k q hq
    match k, hq with
    | 0, hq => cases hq; exact k0
    | 1, hq => cases hq; exact k1
    | 2, hq => cases hq; exact k2
    | 3, hq => cases hq; exact k3
    | 4, hq => cases hq; exact k4
    | 5, hq => cases hq; exact k5
    | 6, hq => cases hq; exact k6
    | 7, hq => cases hq; exact k7
    | k + 8, hq => simp [zcl] at hq
  · intro k q hq
    match k, hq with
    | 0, hq =>
      cases hq
      exact ⟨fun N z => ⟨(fun k h => by cases h), kA0, g0, p0, e0⟩, f0⟩
    | 1, hq =>
      cases hq
      exact ⟨fun N z => ⟨(fun k h => by cases h), kA1, g1, p1, e1⟩, f1⟩
    | 2, hq =>
      cases hq
      exact ⟨fun N z => ⟨(fun k h => by cases h), kA0, g0, p0, e0⟩, f0⟩
    | 3, hq =>
      cases hq
      exact ⟨fun N z => ⟨(fun k h => by cases h), kA3, g3, p3, e3⟩, kA3, p3, g3, e3, h3, f3⟩
    | 4, hq =>
      cases hq
      exact ⟨fun N z => ⟨(fun k h => by cases h), kA4, g4, p4, e4⟩, kA4, p4, g4, e4, h4, f4⟩
    | k + 5, hq => simp [zarr] at hq
  · obtain ⟨w1, w2⟩ := List.mem_filter.mp hw
    refine va_Nw.of ?_ (hts w (zt1 w1))
    unfold zisN at w2
    cases w <;> first | rfl | cases w2


theorem kX7_len (ca : Nat → ClassId) (b0 : Nat) : (kX7_c ca b0 0).length = 358 := by
  have h := kbl_len (g := kX6_c ca b0) (a := 50) (n := 48) (fun x => kX6_len ca b0 x) 6
  have h6 := kX6_len ca b0 1
  have h5 : (kX5_c ca b0 338).length = 3 := rfl
  have h0 : (kX0_c ca b0 341).length = 7 := rfl
  have h3 : (kX3_c ca b0 348).length = 3 := rfl
  have h1 : (kX1_c ca b0 351).length = 4 := rfl
  have h2 : (kX2_c ca b0 355).length = 2 := rfl
  unfold kX7_c
  simp only [List.length_cons, List.length_append, List.length_nil, Nat.zero_add, h, h6, h5, h0, h3, h1, h2]
/-- the numbers at the start -/
theorem zM_start {L : Nat} {xs : Nat → Int32} (hL : L ≤ 260) : zM L xs (mu0 L xs) := by
  refine ⟨fun t i k ht => ?_, fun i k => ?_, rfl, fun j hj => ?_⟩
  · unfold mu0
    by_cases h3 : t = 3
    · rw [if_pos h3]
      by_cases hk : k = 1 ∨ k = 2
      · rw [if_pos hk]; exact ⟨by omega, by omega⟩
      · rw [if_neg hk]; exact ⟨by omega, by omega⟩
    rw [if_neg h3]
    by_cases h2 : t = 2
    · rw [if_pos h2]
      by_cases hk : k = 2
      · rw [if_pos hk]; exact ⟨by omega, by omega⟩
      · rw [if_neg hk]; exact ⟨by omega, by omega⟩
    rw [if_neg h2]
    by_cases h1 : t = 1
    · rw [if_pos h1]
      by_cases hk : k = 4
      · rw [if_pos hk]; exact ⟨by omega, by omega⟩
      rw [if_neg hk]
      by_cases hk : k = 5
      · rw [if_pos hk]; exact ⟨by omega, by omega⟩
      · rw [if_neg hk]; exact ⟨by omega, by omega⟩
    rw [if_neg h1]
    rw [if_neg ht]
    by_cases h32 : t = 32
    · rw [if_pos h32]
      by_cases hk : 0 ≤ k ∧ k.toNat < L
      · rw [if_pos hk]
        have g1 := Int32.le_toInt (xs k.toNat)
        have g2 := Int32.toInt_lt (xs k.toNat)
        exact ⟨by omega, by omega⟩
      · rw [if_neg hk]; exact ⟨by omega, by omega⟩
    · rw [if_neg h32]; exact ⟨by omega, by omega⟩
  · have e : mu0 L xs 33 i k = if k = 1 then (L : Int) else 0 := rfl
    rw [e]
    by_cases hk : k = 1
    · rw [if_pos hk]; exact ⟨by omega, by omega⟩
    · rw [if_neg hk]; exact ⟨by omega, by omega⟩
  · have e : mu0 L xs 32 0 (j : Int) = if 0 ≤ (j : Int) ∧ ((j : Int)).toNat < L then (xs ((j : Int)).toNat).toInt else 0 := rfl
    rw [e, if_pos ⟨by omega, by omega⟩, show ((j : Int)).toNat = j by omega]


/-- the state at the start: eight by eight, all 0, no frames -/
def st0 : Int → Int := fun k => if k = 0 ∨ k = 1 then 8 else if k = 3 then 2 else if k = 4 then 4 else 0
section Lj
variable {L : Nat} {xs : Nat → Int32}
theorem s0_v (c : Int) (c0 : 0 ≤ c) : sv st0 (-1) c = 0 := by
  rw [sv_n]
  show (if 6 + c = 0 ∨ 6 + c = 1 then (8 : Int) else if 6 + c = 3 then 2 else if 6 + c = 4 then 4 else 0) = 0
  rw [if_neg (by omega), if_neg (by omega), if_neg (by omega)]
theorem s0_4c (o c : Int) : mu0 L xs 4 o c = 0 := rfl
theorem s0_i : IM (mu0 L xs) (78 + 0) st0 (-1) := ⟨rfl, rfl, fun c c0 c1 => by
  rw [s0_v c c0]
  exact s0_4c _ c⟩
theorem s0_st : ST (mu0 L xs) 0 st0 := ⟨⟨rfl, rfl, rfl, rfl⟩, s0_i, fun f f0 f1 => by
  have e : st0 2 = 0 := rfl
  rw [e] at f1
  omega⟩
theorem s0_CI (p : Int → Int → Int) : CI (mu0 L xs) st0 0 p := by
  have e2 : mu0 L xs 0 0 2 = 0 := rfl
  have e3 : mu0 L xs 0 0 3 = 0 := rfl
  refine ⟨s0_st, ?_, ?_, fun j j0 j1 => ?_⟩
  · rw [e2]
    omega
  · rw [e3]
    omega
  · omega
theorem s0_WF : WF st0 := by
  refine ⟨⟨Or.inr (Or.inl rfl), Or.inr (Or.inl rfl)⟩, by decide, by decide, by decide, by decide, fun c c0 _ => ?_, fun f f0 f1 => ?_⟩
  · rw [s0_v c c0]; omega
  · have e : st0 2 = 0 := rfl
    rw [e] at f1
    omega
theorem lj_start : LJ (mu0 L xs) st0 0 (fun _ _ => 0) := ⟨s0_CI _, s0_WF, fun j j0 j1 => by omega, rfl⟩
end Lj
/-- the small machine's law behind the constructor -/
theorem law_start {L : Nat} {xs : Nat → Int32} : ZW f_L_law 4 [vR 32 0, vR 0 0, none, none, none, none, none, none, none, none, none, none, none, none, none] [] (mu0 L xs) (fun r _ => r = some (vI 1)) := wLaw (fun _ => rfl) lj_start
