/-! ===== the law's start ===== -/
theorem zt1 {w : Cond} (h : w ∈ tables_1) : w ∈ lw_tbl := List.mem_append_right _ h
theorem zz_1 : Cond.initialized "FrameDeltas" ∈ lw_tbl := zt1 (List.mem_of_getElem? (i := 1) (by decide +kernel))
theorem zz_9 : Cond.initialized "FrameDeltasModel" ∈ lw_tbl := zt1 (List.mem_of_getElem? (i := 9) (by decide +kernel))
theorem zz_11 : Cond.initialized "java/lang/String" ∈ lw_tbl := zt1 (List.mem_of_getElem? (i := 11) (by decide +kernel))
theorem zz_13 : Cond.initialized "jdk/internal/util/Preconditions" ∈ lw_tbl := zt1 (List.mem_of_getElem? (i := 13) (by decide +kernel))
theorem zz_17 : Cond.classLink "FrameDeltasLaw" (7) "FrameDeltas" ∈ lw_tbl := zt1 (List.mem_of_getElem? (i := 17) (by decide +kernel))
theorem zz_18 : Cond.instantiable "FrameDeltas" (10) ∈ lw_tbl := zt1 (List.mem_of_getElem? (i := 18) (by decide +kernel))
theorem zz_19 : Cond.methodLink "FrameDeltasLaw" (9) ({ cls := "FrameDeltas", name := "<init>", desc := "()V" }) ∈ lw_tbl := zt1 (List.mem_of_getElem? (i := 19) (by decide +kernel))
theorem zz_20 : Cond.instanceMethod ({ cls := "FrameDeltas", name := "<init>", desc := "()V" }) ∈ lw_tbl := zt1 (List.mem_of_getElem? (i := 20) (by decide +kernel))
theorem zz_26 : Cond.instantiable "FrameDeltas$State" (7) ∈ lw_tbl := zt1 (List.mem_of_getElem? (i := 26) (by decide +kernel))
theorem zz_32 : Cond.instantiable "FrameDeltas$Image" (3) ∈ lw_tbl := zt1 (List.mem_of_getElem? (i := 32) (by decide +kernel))
theorem zz_51 : Cond.arrayClass ClassFile.FieldType.int ∈ lw_tbl := zt1 (List.mem_of_getElem? (i := 51) (by decide +kernel))
theorem zz_53 : Cond.arrayOver (ClassFile.FieldType.object "FrameDeltas$Frame") ∈ lw_tbl := zt1 (List.mem_of_getElem? (i := 53) (by decide +kernel))
theorem zz_54 : Cond.instantiable "FrameDeltas$Frame" (5) ∈ lw_tbl := zt1 (List.mem_of_getElem? (i := 54) (by decide +kernel))
theorem zz_122 : Cond.arrayOver (ClassFile.FieldType.object "FrameDeltas$State") ∈ lw_tbl := zt1 (List.mem_of_getElem? (i := 122) (by decide +kernel))
theorem zz_124 : Cond.instantiable "FrameDeltas$Script" (8) ∈ lw_tbl := zt1 (List.mem_of_getElem? (i := 124) (by decide +kernel))
theorem zz_155 : Cond.arrayClass ClassFile.FieldType.char ∈ lw_tbl := zt1 (List.mem_of_getElem? (i := 155) (by decide +kernel))
theorem zz_157 : Cond.instantiable "FrameDeltas$Coder" (4) ∈ lw_tbl := zt1 (List.mem_of_getElem? (i := 157) (by decide +kernel))
theorem zz_163 : Cond.instantiable "FrameDeltas$RunList" (3) ∈ lw_tbl := zt1 (List.mem_of_getElem? (i := 163) (by decide +kernel))
theorem zz_195 : Cond.instantiable "FrameDeltas$Planner" (4) ∈ lw_tbl := zt1 (List.mem_of_getElem? (i := 195) (by decide +kernel))
theorem zz_359 : Cond.stringRef "FrameDeltas$Script" (38) "fill" ∈ lw_tbl := zt1 (List.mem_of_getElem? (i := 359) (by decide +kernel))
theorem zz_360 : Cond.stringRef "FrameDeltas$Script" (40) "box" ∈ lw_tbl := zt1 (List.mem_of_getElem? (i := 360) (by decide +kernel))
theorem zz_361 : Cond.stringRef "FrameDeltas$Script" (42) "shift" ∈ lw_tbl := zt1 (List.mem_of_getElem? (i := 361) (by decide +kernel))
theorem zz_362 : Cond.stringRef "FrameDeltas$Script" (44) "swap" ∈ lw_tbl := zt1 (List.mem_of_getElem? (i := 362) (by decide +kernel))
theorem zz_363 : Cond.stringRef "FrameDeltas$Script" (46) "frame" ∈ lw_tbl := zt1 (List.mem_of_getElem? (i := 363) (by decide +kernel))
theorem zz_377 : Cond.laysStatic "java/lang/String" "COMPACT_STRINGS" "Z" ∈ lw_tbl := zt1 (List.mem_of_getElem? (i := 377) (by decide +kernel))
theorem zz_393 : Cond.laysStatic "jdk/internal/util/Preconditions" "SIOOBE_FORMATTER" "Ljava/util/function/BiFunction;" ∈ lw_tbl := zt1 (List.mem_of_getElem? (i := 393) (by decide +kernel))
theorem zz_423 : Cond.stringRef "FrameDeltas$Script" (48) "v" ∈ lw_tbl := zt1 (List.mem_of_getElem? (i := 423) (by decide +kernel))
theorem zz_424 : Cond.stringRef "FrameDeltas$Script" (50) "llllv" ∈ lw_tbl := zt1 (List.mem_of_getElem? (i := 424) (by decide +kernel))
theorem zz_425 : Cond.stringRef "FrameDeltas$Script" (52) "ww" ∈ lw_tbl := zt1 (List.mem_of_getElem? (i := 425) (by decide +kernel))
theorem zz_426 : Cond.stringRef "FrameDeltas$Script" (54) "vv" ∈ lw_tbl := zt1 (List.mem_of_getElem? (i := 426) (by decide +kernel))
theorem zz_427 : Cond.stringRef "FrameDeltas$Script" (56) "f" ∈ lw_tbl := zt1 (List.mem_of_getElem? (i := 427) (by decide +kernel))
theorem zz_481 : Cond.arrayClass ClassFile.FieldType.byte ∈ lw_tbl := zt1 (List.mem_of_getElem? (i := 481) (by decide +kernel))
theorem zz_748 : Cond.classLink "FrameDeltasLaw" (10) "FrameDeltasModel" ∈ lw_tbl := zt1 (List.mem_of_getElem? (i := 748) (by decide +kernel))
theorem zz_749 : Cond.instantiable "FrameDeltasModel" (18) ∈ lw_tbl := zt1 (List.mem_of_getElem? (i := 749) (by decide +kernel))
theorem zz_750 : Cond.methodLink "FrameDeltasLaw" (12) ({ cls := "FrameDeltasModel", name := "<init>", desc := "()V" }) ∈ lw_tbl := zt1 (List.mem_of_getElem? (i := 750) (by decide +kernel))
theorem zz_751 : Cond.instanceMethod ({ cls := "FrameDeltasModel", name := "<init>", desc := "()V" }) ∈ lw_tbl := zt1 (List.mem_of_getElem? (i := 751) (by decide +kernel))

/-- what the statement gives of the start, word by word -/
def sfl : List Cond := flatC (Jvm.Cond.and given_1 narrow_1)
def stm (i : Nat) : Term := Term.string "FrameDeltas$Script" (zstx i)
theorem sf_ex : ∀ i : Nat, i < 10 → Cond.exactly (stm i) "java/lang/String" ∈ sfl := by decide +kernel
theorem sf_co : ∀ i : Nat, i < 10 → Cond.eq (.field (stm i) "java/lang/String" "coder" "B") (.int 0) ∈ sfl := by decide +kernel
theorem sf_ar : ∀ i : Nat, i < 10 → Cond.arrayOf (.field (stm i) "java/lang/String" "value" "[B") .byte ∈ sfl := by decide +kernel
theorem sf_le : ∀ i : Nat, i < 10 → Cond.eq (.length (.field (stm i) "java/lang/String" "value" "[B")) (.int (Int32.ofNat (ztl.getD i 0))) ∈ sfl := by decide +kernel
theorem sf_el : ∀ i : Nat, i < 10 → ∀ j : Nat, j < ztl.getD i 0 → Cond.eq (.elem (.field (stm i) "java/lang/String" "value" "[B") (.int (Int32.ofNat j))) (.int ((ztb.getD i []).getD j 0)) ∈ sfl := by decide +kernel
theorem sf_ne : ∀ i : Nat, i < 10 → ∀ j : Nat, j < 10 → i ≠ j → Cond.not (Cond.eq (stm i) (stm j)) ∈ sfl ∨ Cond.not (Cond.eq (stm j) (stm i)) ∈ sfl := by decide +kernel
theorem sf_cs : Cond.eq (.static "java/lang/String" "COMPACT_STRINGS" "Z") (.int 1) ∈ sfl := by decide +kernel
theorem sf_sf : Cond.isRef (.static "jdk/internal/util/Preconditions" "SIOOBE_FORMATTER" "Ljava/util/function/BiFunction;") ∈ sfl := by decide +kernel
theorem sf_ln : ∀ i : Nat, i < 10 → ztl.getD i 0 < 2 ^ 31 := by decide +kernel
theorem zt_ref : ∀ i : Nat, i < 10 → Cond.stringRef "FrameDeltas$Script" (zstx i) (ztx i) ∈ lw_tbl := by
  intro i hi
  rcases (show i = 0 ∨ i = 1 ∨ i = 2 ∨ i = 3 ∨ i = 4 ∨ i = 5 ∨ i = 6 ∨ i = 7 ∨ i = 8 ∨ i = 9 by omega) with rfl | rfl | rfl | rfl | rfl | rfl | rfl | rfl | rfl | rfl
  · exact zz_359
  · exact zz_360
  · exact zz_361
  · exact zz_362
  · exact zz_363
  · exact zz_423
  · exact zz_424
  · exact zz_425
  · exact zz_426
  · exact zz_427
/-- the classes, the texts, the script at the start -/
theorem start_bk {s : State} {b b0 L : Nat} {xs : Nat → Int32} (hb0 : s.heap.size = b0) (hts : ∀ w ∈ lw_tbl, w.before #[Value.ref b] s = true) (hX : va_X b L xs s s.heap) (hbl : b < b0) (hL : L ≤ 2560) (hgv : (Jvm.Cond.and given_1 narrow_1).before #[Value.ref b] s = true) : ∃ (D : va_G) (ca : Nat → ClassId) (adK adV : Nat → Nat), zBk b0 D ca adK adV b L xs s := by
  have hs : ∀ w ∈ sfl, w.before #[Value.ref b] s = true := flat_of_before _ hgv
  have hA : ∀ a : Nat, a < s.heap.size → ¬ (fun q => b0 ≤ q) a := fun a h => by
    show ¬ b0 ≤ a
    omega
  obtain ⟨adK, adV, hS, hK⟩ := vk_Sof (N := 10) (tm := stm) (len := ztl) (byt := ztb) (A := fun q => b0 ≤ q) sf_ln (fun i hi => hs _ (sf_ex i hi)) (fun i hi => hs _ (sf_co i hi)) (fun i hi => hs _ (sf_ar i hi)) (fun i hi => hs _ (sf_le i hi)) (fun i hi j hj => hs _ (sf_el i hi j hj)) (fun i j hi hj hne => (sf_ne i hi j hj hne).imp (hs _) (hs _)) hA
  obtain ⟨c0, i0, k0⟩ := u_known (C := zR_0) (T := zF_0) (N := 10) (n := 10) hts zin_0 (hts _ zz_18)
  obtain ⟨c1, i1, k1⟩ := u_known (C := zR_1) (T := zF_1) (N := 7) (n := 7) hts zin_1 (hts _ zz_26)
  obtain ⟨c2, i2, k2⟩ := u_known (C := zR_2) (T := zF_2) (N := 5) (n := 5) hts zin_2 (hts _ zz_54)
  obtain ⟨c3, i3, k3⟩ := u_known (C := zR_3) (T := zF_3) (N := 3) (n := 3) hts zin_3 (hts _ zz_32)
  obtain ⟨c4, i4, k4⟩ := u_known (C := zR_8) (T := zF_8) (N := 8) (n := 8) hts zin_8 (hts _ zz_124)
  obtain ⟨c5, i5, k5⟩ := u_known (C := zR_11) (T := zF_11) (N := 4) (n := 4) hts zin_11 (hts _ zz_157)
  obtain ⟨c6, i6, k6⟩ := u_known (C := zR_12) (T := zF_12) (N := 3) (n := 3) hts zin_12 (hts _ zz_163)
  obtain ⟨c7, i7, k7⟩ := u_known (C := zR_15) (T := zF_15) (N := 4) (n := 4) hts zin_15 (hts _ zz_195)
  obtain ⟨c8, i8, k8⟩ := u_known (C := zR_20) (T := zF_20) (N := 18) (n := 18) hts zin_20 (hts _ zz_749)
  obtain ⟨a0, kA0, p0, f0, g0, e0⟩ := Cond.arrayClass_spec (hts _ zz_51)
  obtain ⟨a1, kA1, p1, f1, g1, e1⟩ := Cond.arrayClass_spec (hts _ zz_155)
  obtain ⟨a2, kA2, p2, f2, g2, e2⟩ := Cond.arrayClass_spec (hts _ zz_481)
  obtain ⟨p3, a3, kA3, h3, -, g3, e3, f3⟩ := Cond.arrayOver_spec (hts _ zz_122)
  obtain ⟨p4, a4, kA4, h4, -, g4, e4, f4⟩ := Cond.arrayOver_spec (hts _ zz_53)
  refine ⟨(fun k => match k with | 0 => c0 | 1 => c1 | 2 => c2 | 3 => c3 | 4 => c4 | 5 => c5 | 6 => c6 | 7 => c7 | _ => c8, fun k => match k with | 0 => i0 | 1 => i1 | 2 => i2 | 3 => i3 | 4 => i4 | 5 => i5 | 6 => i6 | 7 => i7 | _ => i8), (fun k => match k with | 0 => a0 | 1 => a1 | 2 => a2 | 3 => a3 | _ => a4), adK, adV, ⟨?_, ?_⟩, hS, hX, ⟨hbl, by omega, by omega⟩, va_Zof (hts _ zz_377) (hts _ zz_11) (va_eqi (hs _ sf_cs)) hA, va_Zqof (hts _ zz_393) (hts _ zz_13) (hs _ sf_sf) hA, fun i hi => vk_R.of (hts _ (zt_ref i hi)) (hK i hi), fun w hw => ?_⟩
  · intro k q hq
    match k, hq with
    | 0, hq => cases hq; exact k0
    | 1, hq => cases hq; exact k1
    | 2, hq => cases hq; exact k2
    | 3, hq => cases hq; exact k3
    | 4, hq => cases hq; exact k4
    | 5, hq => cases hq; exact k5
    | 6, hq => cases hq; exact k6
    | 7, hq => cases hq; exact k7
    | 8, hq => cases hq; exact k8
    | k + 9, hq => simp [zcl] at hq
  · intro k q hq
    match k, hq with
    | 0, hq =>
      cases hq
      exact ⟨fun N z => ⟨(fun k h => by cases h), kA0, g0, p0, e0⟩, f0⟩
    | 1, hq =>
      cases hq
      exact ⟨fun N z => ⟨(fun k h => by cases h), kA1, g1, p1, e1⟩, f1⟩
    | 2, hq =>
      cases hq
      exact ⟨fun N z => ⟨(fun k h => by cases h), kA2, g2, p2, e2⟩, f2⟩
    | 3, hq =>
      cases hq
      exact ⟨fun N z => ⟨(fun k h => by cases h), kA3, g3, p3, e3⟩, kA3, p3, g3, e3, h3, f3⟩
    | 4, hq =>
      cases hq
      exact ⟨fun N z => ⟨(fun k h => by cases h), kA4, g4, p4, e4⟩, kA4, p4, g4, e4, h4, f4⟩
    | k + 5, hq => simp [zarr] at hq
  · obtain ⟨w1, w2⟩ := List.mem_filter.mp hw
    refine va_Nw.of ?_ (hts w (zt1 w1))
    unfold zisN at w2
    cases w <;> first | rfl | cases w2


theorem kX7_len (ca : Nat → ClassId) (b0 : Nat) : (kX7_c ca b0 0).length = 358 := by
  have h := kbl_len (g := kX6_c ca b0) (a := 50) (n := 48) (fun x => kX6_len ca b0 x) 6
  have h6 := kX6_len ca b0 1
  have h5 : (kX5_c ca b0 338).length = 3 := rfl
  have h0 : (kX0_c ca b0 341).length = 7 := rfl
  have h3 : (kX3_c ca b0 348).length = 3 := rfl
  have h1 : (kX1_c ca b0 351).length = 4 := rfl
  have h2 : (kX2_c ca b0 355).length = 2 := rfl
  unfold kX7_c
  simp only [List.length_cons, List.length_append, List.length_nil, Nat.zero_add, h, h6, h5, h0, h3, h1, h2]
/-- the numbers at the start -/
theorem zM_start {L : Nat} {xs : Nat → Int32} (hL : L ≤ 2560) : zM L xs (mu0 L xs) := by
  refine ⟨fun t i k ht => ?_, fun i k => ?_, rfl, fun j hj => ?_⟩
  · unfold mu0
    by_cases h3 : t = 3
    · rw [if_pos h3]
      by_cases hk : k = 1 ∨ k = 2
      · rw [if_pos hk]; exact ⟨by omega, by omega⟩
      · rw [if_neg hk]; exact ⟨by omega, by omega⟩
    rw [if_neg h3]
    by_cases h2 : t = 2
    · rw [if_pos h2]
      by_cases hk : k = 2
      · rw [if_pos hk]; exact ⟨by omega, by omega⟩
      · rw [if_neg hk]; exact ⟨by omega, by omega⟩
    rw [if_neg h2]
    by_cases h1 : t = 1
    · rw [if_pos h1]
      by_cases hk : k = 4
      · rw [if_pos hk]; exact ⟨by omega, by omega⟩
      rw [if_neg hk]
      by_cases hk : k = 5
      · rw [if_pos hk]; exact ⟨by omega, by omega⟩
      · rw [if_neg hk]; exact ⟨by omega, by omega⟩
    rw [if_neg h1]
    by_cases h21 : t = 21
    · rw [if_pos h21]
      by_cases hk : k = 0 ∨ k = 1
      · rw [if_pos hk]; exact ⟨by omega, by omega⟩
      rw [if_neg hk]
      by_cases hk : k = 3
      · rw [if_pos hk]; exact ⟨by omega, by omega⟩
      rw [if_neg hk]
      by_cases hk : k = 4
      · rw [if_pos hk]; exact ⟨by omega, by omega⟩
      · rw [if_neg hk]; exact ⟨by omega, by omega⟩
    rw [if_neg h21, if_neg ht]
    by_cases h32 : t = 32
    · rw [if_pos h32]
      by_cases hk : 0 ≤ k ∧ k.toNat < L
      · rw [if_pos hk]
        have g1 := Int32.le_toInt (xs k.toNat)
        have g2 := Int32.toInt_lt (xs k.toNat)
        exact ⟨by omega, by omega⟩
      · rw [if_neg hk]; exact ⟨by omega, by omega⟩
    · rw [if_neg h32]; exact ⟨by omega, by omega⟩
  · have e : mu0 L xs 33 i k = if k = 1 then (L : Int) else 0 := rfl
    rw [e]
    by_cases hk : k = 1
    · rw [if_pos hk]; exact ⟨by omega, by omega⟩
    · rw [if_neg hk]; exact ⟨by omega, by omega⟩
  · have e : mu0 L xs 32 0 (j : Int) = if 0 ≤ (j : Int) ∧ ((j : Int)).toNat < L then (xs ((j : Int)).toNat).toInt else 0 := rfl
    rw [e, if_pos ⟨by omega, by omega⟩, show ((j : Int)).toNat = j by omega]


section Lj
variable {L : Nat} {xs : Nat → Int32}
theorem s0_0 : mu0 L xs 21 0 0 = 8 := rfl
theorem s0_1 : mu0 L xs 21 0 1 = 8 := rfl
theorem s0_2 : mu0 L xs 21 0 2 = 0 := rfl
theorem s0_3 : mu0 L xs 21 0 3 = 2 := rfl
theorem s0_4 : mu0 L xs 21 0 4 = 4 := rfl
theorem s0_5 : mu0 L xs 21 0 5 = 0 := rfl
theorem s0_v (c : Int) (c0 : 0 ≤ c) : sv (mu0 L xs 21 0) (-1) c = 0 := by
  unfold sv
  rw [if_pos (by omega)]
  have e : ∀ k : Int, mu0 L xs 21 0 k = if k = 0 ∨ k = 1 then 8 else if k = 3 then 2 else if k = 4 then 4 else 0 := fun _ => rfl
  rw [e, if_neg (by omega), if_neg (by omega), if_neg (by omega)]
theorem s0_4c (o c : Int) : mu0 L xs 4 o c = 0 := rfl
theorem s0_i : IM (mu0 L xs) (78 + 0) (mu0 L xs 21 0) (-1) := by
  refine ⟨?_, ?_, fun c c0 c1 => ?_⟩
  · rw [s0_0]
    rfl
  · rw [s0_1]
    rfl
  · rw [s0_v c c0]
    exact s0_4c _ c
theorem s0_st : ST (mu0 L xs) 0 (mu0 L xs 21 0) := by
  refine ⟨⟨?_, ?_, ?_, ?_⟩, s0_i, fun f f0 f1 => ?_⟩
  · rw [s0_2]
    rfl
  · rw [s0_3]
    rfl
  · rw [s0_4]
    rfl
  · rw [s0_5]
    rfl
  · rw [s0_2] at f1
    omega
theorem s0_CI (p : Int → Int → Int) : CI (mu0 L xs) (mu0 L xs 21 0) 0 p := by
  have e2 : mu0 L xs 0 0 2 = 0 := rfl
  have e3 : mu0 L xs 0 0 3 = 0 := rfl
  refine ⟨s0_st, ?_, ?_, fun j j0 j1 => ?_⟩
  · rw [e2]
    omega
  · rw [e3]
    omega
  · omega
theorem s0_MI (p : Int → Int → Int) : MI (mu0 L xs) (mu0 L xs 21 0) 0 p := by
  have e2 : mu0 L xs 20 0 2 = 0 := rfl
  refine ⟨rfl, ?_, fun j k j0 j1 => ?_⟩
  · rw [e2]
    omega
  · omega
theorem s0_WF : WF (mu0 L xs 21 0) := by
  refine ⟨⟨Or.inr (Or.inl s0_0), Or.inr (Or.inl s0_1)⟩, ?_, ?_, ?_, ?_, fun c c0 _ => ?_, fun f f0 f1 => ?_⟩
  · rw [s0_2]; omega
  · rw [s0_3]; omega
  · rw [s0_4]; omega
  · rw [s0_5]; omega
  · rw [s0_v c c0]; omega
  · rw [s0_2] at f1
    omega
theorem s0_TX (T : Int → Int) : TX (mu0 L xs) T 0 := by
  have e : mu0 L xs 8 0 1 = 0 := rfl
  exact ⟨e, by omega, fun k k0 k1 => by omega⟩
theorem s0_MT (T : Int → Int) : MT (mu0 L xs) T 0 := by
  have e : mu0 L xs 20 0 4 = 0 := rfl
  exact ⟨e, by omega, fun k k0 k1 => by omega⟩
/-- class and model at the start: eight by eight, all 0, no frames, no text -/
theorem lj_start : LJ (mu0 L xs) (mu0 L xs 21 0) 0 (fun _ _ => 0) (fun _ => 0) 0 := ⟨s0_CI _, s0_MI _, s0_WF, fun j j0 j1 => by omega, s0_TX _, s0_MT _⟩
end Lj
/-- the small machine's law from its loop's start on -/
theorem law_start {L : Nat} {xs : Nat → Int32} (hL : L ≤ 2560) : ZW f_L_law 8 [vR 32 0, vR 0 0, vR 20 0, none] [] (mu0 L xs) (fun r _ => r = some (vI 1)) := by
  have e : mu0 L xs 33 0 1 = (L : Int) := rfl
  exact vc_L_law_8 (law_loop (μ := mu0 L xs) (by rw [e]; omega) (by rw [e]; omega) (fun _ => rfl) _ 0 (mu0 L xs) _ 0 _ _ 0 rfl (Int.le_refl 0) lj_start scr_rf)
