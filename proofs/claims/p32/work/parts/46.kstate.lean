/-! ===== the constructor of a state ===== -/
theorem zk_4 : Cond.initialized "FrameDeltas$Frame" ∈ zTs := zTs_t (List.mem_of_getElem? (i := 4) (by decide +kernel)) (by decide +kernel)
theorem zk_24 : Cond.code ({ cls := "FrameDeltas$State", name := "<init>", desc := "()V" }) prog_8_method_1_code (2) (Option.none : Option ClassFile.FieldType) ∈ zTs := zTs_t (List.mem_of_getElem? (i := 24) (by decide +kernel)) (by decide +kernel)
theorem zk_25 : Cond.methodLink "FrameDeltas$State" (3) ({ cls := "java/lang/Object", name := "<init>", desc := "()V" }) ∈ zTs := zTs_t (List.mem_of_getElem? (i := 25) (by decide +kernel)) (by decide +kernel)
theorem zk_26 : Cond.classLink "FrameDeltas$State" (9) "FrameDeltas$Image" ∈ zTs := zTs_t (List.mem_of_getElem? (i := 26) (by decide +kernel)) (by decide +kernel)
theorem zk_28 : Cond.methodLinkNest "FrameDeltas$State" (11) ({ cls := "FrameDeltas$Image", name := "<init>", desc := "()V" }) "FrameDeltas" ∈ zNs := zNs_t (List.mem_of_getElem? (i := 28) (by decide +kernel)) (by rfl)
theorem zk_45 : Cond.classLink "FrameDeltas$State" (18) "FrameDeltas$Frame" ∈ zTs := zTs_t (List.mem_of_getElem? (i := 45) (by decide +kernel)) (by decide +kernel)
theorem zk_47 : Cond.instantiable "FrameDeltas$Frame" (5) ∈ zTs := zTs_t (List.mem_of_getElem? (i := 47) (by decide +kernel)) (by decide +kernel)
theorem zk_48 : Cond.methodLinkNest "FrameDeltas$State" (24) ({ cls := "FrameDeltas$Frame", name := "<init>", desc := "()V" }) "FrameDeltas" ∈ zNs := zNs_t (List.mem_of_getElem? (i := 48) (by decide +kernel)) (by rfl)
theorem zk_49 : Cond.instanceMethod ({ cls := "FrameDeltas$Frame", name := "<init>", desc := "()V" }) ∈ zTs := zTs_t (List.mem_of_getElem? (i := 49) (by decide +kernel)) (by decide +kernel)
theorem zk_84 : Cond.fieldLink "FrameDeltas$State" (12) "FrameDeltas$State" "canvas" "LFrameDeltas$Image;" ∈ zTs := zTs_t (List.mem_of_getElem? (i := 84) (by decide +kernel)) (by decide +kernel)
theorem zk_86 : Cond.fieldLink "FrameDeltas$State" (20) "FrameDeltas$State" "frames" "[LFrameDeltas$Frame;" ∈ zTs := zTs_t (List.mem_of_getElem? (i := 86) (by decide +kernel)) (by decide +kernel)
theorem zk_87 : Cond.fieldLink "FrameDeltas$State" (25) "FrameDeltas$State" "nowhere" "LFrameDeltas$Frame;" ∈ zTs := zTs_t (List.mem_of_getElem? (i := 87) (by decide +kernel)) (by decide +kernel)
theorem zk_88 : Cond.fieldLink "FrameDeltas$State" (29) "FrameDeltas$State" "frameCount" "I" ∈ zTs := zTs_t (List.mem_of_getElem? (i := 88) (by decide +kernel)) (by decide +kernel)
theorem zk_91 : Cond.fieldLink "FrameDeltas$State" (33) "FrameDeltas$State" "range" "I" ∈ zTs := zTs_t (List.mem_of_getElem? (i := 91) (by decide +kernel)) (by decide +kernel)
theorem zk_94 : Cond.fieldLink "FrameDeltas$State" (36) "FrameDeltas$State" "depthLimit" "I" ∈ zTs := zTs_t (List.mem_of_getElem? (i := 94) (by decide +kernel)) (by decide +kernel)
theorem zk_96 : Cond.fieldLink "FrameDeltas$State" (39) "FrameDeltas$State" "rate" "I" ∈ zTs := zTs_t (List.mem_of_getElem? (i := 96) (by decide +kernel)) (by decide +kernel)
abbrev kbX6 : ByteArray := prog_8_method_1_code
def kyX6 : MethodName := ⟨zR_1, "<init>", "()V"⟩
theorem kdX6_0 : decode kbX6 0 = .ok (.aload_n 0, 1) := by decide +kernel
theorem kdX6_1 : decode kbX6 1 = .ok (.invokespecial 3, 3) := by decide +kernel
theorem kdX6_4 : decode kbX6 4 = .ok (.aload_n 0, 1) := by decide +kernel
theorem kdX6_5 : decode kbX6 5 = .ok (.new 9, 3) := by decide +kernel
theorem kdX6_8 : decode kbX6 8 = .ok (.dup, 1) := by decide +kernel
theorem kdX6_9 : decode kbX6 9 = .ok (.invokespecial 11, 3) := by decide +kernel
theorem kdX6_12 : decode kbX6 12 = .ok (.putfield 12, 3) := by decide +kernel
theorem kdX6_15 : decode kbX6 15 = .ok (.aload_n 0, 1) := by decide +kernel
theorem kdX6_16 : decode kbX6 16 = .ok (.bipush 10, 2) := by decide +kernel
theorem kdX6_18 : decode kbX6 18 = .ok (.anewarray 18, 3) := by decide +kernel
theorem kdX6_21 : decode kbX6 21 = .ok (.putfield 20, 3) := by decide +kernel
theorem kdX6_24 : decode kbX6 24 = .ok (.iconst 0, 1) := by decide +kernel
theorem kdX6_25 : decode kbX6 25 = .ok (.istore_n 1, 1) := by decide +kernel
theorem kdX6_26 : decode kbX6 26 = .ok (.iload_n 1, 1) := by decide +kernel
theorem kdX6_27 : decode kbX6 27 = .ok (.aload_n 0, 1) := by decide +kernel
theorem kdX6_28 : decode kbX6 28 = .ok (.getfield 20, 3) := by decide +kernel
theorem kdX6_31 : decode kbX6 31 = .ok (.arraylength, 1) := by decide +kernel
theorem kdX6_32 : decode kbX6 32 = .ok (.if_icmp .ge 22, 3) := by decide +kernel
theorem kdX6_35 : decode kbX6 35 = .ok (.aload_n 0, 1) := by decide +kernel
theorem kdX6_36 : decode kbX6 36 = .ok (.getfield 20, 3) := by decide +kernel
theorem kdX6_39 : decode kbX6 39 = .ok (.iload_n 1, 1) := by decide +kernel
theorem kdX6_40 : decode kbX6 40 = .ok (.new 18, 3) := by decide +kernel
theorem kdX6_43 : decode kbX6 43 = .ok (.dup, 1) := by decide +kernel
theorem kdX6_44 : decode kbX6 44 = .ok (.invokespecial 24, 3) := by decide +kernel
theorem kdX6_47 : decode kbX6 47 = .ok (.aastore, 1) := by decide +kernel
theorem kdX6_48 : decode kbX6 48 = .ok (.iinc 1 1, 3) := by decide +kernel
theorem kdX6_51 : decode kbX6 51 = .ok (.goto (-25), 3) := by decide +kernel
theorem kdX6_54 : decode kbX6 54 = .ok (.aload_n 0, 1) := by decide +kernel
theorem kdX6_55 : decode kbX6 55 = .ok (.new 18, 3) := by decide +kernel
theorem kdX6_58 : decode kbX6 58 = .ok (.dup, 1) := by decide +kernel
theorem kdX6_59 : decode kbX6 59 = .ok (.invokespecial 24, 3) := by decide +kernel
theorem kdX6_62 : decode kbX6 62 = .ok (.putfield 25, 3) := by decide +kernel
theorem kdX6_65 : decode kbX6 65 = .ok (.aload_n 0, 1) := by decide +kernel
theorem kdX6_66 : decode kbX6 66 = .ok (.iconst 0, 1) := by decide +kernel
theorem kdX6_67 : decode kbX6 67 = .ok (.putfield 29, 3) := by decide +kernel
theorem kdX6_70 : decode kbX6 70 = .ok (.aload_n 0, 1) := by decide +kernel
theorem kdX6_71 : decode kbX6 71 = .ok (.iconst 2, 1) := by decide +kernel
theorem kdX6_72 : decode kbX6 72 = .ok (.putfield 33, 3) := by decide +kernel
theorem kdX6_75 : decode kbX6 75 = .ok (.aload_n 0, 1) := by decide +kernel
theorem kdX6_76 : decode kbX6 76 = .ok (.iconst 4, 1) := by decide +kernel
theorem kdX6_77 : decode kbX6 77 = .ok (.putfield 36, 3) := by decide +kernel
theorem kdX6_80 : decode kbX6 80 = .ok (.aload_n 0, 1) := by decide +kernel
theorem kdX6_81 : decode kbX6 81 = .ok (.iconst 0, 1) := by decide +kernel
theorem kdX6_82 : decode kbX6 82 = .ok (.putfield 39, 3) := by decide +kernel
theorem kdX6_85 : decode kbX6 85 = .ok (.return_, 1) := by decide +kernel
def kX6_c (ca : Nat → ClassId) (b0 n : Nat) : List va_E := .inr (1, [.ref (b0 + (n + 1)), .ref (b0 + (n + 3)), .ref (b0 + (n + 4 + 4 * 10)), .int 0, .int 2, .int 4, .int 0]) :: ([.inr (3, [.ref (b0 + (n + 2)), .int 8, .int 8]), .inl (ca 0, 144, .inl (fun _ => 0))] ++ (.inl (ca 4, 10, .inr (.inr (.inr (.inr (krf b0 (n + 4) 4 10))))) :: (kbl (kX1_c ca b0) (n + 4) 4 11)))
def kX6_w : List Cond := .code kyX6 kbX6 2 none :: zTs
theorem kX6_g : GoodIn zTs kX6_w := k_good zk_24
theorem kX6_m (l : Launch) {b0 : Nat} {D : va_G} {ca : Nat → ClassId} {adK adV : Nat → Nat} {bS L : Nat} {xs : Nat → Int32} (pre : List va_E) (n : Nat) (hn : pre.length = n) : Met l kyX6 kX6_w ({ frames := 3, cells := 47, slots := 2225, locals := 52 }) (va_Pc [.ref (b0 + n)] (zBw b0 D ca adK adV bS L xs (pre ++ [.inr (1, [.null, .null, .null, .int 0, .int 0, .int 0, .int 0])]))) (zQw b0 D (pre ++ kX6_c ca b0 n)) 47 2225 (fun q => b0 ≤ q) := by
  refine zMet_of (cc := kbX6) (maxL := 2) (ret := none) (by decide) rfl ?_
  intro p e s m args below meth c s₁ B hml hv
  obtain ⟨rfl, hB, hP, hz, hO⟩ := hv
  have hx := B.exec
  have hb := B.bytes
  have hr := B.returns
  have hts2 := atoms_spec (ws := kX6_w) B.pre
  have hts : ∀ w ∈ zTs, w.before _ s = true := fun w hw => hts2 w (List.mem_cons_of_mem _ hw)
  have hown : s.vm.findClass zR_1 = some m.cls := findClass_of_methodNamed B.named
  have hlocks := B.notSynchronized
  have hin : meth.name = "<init>" := (name_of_methodNamed B.named B.method).1
  have aS : va_S (fun q => b0 ≤ q) s.heap s.heap [] := va_S.rf
  have hl := lv_entry ([.ref (b0 + n)]) (n := 2) (Nat.le_of_ble_eq_true rfl)
  rw [lg_entry_eq]
  generalize (lg_sl ([.ref (b0 + n)]) ++ List.replicate (2 - (lg_sl ([.ref (b0 + n)])).length) Slot.unset).toArray = ls at hl ⊢
  have hl : lv_has ls 2 [(0, .ref (b0 + n))] := hl
  have hP : va_P D zcl (zaw b0 0 (pre ++ [.inr (1, [.null, .null, .null, .int 0, .int 0, .int 0, .int 0])])) s.heap := hP
  have hz : s.heap.size = b0 + (pre ++ ([.inr (1, [.null, .null, .null, .int 0, .int 0, .int 0, .int 0])] : List va_E)).length := hz
  generalize hH : s.heap = H at hP hz ⊢
  have aS : va_S (fun q => b0 ≤ q) s.heap H [] := by rw [← hH]; exact aS
  refine lv_aload_n hx hb kdX6_0 rfl (lv_at hl 0 rfl) ?_
  refine W.objInit hx hb hown (hts _ zk_25) (hts _ zk_18) (hts _ zk_19) rfl (by rw [hml]; exact hl.1) rfl kdX6_1 (Nat.le_of_ble_eq_true rfl) (Nat.le_of_ble_eq_true rfl) ?_
  refine W.eq (g2 := F0 m 4 ls []) rfl ?_
  refine lv_aload_n hx hb kdX6_4 rfl (lv_at hl 0 rfl) ?_
  refine zn_new (ci := 3) (fs := [.null, .int 0, .int 0]) (C := zR_3) (T := zF_3) (N := 3) hx hb hts zin_3t zty_3_ok hown (hts _ zk_26) (hts _ zk_27) (hts _ zk_3) hB.1 hP hz aS rfl (fun j hj => by rcases (show j = 0 ∨ j = 1 ∨ j = 2 by omega) with rfl | rfl | rfl <;> rfl) (Nat.le_of_ble_eq_true rfl) (Nat.le_of_ble_eq_true rfl) kdX6_5 (fun H hP hz aS => ?_)
  rw [List.append_assoc] at hP hz
  rw [List.length_append, hn]
  have hP : va_P D zcl (zaw b0 0 (pre ++ [.inr (1, [.null, .null, .null, .int 0, .int 0, .int 0, .int 0]), .inr (3, [.null, .int 0, .int 0])])) H := hP
  have hz : H.size = b0 + (pre ++ ([.inr (1, [.null, .null, .null, .int 0, .int 0, .int 0, .int 0]), .inr (3, [.null, .int 0, .int 0])] : List va_E)).length := hz
  refine lv_dup hx hb kdX6_8 rfl ?_
  have hP2 : va_P D zcl (zaw b0 0 ((pre ++ ([.inr (1, [.null, .null, .null, .int 0, .int 0, .int 0, .int 0])] : List va_E)) ++ [.inr (3, [.null, .int 0, .int 0])])) H := by rw [List.append_assoc]; exact hP
  have hz2 : H.size = b0 + ((pre ++ ([.inr (1, [.null, .null, .null, .int 0, .int 0, .int 0, .int 0])] : List va_E)) ++ [(.inr (3, [.null, .int 0, .int 0]) : va_E)]).length := by rw [List.append_assoc]; exact hz
  refine zbackw (es := (pre ++ ([.inr (1, [.null, .null, .null, .int 0, .int 0, .int 0, .int 0])] : List va_E)) ++ kX2_c ca b0 (n + 1)) (va_runIN (host := "FrameDeltas") (As := []) (rest := [.ref (b0 + (n + 1)), .ref (b0 + (n + 0))]) ⟨hx, hb, hml, hown, hts⟩ (kX2_m l (b0 := b0) (D := D) (ca := ca) (adK := adK) (adV := adV) (bS := bS) (L := L) (xs := xs) (pre ++ ([.inr (1, [.null, .null, .null, .int 0, .int 0, .int 0, .int 0])] : List va_E)) (n + 1) (by rw [List.length_append, hn]; rfl)) ⟨va_cnB 0 hts (kX2_g) rfl rfl rfl (hB.2.2.2 _ zk_28) (hts _ zk_3) ⟨by decide, by decide, rfl⟩ ⟨Nat.le_of_ble_eq_true rfl, Nat.le_of_ble_eq_true rfl⟩, rfl, hts _ zk_29⟩ (zPrew hB hP2 hz2 aS hO) rfl rfl hl.1 rfl (lv_room (Nat.le_of_ble_eq_true rfl)) kdX6_9 ⟨Nat.le_of_ble_eq_true rfl, Nat.le_of_ble_eq_true rfl⟩) aS (fun H locs hP hz aS => ?_)
  rw [List.append_assoc] at hP hz
  have hP : va_P D zcl (zaw b0 0 (pre ++ [.inr (1, [.null, .null, .null, .int 0, .int 0, .int 0, .int 0]), .inr (3, [.ref (b0 + (n + 2)), .int 8, .int 8]), .inl (ca 0, 144, .inl (fun _ => 0))])) H := hP
  have hz : H.size = b0 + (pre ++ ([.inr (1, [.null, .null, .null, .int 0, .int 0, .int 0, .int 0]), .inr (3, [.ref (b0 + (n + 2)), .int 8, .int 8]), .inl (ca 0, 144, .inl (fun _ => 0))] : List va_E)).length := hz
  refine W.eq (g2 := F0 m 12 ls [.ref (b0 + (n + 1)), .ref (b0 + (pre.length + 0))]) (by subst hn; rfl) ?_
  refine zn_putF (own := zR_1) (ref := zR_1) (C := zR_1) (T := zF_1) (N := 7) (ci := 1) (v := .ref (b0 + (n + 1))) hx hb hts zin_1t zty_1 zty_1_ok znm_1 hown hB.1 hP aS (pre.length + 0) (by rw [pre_at]; rfl) rfl 0 (by decide) (hts _ zk_84) (fun _ h9 => h9) rfl hin rfl (zty_1_ok 0 (by decide)) rfl rfl (Nat.le_of_ble_eq_true rfl) kdX6_12 (fun H1 locs hP hz1 aS => ?_)
  rw [pre_set] at hP
  have hP : va_P D zcl (zaw b0 0 (pre ++ [.inr (1, [.ref (b0 + (n + 1)), .null, .null, .int 0, .int 0, .int 0, .int 0]), .inr (3, [.ref (b0 + (n + 2)), .int 8, .int 8]), .inl (ca 0, 144, .inl (fun _ => 0))])) H1 := hP
  have hz : H1.size = b0 + (pre ++ ([.inr (1, [.ref (b0 + (n + 1)), .null, .null, .int 0, .int 0, .int 0, .int 0]), .inr (3, [.ref (b0 + (n + 2)), .int 8, .int 8]), .inl (ca 0, 144, .inl (fun _ => 0))] : List va_E)).length := len_eq pre _ _ b0 (hz1.trans hz) rfl
  clear hz1
  generalize H1 = H at hP hz aS ⊢
  refine lv_aload_n hx hb kdX6_15 rfl (lv_at hl 0 rfl) ?_
  refine lv_bipush (v := 10) hx hb kdX6_16 (by decide) ?_
  refine zn_newq (N := 10) hx hb hown (hts _ zk_45) hO.2 (zBk_cls hB).2.2.2.2 hP hz aS (by decide) (by decide) (Nat.le_of_ble_eq_true rfl) (Nat.le_of_ble_eq_true rfl) (Nat.le_of_ble_eq_true rfl) kdX6_18 (fun H hP hz aS => ?_)
  rw [List.append_assoc] at hP hz
  rw [List.length_append, hn]
  have hP : va_P D zcl (zaw b0 0 (pre ++ [.inr (1, [.ref (b0 + (n + 1)), .null, .null, .int 0, .int 0, .int 0, .int 0]), .inr (3, [.ref (b0 + (n + 2)), .int 8, .int 8]), .inl (ca 0, 144, .inl (fun _ => 0)), .inl (ca 4, 10, .inr (.inr (.inr (.inr (fun _ => none)))))])) H := hP
  have hz : H.size = b0 + (pre ++ ([.inr (1, [.ref (b0 + (n + 1)), .null, .null, .int 0, .int 0, .int 0, .int 0]), .inr (3, [.ref (b0 + (n + 2)), .int 8, .int 8]), .inl (ca 0, 144, .inl (fun _ => 0)), .inl (ca 4, 10, .inr (.inr (.inr (.inr (fun _ => none)))))] : List va_E)).length := hz
  refine W.eq (g2 := F0 m 21 ls [.ref (b0 + (n + 3)), .ref (b0 + (pre.length + 0))]) (by subst hn; rfl) ?_
  refine zn_putF (own := zR_1) (ref := zR_1) (C := zR_1) (T := zF_1) (N := 7) (ci := 1) (v := .ref (b0 + (n + 3))) hx hb hts zin_1t zty_1 zty_1_ok znm_1 hown hB.1 hP aS (pre.length + 0) (by rw [pre_at]; rfl) rfl 1 (by decide) (hts _ zk_86) (fun _ h9 => h9) rfl hin rfl (zty_1_ok 1 (by decide)) rfl rfl (Nat.le_of_ble_eq_true rfl) kdX6_21 (fun H1 locs hP hz1 aS => ?_)
  rw [pre_set] at hP
  have hP : va_P D zcl (zaw b0 0 (pre ++ [.inr (1, [.ref (b0 + (n + 1)), .ref (b0 + (n + 3)), .null, .int 0, .int 0, .int 0, .int 0]), .inr (3, [.ref (b0 + (n + 2)), .int 8, .int 8]), .inl (ca 0, 144, .inl (fun _ => 0)), .inl (ca 4, 10, .inr (.inr (.inr (.inr (fun _ => none)))))])) H1 := hP
  have hz : H1.size = b0 + (pre ++ ([.inr (1, [.ref (b0 + (n + 1)), .ref (b0 + (n + 3)), .null, .int 0, .int 0, .int 0, .int 0]), .inr (3, [.ref (b0 + (n + 2)), .int 8, .int 8]), .inl (ca 0, 144, .inl (fun _ => 0)), .inl (ca 4, 10, .inr (.inr (.inr (.inr (fun _ => none)))))] : List va_E)).length := len_eq pre _ _ b0 (hz1.trans hz) rfl
  clear hz1
  generalize H1 = H at hP hz aS ⊢
  refine lv_iconst (v := 0) hx hb kdX6_24 (by decide) ?_
  refine lv_istore_n (lv' := [(1, .int 0), (0, .ref (b0 + n))]) hx hb kdX6_25 rfl hl (by decide) rfl (fun ls hl => ?_)
  obtain ⟨blk, hblk⟩ : ∃ x : List va_E, x = [.inr (3, [.ref (b0 + (n + 2)), .int 8, .int 8]), .inl (ca 0, 144, .inl (fun _ => 0))] := ⟨_, rfl⟩
  have hbl : blk.length = 2 := by rw [hblk]; rfl
  have hP : va_P D zcl (zaw b0 0 (kE pre (.inr (1, [.ref (b0 + (n + 1)), .ref (b0 + (n + 3)), .null, .int 0, .int 0, .int 0, .int 0])) blk (.inl (ca 4, 10, .inr (.inr (.inr (.inr (krf b0 (n + 4) 4 0)))))) (kbl (kX1_c ca b0) (n + 4) 4 0))) H := by rw [krf_0, hblk]; exact hP
  have hz : H.size = b0 + (kE pre (.inr (1, [.ref (b0 + (n + 1)), .ref (b0 + (n + 3)), .null, .int 0, .int 0, .int 0, .int 0])) blk (.inl (ca 4, 10, .inr (.inr (.inr (.inr (krf b0 (n + 4) 4 0)))))) (kbl (kX1_c ca b0) (n + 4) 4 0)).length := by rw [krf_0, hblk]; exact hz
  have hcl : ∀ x, (kX1_c ca b0 x).length = 4 := fun x => rfl
  have loop : ∀ (exit : ∀ (ls : Array Slot) (H : Heap) (locs : List Loc), lv_has ls 2 [(1, .int (Int32.ofNat 10)), (0, .ref (b0 + n))] → va_P D zcl (zaw b0 0 (kE pre (.inr (1, [.ref (b0 + (n + 1)), .ref (b0 + (n + 3)), .null, .int 0, .int 0, .int 0, .int 0])) blk (.inl (ca 4, 10, .inr (.inr (.inr (.inr (krf b0 (n + 4) 4 10)))))) (kbl (kX1_c ca b0) (n + 4) 4 10))) H → H.size = b0 + (kE pre (.inr (1, [.ref (b0 + (n + 1)), .ref (b0 + (n + 3)), .null, .int 0, .int 0, .int 0, .int 0])) blk (.inl (ca 4, 10, .inr (.inr (.inr (.inr (krf b0 (n + 4) 4 10)))))) (kbl (kX1_c ca b0) (n + 4) 4 10)).length → va_S (fun q => b0 ≤ q) s.heap H locs → W p l e (headSpec kX6_w ({ frames := 3, cells := 47, slots := 2225, locals := 52 })).room s m [Value.ref (b0 + n)].toArray below meth c H locs (3 + 4 * 10) (157 + 188 * 10) (MQ below (zQw b0 D (pre ++ kX6_c ca b0 n)) [Value.ref (b0 + n)].toArray s 47 2225 (fun q => b0 ≤ q)) (F0 m 54 ls [])) (r k : Nat), k + r = 10 → ∀ (ls : Array Slot) (H : Heap) (locs : List Loc), lv_has ls 2 [(1, .int (Int32.ofNat k)), (0, .ref (b0 + n))] → va_P D zcl (zaw b0 0 (kE pre (.inr (1, [.ref (b0 + (n + 1)), .ref (b0 + (n + 3)), .null, .int 0, .int 0, .int 0, .int 0])) blk (.inl (ca 4, 10, .inr (.inr (.inr (.inr (krf b0 (n + 4) 4 k)))))) (kbl (kX1_c ca b0) (n + 4) 4 k))) H → H.size = b0 + (kE pre (.inr (1, [.ref (b0 + (n + 1)), .ref (b0 + (n + 3)), .null, .int 0, .int 0, .int 0, .int 0])) blk (.inl (ca 4, 10, .inr (.inr (.inr (.inr (krf b0 (n + 4) 4 k)))))) (kbl (kX1_c ca b0) (n + 4) 4 k)).length → va_S (fun q => b0 ≤ q) s.heap H locs → W p l e (headSpec kX6_w ({ frames := 3, cells := 47, slots := 2225, locals := 52 })).room s m [Value.ref (b0 + n)].toArray below meth c H locs (3 + 4 * k) (157 + 188 * k) (MQ below (zQw b0 D (pre ++ kX6_c ca b0 n)) [Value.ref (b0 + n)].toArray s 47 2225 (fun q => b0 ≤ q)) (F0 m 26 ls []) := by
    intro exit r
    induction r with
    | zero =>
      intro k hk ls H locs hl hP hz aS
      have ek : k = 10 := by omega
      subst ek
      refine lv_iload_n hx hb kdX6_26 rfl (lv_at hl 0 rfl) ?_
      refine lv_aload_n hx hb kdX6_27 rfl (lv_at hl 1 rfl) ?_
      refine W.eq (g2 := F0 m 28 ls [.ref (b0 + (pre.length + 0)), .int (Int32.ofNat 10)]) (by subst hn; rfl) ?_
      refine va_get (own := zR_1) (ref := zR_1) (C := zR_1) (T := zF_1) (N := 7) (ci := 1) hx hb hts zin_1t hown hB.1 hP (pre.length + 0) (zaw_one kE_o) rfl 1 (by decide) (hts _ zk_86) (fun _ h9 => h9) rfl kdX6_28 ?_
      refine W.eq (g2 := F0 m 31 ls [.ref (b0 + (pre.length + (blk.length + 1))), .int (Int32.ofNat 10)]) (by rw [hbl]; subst hn; rfl) ?_
      refine va_alen hx hb hB.1 hP (pre.length + (blk.length + 1)) 4 (zaw_one kE_q) rfl (v := Int32.ofNat 10) rfl kdX6_31 ?_
      refine lv_icmp_ge hx hb kdX6_32 (tgt := 54) rfl (fun hge => ?_) (fun hge => ?_)
      · exact exit ls H locs hl hP hz aS
      · exact absurd ((kint_le 10 10 (by decide) (by decide)).mpr (Nat.le_refl 10)) hge
    | succ r ih =>
      intro k hk ls H locs hl hP hz aS
      have hkK : k < 10 := by omega
      obtain ⟨i1, i2, i3⟩ := kint k (by omega)
      refine lv_iload_n hx hb kdX6_26 rfl (lv_at hl 0 rfl) ?_
      refine lv_aload_n hx hb kdX6_27 rfl (lv_at hl 1 rfl) ?_
      refine W.eq (g2 := F0 m 28 ls [.ref (b0 + (pre.length + 0)), .int (Int32.ofNat k)]) (by subst hn; rfl) ?_
      refine va_get (own := zR_1) (ref := zR_1) (C := zR_1) (T := zF_1) (N := 7) (ci := 1) hx hb hts zin_1t hown hB.1 hP (pre.length + 0) (zaw_one kE_o) rfl 1 (by decide) (hts _ zk_86) (fun _ h9 => h9) rfl kdX6_28 ?_
      refine W.eq (g2 := F0 m 31 ls [.ref (b0 + (pre.length + (blk.length + 1))), .int (Int32.ofNat k)]) (by rw [hbl]; subst hn; rfl) ?_
      refine va_alen hx hb hB.1 hP (pre.length + (blk.length + 1)) 4 (zaw_one kE_q) rfl (v := Int32.ofNat 10) rfl kdX6_31 ?_
      refine lv_icmp_ge hx hb kdX6_32 (tgt := 54) rfl (fun hge => ?_) (fun hge => ?_)
      · exact absurd ((kint_le k 10 (by omega) (by decide)).mp hge) (by omega)
      · refine lv_aload_n hx hb kdX6_35 rfl (lv_at hl 1 rfl) ?_
        refine W.eq (g2 := F0 m 36 ls [.ref (b0 + (pre.length + 0))]) (by subst hn; rfl) ?_
        refine va_get (own := zR_1) (ref := zR_1) (C := zR_1) (T := zF_1) (N := 7) (ci := 1) hx hb hts zin_1t hown hB.1 hP (pre.length + 0) (zaw_one kE_o) rfl 1 (by decide) (hts _ zk_86) (fun _ h9 => h9) rfl kdX6_36 ?_
        refine lv_iload_n hx hb kdX6_39 rfl (lv_at hl 0 rfl) ?_
        have hL : (kE pre (.inr (1, [.ref (b0 + (n + 1)), .ref (b0 + (n + 3)), .null, .int 0, .int 0, .int 0, .int 0])) blk (.inl (ca 4, 10, .inr (.inr (.inr (.inr (krf b0 (n + 4) 4 k)))))) (kbl (kX1_c ca b0) (n + 4) 4 k)).length = n + 4 + 4 * k := by rw [kE_len, hn, hbl, kbl_len hcl k]
        refine zn_new (ci := 2) (fs := [.null, .null, .int 0, .int 0, .int 0]) (C := zR_2) (T := zF_2) (N := 5) hx hb hts zin_2t zty_2_ok hown (hts _ zk_45) (hts _ zk_47) (hts _ zk_4) hB.1 hP hz aS rfl (fun j hj => by rcases (show j = 0 ∨ j = 1 ∨ j = 2 ∨ j = 3 ∨ j = 4 by omega) with rfl | rfl | rfl | rfl | rfl <;> rfl) (show 3 + 4 * k + 1 ≤ 47 by omega) (show 157 + 188 * k + 5 ≤ 2225 by omega) kdX6_40 (fun H hP hz aS => ?_)
        rw [hL]
        refine lv_dup hx hb kdX6_43 rfl ?_
        refine zbackw (es := kE pre (.inr (1, [.ref (b0 + (n + 1)), .ref (b0 + (n + 3)), .null, .int 0, .int 0, .int 0, .int 0])) blk (.inl (ca 4, 10, .inr (.inr (.inr (.inr (krf b0 (n + 4) 4 k)))))) (kbl (kX1_c ca b0) (n + 4) 4 k) ++ kX1_c ca b0 (n + 4 + 4 * k)) (va_runIN (host := "FrameDeltas") (As := []) (rest := [.ref (b0 + (n + 4 + 4 * k)), .int (Int32.ofNat k), .ref (b0 + (n + 3))]) ⟨hx, hb, hml, hown, hts⟩ (kX1_m l (b0 := b0) (D := D) (ca := ca) (adK := adK) (adV := adV) (bS := bS) (L := L) (xs := xs) (kE pre (.inr (1, [.ref (b0 + (n + 1)), .ref (b0 + (n + 3)), .null, .int 0, .int 0, .int 0, .int 0])) blk (.inl (ca 4, 10, .inr (.inr (.inr (.inr (krf b0 (n + 4) 4 k)))))) (kbl (kX1_c ca b0) (n + 4) 4 k)) (n + 4 + 4 * k) hL) ⟨va_cnB 0 hts (kX1_g) rfl rfl rfl (hB.2.2.2 _ zk_48) (hts _ zk_4) ⟨by decide, by decide, rfl⟩ ⟨Nat.le_of_ble_eq_true rfl, Nat.le_of_ble_eq_true rfl⟩, rfl, hts _ zk_49⟩ (zPrew hB hP hz aS hO) rfl rfl hl.1 rfl (lv_room (Nat.le_of_ble_eq_true rfl)) kdX6_44 ⟨show 3 + 4 * k + 1 + 3 ≤ 47 by omega, show 157 + 188 * k + 5 + 183 ≤ 2225 by omega⟩) aS (fun H locs hP hz aS => ?_)
        rw [kE_app] at hP hz
        have hjv : pre.length + (2 + blk.length) + (kbl (kX1_c ca b0) (n + 4) 4 k).length = n + 4 + 4 * k := by rw [hn, hbl, kbl_len hcl k]
        refine W.eq (g2 := F0 m 47 ls [.ref (b0 + (pre.length + (2 + blk.length) + (kbl (kX1_c ca b0) (n + 4) 4 k).length)), .int (Int32.ofNat k), .ref (b0 + (pre.length + (blk.length + 1)))]) (by rw [hjv, hbl]; subst hn; rfl) ?_
        refine zn_astq hx hb hB.1 hP aS (pre.length + (blk.length + 1)) 4 (pre.length + (2 + blk.length) + (kbl (kX1_c ca b0) (n + 4) 4 k).length) 2 kE_q rfl (by rw [kE_at, List.getElem?_append_right (Nat.le_refl _), Nat.sub_self]; rfl) rfl (i := Int32.ofNat k) (by unfold vp_in; rw [i1]; rintro (q | q); exact i2 q; omega) kdX6_47 (fun H1 locs hP hz1 aS => ?_)
        rw [kE_sq, i1, hjv, krf_s] at hP
        have hP : va_P D zcl (zaw b0 0 (kE pre (.inr (1, [.ref (b0 + (n + 1)), .ref (b0 + (n + 3)), .null, .int 0, .int 0, .int 0, .int 0])) blk (.inl (ca 4, 10, .inr (.inr (.inr (.inr (krf b0 (n + 4) 4 (k + 1))))))) (kbl (kX1_c ca b0) (n + 4) 4 (k + 1)))) H1 := hP
        have hz : H1.size = b0 + (kE pre (.inr (1, [.ref (b0 + (n + 1)), .ref (b0 + (n + 3)), .null, .int 0, .int 0, .int 0, .int 0])) blk (.inl (ca 4, 10, .inr (.inr (.inr (.inr (krf b0 (n + 4) 4 (k + 1))))))) (kbl (kX1_c ca b0) (n + 4) 4 (k + 1))).length := by rw [hz1, hz, kE_len, kE_len]; rfl
        refine lv_iinc (k := 0) (x := Int32.ofNat k) (v := Int32.ofNat (k + 1)) (lv' := [(1, .int (Int32.ofNat (k + 1))), (0, .ref (b0 + n))]) hx hb kdX6_48 hl rfl i3 (by decide) rfl (fun ls hl => ?_)
        refine lv_goto hx hb kdX6_51 (tgt := 26) rfl ?_
        have hgo := ih (k + 1) (by omega) ls H1 locs hl hP hz aS
        rw [show 3 + 4 * (k + 1) = 3 + 4 * k + 1 + 3 by omega, show 157 + 188 * (k + 1) = 157 + 188 * k + 5 + 183 by omega] at hgo
        exact hgo
  refine loop ?_ 10 0 rfl ls H _ hl hP hz aS
  intro ls H locs hl hP hz aS
  have hL : (kE pre (.inr (1, [.ref (b0 + (n + 1)), .ref (b0 + (n + 3)), .null, .int 0, .int 0, .int 0, .int 0])) blk (.inl (ca 4, 10, .inr (.inr (.inr (.inr (krf b0 (n + 4) 4 10)))))) (kbl (kX1_c ca b0) (n + 4) 4 10)).length = n + 4 + 4 * 10 := by rw [kE_len, hn, hbl, kbl_len hcl 10]
  refine lv_aload_n hx hb kdX6_54 rfl (lv_at hl 1 rfl) ?_
  refine zn_new (ci := 2) (fs := [.null, .null, .int 0, .int 0, .int 0]) (C := zR_2) (T := zF_2) (N := 5) hx hb hts zin_2t zty_2_ok hown (hts _ zk_45) (hts _ zk_47) (hts _ zk_4) hB.1 hP hz aS rfl (fun j hj => by rcases (show j = 0 ∨ j = 1 ∨ j = 2 ∨ j = 3 ∨ j = 4 by omega) with rfl | rfl | rfl | rfl | rfl <;> rfl) (Nat.le_of_ble_eq_true rfl) (Nat.le_of_ble_eq_true rfl) kdX6_55 (fun H hP hz aS => ?_)
  rw [hL]
  refine lv_dup hx hb kdX6_58 rfl ?_
  refine zbackw (es := kE pre (.inr (1, [.ref (b0 + (n + 1)), .ref (b0 + (n + 3)), .null, .int 0, .int 0, .int 0, .int 0])) blk (.inl (ca 4, 10, .inr (.inr (.inr (.inr (krf b0 (n + 4) 4 10)))))) (kbl (kX1_c ca b0) (n + 4) 4 10) ++ kX1_c ca b0 (n + 4 + 4 * 10)) (va_runIN (host := "FrameDeltas") (As := []) (rest := [.ref (b0 + (n + 4 + 4 * 10)), .ref (b0 + n)]) ⟨hx, hb, hml, hown, hts⟩ (kX1_m l (b0 := b0) (D := D) (ca := ca) (adK := adK) (adV := adV) (bS := bS) (L := L) (xs := xs) (kE pre (.inr (1, [.ref (b0 + (n + 1)), .ref (b0 + (n + 3)), .null, .int 0, .int 0, .int 0, .int 0])) blk (.inl (ca 4, 10, .inr (.inr (.inr (.inr (krf b0 (n + 4) 4 10)))))) (kbl (kX1_c ca b0) (n + 4) 4 10)) (n + 4 + 4 * 10) hL) ⟨va_cnB 0 hts (kX1_g) rfl rfl rfl (hB.2.2.2 _ zk_48) (hts _ zk_4) ⟨by decide, by decide, rfl⟩ ⟨Nat.le_of_ble_eq_true rfl, Nat.le_of_ble_eq_true rfl⟩, rfl, hts _ zk_49⟩ (zPrew hB hP hz aS hO) rfl rfl hl.1 rfl (lv_room (Nat.le_of_ble_eq_true rfl)) kdX6_59 ⟨Nat.le_of_ble_eq_true rfl, Nat.le_of_ble_eq_true rfl⟩) aS (fun H locs hP hz aS => ?_)
  rw [kE_app] at hP hz
  have hP : va_P D zcl (zaw b0 0 (kE pre (.inr (1, [.ref (b0 + (n + 1)), .ref (b0 + (n + 3)), .null, .int 0, .int 0, .int 0, .int 0])) blk (.inl (ca 4, 10, .inr (.inr (.inr (.inr (krf b0 (n + 4) 4 10)))))) (kbl (kX1_c ca b0) (n + 4) 4 11))) H := hP
  have hz : H.size = b0 + (kE pre (.inr (1, [.ref (b0 + (n + 1)), .ref (b0 + (n + 3)), .null, .int 0, .int 0, .int 0, .int 0])) blk (.inl (ca 4, 10, .inr (.inr (.inr (.inr (krf b0 (n + 4) 4 10)))))) (kbl (kX1_c ca b0) (n + 4) 4 11)).length := hz
  refine W.eq (g2 := F0 m 62 ls [.ref (b0 + (n + 4 + 4 * 10)), .ref (b0 + (pre.length + 0))]) (by subst hn; rfl) ?_
  refine zn_putF (own := zR_1) (ref := zR_1) (C := zR_1) (T := zF_1) (N := 7) (ci := 1) (v := .ref (b0 + (n + 4 + 4 * 10))) hx hb hts zin_1t zty_1 zty_1_ok znm_1 hown hB.1 hP aS (pre.length + 0) kE_o rfl 2 (by decide) (hts _ zk_87) (fun _ h9 => h9) rfl hin rfl (zty_1_ok 2 (by decide)) rfl rfl (Nat.le_of_ble_eq_true rfl) kdX6_62 (fun H1 locs hP hz1 aS => ?_)
  rw [kE_so] at hP
  have hP : va_P D zcl (zaw b0 0 (kE pre (.inr (1, [.ref (b0 + (n + 1)), .ref (b0 + (n + 3)), .ref (b0 + (n + 4 + 4 * 10)), .int 0, .int 0, .int 0, .int 0])) blk (.inl (ca 4, 10, .inr (.inr (.inr (.inr (krf b0 (n + 4) 4 10)))))) (kbl (kX1_c ca b0) (n + 4) 4 11))) H1 := hP
  have hz : H1.size = b0 + (kE pre (.inr (1, [.ref (b0 + (n + 1)), .ref (b0 + (n + 3)), .ref (b0 + (n + 4 + 4 * 10)), .int 0, .int 0, .int 0, .int 0])) blk (.inl (ca 4, 10, .inr (.inr (.inr (.inr (krf b0 (n + 4) 4 10)))))) (kbl (kX1_c ca b0) (n + 4) 4 11)).length := hz1.trans (hz.trans (congrArg (fun q => b0 + q) (kE_len.trans kE_len.symm)))
  clear hz1
  generalize H1 = H at hP hz aS ⊢
  refine lv_aload_n hx hb kdX6_65 rfl (lv_at hl 1 rfl) ?_
  refine lv_iconst (v := 0) hx hb kdX6_66 (by decide) ?_
  refine W.eq (g2 := F0 m 67 ls [.int 0, .ref (b0 + (pre.length + 0))]) (by subst hn; rfl) ?_
  refine zn_put (own := zR_1) (ref := zR_1) (C := zR_1) (T := zF_1) (N := 7) (ci := 1) (v := .int 0) hx hb hts zin_1t zty_1 zty_1_ok znm_1 hown hB.1 hP aS (pre.length + 0) kE_o rfl 3 (by decide) (hts _ zk_88) (fun _ h9 => h9) rfl (zty_1_ok 3 (by decide)) rfl rfl (Nat.le_of_ble_eq_true rfl) kdX6_67 (fun H1 locs hP hz1 aS => ?_)
  rw [kE_so] at hP
  have hP : va_P D zcl (zaw b0 0 (kE pre (.inr (1, [.ref (b0 + (n + 1)), .ref (b0 + (n + 3)), .ref (b0 + (n + 4 + 4 * 10)), .int 0, .int 0, .int 0, .int 0])) blk (.inl (ca 4, 10, .inr (.inr (.inr (.inr (krf b0 (n + 4) 4 10)))))) (kbl (kX1_c ca b0) (n + 4) 4 11))) H1 := hP
  have hz : H1.size = b0 + (kE pre (.inr (1, [.ref (b0 + (n + 1)), .ref (b0 + (n + 3)), .ref (b0 + (n + 4 + 4 * 10)), .int 0, .int 0, .int 0, .int 0])) blk (.inl (ca 4, 10, .inr (.inr (.inr (.inr (krf b0 (n + 4) 4 10)))))) (kbl (kX1_c ca b0) (n + 4) 4 11)).length := hz1.trans (hz.trans (congrArg (fun q => b0 + q) (kE_len.trans kE_len.symm)))
  clear hz1
  generalize H1 = H at hP hz aS ⊢
  refine lv_aload_n hx hb kdX6_70 rfl (lv_at hl 1 rfl) ?_
  refine lv_iconst (v := 2) hx hb kdX6_71 (by decide) ?_
  refine W.eq (g2 := F0 m 72 ls [.int 2, .ref (b0 + (pre.length + 0))]) (by subst hn; rfl) ?_
  refine zn_put (own := zR_1) (ref := zR_1) (C := zR_1) (T := zF_1) (N := 7) (ci := 1) (v := .int 2) hx hb hts zin_1t zty_1 zty_1_ok znm_1 hown hB.1 hP aS (pre.length + 0) kE_o rfl 4 (by decide) (hts _ zk_91) (fun _ h9 => h9) rfl (zty_1_ok 4 (by decide)) rfl rfl (Nat.le_of_ble_eq_true rfl) kdX6_72 (fun H1 locs hP hz1 aS => ?_)
  rw [kE_so] at hP
  have hP : va_P D zcl (zaw b0 0 (kE pre (.inr (1, [.ref (b0 + (n + 1)), .ref (b0 + (n + 3)), .ref (b0 + (n + 4 + 4 * 10)), .int 0, .int 2, .int 0, .int 0])) blk (.inl (ca 4, 10, .inr (.inr (.inr (.inr (krf b0 (n + 4) 4 10)))))) (kbl (kX1_c ca b0) (n + 4) 4 11))) H1 := hP
  have hz : H1.size = b0 + (kE pre (.inr (1, [.ref (b0 + (n + 1)), .ref (b0 + (n + 3)), .ref (b0 + (n + 4 + 4 * 10)), .int 0, .int 2, .int 0, .int 0])) blk (.inl (ca 4, 10, .inr (.inr (.inr (.inr (krf b0 (n + 4) 4 10)))))) (kbl (kX1_c ca b0) (n + 4) 4 11)).length := hz1.trans (hz.trans (congrArg (fun q => b0 + q) (kE_len.trans kE_len.symm)))
  clear hz1
  generalize H1 = H at hP hz aS ⊢
  refine lv_aload_n hx hb kdX6_75 rfl (lv_at hl 1 rfl) ?_
  refine lv_iconst (v := 4) hx hb kdX6_76 (by decide) ?_
  refine W.eq (g2 := F0 m 77 ls [.int 4, .ref (b0 + (pre.length + 0))]) (by subst hn; rfl) ?_
  refine zn_put (own := zR_1) (ref := zR_1) (C := zR_1) (T := zF_1) (N := 7) (ci := 1) (v := .int 4) hx hb hts zin_1t zty_1 zty_1_ok znm_1 hown hB.1 hP aS (pre.length + 0) kE_o rfl 5 (by decide) (hts _ zk_94) (fun _ h9 => h9) rfl (zty_1_ok 5 (by decide)) rfl rfl (Nat.le_of_ble_eq_true rfl) kdX6_77 (fun H1 locs hP hz1 aS => ?_)
  rw [kE_so] at hP
  have hP : va_P D zcl (zaw b0 0 (kE pre (.inr (1, [.ref (b0 + (n + 1)), .ref (b0 + (n + 3)), .ref (b0 + (n + 4 + 4 * 10)), .int 0, .int 2, .int 4, .int 0])) blk (.inl (ca 4, 10, .inr (.inr (.inr (.inr (krf b0 (n + 4) 4 10)))))) (kbl (kX1_c ca b0) (n + 4) 4 11))) H1 := hP
  have hz : H1.size = b0 + (kE pre (.inr (1, [.ref (b0 + (n + 1)), .ref (b0 + (n + 3)), .ref (b0 + (n + 4 + 4 * 10)), .int 0, .int 2, .int 4, .int 0])) blk (.inl (ca 4, 10, .inr (.inr (.inr (.inr (krf b0 (n + 4) 4 10)))))) (kbl (kX1_c ca b0) (n + 4) 4 11)).length := hz1.trans (hz.trans (congrArg (fun q => b0 + q) (kE_len.trans kE_len.symm)))
  clear hz1
  generalize H1 = H at hP hz aS ⊢
  refine lv_aload_n hx hb kdX6_80 rfl (lv_at hl 1 rfl) ?_
  refine lv_iconst (v := 0) hx hb kdX6_81 (by decide) ?_
  refine W.eq (g2 := F0 m 82 ls [.int 0, .ref (b0 + (pre.length + 0))]) (by subst hn; rfl) ?_
  refine zn_put (own := zR_1) (ref := zR_1) (C := zR_1) (T := zF_1) (N := 7) (ci := 1) (v := .int 0) hx hb hts zin_1t zty_1 zty_1_ok znm_1 hown hB.1 hP aS (pre.length + 0) kE_o rfl 6 (by decide) (hts _ zk_96) (fun _ h9 => h9) rfl (zty_1_ok 6 (by decide)) rfl rfl (Nat.le_of_ble_eq_true rfl) kdX6_82 (fun H1 locs hP hz1 aS => ?_)
  rw [kE_so] at hP
  have hP : va_P D zcl (zaw b0 0 (kE pre (.inr (1, [.ref (b0 + (n + 1)), .ref (b0 + (n + 3)), .ref (b0 + (n + 4 + 4 * 10)), .int 0, .int 2, .int 4, .int 0])) blk (.inl (ca 4, 10, .inr (.inr (.inr (.inr (krf b0 (n + 4) 4 10)))))) (kbl (kX1_c ca b0) (n + 4) 4 11))) H1 := hP
  have hz : H1.size = b0 + (kE pre (.inr (1, [.ref (b0 + (n + 1)), .ref (b0 + (n + 3)), .ref (b0 + (n + 4 + 4 * 10)), .int 0, .int 2, .int 4, .int 0])) blk (.inl (ca 4, 10, .inr (.inr (.inr (.inr (krf b0 (n + 4) 4 10)))))) (kbl (kX1_c ca b0) (n + 4) 4 11)).length := hz1.trans (hz.trans (congrArg (fun q => b0 + q) (kE_len.trans kE_len.symm)))
  clear hz1
  generalize H1 = H at hP hz aS ⊢
  subst hblk
  exact W.vret hx hb hr (fun t ht hW => ⟨rfl, ⟨by rw [ht]; exact hP, by rw [ht]; exact hz⟩, aS.F ht⟩) aS.2.2 kdX6_85 hlocks
