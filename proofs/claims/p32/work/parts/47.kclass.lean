/-! ===== the constructor of the class ===== -/
theorem kX6_len (ca : Nat → ClassId) (b0 a : Nat) : (kX6_c ca b0 a).length = 48 := by
  have h := kbl_len (g := kX1_c ca b0) (a := a + 4) (n := 4) (fun x => rfl) 11
  unfold kX6_c
  simp only [List.length_cons, List.length_append, List.length_nil, h]
theorem zk_2 : Cond.initialized "FrameDeltas$State" ∈ zTs := zTs_t (List.mem_of_getElem? (i := 2) (by decide +kernel)) (by decide +kernel)
theorem zk_5 : Cond.initialized "FrameDeltas$Script" ∈ zTs := zTs_t (List.mem_of_getElem? (i := 5) (by decide +kernel)) (by decide +kernel)
theorem zk_6 : Cond.initialized "FrameDeltas$Coder" ∈ zTs := zTs_t (List.mem_of_getElem? (i := 6) (by decide +kernel)) (by decide +kernel)
theorem zk_8 : Cond.initialized "FrameDeltas$Planner" ∈ zTs := zTs_t (List.mem_of_getElem? (i := 8) (by decide +kernel)) (by decide +kernel)
theorem zk_16 : Cond.code ({ cls := "FrameDeltas", name := "<init>", desc := "()V" }) prog_1_method_1_code (2) (Option.none : Option ClassFile.FieldType) ∈ zTs := zTs_t (List.mem_of_getElem? (i := 16) (by decide +kernel)) (by decide +kernel)
theorem zk_17 : Cond.methodLink "FrameDeltas" (1) ({ cls := "java/lang/Object", name := "<init>", desc := "()V" }) ∈ zTs := zTs_t (List.mem_of_getElem? (i := 17) (by decide +kernel)) (by decide +kernel)
theorem zk_20 : Cond.classLink "FrameDeltas" (7) "FrameDeltas$State" ∈ zTs := zTs_t (List.mem_of_getElem? (i := 20) (by decide +kernel)) (by decide +kernel)
theorem zk_21 : Cond.instantiable "FrameDeltas$State" (7) ∈ zTs := zTs_t (List.mem_of_getElem? (i := 21) (by decide +kernel)) (by decide +kernel)
theorem zk_22 : Cond.methodLinkNest "FrameDeltas" (9) ({ cls := "FrameDeltas$State", name := "<init>", desc := "()V" }) "FrameDeltas" ∈ zNs := zNs_t (List.mem_of_getElem? (i := 22) (by decide +kernel)) (by rfl)
theorem zk_23 : Cond.instanceMethod ({ cls := "FrameDeltas$State", name := "<init>", desc := "()V" }) ∈ zTs := zTs_t (List.mem_of_getElem? (i := 23) (by decide +kernel)) (by decide +kernel)
theorem zk_115 : Cond.classLink "FrameDeltas" (27) "FrameDeltas$Script" ∈ zTs := zTs_t (List.mem_of_getElem? (i := 115) (by decide +kernel)) (by decide +kernel)
theorem zk_116 : Cond.instantiable "FrameDeltas$Script" (8) ∈ zTs := zTs_t (List.mem_of_getElem? (i := 116) (by decide +kernel)) (by decide +kernel)
theorem zk_117 : Cond.methodLinkNest "FrameDeltas" (29) ({ cls := "FrameDeltas$Script", name := "<init>", desc := "()V" }) "FrameDeltas" ∈ zNs := zNs_t (List.mem_of_getElem? (i := 117) (by decide +kernel)) (by rfl)
theorem zk_118 : Cond.instanceMethod ({ cls := "FrameDeltas$Script", name := "<init>", desc := "()V" }) ∈ zTs := zTs_t (List.mem_of_getElem? (i := 118) (by decide +kernel)) (by decide +kernel)
theorem zk_148 : Cond.classLink "FrameDeltas" (34) "FrameDeltas$Coder" ∈ zTs := zTs_t (List.mem_of_getElem? (i := 148) (by decide +kernel)) (by decide +kernel)
theorem zk_149 : Cond.instantiable "FrameDeltas$Coder" (4) ∈ zTs := zTs_t (List.mem_of_getElem? (i := 149) (by decide +kernel)) (by decide +kernel)
theorem zk_150 : Cond.methodLinkNest "FrameDeltas" (36) ({ cls := "FrameDeltas$Coder", name := "<init>", desc := "()V" }) "FrameDeltas" ∈ zNs := zNs_t (List.mem_of_getElem? (i := 150) (by decide +kernel)) (by rfl)
theorem zk_151 : Cond.instanceMethod ({ cls := "FrameDeltas$Coder", name := "<init>", desc := "()V" }) ∈ zTs := zTs_t (List.mem_of_getElem? (i := 151) (by decide +kernel)) (by decide +kernel)
theorem zk_184 : Cond.classLink "FrameDeltas" (41) "FrameDeltas$Planner" ∈ zTs := zTs_t (List.mem_of_getElem? (i := 184) (by decide +kernel)) (by decide +kernel)
theorem zk_185 : Cond.instantiable "FrameDeltas$Planner" (4) ∈ zTs := zTs_t (List.mem_of_getElem? (i := 185) (by decide +kernel)) (by decide +kernel)
theorem zk_186 : Cond.methodLinkNest "FrameDeltas" (43) ({ cls := "FrameDeltas$Planner", name := "<init>", desc := "()V" }) "FrameDeltas" ∈ zNs := zNs_t (List.mem_of_getElem? (i := 186) (by decide +kernel)) (by rfl)
theorem zk_187 : Cond.instanceMethod ({ cls := "FrameDeltas$Planner", name := "<init>", desc := "()V" }) ∈ zTs := zTs_t (List.mem_of_getElem? (i := 187) (by decide +kernel)) (by decide +kernel)
theorem zk_204 : Cond.classLink "FrameDeltas" (48) "FrameDeltas$Frame" ∈ zTs := zTs_t (List.mem_of_getElem? (i := 204) (by decide +kernel)) (by decide +kernel)
theorem zk_205 : Cond.methodLinkNest "FrameDeltas" (50) ({ cls := "FrameDeltas$Frame", name := "<init>", desc := "()V" }) "FrameDeltas" ∈ zNs := zNs_t (List.mem_of_getElem? (i := 205) (by decide +kernel)) (by rfl)
theorem zk_206 : Cond.classLink "FrameDeltas" (55) "FrameDeltas$Image" ∈ zTs := zTs_t (List.mem_of_getElem? (i := 206) (by decide +kernel)) (by decide +kernel)
theorem zk_207 : Cond.methodLinkNest "FrameDeltas" (57) ({ cls := "FrameDeltas$Image", name := "<init>", desc := "()V" }) "FrameDeltas" ∈ zNs := zNs_t (List.mem_of_getElem? (i := 207) (by decide +kernel)) (by rfl)
theorem zk_208 : Cond.fieldLink "FrameDeltas" (10) "FrameDeltas" "state" "LFrameDeltas$State;" ∈ zTs := zTs_t (List.mem_of_getElem? (i := 208) (by decide +kernel)) (by decide +kernel)
theorem zk_209 : Cond.fieldLink "FrameDeltas" (16) "FrameDeltas" "saved" "[LFrameDeltas$State;" ∈ zTs := zTs_t (List.mem_of_getElem? (i := 209) (by decide +kernel)) (by decide +kernel)
theorem zk_210 : Cond.fieldLink "FrameDeltas" (20) "FrameDeltas" "oldestSaved" "I" ∈ zTs := zTs_t (List.mem_of_getElem? (i := 210) (by decide +kernel)) (by decide +kernel)
theorem zk_211 : Cond.fieldLink "FrameDeltas" (24) "FrameDeltas" "savedStates" "I" ∈ zTs := zTs_t (List.mem_of_getElem? (i := 211) (by decide +kernel)) (by decide +kernel)
theorem zk_212 : Cond.fieldLink "FrameDeltas" (30) "FrameDeltas" "script" "LFrameDeltas$Script;" ∈ zTs := zTs_t (List.mem_of_getElem? (i := 212) (by decide +kernel)) (by decide +kernel)
theorem zk_213 : Cond.fieldLink "FrameDeltas" (37) "FrameDeltas" "coder" "LFrameDeltas$Coder;" ∈ zTs := zTs_t (List.mem_of_getElem? (i := 213) (by decide +kernel)) (by decide +kernel)
theorem zk_214 : Cond.fieldLink "FrameDeltas" (44) "FrameDeltas" "planner" "LFrameDeltas$Planner;" ∈ zTs := zTs_t (List.mem_of_getElem? (i := 214) (by decide +kernel)) (by decide +kernel)
theorem zk_215 : Cond.fieldLink "FrameDeltas" (51) "FrameDeltas" "trial" "LFrameDeltas$Frame;" ∈ zTs := zTs_t (List.mem_of_getElem? (i := 215) (by decide +kernel)) (by decide +kernel)
theorem zk_216 : Cond.fieldLink "FrameDeltas" (58) "FrameDeltas" "spare" "LFrameDeltas$Image;" ∈ zTs := zTs_t (List.mem_of_getElem? (i := 216) (by decide +kernel)) (by decide +kernel)
theorem zk_217 : Cond.fieldLink "FrameDeltas" (62) "FrameDeltas" "digests" "[I" ∈ zTs := zTs_t (List.mem_of_getElem? (i := 217) (by decide +kernel)) (by decide +kernel)
abbrev kbX7 : ByteArray := prog_1_method_1_code
def kyX7 : MethodName := ⟨zR_0, "<init>", "()V"⟩
theorem kdX7_0 : decode kbX7 0 = .ok (.aload_n 0, 1) := by decide +kernel
theorem kdX7_1 : decode kbX7 1 = .ok (.invokespecial 1, 3) := by decide +kernel
theorem kdX7_4 : decode kbX7 4 = .ok (.aload_n 0, 1) := by decide +kernel
theorem kdX7_5 : decode kbX7 5 = .ok (.new 7, 3) := by decide +kernel
theorem kdX7_8 : decode kbX7 8 = .ok (.dup, 1) := by decide +kernel
theorem kdX7_9 : decode kbX7 9 = .ok (.invokespecial 9, 3) := by decide +kernel
theorem kdX7_12 : decode kbX7 12 = .ok (.putfield 10, 3) := by decide +kernel
theorem kdX7_15 : decode kbX7 15 = .ok (.aload_n 0, 1) := by decide +kernel
theorem kdX7_16 : decode kbX7 16 = .ok (.bipush 6, 2) := by decide +kernel
theorem kdX7_18 : decode kbX7 18 = .ok (.anewarray 7, 3) := by decide +kernel
theorem kdX7_21 : decode kbX7 21 = .ok (.putfield 16, 3) := by decide +kernel
theorem kdX7_24 : decode kbX7 24 = .ok (.iconst 0, 1) := by decide +kernel
theorem kdX7_25 : decode kbX7 25 = .ok (.istore_n 1, 1) := by decide +kernel
theorem kdX7_26 : decode kbX7 26 = .ok (.iload_n 1, 1) := by decide +kernel
theorem kdX7_27 : decode kbX7 27 = .ok (.aload_n 0, 1) := by decide +kernel
theorem kdX7_28 : decode kbX7 28 = .ok (.getfield 16, 3) := by decide +kernel
theorem kdX7_31 : decode kbX7 31 = .ok (.arraylength, 1) := by decide +kernel
theorem kdX7_32 : decode kbX7 32 = .ok (.if_icmp .ge 22, 3) := by decide +kernel
theorem kdX7_35 : decode kbX7 35 = .ok (.aload_n 0, 1) := by decide +kernel
theorem kdX7_36 : decode kbX7 36 = .ok (.getfield 16, 3) := by decide +kernel
theorem kdX7_39 : decode kbX7 39 = .ok (.iload_n 1, 1) := by decide +kernel
theorem kdX7_40 : decode kbX7 40 = .ok (.new 7, 3) := by decide +kernel
theorem kdX7_43 : decode kbX7 43 = .ok (.dup, 1) := by decide +kernel
theorem kdX7_44 : decode kbX7 44 = .ok (.invokespecial 9, 3) := by decide +kernel
theorem kdX7_47 : decode kbX7 47 = .ok (.aastore, 1) := by decide +kernel
theorem kdX7_48 : decode kbX7 48 = .ok (.iinc 1 1, 3) := by decide +kernel
theorem kdX7_51 : decode kbX7 51 = .ok (.goto (-25), 3) := by decide +kernel
theorem kdX7_54 : decode kbX7 54 = .ok (.aload_n 0, 1) := by decide +kernel
theorem kdX7_55 : decode kbX7 55 = .ok (.iconst 0, 1) := by decide +kernel
theorem kdX7_56 : decode kbX7 56 = .ok (.putfield 20, 3) := by decide +kernel
theorem kdX7_59 : decode kbX7 59 = .ok (.aload_n 0, 1) := by decide +kernel
theorem kdX7_60 : decode kbX7 60 = .ok (.iconst 0, 1) := by decide +kernel
theorem kdX7_61 : decode kbX7 61 = .ok (.putfield 24, 3) := by decide +kernel
theorem kdX7_64 : decode kbX7 64 = .ok (.aload_n 0, 1) := by decide +kernel
theorem kdX7_65 : decode kbX7 65 = .ok (.new 27, 3) := by decide +kernel
theorem kdX7_68 : decode kbX7 68 = .ok (.dup, 1) := by decide +kernel
theorem kdX7_69 : decode kbX7 69 = .ok (.invokespecial 29, 3) := by decide +kernel
theorem kdX7_72 : decode kbX7 72 = .ok (.putfield 30, 3) := by decide +kernel
theorem kdX7_75 : decode kbX7 75 = .ok (.aload_n 0, 1) := by decide +kernel
theorem kdX7_76 : decode kbX7 76 = .ok (.new 34, 3) := by decide +kernel
theorem kdX7_79 : decode kbX7 79 = .ok (.dup, 1) := by decide +kernel
theorem kdX7_80 : decode kbX7 80 = .ok (.invokespecial 36, 3) := by decide +kernel
theorem kdX7_83 : decode kbX7 83 = .ok (.putfield 37, 3) := by decide +kernel
theorem kdX7_86 : decode kbX7 86 = .ok (.aload_n 0, 1) := by decide +kernel
theorem kdX7_87 : decode kbX7 87 = .ok (.new 41, 3) := by decide +kernel
theorem kdX7_90 : decode kbX7 90 = .ok (.dup, 1) := by decide +kernel
theorem kdX7_91 : decode kbX7 91 = .ok (.invokespecial 43, 3) := by decide +kernel
theorem kdX7_94 : decode kbX7 94 = .ok (.putfield 44, 3) := by decide +kernel
theorem kdX7_97 : decode kbX7 97 = .ok (.aload_n 0, 1) := by decide +kernel
theorem kdX7_98 : decode kbX7 98 = .ok (.new 48, 3) := by decide +kernel
theorem kdX7_101 : decode kbX7 101 = .ok (.dup, 1) := by decide +kernel
theorem kdX7_102 : decode kbX7 102 = .ok (.invokespecial 50, 3) := by decide +kernel
theorem kdX7_105 : decode kbX7 105 = .ok (.putfield 51, 3) := by decide +kernel
theorem kdX7_108 : decode kbX7 108 = .ok (.aload_n 0, 1) := by decide +kernel
theorem kdX7_109 : decode kbX7 109 = .ok (.new 55, 3) := by decide +kernel
theorem kdX7_112 : decode kbX7 112 = .ok (.dup, 1) := by decide +kernel
theorem kdX7_113 : decode kbX7 113 = .ok (.invokespecial 57, 3) := by decide +kernel
theorem kdX7_116 : decode kbX7 116 = .ok (.putfield 58, 3) := by decide +kernel
theorem kdX7_119 : decode kbX7 119 = .ok (.aload_n 0, 1) := by decide +kernel
theorem kdX7_120 : decode kbX7 120 = .ok (.bipush 81, 2) := by decide +kernel
theorem kdX7_122 : decode kbX7 122 = .ok (.newarray .int, 2) := by decide +kernel
theorem kdX7_124 : decode kbX7 124 = .ok (.putfield 62, 3) := by decide +kernel
theorem kdX7_127 : decode kbX7 127 = .ok (.return_, 1) := by decide +kernel
def kX7_c (ca : Nat → ClassId) (b0 n : Nat) : List va_E := .inr (0, [.ref (b0 + (n + 1)), .ref (b0 + (n + 49)), .int 0, .int 0, .ref (b0 + (n + 338)), .ref (b0 + (n + 341)), .ref (b0 + (n + 348)), .ref (b0 + (n + 351)), .ref (b0 + (n + 355)), .ref (b0 + (n + 357))]) :: (kX6_c ca b0 (n + 1) ++ (.inl (ca 3, 6, .inr (.inr (.inr (.inr (krf b0 (n + 50) 48 6))))) :: (((((((kbl (kX6_c ca b0) (n + 50) 48 6) ++ kX5_c ca b0 (n + 338)) ++ kX0_c ca b0 (n + 341)) ++ kX3_c ca b0 (n + 348)) ++ kX1_c ca b0 (n + 351)) ++ kX2_c ca b0 (n + 355)) ++ [.inl (ca 0, 81, .inl (fun _ => 0))])))
def kX7_w : List Cond := .code kyX7 kbX7 2 none :: zTs
theorem kX7_g : GoodIn zTs kX7_w := k_good zk_16
theorem kX7_m (l : Launch) {b0 : Nat} {D : va_G} {ca : Nat → ClassId} {adK adV : Nat → Nat} {bS L : Nat} {xs : Nat → Int32} (pre : List va_E) (n : Nat) (hn : pre.length = n) : Met l kyX7 kX7_w ({ frames := 4, cells := 357, slots := 16472, locals := 73 }) (va_Pc [.ref (b0 + n)] (zBw b0 D ca adK adV bS L xs (pre ++ [.inr (0, [.null, .null, .int 0, .int 0, .null, .null, .null, .null, .null, .null])]))) (zQw b0 D (pre ++ kX7_c ca b0 n)) 357 16472 (fun q => b0 ≤ q) := by
  refine zMet_of (cc := kbX7) (maxL := 2) (ret := none) (by decide) rfl ?_
  intro p e s m args below meth c s₁ B hml hv
  obtain ⟨rfl, hB, hP, hz, hO⟩ := hv
  have hx := B.exec
  have hb := B.bytes
  have hr := B.returns
  have hts2 := atoms_spec (ws := kX7_w) B.pre
  have hts : ∀ w ∈ zTs, w.before _ s = true := fun w hw => hts2 w (List.mem_cons_of_mem _ hw)
  have hown : s.vm.findClass zR_0 = some m.cls := findClass_of_methodNamed B.named
  have hlocks := B.notSynchronized
  have hin : meth.name = "<init>" := (name_of_methodNamed B.named B.method).1
  have aS : va_S (fun q => b0 ≤ q) s.heap s.heap [] := va_S.rf
  have hl := lv_entry ([.ref (b0 + n)]) (n := 2) (Nat.le_of_ble_eq_true rfl)
  rw [lg_entry_eq]
  generalize (lg_sl ([.ref (b0 + n)]) ++ List.replicate (2 - (lg_sl ([.ref (b0 + n)])).length) Slot.unset).toArray = ls at hl ⊢
  have hl : lv_has ls 2 [(0, .ref (b0 + n))] := hl
  have hP : va_P D zcl (zaw b0 0 (pre ++ [.inr (0, [.null, .null, .int 0, .int 0, .null, .null, .null, .null, .null, .null])])) s.heap := hP
  have hz : s.heap.size = b0 + (pre ++ ([.inr (0, [.null, .null, .int 0, .int 0, .null, .null, .null, .null, .null, .null])] : List va_E)).length := hz
  generalize hH : s.heap = H at hP hz ⊢
  have aS : va_S (fun q => b0 ≤ q) s.heap H [] := by rw [← hH]; exact aS
  refine lv_aload_n hx hb kdX7_0 rfl (lv_at hl 0 rfl) ?_
  refine W.objInit hx hb hown (hts _ zk_17) (hts _ zk_18) (hts _ zk_19) rfl (by rw [hml]; exact hl.1) rfl kdX7_1 (Nat.le_of_ble_eq_true rfl) (Nat.le_of_ble_eq_true rfl) ?_
  refine W.eq (g2 := F0 m 4 ls []) rfl ?_
  refine lv_aload_n hx hb kdX7_4 rfl (lv_at hl 0 rfl) ?_
  refine zn_new (ci := 1) (fs := [.null, .null, .null, .int 0, .int 0, .int 0, .int 0]) (C := zR_1) (T := zF_1) (N := 7) hx hb hts zin_1t zty_1_ok hown (hts _ zk_20) (hts _ zk_21) (hts _ zk_2) hB.1 hP hz aS rfl (fun j hj => by rcases (show j = 0 ∨ j = 1 ∨ j = 2 ∨ j = 3 ∨ j = 4 ∨ j = 5 ∨ j = 6 by omega) with rfl | rfl | rfl | rfl | rfl | rfl | rfl <;> rfl) (Nat.le_of_ble_eq_true rfl) (Nat.le_of_ble_eq_true rfl) kdX7_5 (fun H hP hz aS => ?_)
  rw [List.append_assoc] at hP hz
  rw [List.length_append, hn]
  have hP : va_P D zcl (zaw b0 0 (pre ++ [.inr (0, [.null, .null, .int 0, .int 0, .null, .null, .null, .null, .null, .null]), .inr (1, [.null, .null, .null, .int 0, .int 0, .int 0, .int 0])])) H := hP
  have hz : H.size = b0 + (pre ++ ([.inr (0, [.null, .null, .int 0, .int 0, .null, .null, .null, .null, .null, .null]), .inr (1, [.null, .null, .null, .int 0, .int 0, .int 0, .int 0])] : List va_E)).length := hz
  refine lv_dup hx hb kdX7_8 rfl ?_
  have hP2 : va_P D zcl (zaw b0 0 ((pre ++ ([.inr (0, [.null, .null, .int 0, .int 0, .null, .null, .null, .null, .null, .null])] : List va_E)) ++ [.inr (1, [.null, .null, .null, .int 0, .int 0, .int 0, .int 0])])) H := by rw [List.append_assoc]; exact hP
  have hz2 : H.size = b0 + ((pre ++ ([.inr (0, [.null, .null, .int 0, .int 0, .null, .null, .null, .null, .null, .null])] : List va_E)) ++ [(.inr (1, [.null, .null, .null, .int 0, .int 0, .int 0, .int 0]) : va_E)]).length := by rw [List.append_assoc]; exact hz
  refine zbackw (es := (pre ++ ([.inr (0, [.null, .null, .int 0, .int 0, .null, .null, .null, .null, .null, .null])] : List va_E)) ++ kX6_c ca b0 (n + 1)) (va_runIN (host := "FrameDeltas") (As := []) (rest := [.ref (b0 + (n + 1)), .ref (b0 + (n + 0))]) ⟨hx, hb, hml, hown, hts⟩ (kX6_m l (b0 := b0) (D := D) (ca := ca) (adK := adK) (adV := adV) (bS := bS) (L := L) (xs := xs) (pre ++ ([.inr (0, [.null, .null, .int 0, .int 0, .null, .null, .null, .null, .null, .null])] : List va_E)) (n + 1) (by rw [List.length_append, hn]; rfl)) ⟨va_cnB 0 hts (kX6_g) rfl rfl rfl (hB.2.2.2 _ zk_22) (hts _ zk_2) ⟨by decide, by decide, rfl⟩ ⟨Nat.le_of_ble_eq_true rfl, Nat.le_of_ble_eq_true rfl⟩, rfl, hts _ zk_23⟩ (zPrew hB hP2 hz2 aS hO) rfl rfl hl.1 rfl (lv_room (Nat.le_of_ble_eq_true rfl)) kdX7_9 ⟨Nat.le_of_ble_eq_true rfl, Nat.le_of_ble_eq_true rfl⟩) aS (fun H locs hP hz aS => ?_)
  rw [List.append_assoc] at hP hz
  have hP : va_P D zcl (zaw b0 0 (pre ++ (.inr (0, [.null, .null, .int 0, .int 0, .null, .null, .null, .null, .null, .null]) :: (kX6_c ca b0 (n + 1))))) H := hP
  have hz : H.size = b0 + (pre ++ ((.inr (0, [.null, .null, .int 0, .int 0, .null, .null, .null, .null, .null, .null]) :: (kX6_c ca b0 (n + 1))) : List va_E)).length := hz
  refine W.eq (g2 := F0 m 12 ls [.ref (b0 + (n + 1)), .ref (b0 + (pre.length + 0))]) (by subst hn; rfl) ?_
  refine zn_putF (own := zR_0) (ref := zR_0) (C := zR_0) (T := zF_0) (N := 10) (ci := 0) (v := .ref (b0 + (n + 1))) hx hb hts zin_0t zty_0 zty_0_ok znm_0 hown hB.1 hP aS (pre.length + 0) (by rw [pre_at]; rfl) rfl 0 (by decide) (hts _ zk_208) (fun _ h9 => h9) rfl hin rfl (zty_0_ok 0 (by decide)) rfl rfl (Nat.le_of_ble_eq_true rfl) kdX7_12 (fun H1 locs hP hz1 aS => ?_)
  rw [pre_set] at hP
  have hP : va_P D zcl (zaw b0 0 (pre ++ (.inr (0, [.ref (b0 + (n + 1)), .null, .int 0, .int 0, .null, .null, .null, .null, .null, .null]) :: (kX6_c ca b0 (n + 1))))) H1 := hP
  have hz : H1.size = b0 + (pre ++ ((.inr (0, [.ref (b0 + (n + 1)), .null, .int 0, .int 0, .null, .null, .null, .null, .null, .null]) :: (kX6_c ca b0 (n + 1))) : List va_E)).length := len_eq pre _ _ b0 (hz1.trans hz) rfl
  clear hz1
  generalize H1 = H at hP hz aS ⊢
  refine lv_aload_n hx hb kdX7_15 rfl (lv_at hl 0 rfl) ?_
  refine lv_bipush (v := 6) hx hb kdX7_16 (by decide) ?_
  refine zn_newq (N := 6) hx hb hown (hts _ zk_20) hO.1 (zBk_cls hB).2.2.2.1 hP hz aS (by decide) (by decide) (Nat.le_of_ble_eq_true rfl) (Nat.le_of_ble_eq_true rfl) (Nat.le_of_ble_eq_true rfl) kdX7_18 (fun H hP hz aS => ?_)
  rw [show (pre ++ (.inr (0, [.ref (b0 + (n + 1)), .null, .int 0, .int 0, .null, .null, .null, .null, .null, .null]) :: (kX6_c ca b0 (n + 1))) : List va_E).length = n + 49 by rw [List.length_append, hn, List.length_cons, kX6_len]]
  rw [List.append_assoc] at hP hz
  have hP : va_P D zcl (zaw b0 0 (pre ++ (.inr (0, [.ref (b0 + (n + 1)), .null, .int 0, .int 0, .null, .null, .null, .null, .null, .null]) :: (kX6_c ca b0 (n + 1) ++ [.inl (ca 3, 6, .inr (.inr (.inr (.inr (fun _ => none)))))])))) H := hP
  have hz : H.size = b0 + (pre ++ ((.inr (0, [.ref (b0 + (n + 1)), .null, .int 0, .int 0, .null, .null, .null, .null, .null, .null]) :: (kX6_c ca b0 (n + 1) ++ [.inl (ca 3, 6, .inr (.inr (.inr (.inr (fun _ => none)))))])) : List va_E)).length := hz
  refine W.eq (g2 := F0 m 21 ls [.ref (b0 + (n + 49)), .ref (b0 + (pre.length + 0))]) (by subst hn; rfl) ?_
  refine zn_putF (own := zR_0) (ref := zR_0) (C := zR_0) (T := zF_0) (N := 10) (ci := 0) (v := .ref (b0 + (n + 49))) hx hb hts zin_0t zty_0 zty_0_ok znm_0 hown hB.1 hP aS (pre.length + 0) (by rw [pre_at]; rfl) rfl 1 (by decide) (hts _ zk_209) (fun _ h9 => h9) rfl hin rfl (zty_0_ok 1 (by decide)) rfl rfl (Nat.le_of_ble_eq_true rfl) kdX7_21 (fun H1 locs hP hz1 aS => ?_)
  rw [pre_set] at hP
  have hP : va_P D zcl (zaw b0 0 (pre ++ (.inr (0, [.ref (b0 + (n + 1)), .ref (b0 + (n + 49)), .int 0, .int 0, .null, .null, .null, .null, .null, .null]) :: (kX6_c ca b0 (n + 1) ++ [.inl (ca 3, 6, .inr (.inr (.inr (.inr (fun _ => none)))))])))) H1 := hP
  have hz : H1.size = b0 + (pre ++ ((.inr (0, [.ref (b0 + (n + 1)), .ref (b0 + (n + 49)), .int 0, .int 0, .null, .null, .null, .null, .null, .null]) :: (kX6_c ca b0 (n + 1) ++ [.inl (ca 3, 6, .inr (.inr (.inr (.inr (fun _ => none)))))])) : List va_E)).length := len_eq pre _ _ b0 (hz1.trans hz) rfl
  clear hz1
  generalize H1 = H at hP hz aS ⊢
  refine lv_iconst (v := 0) hx hb kdX7_24 (by decide) ?_
  refine lv_istore_n (lv' := [(1, .int 0), (0, .ref (b0 + n))]) hx hb kdX7_25 rfl hl (by decide) rfl (fun ls hl => ?_)
  obtain ⟨blk, hblk⟩ : ∃ x : List va_E, x = kX6_c ca b0 (n + 1) := ⟨_, rfl⟩
  have hbl : blk.length = 48 := by rw [hblk]; exact kX6_len _ _ _
  have hP : va_P D zcl (zaw b0 0 (kE pre (.inr (0, [.ref (b0 + (n + 1)), .ref (b0 + (n + 49)), .int 0, .int 0, .null, .null, .null, .null, .null, .null])) blk (.inl (ca 3, 6, .inr (.inr (.inr (.inr (krf b0 (n + 50) 48 0)))))) (kbl (kX6_c ca b0) (n + 50) 48 0))) H := by rw [krf_0, hblk]; exact hP
  have hz : H.size = b0 + (kE pre (.inr (0, [.ref (b0 + (n + 1)), .ref (b0 + (n + 49)), .int 0, .int 0, .null, .null, .null, .null, .null, .null])) blk (.inl (ca 3, 6, .inr (.inr (.inr (.inr (krf b0 (n + 50) 48 0)))))) (kbl (kX6_c ca b0) (n + 50) 48 0)).length := by rw [krf_0, hblk]; exact hz
  have hcl : ∀ x, (kX6_c ca b0 x).length = 48 := fun x => kX6_len _ _ x
  have loop : ∀ (exit : ∀ (ls : Array Slot) (H : Heap) (locs : List Loc), lv_has ls 2 [(1, .int (Int32.ofNat 6)), (0, .ref (b0 + n))] → va_P D zcl (zaw b0 0 (kE pre (.inr (0, [.ref (b0 + (n + 1)), .ref (b0 + (n + 49)), .int 0, .int 0, .null, .null, .null, .null, .null, .null])) blk (.inl (ca 3, 6, .inr (.inr (.inr (.inr (krf b0 (n + 50) 48 6)))))) (kbl (kX6_c ca b0) (n + 50) 48 6))) H → H.size = b0 + (kE pre (.inr (0, [.ref (b0 + (n + 1)), .ref (b0 + (n + 49)), .int 0, .int 0, .null, .null, .null, .null, .null, .null])) blk (.inl (ca 3, 6, .inr (.inr (.inr (.inr (krf b0 (n + 50) 48 6)))))) (kbl (kX6_c ca b0) (n + 50) 48 6)).length → va_S (fun q => b0 ≤ q) s.heap H locs → W p l e (headSpec kX7_w ({ frames := 4, cells := 357, slots := 16472, locals := 73 })).room s m [Value.ref (b0 + n)].toArray below meth c H locs (49 + 48 * 6) (2238 + 2232 * 6) (MQ below (zQw b0 D (pre ++ kX7_c ca b0 n)) [Value.ref (b0 + n)].toArray s 357 16472 (fun q => b0 ≤ q)) (F0 m 54 ls [])) (r k : Nat), k + r = 6 → ∀ (ls : Array Slot) (H : Heap) (locs : List Loc), lv_has ls 2 [(1, .int (Int32.ofNat k)), (0, .ref (b0 + n))] → va_P D zcl (zaw b0 0 (kE pre (.inr (0, [.ref (b0 + (n + 1)), .ref (b0 + (n + 49)), .int 0, .int 0, .null, .null, .null, .null, .null, .null])) blk (.inl (ca 3, 6, .inr (.inr (.inr (.inr (krf b0 (n + 50) 48 k)))))) (kbl (kX6_c ca b0) (n + 50) 48 k))) H → H.size = b0 + (kE pre (.inr (0, [.ref (b0 + (n + 1)), .ref (b0 + (n + 49)), .int 0, .int 0, .null, .null, .null, .null, .null, .null])) blk (.inl (ca 3, 6, .inr (.inr (.inr (.inr (krf b0 (n + 50) 48 k)))))) (kbl (kX6_c ca b0) (n + 50) 48 k)).length → va_S (fun q => b0 ≤ q) s.heap H locs → W p l e (headSpec kX7_w ({ frames := 4, cells := 357, slots := 16472, locals := 73 })).room s m [Value.ref (b0 + n)].toArray below meth c H locs (49 + 48 * k) (2238 + 2232 * k) (MQ below (zQw b0 D (pre ++ kX7_c ca b0 n)) [Value.ref (b0 + n)].toArray s 357 16472 (fun q => b0 ≤ q)) (F0 m 26 ls []) := by
    intro exit r
    induction r with
    | zero =>
      intro k hk ls H locs hl hP hz aS
      have ek : k = 6 := by omega
      subst ek
      refine lv_iload_n hx hb kdX7_26 rfl (lv_at hl 0 rfl) ?_
      refine lv_aload_n hx hb kdX7_27 rfl (lv_at hl 1 rfl) ?_
      refine W.eq (g2 := F0 m 28 ls [.ref (b0 + (pre.length + 0)), .int (Int32.ofNat 6)]) (by subst hn; rfl) ?_
      refine va_get (own := zR_0) (ref := zR_0) (C := zR_0) (T := zF_0) (N := 10) (ci := 0) hx hb hts zin_0t hown hB.1 hP (pre.length + 0) (zaw_one kE_o) rfl 1 (by decide) (hts _ zk_209) (fun _ h9 => h9) rfl kdX7_28 ?_
      refine W.eq (g2 := F0 m 31 ls [.ref (b0 + (pre.length + (blk.length + 1))), .int (Int32.ofNat 6)]) (by rw [hbl]; subst hn; rfl) ?_
      refine va_alen hx hb hB.1 hP (pre.length + (blk.length + 1)) 3 (zaw_one kE_q) rfl (v := Int32.ofNat 6) rfl kdX7_31 ?_
      refine lv_icmp_ge hx hb kdX7_32 (tgt := 54) rfl (fun hge => ?_) (fun hge => ?_)
      · exact exit ls H locs hl hP hz aS
      · exact absurd ((kint_le 6 6 (by decide) (by decide)).mpr (Nat.le_refl 6)) hge
    | succ r ih =>
      intro k hk ls H locs hl hP hz aS
      have hkK : k < 6 := by omega
      obtain ⟨i1, i2, i3⟩ := kint k (by omega)
      refine lv_iload_n hx hb kdX7_26 rfl (lv_at hl 0 rfl) ?_
      refine lv_aload_n hx hb kdX7_27 rfl (lv_at hl 1 rfl) ?_
      refine W.eq (g2 := F0 m 28 ls [.ref (b0 + (pre.length + 0)), .int (Int32.ofNat k)]) (by subst hn; rfl) ?_
      refine va_get (own := zR_0) (ref := zR_0) (C := zR_0) (T := zF_0) (N := 10) (ci := 0) hx hb hts zin_0t hown hB.1 hP (pre.length + 0) (zaw_one kE_o) rfl 1 (by decide) (hts _ zk_209) (fun _ h9 => h9) rfl kdX7_28 ?_
      refine W.eq (g2 := F0 m 31 ls [.ref (b0 + (pre.length + (blk.length + 1))), .int (Int32.ofNat k)]) (by rw [hbl]; subst hn; rfl) ?_
      refine va_alen hx hb hB.1 hP (pre.length + (blk.length + 1)) 3 (zaw_one kE_q) rfl (v := Int32.ofNat 6) rfl kdX7_31 ?_
      refine lv_icmp_ge hx hb kdX7_32 (tgt := 54) rfl (fun hge => ?_) (fun hge => ?_)
      · exact absurd ((kint_le k 6 (by omega) (by decide)).mp hge) (by omega)
      · refine lv_aload_n hx hb kdX7_35 rfl (lv_at hl 1 rfl) ?_
        refine W.eq (g2 := F0 m 36 ls [.ref (b0 + (pre.length + 0))]) (by subst hn; rfl) ?_
        refine va_get (own := zR_0) (ref := zR_0) (C := zR_0) (T := zF_0) (N := 10) (ci := 0) hx hb hts zin_0t hown hB.1 hP (pre.length + 0) (zaw_one kE_o) rfl 1 (by decide) (hts _ zk_209) (fun _ h9 => h9) rfl kdX7_36 ?_
        refine lv_iload_n hx hb kdX7_39 rfl (lv_at hl 0 rfl) ?_
        have hL : (kE pre (.inr (0, [.ref (b0 + (n + 1)), .ref (b0 + (n + 49)), .int 0, .int 0, .null, .null, .null, .null, .null, .null])) blk (.inl (ca 3, 6, .inr (.inr (.inr (.inr (krf b0 (n + 50) 48 k)))))) (kbl (kX6_c ca b0) (n + 50) 48 k)).length = n + 50 + 48 * k := by rw [kE_len, hn, hbl, kbl_len hcl k]
        refine zn_new (ci := 1) (fs := [.null, .null, .null, .int 0, .int 0, .int 0, .int 0]) (C := zR_1) (T := zF_1) (N := 7) hx hb hts zin_1t zty_1_ok hown (hts _ zk_20) (hts _ zk_21) (hts _ zk_2) hB.1 hP hz aS rfl (fun j hj => by rcases (show j = 0 ∨ j = 1 ∨ j = 2 ∨ j = 3 ∨ j = 4 ∨ j = 5 ∨ j = 6 by omega) with rfl | rfl | rfl | rfl | rfl | rfl | rfl <;> rfl) (show 49 + 48 * k + 1 ≤ 357 by omega) (show 2238 + 2232 * k + 7 ≤ 16472 by omega) kdX7_40 (fun H hP hz aS => ?_)
        rw [hL]
        refine lv_dup hx hb kdX7_43 rfl ?_
        refine zbackw (es := kE pre (.inr (0, [.ref (b0 + (n + 1)), .ref (b0 + (n + 49)), .int 0, .int 0, .null, .null, .null, .null, .null, .null])) blk (.inl (ca 3, 6, .inr (.inr (.inr (.inr (krf b0 (n + 50) 48 k)))))) (kbl (kX6_c ca b0) (n + 50) 48 k) ++ kX6_c ca b0 (n + 50 + 48 * k)) (va_runIN (host := "FrameDeltas") (As := []) (rest := [.ref (b0 + (n + 50 + 48 * k)), .int (Int32.ofNat k), .ref (b0 + (n + 49))]) ⟨hx, hb, hml, hown, hts⟩ (kX6_m l (b0 := b0) (D := D) (ca := ca) (adK := adK) (adV := adV) (bS := bS) (L := L) (xs := xs) (kE pre (.inr (0, [.ref (b0 + (n + 1)), .ref (b0 + (n + 49)), .int 0, .int 0, .null, .null, .null, .null, .null, .null])) blk (.inl (ca 3, 6, .inr (.inr (.inr (.inr (krf b0 (n + 50) 48 k)))))) (kbl (kX6_c ca b0) (n + 50) 48 k)) (n + 50 + 48 * k) hL) ⟨va_cnB 0 hts (kX6_g) rfl rfl rfl (hB.2.2.2 _ zk_22) (hts _ zk_2) ⟨by decide, by decide, rfl⟩ ⟨Nat.le_of_ble_eq_true rfl, Nat.le_of_ble_eq_true rfl⟩, rfl, hts _ zk_23⟩ (zPrew hB hP hz aS hO) rfl rfl hl.1 rfl (lv_room (Nat.le_of_ble_eq_true rfl)) kdX7_44 ⟨show 49 + 48 * k + 1 + 47 ≤ 357 by omega, show 2238 + 2232 * k + 7 + 2225 ≤ 16472 by omega⟩) aS (fun H locs hP hz aS => ?_)
        rw [kE_app] at hP hz
        have hjv : pre.length + (2 + blk.length) + (kbl (kX6_c ca b0) (n + 50) 48 k).length = n + 50 + 48 * k := by rw [hn, hbl, kbl_len hcl k]
        refine W.eq (g2 := F0 m 47 ls [.ref (b0 + (pre.length + (2 + blk.length) + (kbl (kX6_c ca b0) (n + 50) 48 k).length)), .int (Int32.ofNat k), .ref (b0 + (pre.length + (blk.length + 1)))]) (by rw [hjv, hbl]; subst hn; rfl) ?_
        refine zn_astq hx hb hB.1 hP aS (pre.length + (blk.length + 1)) 3 (pre.length + (2 + blk.length) + (kbl (kX6_c ca b0) (n + 50) 48 k).length) 1 kE_q rfl (by rw [kE_at, List.getElem?_append_right (Nat.le_refl _), Nat.sub_self]; rfl) rfl (i := Int32.ofNat k) (by unfold vp_in; rw [i1]; rintro (q | q); exact i2 q; omega) kdX7_47 (fun H1 locs hP hz1 aS => ?_)
        rw [kE_sq, i1, hjv, krf_s] at hP
        have hP : va_P D zcl (zaw b0 0 (kE pre (.inr (0, [.ref (b0 + (n + 1)), .ref (b0 + (n + 49)), .int 0, .int 0, .null, .null, .null, .null, .null, .null])) blk (.inl (ca 3, 6, .inr (.inr (.inr (.inr (krf b0 (n + 50) 48 (k + 1))))))) (kbl (kX6_c ca b0) (n + 50) 48 (k + 1)))) H1 := hP
        have hz : H1.size = b0 + (kE pre (.inr (0, [.ref (b0 + (n + 1)), .ref (b0 + (n + 49)), .int 0, .int 0, .null, .null, .null, .null, .null, .null])) blk (.inl (ca 3, 6, .inr (.inr (.inr (.inr (krf b0 (n + 50) 48 (k + 1))))))) (kbl (kX6_c ca b0) (n + 50) 48 (k + 1))).length := by rw [hz1, hz, kE_len, kE_len]; rfl
        refine lv_iinc (k := 0) (x := Int32.ofNat k) (v := Int32.ofNat (k + 1)) (lv' := [(1, .int (Int32.ofNat (k + 1))), (0, .ref (b0 + n))]) hx hb kdX7_48 hl rfl i3 (by decide) rfl (fun ls hl => ?_)
        refine lv_goto hx hb kdX7_51 (tgt := 26) rfl ?_
        have hgo := ih (k + 1) (by omega) ls H1 locs hl hP hz aS
        rw [show 49 + 48 * (k + 1) = 49 + 48 * k + 1 + 47 by omega, show 2238 + 2232 * (k + 1) = 2238 + 2232 * k + 7 + 2225 by omega] at hgo
        exact hgo
  refine loop ?_ 6 0 rfl ls H _ hl hP hz aS
  intro ls H locs hl hP hz aS
  obtain ⟨tl0, e0⟩ : ∃ x : List va_E, x = (kbl (kX6_c ca b0) (n + 50) 48 6) := ⟨_, rfl⟩
  have l0 : tl0.length = 288 := by rw [e0, kbl_len hcl 6]
  rw [← e0] at hP hz
  refine lv_aload_n hx hb kdX7_54 rfl (lv_at hl 1 rfl) ?_
  refine lv_iconst (v := 0) hx hb kdX7_55 (by decide) ?_
  refine W.eq (g2 := F0 m 56 ls [.int 0, .ref (b0 + (pre.length + 0))]) (by subst hn; rfl) ?_
  refine zn_put (own := zR_0) (ref := zR_0) (C := zR_0) (T := zF_0) (N := 10) (ci := 0) (v := .int 0) hx hb hts zin_0t zty_0 zty_0_ok znm_0 hown hB.1 hP aS (pre.length + 0) kE_o rfl 2 (by decide) (hts _ zk_210) (fun _ h9 => h9) rfl (zty_0_ok 2 (by decide)) rfl rfl (Nat.le_of_ble_eq_true rfl) kdX7_56 (fun H1 locs hP hz1 aS => ?_)
  rw [kE_so] at hP
  have hP : va_P D zcl (zaw b0 0 (kE pre (.inr (0, [.ref (b0 + (n + 1)), .ref (b0 + (n + 49)), .int 0, .int 0, .null, .null, .null, .null, .null, .null])) blk (.inl (ca 3, 6, .inr (.inr (.inr (.inr (krf b0 (n + 50) 48 6)))))) tl0)) H1 := hP
  have hz : H1.size = b0 + (kE pre (.inr (0, [.ref (b0 + (n + 1)), .ref (b0 + (n + 49)), .int 0, .int 0, .null, .null, .null, .null, .null, .null])) blk (.inl (ca 3, 6, .inr (.inr (.inr (.inr (krf b0 (n + 50) 48 6)))))) tl0).length := hz1.trans (hz.trans (congrArg (fun q => b0 + q) (kE_len.trans kE_len.symm)))
  clear hz1
  generalize H1 = H at hP hz aS ⊢
  refine lv_aload_n hx hb kdX7_59 rfl (lv_at hl 1 rfl) ?_
  refine lv_iconst (v := 0) hx hb kdX7_60 (by decide) ?_
  refine W.eq (g2 := F0 m 61 ls [.int 0, .ref (b0 + (pre.length + 0))]) (by subst hn; rfl) ?_
  refine zn_put (own := zR_0) (ref := zR_0) (C := zR_0) (T := zF_0) (N := 10) (ci := 0) (v := .int 0) hx hb hts zin_0t zty_0 zty_0_ok znm_0 hown hB.1 hP aS (pre.length + 0) kE_o rfl 3 (by decide) (hts _ zk_211) (fun _ h9 => h9) rfl (zty_0_ok 3 (by decide)) rfl rfl (Nat.le_of_ble_eq_true rfl) kdX7_61 (fun H1 locs hP hz1 aS => ?_)
  rw [kE_so] at hP
  have hP : va_P D zcl (zaw b0 0 (kE pre (.inr (0, [.ref (b0 + (n + 1)), .ref (b0 + (n + 49)), .int 0, .int 0, .null, .null, .null, .null, .null, .null])) blk (.inl (ca 3, 6, .inr (.inr (.inr (.inr (krf b0 (n + 50) 48 6)))))) tl0)) H1 := hP
  have hz : H1.size = b0 + (kE pre (.inr (0, [.ref (b0 + (n + 1)), .ref (b0 + (n + 49)), .int 0, .int 0, .null, .null, .null, .null, .null, .null])) blk (.inl (ca 3, 6, .inr (.inr (.inr (.inr (krf b0 (n + 50) 48 6)))))) tl0).length := hz1.trans (hz.trans (congrArg (fun q => b0 + q) (kE_len.trans kE_len.symm)))
  clear hz1
  generalize H1 = H at hP hz aS ⊢
  refine lv_aload_n hx hb kdX7_64 rfl (lv_at hl 1 rfl) ?_
  have hL65 : (kE pre (.inr (0, [.ref (b0 + (n + 1)), .ref (b0 + (n + 49)), .int 0, .int 0, .null, .null, .null, .null, .null, .null])) blk (.inl (ca 3, 6, .inr (.inr (.inr (.inr (krf b0 (n + 50) 48 6)))))) tl0).length = n + 338 := by rw [kE_len]; omega
  refine zn_new (ci := 4) (fs := [.null, .int 0, .int 0, .int 0, .int 0, .int 0, .null, .int 0]) (C := zR_8) (T := zF_8) (N := 8) hx hb hts zin_8t zty_8_ok hown (hts _ zk_115) (hts _ zk_116) (hts _ zk_5) hB.1 hP hz aS rfl (fun j hj => by rcases (show j = 0 ∨ j = 1 ∨ j = 2 ∨ j = 3 ∨ j = 4 ∨ j = 5 ∨ j = 6 ∨ j = 7 by omega) with rfl | rfl | rfl | rfl | rfl | rfl | rfl | rfl <;> rfl) (Nat.le_of_ble_eq_true rfl) (Nat.le_of_ble_eq_true rfl) kdX7_65 (fun H hP hz aS => ?_)
  rw [hL65]
  refine lv_dup hx hb kdX7_68 rfl ?_
  refine zbackw (es := kE pre (.inr (0, [.ref (b0 + (n + 1)), .ref (b0 + (n + 49)), .int 0, .int 0, .null, .null, .null, .null, .null, .null])) blk (.inl (ca 3, 6, .inr (.inr (.inr (.inr (krf b0 (n + 50) 48 6)))))) tl0 ++ kX5_c ca b0 (n + 338)) (va_runIN (host := "FrameDeltas") (As := []) (rest := [.ref (b0 + (n + 338)), .ref (b0 + n)]) ⟨hx, hb, hml, hown, hts⟩ (kX5_m l (b0 := b0) (D := D) (ca := ca) (adK := adK) (adV := adV) (bS := bS) (L := L) (xs := xs) (kE pre (.inr (0, [.ref (b0 + (n + 1)), .ref (b0 + (n + 49)), .int 0, .int 0, .null, .null, .null, .null, .null, .null])) blk (.inl (ca 3, 6, .inr (.inr (.inr (.inr (krf b0 (n + 50) 48 6)))))) tl0) (n + 338) hL65) ⟨va_cnB 0 hts (kX5_g) rfl rfl rfl (hB.2.2.2 _ zk_117) (hts _ zk_5) ⟨by decide, by decide, rfl⟩ ⟨Nat.le_of_ble_eq_true rfl, Nat.le_of_ble_eq_true rfl⟩, rfl, hts _ zk_118⟩ (zPrew hB hP hz aS hO) rfl rfl hl.1 rfl (lv_room (Nat.le_of_ble_eq_true rfl)) kdX7_69 ⟨Nat.le_of_ble_eq_true rfl, Nat.le_of_ble_eq_true rfl⟩) aS (fun H locs hP hz aS => ?_)
  rw [kE_app] at hP hz
  obtain ⟨tl1, e1⟩ : ∃ x : List va_E, x = tl0 ++ kX5_c ca b0 (n + 338) := ⟨_, rfl⟩
  have l1 : tl1.length = 291 := by rw [e1, List.length_append, l0]; rfl
  rw [← e1] at hP hz
  refine W.eq (g2 := F0 m 72 ls [.ref (b0 + (n + 338)), .ref (b0 + (pre.length + 0))]) (by subst hn; rfl) ?_
  refine zn_putF (own := zR_0) (ref := zR_0) (C := zR_0) (T := zF_0) (N := 10) (ci := 0) (v := .ref (b0 + (n + 338))) hx hb hts zin_0t zty_0 zty_0_ok znm_0 hown hB.1 hP aS (pre.length + 0) kE_o rfl 4 (by decide) (hts _ zk_212) (fun _ h9 => h9) rfl hin rfl (zty_0_ok 4 (by decide)) rfl rfl (Nat.le_of_ble_eq_true rfl) kdX7_72 (fun H1 locs hP hz1 aS => ?_)
  rw [kE_so] at hP
  have hP : va_P D zcl (zaw b0 0 (kE pre (.inr (0, [.ref (b0 + (n + 1)), .ref (b0 + (n + 49)), .int 0, .int 0, .ref (b0 + (n + 338)), .null, .null, .null, .null, .null])) blk (.inl (ca 3, 6, .inr (.inr (.inr (.inr (krf b0 (n + 50) 48 6)))))) tl1)) H1 := hP
  have hz : H1.size = b0 + (kE pre (.inr (0, [.ref (b0 + (n + 1)), .ref (b0 + (n + 49)), .int 0, .int 0, .ref (b0 + (n + 338)), .null, .null, .null, .null, .null])) blk (.inl (ca 3, 6, .inr (.inr (.inr (.inr (krf b0 (n + 50) 48 6)))))) tl1).length := hz1.trans (hz.trans (congrArg (fun q => b0 + q) (kE_len.trans kE_len.symm)))
  clear hz1
  generalize H1 = H at hP hz aS ⊢
  refine lv_aload_n hx hb kdX7_75 rfl (lv_at hl 1 rfl) ?_
  have hL76 : (kE pre (.inr (0, [.ref (b0 + (n + 1)), .ref (b0 + (n + 49)), .int 0, .int 0, .ref (b0 + (n + 338)), .null, .null, .null, .null, .null])) blk (.inl (ca 3, 6, .inr (.inr (.inr (.inr (krf b0 (n + 50) 48 6)))))) tl1).length = n + 341 := by rw [kE_len]; omega
  refine zn_new (ci := 5) (fs := [.null, .null, .int 0, .int 0]) (C := zR_11) (T := zF_11) (N := 4) hx hb hts zin_11t zty_11_ok hown (hts _ zk_148) (hts _ zk_149) (hts _ zk_6) hB.1 hP hz aS rfl (fun j hj => by rcases (show j = 0 ∨ j = 1 ∨ j = 2 ∨ j = 3 by omega) with rfl | rfl | rfl | rfl <;> rfl) (Nat.le_of_ble_eq_true rfl) (Nat.le_of_ble_eq_true rfl) kdX7_76 (fun H hP hz aS => ?_)
  rw [hL76]
  refine lv_dup hx hb kdX7_79 rfl ?_
  refine zbackw (es := kE pre (.inr (0, [.ref (b0 + (n + 1)), .ref (b0 + (n + 49)), .int 0, .int 0, .ref (b0 + (n + 338)), .null, .null, .null, .null, .null])) blk (.inl (ca 3, 6, .inr (.inr (.inr (.inr (krf b0 (n + 50) 48 6)))))) tl1 ++ kX0_c ca b0 (n + 341)) (va_runIN (host := "FrameDeltas") (As := []) (rest := [.ref (b0 + (n + 341)), .ref (b0 + n)]) ⟨hx, hb, hml, hown, hts⟩ (kX0_m l (b0 := b0) (D := D) (ca := ca) (adK := adK) (adV := adV) (bS := bS) (L := L) (xs := xs) (kE pre (.inr (0, [.ref (b0 + (n + 1)), .ref (b0 + (n + 49)), .int 0, .int 0, .ref (b0 + (n + 338)), .null, .null, .null, .null, .null])) blk (.inl (ca 3, 6, .inr (.inr (.inr (.inr (krf b0 (n + 50) 48 6)))))) tl1) (n + 341) hL76) ⟨va_cnB 0 hts (kX0_g) rfl rfl rfl (hB.2.2.2 _ zk_150) (hts _ zk_6) ⟨by decide, by decide, rfl⟩ ⟨Nat.le_of_ble_eq_true rfl, Nat.le_of_ble_eq_true rfl⟩, rfl, hts _ zk_151⟩ (zPrew hB hP hz aS hO) rfl rfl hl.1 rfl (lv_room (Nat.le_of_ble_eq_true rfl)) kdX7_80 ⟨Nat.le_of_ble_eq_true rfl, Nat.le_of_ble_eq_true rfl⟩) aS (fun H locs hP hz aS => ?_)
  rw [kE_app] at hP hz
  obtain ⟨tl2, e2⟩ : ∃ x : List va_E, x = tl1 ++ kX0_c ca b0 (n + 341) := ⟨_, rfl⟩
  have l2 : tl2.length = 298 := by rw [e2, List.length_append, l1]; rfl
  rw [← e2] at hP hz
  refine W.eq (g2 := F0 m 83 ls [.ref (b0 + (n + 341)), .ref (b0 + (pre.length + 0))]) (by subst hn; rfl) ?_
  refine zn_putF (own := zR_0) (ref := zR_0) (C := zR_0) (T := zF_0) (N := 10) (ci := 0) (v := .ref (b0 + (n + 341))) hx hb hts zin_0t zty_0 zty_0_ok znm_0 hown hB.1 hP aS (pre.length + 0) kE_o rfl 5 (by decide) (hts _ zk_213) (fun _ h9 => h9) rfl hin rfl (zty_0_ok 5 (by decide)) rfl rfl (Nat.le_of_ble_eq_true rfl) kdX7_83 (fun H1 locs hP hz1 aS => ?_)
  rw [kE_so] at hP
  have hP : va_P D zcl (zaw b0 0 (kE pre (.inr (0, [.ref (b0 + (n + 1)), .ref (b0 + (n + 49)), .int 0, .int 0, .ref (b0 + (n + 338)), .ref (b0 + (n + 341)), .null, .null, .null, .null])) blk (.inl (ca 3, 6, .inr (.inr (.inr (.inr (krf b0 (n + 50) 48 6)))))) tl2)) H1 := hP
  have hz : H1.size = b0 + (kE pre (.inr (0, [.ref (b0 + (n + 1)), .ref (b0 + (n + 49)), .int 0, .int 0, .ref (b0 + (n + 338)), .ref (b0 + (n + 341)), .null, .null, .null, .null])) blk (.inl (ca 3, 6, .inr (.inr (.inr (.inr (krf b0 (n + 50) 48 6)))))) tl2).length := hz1.trans (hz.trans (congrArg (fun q => b0 + q) (kE_len.trans kE_len.symm)))
  clear hz1
  generalize H1 = H at hP hz aS ⊢
  refine lv_aload_n hx hb kdX7_86 rfl (lv_at hl 1 rfl) ?_
  have hL87 : (kE pre (.inr (0, [.ref (b0 + (n + 1)), .ref (b0 + (n + 49)), .int 0, .int 0, .ref (b0 + (n + 338)), .ref (b0 + (n + 341)), .null, .null, .null, .null])) blk (.inl (ca 3, 6, .inr (.inr (.inr (.inr (krf b0 (n + 50) 48 6)))))) tl2).length = n + 348 := by rw [kE_len]; omega
  refine zn_new (ci := 7) (fs := [.null, .null, .int 0, .int 0]) (C := zR_15) (T := zF_15) (N := 4) hx hb hts zin_15t zty_15_ok hown (hts _ zk_184) (hts _ zk_185) (hts _ zk_8) hB.1 hP hz aS rfl (fun j hj => by rcases (show j = 0 ∨ j = 1 ∨ j = 2 ∨ j = 3 by omega) with rfl | rfl | rfl | rfl <;> rfl) (Nat.le_of_ble_eq_true rfl) (Nat.le_of_ble_eq_true rfl) kdX7_87 (fun H hP hz aS => ?_)
  rw [hL87]
  refine lv_dup hx hb kdX7_90 rfl ?_
  refine zbackw (es := kE pre (.inr (0, [.ref (b0 + (n + 1)), .ref (b0 + (n + 49)), .int 0, .int 0, .ref (b0 + (n + 338)), .ref (b0 + (n + 341)), .null, .null, .null, .null])) blk (.inl (ca 3, 6, .inr (.inr (.inr (.inr (krf b0 (n + 50) 48 6)))))) tl2 ++ kX3_c ca b0 (n + 348)) (va_runIN (host := "FrameDeltas") (As := []) (rest := [.ref (b0 + (n + 348)), .ref (b0 + n)]) ⟨hx, hb, hml, hown, hts⟩ (kX3_m l (b0 := b0) (D := D) (ca := ca) (adK := adK) (adV := adV) (bS := bS) (L := L) (xs := xs) (kE pre (.inr (0, [.ref (b0 + (n + 1)), .ref (b0 + (n + 49)), .int 0, .int 0, .ref (b0 + (n + 338)), .ref (b0 + (n + 341)), .null, .null, .null, .null])) blk (.inl (ca 3, 6, .inr (.inr (.inr (.inr (krf b0 (n + 50) 48 6)))))) tl2) (n + 348) hL87) ⟨va_cnB 0 hts (kX3_g) rfl rfl rfl (hB.2.2.2 _ zk_186) (hts _ zk_8) ⟨by decide, by decide, rfl⟩ ⟨Nat.le_of_ble_eq_true rfl, Nat.le_of_ble_eq_true rfl⟩, rfl, hts _ zk_187⟩ (zPrew hB hP hz aS hO) rfl rfl hl.1 rfl (lv_room (Nat.le_of_ble_eq_true rfl)) kdX7_91 ⟨Nat.le_of_ble_eq_true rfl, Nat.le_of_ble_eq_true rfl⟩) aS (fun H locs hP hz aS => ?_)
  rw [kE_app] at hP hz
  obtain ⟨tl3, e3⟩ : ∃ x : List va_E, x = tl2 ++ kX3_c ca b0 (n + 348) := ⟨_, rfl⟩
  have l3 : tl3.length = 301 := by rw [e3, List.length_append, l2]; rfl
  rw [← e3] at hP hz
  refine W.eq (g2 := F0 m 94 ls [.ref (b0 + (n + 348)), .ref (b0 + (pre.length + 0))]) (by subst hn; rfl) ?_
  refine zn_putF (own := zR_0) (ref := zR_0) (C := zR_0) (T := zF_0) (N := 10) (ci := 0) (v := .ref (b0 + (n + 348))) hx hb hts zin_0t zty_0 zty_0_ok znm_0 hown hB.1 hP aS (pre.length + 0) kE_o rfl 6 (by decide) (hts _ zk_214) (fun _ h9 => h9) rfl hin rfl (zty_0_ok 6 (by decide)) rfl rfl (Nat.le_of_ble_eq_true rfl) kdX7_94 (fun H1 locs hP hz1 aS => ?_)
  rw [kE_so] at hP
  have hP : va_P D zcl (zaw b0 0 (kE pre (.inr (0, [.ref (b0 + (n + 1)), .ref (b0 + (n + 49)), .int 0, .int 0, .ref (b0 + (n + 338)), .ref (b0 + (n + 341)), .ref (b0 + (n + 348)), .null, .null, .null])) blk (.inl (ca 3, 6, .inr (.inr (.inr (.inr (krf b0 (n + 50) 48 6)))))) tl3)) H1 := hP
  have hz : H1.size = b0 + (kE pre (.inr (0, [.ref (b0 + (n + 1)), .ref (b0 + (n + 49)), .int 0, .int 0, .ref (b0 + (n + 338)), .ref (b0 + (n + 341)), .ref (b0 + (n + 348)), .null, .null, .null])) blk (.inl (ca 3, 6, .inr (.inr (.inr (.inr (krf b0 (n + 50) 48 6)))))) tl3).length := hz1.trans (hz.trans (congrArg (fun q => b0 + q) (kE_len.trans kE_len.symm)))
  clear hz1
  generalize H1 = H at hP hz aS ⊢
  refine lv_aload_n hx hb kdX7_97 rfl (lv_at hl 1 rfl) ?_
  have hL98 : (kE pre (.inr (0, [.ref (b0 + (n + 1)), .ref (b0 + (n + 49)), .int 0, .int 0, .ref (b0 + (n + 338)), .ref (b0 + (n + 341)), .ref (b0 + (n + 348)), .null, .null, .null])) blk (.inl (ca 3, 6, .inr (.inr (.inr (.inr (krf b0 (n + 50) 48 6)))))) tl3).length = n + 351 := by rw [kE_len]; omega
  refine zn_new (ci := 2) (fs := [.null, .null, .int 0, .int 0, .int 0]) (C := zR_2) (T := zF_2) (N := 5) hx hb hts zin_2t zty_2_ok hown (hts _ zk_204) (hts _ zk_47) (hts _ zk_4) hB.1 hP hz aS rfl (fun j hj => by rcases (show j = 0 ∨ j = 1 ∨ j = 2 ∨ j = 3 ∨ j = 4 by omega) with rfl | rfl | rfl | rfl | rfl <;> rfl) (Nat.le_of_ble_eq_true rfl) (Nat.le_of_ble_eq_true rfl) kdX7_98 (fun H hP hz aS => ?_)
  rw [hL98]
  refine lv_dup hx hb kdX7_101 rfl ?_
  refine zbackw (es := kE pre (.inr (0, [.ref (b0 + (n + 1)), .ref (b0 + (n + 49)), .int 0, .int 0, .ref (b0 + (n + 338)), .ref (b0 + (n + 341)), .ref (b0 + (n + 348)), .null, .null, .null])) blk (.inl (ca 3, 6, .inr (.inr (.inr (.inr (krf b0 (n + 50) 48 6)))))) tl3 ++ kX1_c ca b0 (n + 351)) (va_runIN (host := "FrameDeltas") (As := []) (rest := [.ref (b0 + (n + 351)), .ref (b0 + n)]) ⟨hx, hb, hml, hown, hts⟩ (kX1_m l (b0 := b0) (D := D) (ca := ca) (adK := adK) (adV := adV) (bS := bS) (L := L) (xs := xs) (kE pre (.inr (0, [.ref (b0 + (n + 1)), .ref (b0 + (n + 49)), .int 0, .int 0, .ref (b0 + (n + 338)), .ref (b0 + (n + 341)), .ref (b0 + (n + 348)), .null, .null, .null])) blk (.inl (ca 3, 6, .inr (.inr (.inr (.inr (krf b0 (n + 50) 48 6)))))) tl3) (n + 351) hL98) ⟨va_cnB 0 hts (kX1_g) rfl rfl rfl (hB.2.2.2 _ zk_205) (hts _ zk_4) ⟨by decide, by decide, rfl⟩ ⟨Nat.le_of_ble_eq_true rfl, Nat.le_of_ble_eq_true rfl⟩, rfl, hts _ zk_49⟩ (zPrew hB hP hz aS hO) rfl rfl hl.1 rfl (lv_room (Nat.le_of_ble_eq_true rfl)) kdX7_102 ⟨Nat.le_of_ble_eq_true rfl, Nat.le_of_ble_eq_true rfl⟩) aS (fun H locs hP hz aS => ?_)
  rw [kE_app] at hP hz
  obtain ⟨tl4, e4⟩ : ∃ x : List va_E, x = tl3 ++ kX1_c ca b0 (n + 351) := ⟨_, rfl⟩
  have l4 : tl4.length = 305 := by rw [e4, List.length_append, l3]; rfl
  rw [← e4] at hP hz
  refine W.eq (g2 := F0 m 105 ls [.ref (b0 + (n + 351)), .ref (b0 + (pre.length + 0))]) (by subst hn; rfl) ?_
  refine zn_putF (own := zR_0) (ref := zR_0) (C := zR_0) (T := zF_0) (N := 10) (ci := 0) (v := .ref (b0 + (n + 351))) hx hb hts zin_0t zty_0 zty_0_ok znm_0 hown hB.1 hP aS (pre.length + 0) kE_o rfl 7 (by decide) (hts _ zk_215) (fun _ h9 => h9) rfl hin rfl (zty_0_ok 7 (by decide)) rfl rfl (Nat.le_of_ble_eq_true rfl) kdX7_105 (fun H1 locs hP hz1 aS => ?_)
  rw [kE_so] at hP
  have hP : va_P D zcl (zaw b0 0 (kE pre (.inr (0, [.ref (b0 + (n + 1)), .ref (b0 + (n + 49)), .int 0, .int 0, .ref (b0 + (n + 338)), .ref (b0 + (n + 341)), .ref (b0 + (n + 348)), .ref (b0 + (n + 351)), .null, .null])) blk (.inl (ca 3, 6, .inr (.inr (.inr (.inr (krf b0 (n + 50) 48 6)))))) tl4)) H1 := hP
  have hz : H1.size = b0 + (kE pre (.inr (0, [.ref (b0 + (n + 1)), .ref (b0 + (n + 49)), .int 0, .int 0, .ref (b0 + (n + 338)), .ref (b0 + (n + 341)), .ref (b0 + (n + 348)), .ref (b0 + (n + 351)), .null, .null])) blk (.inl (ca 3, 6, .inr (.inr (.inr (.inr (krf b0 (n + 50) 48 6)))))) tl4).length := hz1.trans (hz.trans (congrArg (fun q => b0 + q) (kE_len.trans kE_len.symm)))
  clear hz1
  generalize H1 = H at hP hz aS ⊢
  refine lv_aload_n hx hb kdX7_108 rfl (lv_at hl 1 rfl) ?_
  have hL109 : (kE pre (.inr (0, [.ref (b0 + (n + 1)), .ref (b0 + (n + 49)), .int 0, .int 0, .ref (b0 + (n + 338)), .ref (b0 + (n + 341)), .ref (b0 + (n + 348)), .ref (b0 + (n + 351)), .null, .null])) blk (.inl (ca 3, 6, .inr (.inr (.inr (.inr (krf b0 (n + 50) 48 6)))))) tl4).length = n + 355 := by rw [kE_len]; omega
  refine zn_new (ci := 3) (fs := [.null, .int 0, .int 0]) (C := zR_3) (T := zF_3) (N := 3) hx hb hts zin_3t zty_3_ok hown (hts _ zk_206) (hts _ zk_27) (hts _ zk_3) hB.1 hP hz aS rfl (fun j hj => by rcases (show j = 0 ∨ j = 1 ∨ j = 2 by omega) with rfl | rfl | rfl <;> rfl) (Nat.le_of_ble_eq_true rfl) (Nat.le_of_ble_eq_true rfl) kdX7_109 (fun H hP hz aS => ?_)
  rw [hL109]
  refine lv_dup hx hb kdX7_112 rfl ?_
  refine zbackw (es := kE pre (.inr (0, [.ref (b0 + (n + 1)), .ref (b0 + (n + 49)), .int 0, .int 0, .ref (b0 + (n + 338)), .ref (b0 + (n + 341)), .ref (b0 + (n + 348)), .ref (b0 + (n + 351)), .null, .null])) blk (.inl (ca 3, 6, .inr (.inr (.inr (.inr (krf b0 (n + 50) 48 6)))))) tl4 ++ kX2_c ca b0 (n + 355)) (va_runIN (host := "FrameDeltas") (As := []) (rest := [.ref (b0 + (n + 355)), .ref (b0 + n)]) ⟨hx, hb, hml, hown, hts⟩ (kX2_m l (b0 := b0) (D := D) (ca := ca) (adK := adK) (adV := adV) (bS := bS) (L := L) (xs := xs) (kE pre (.inr (0, [.ref (b0 + (n + 1)), .ref (b0 + (n + 49)), .int 0, .int 0, .ref (b0 + (n + 338)), .ref (b0 + (n + 341)), .ref (b0 + (n + 348)), .ref (b0 + (n + 351)), .null, .null])) blk (.inl (ca 3, 6, .inr (.inr (.inr (.inr (krf b0 (n + 50) 48 6)))))) tl4) (n + 355) hL109) ⟨va_cnB 0 hts (kX2_g) rfl rfl rfl (hB.2.2.2 _ zk_207) (hts _ zk_3) ⟨by decide, by decide, rfl⟩ ⟨Nat.le_of_ble_eq_true rfl, Nat.le_of_ble_eq_true rfl⟩, rfl, hts _ zk_29⟩ (zPrew hB hP hz aS hO) rfl rfl hl.1 rfl (lv_room (Nat.le_of_ble_eq_true rfl)) kdX7_113 ⟨Nat.le_of_ble_eq_true rfl, Nat.le_of_ble_eq_true rfl⟩) aS (fun H locs hP hz aS => ?_)
  rw [kE_app] at hP hz
  obtain ⟨tl5, e5⟩ : ∃ x : List va_E, x = tl4 ++ kX2_c ca b0 (n + 355) := ⟨_, rfl⟩
  have l5 : tl5.length = 307 := by rw [e5, List.length_append, l4]; rfl
  rw [← e5] at hP hz
  refine W.eq (g2 := F0 m 116 ls [.ref (b0 + (n + 355)), .ref (b0 + (pre.length + 0))]) (by subst hn; rfl) ?_
  refine zn_putF (own := zR_0) (ref := zR_0) (C := zR_0) (T := zF_0) (N := 10) (ci := 0) (v := .ref (b0 + (n + 355))) hx hb hts zin_0t zty_0 zty_0_ok znm_0 hown hB.1 hP aS (pre.length + 0) kE_o rfl 8 (by decide) (hts _ zk_216) (fun _ h9 => h9) rfl hin rfl (zty_0_ok 8 (by decide)) rfl rfl (Nat.le_of_ble_eq_true rfl) kdX7_116 (fun H1 locs hP hz1 aS => ?_)
  rw [kE_so] at hP
  have hP : va_P D zcl (zaw b0 0 (kE pre (.inr (0, [.ref (b0 + (n + 1)), .ref (b0 + (n + 49)), .int 0, .int 0, .ref (b0 + (n + 338)), .ref (b0 + (n + 341)), .ref (b0 + (n + 348)), .ref (b0 + (n + 351)), .ref (b0 + (n + 355)), .null])) blk (.inl (ca 3, 6, .inr (.inr (.inr (.inr (krf b0 (n + 50) 48 6)))))) tl5)) H1 := hP
  have hz : H1.size = b0 + (kE pre (.inr (0, [.ref (b0 + (n + 1)), .ref (b0 + (n + 49)), .int 0, .int 0, .ref (b0 + (n + 338)), .ref (b0 + (n + 341)), .ref (b0 + (n + 348)), .ref (b0 + (n + 351)), .ref (b0 + (n + 355)), .null])) blk (.inl (ca 3, 6, .inr (.inr (.inr (.inr (krf b0 (n + 50) 48 6)))))) tl5).length := hz1.trans (hz.trans (congrArg (fun q => b0 + q) (kE_len.trans kE_len.symm)))
  clear hz1
  generalize H1 = H at hP hz aS ⊢
  refine lv_aload_n hx hb kdX7_119 rfl (lv_at hl 1 rfl) ?_
  refine lv_bipush (v := 81) hx hb kdX7_120 (by decide) ?_
  have hL122 : (kE pre (.inr (0, [.ref (b0 + (n + 1)), .ref (b0 + (n + 49)), .int 0, .int 0, .ref (b0 + (n + 338)), .ref (b0 + (n + 341)), .ref (b0 + (n + 348)), .ref (b0 + (n + 351)), .ref (b0 + (n + 355)), .null])) blk (.inl (ca 3, 6, .inr (.inr (.inr (.inr (krf b0 (n + 50) 48 6)))))) tl5).length = n + 357 := by rw [kE_len]; omega
  refine zn_newa (atype := .int) (ty := .int) (N := 81) (a0 := (81, .inl (fun _ => 0))) hx hb (hts _ zk_44) rfl (zBk_cls hB).1 hP hz aS (fun cA => rfl) (by decide) (by decide) (Nat.le_of_ble_eq_true rfl) (Nat.le_of_ble_eq_true rfl) (Nat.le_of_ble_eq_true rfl) kdX7_122 (fun H hP hz aS => ?_)
  rw [hL122]
  rw [kE_app] at hP hz
  obtain ⟨tl6, e6⟩ : ∃ x : List va_E, x = tl5 ++ [.inl (ca 0, 81, .inl (fun _ => 0))] := ⟨_, rfl⟩
  have l6 : tl6.length = 308 := by rw [e6, List.length_append, l5]; rfl
  rw [← e6] at hP hz
  refine W.eq (g2 := F0 m 124 ls [.ref (b0 + (n + 357)), .ref (b0 + (pre.length + 0))]) (by subst hn; rfl) ?_
  refine zn_putF (own := zR_0) (ref := zR_0) (C := zR_0) (T := zF_0) (N := 10) (ci := 0) (v := .ref (b0 + (n + 357))) hx hb hts zin_0t zty_0 zty_0_ok znm_0 hown hB.1 hP aS (pre.length + 0) kE_o rfl 9 (by decide) (hts _ zk_217) (fun _ h9 => h9) rfl hin rfl (zty_0_ok 9 (by decide)) rfl rfl (Nat.le_of_ble_eq_true rfl) kdX7_124 (fun H1 locs hP hz1 aS => ?_)
  rw [kE_so] at hP
  have hP : va_P D zcl (zaw b0 0 (kE pre (.inr (0, [.ref (b0 + (n + 1)), .ref (b0 + (n + 49)), .int 0, .int 0, .ref (b0 + (n + 338)), .ref (b0 + (n + 341)), .ref (b0 + (n + 348)), .ref (b0 + (n + 351)), .ref (b0 + (n + 355)), .ref (b0 + (n + 357))])) blk (.inl (ca 3, 6, .inr (.inr (.inr (.inr (krf b0 (n + 50) 48 6)))))) tl6)) H1 := hP
  have hz : H1.size = b0 + (kE pre (.inr (0, [.ref (b0 + (n + 1)), .ref (b0 + (n + 49)), .int 0, .int 0, .ref (b0 + (n + 338)), .ref (b0 + (n + 341)), .ref (b0 + (n + 348)), .ref (b0 + (n + 351)), .ref (b0 + (n + 355)), .ref (b0 + (n + 357))])) blk (.inl (ca 3, 6, .inr (.inr (.inr (.inr (krf b0 (n + 50) 48 6)))))) tl6).length := hz1.trans (hz.trans (congrArg (fun q => b0 + q) (kE_len.trans kE_len.symm)))
  clear hz1
  generalize H1 = H at hP hz aS ⊢
  rw [e6, e5, e4, e3, e2, e1, e0, hblk] at hP hz
  exact W.vret hx hb hr (fun t ht hW => ⟨rfl, ⟨by rw [ht]; exact hP, by rw [ht]; exact hz⟩, aS.F ht⟩) aS.2.2 kdX7_127 hlocks
