/-! ===== the straight constructors (printed by wip/whole/gen_ctor.py) ===== -/
theorem pre_at (pre l : List va_E) (i : Nat) : (pre ++ l)[pre.length + i]? = l[i]? := by
  rw [List.getElem?_append_right (Nat.le_add_right _ _), Nat.add_sub_cancel_left]
theorem pre_set (pre l : List va_E) (i : Nat) (x : va_E) : (pre ++ l).set (pre.length + i) x = pre ++ l.set i x := by
  rw [List.set_append_right _ _ (Nat.le_add_right _ _), Nat.add_sub_cancel_left]
theorem len_eq (pre l l1 : List va_E) (b0 : Nat) {k : Nat} (h : k = b0 + (pre ++ l).length) (e : l.length = l1.length) : k = b0 + (pre ++ l1).length := by
  rw [h, List.length_append, List.length_append, e]
theorem k_good {w : Cond} (h : w ∈ zTs) : GoodIn zTs (w :: zTs) := by
  intro v hv
  rcases List.mem_cons.mp hv with z | z
  · rw [z]; exact ⟨h, zTs_good h⟩
  · exact ⟨z, zTs_good z⟩
theorem zin_0t : ∀ w ∈ u_ws zR_0 zF_0 10, w ∈ zTs := fun w hw => zTs_l (zin_0 w hw) (List.all_eq_true.mp zgd_0 w hw)
theorem zin_1t : ∀ w ∈ u_ws zR_1 zF_1 7, w ∈ zTs := fun w hw => zTs_l (zin_1 w hw) (List.all_eq_true.mp zgd_1 w hw)
theorem zin_2t : ∀ w ∈ u_ws zR_2 zF_2 5, w ∈ zTs := fun w hw => zTs_l (zin_2 w hw) (List.all_eq_true.mp zgd_2 w hw)
theorem zin_3t : ∀ w ∈ u_ws zR_3 zF_3 3, w ∈ zTs := fun w hw => zTs_l (zin_3 w hw) (List.all_eq_true.mp zgd_3 w hw)
theorem zin_8t : ∀ w ∈ u_ws zR_8 zF_8 8, w ∈ zTs := fun w hw => zTs_l (zin_8 w hw) (List.all_eq_true.mp zgd_8 w hw)
theorem zin_11t : ∀ w ∈ u_ws zR_11 zF_11 4, w ∈ zTs := fun w hw => zTs_l (zin_11 w hw) (List.all_eq_true.mp zgd_11 w hw)
theorem zin_12t : ∀ w ∈ u_ws zR_12 zF_12 3, w ∈ zTs := fun w hw => zTs_l (zin_12 w hw) (List.all_eq_true.mp zgd_12 w hw)
theorem zin_15t : ∀ w ∈ u_ws zR_15 zF_15 4, w ∈ zTs := fun w hw => zTs_l (zin_15 w hw) (List.all_eq_true.mp zgd_15 w hw)
theorem zk_3 : Cond.initialized "FrameDeltas$Image" ∈ zTs := zTs_t (List.mem_of_getElem? (i := 3) (by decide +kernel)) (by decide +kernel)
theorem zk_7 : Cond.initialized "FrameDeltas$RunList" ∈ zTs := zTs_t (List.mem_of_getElem? (i := 7) (by decide +kernel)) (by decide +kernel)
theorem zk_18 : Cond.instanceMethod ({ cls := "java/lang/Object", name := "<init>", desc := "()V" }) ∈ zTs := zTs_t (List.mem_of_getElem? (i := 18) (by decide +kernel)) (by decide +kernel)
theorem zk_19 : Cond.code ({ cls := "java/lang/Object", name := "<init>", desc := "()V" }) object_method_1_code (1) (Option.none : Option ClassFile.FieldType) ∈ zTs := zTs_t (List.mem_of_getElem? (i := 19) (by decide +kernel)) (by decide +kernel)
theorem zk_27 : Cond.instantiable "FrameDeltas$Image" (3) ∈ zTs := zTs_t (List.mem_of_getElem? (i := 27) (by decide +kernel)) (by decide +kernel)
theorem zk_29 : Cond.instanceMethod ({ cls := "FrameDeltas$Image", name := "<init>", desc := "()V" }) ∈ zTs := zTs_t (List.mem_of_getElem? (i := 29) (by decide +kernel)) (by decide +kernel)
theorem zk_30 : Cond.code ({ cls := "FrameDeltas$Image", name := "<init>", desc := "()V" }) prog_4_method_1_code (1) (Option.none : Option ClassFile.FieldType) ∈ zTs := zTs_t (List.mem_of_getElem? (i := 30) (by decide +kernel)) (by decide +kernel)
theorem zk_31 : Cond.methodLink "FrameDeltas$Image" (3) ({ cls := "java/lang/Object", name := "<init>", desc := "()V" }) ∈ zTs := zTs_t (List.mem_of_getElem? (i := 31) (by decide +kernel)) (by decide +kernel)
theorem zk_32 : Cond.fieldLink "FrameDeltas$Image" (9) "FrameDeltas$Image" "cells" "[I" ∈ zTs := zTs_t (List.mem_of_getElem? (i := 32) (by decide +kernel)) (by decide +kernel)
theorem zk_33 : Cond.fieldLink "FrameDeltas$Image" (15) "FrameDeltas$Image" "width" "I" ∈ zTs := zTs_t (List.mem_of_getElem? (i := 33) (by decide +kernel)) (by decide +kernel)
theorem zk_35 : Cond.fieldLink "FrameDeltas$Image" (19) "FrameDeltas$Image" "height" "I" ∈ zTs := zTs_t (List.mem_of_getElem? (i := 35) (by decide +kernel)) (by decide +kernel)
theorem zk_44 : Cond.arrayClass ClassFile.FieldType.int ∈ zTs := zTs_t (List.mem_of_getElem? (i := 44) (by decide +kernel)) (by decide +kernel)
theorem zk_50 : Cond.code ({ cls := "FrameDeltas$Frame", name := "<init>", desc := "()V" }) prog_3_method_1_code (1) (Option.none : Option ClassFile.FieldType) ∈ zTs := zTs_t (List.mem_of_getElem? (i := 50) (by decide +kernel)) (by decide +kernel)
theorem zk_51 : Cond.methodLink "FrameDeltas$Frame" (3) ({ cls := "java/lang/Object", name := "<init>", desc := "()V" }) ∈ zTs := zTs_t (List.mem_of_getElem? (i := 51) (by decide +kernel)) (by decide +kernel)
theorem zk_52 : Cond.classLink "FrameDeltas$Frame" (9) "FrameDeltas$Image" ∈ zTs := zTs_t (List.mem_of_getElem? (i := 52) (by decide +kernel)) (by decide +kernel)
theorem zk_53 : Cond.methodLinkNest "FrameDeltas$Frame" (11) ({ cls := "FrameDeltas$Image", name := "<init>", desc := "()V" }) "FrameDeltas" ∈ zNs := zNs_t (List.mem_of_getElem? (i := 53) (by decide +kernel)) (by rfl)
theorem zk_54 : Cond.fieldLink "FrameDeltas$Frame" (12) "FrameDeltas$Frame" "image" "LFrameDeltas$Image;" ∈ zTs := zTs_t (List.mem_of_getElem? (i := 54) (by decide +kernel)) (by decide +kernel)
theorem zk_59 : Cond.fieldLink "FrameDeltas$Frame" (18) "FrameDeltas$Frame" "codes" "[I" ∈ zTs := zTs_t (List.mem_of_getElem? (i := 59) (by decide +kernel)) (by decide +kernel)
theorem zk_60 : Cond.fieldLink "FrameDeltas$Frame" (22) "FrameDeltas$Frame" "reference" "I" ∈ zTs := zTs_t (List.mem_of_getElem? (i := 60) (by decide +kernel)) (by decide +kernel)
theorem zk_64 : Cond.fieldLink "FrameDeltas$Frame" (26) "FrameDeltas$Frame" "cost" "I" ∈ zTs := zTs_t (List.mem_of_getElem? (i := 64) (by decide +kernel)) (by decide +kernel)
theorem zk_69 : Cond.fieldLink "FrameDeltas$Frame" (29) "FrameDeltas$Frame" "lost" "Z" ∈ zTs := zTs_t (List.mem_of_getElem? (i := 69) (by decide +kernel)) (by decide +kernel)
theorem zk_119 : Cond.code ({ cls := "FrameDeltas$Script", name := "<init>", desc := "()V" }) prog_7_method_1_code (1) (Option.none : Option ClassFile.FieldType) ∈ zTs := zTs_t (List.mem_of_getElem? (i := 119) (by decide +kernel)) (by decide +kernel)
theorem zk_120 : Cond.methodLink "FrameDeltas$Script" (3) ({ cls := "java/lang/Object", name := "<init>", desc := "()V" }) ∈ zTs := zTs_t (List.mem_of_getElem? (i := 120) (by decide +kernel)) (by decide +kernel)
theorem zk_121 : Cond.fieldLink "FrameDeltas$Script" (9) "FrameDeltas$Script" "text" "[C" ∈ zTs := zTs_t (List.mem_of_getElem? (i := 121) (by decide +kernel)) (by decide +kernel)
theorem zk_122 : Cond.fieldLink "FrameDeltas$Script" (15) "FrameDeltas$Script" "length" "I" ∈ zTs := zTs_t (List.mem_of_getElem? (i := 122) (by decide +kernel)) (by decide +kernel)
theorem zk_124 : Cond.fieldLink "FrameDeltas$Script" (19) "FrameDeltas$Script" "kind" "I" ∈ zTs := zTs_t (List.mem_of_getElem? (i := 124) (by decide +kernel)) (by decide +kernel)
theorem zk_125 : Cond.fieldLink "FrameDeltas$Script" (22) "FrameDeltas$Script" "start" "I" ∈ zTs := zTs_t (List.mem_of_getElem? (i := 125) (by decide +kernel)) (by decide +kernel)
theorem zk_126 : Cond.fieldLink "FrameDeltas$Script" (25) "FrameDeltas$Script" "behind" "I" ∈ zTs := zTs_t (List.mem_of_getElem? (i := 126) (by decide +kernel)) (by decide +kernel)
theorem zk_127 : Cond.fieldLink "FrameDeltas$Script" (28) "FrameDeltas$Script" "number" "I" ∈ zTs := zTs_t (List.mem_of_getElem? (i := 127) (by decide +kernel)) (by decide +kernel)
theorem zk_128 : Cond.fieldLink "FrameDeltas$Script" (31) "FrameDeltas$Script" "program" "[I" ∈ zTs := zTs_t (List.mem_of_getElem? (i := 128) (by decide +kernel)) (by decide +kernel)
theorem zk_129 : Cond.fieldLink "FrameDeltas$Script" (35) "FrameDeltas$Script" "programLength" "I" ∈ zTs := zTs_t (List.mem_of_getElem? (i := 129) (by decide +kernel)) (by decide +kernel)
theorem zk_147 : Cond.arrayClass ClassFile.FieldType.char ∈ zTs := zTs_t (List.mem_of_getElem? (i := 147) (by decide +kernel)) (by decide +kernel)
theorem zk_152 : Cond.code ({ cls := "FrameDeltas$Coder", name := "<init>", desc := "()V" }) prog_2_method_1_code (1) (Option.none : Option ClassFile.FieldType) ∈ zTs := zTs_t (List.mem_of_getElem? (i := 152) (by decide +kernel)) (by decide +kernel)
theorem zk_153 : Cond.methodLink "FrameDeltas$Coder" (3) ({ cls := "java/lang/Object", name := "<init>", desc := "()V" }) ∈ zTs := zTs_t (List.mem_of_getElem? (i := 153) (by decide +kernel)) (by decide +kernel)
theorem zk_154 : Cond.classLink "FrameDeltas$Coder" (9) "FrameDeltas$RunList" ∈ zTs := zTs_t (List.mem_of_getElem? (i := 154) (by decide +kernel)) (by decide +kernel)
theorem zk_155 : Cond.instantiable "FrameDeltas$RunList" (3) ∈ zTs := zTs_t (List.mem_of_getElem? (i := 155) (by decide +kernel)) (by decide +kernel)
theorem zk_156 : Cond.methodLinkNest "FrameDeltas$Coder" (11) ({ cls := "FrameDeltas$RunList", name := "<init>", desc := "()V" }) "FrameDeltas" ∈ zNs := zNs_t (List.mem_of_getElem? (i := 156) (by decide +kernel)) (by rfl)
theorem zk_157 : Cond.instanceMethod ({ cls := "FrameDeltas$RunList", name := "<init>", desc := "()V" }) ∈ zTs := zTs_t (List.mem_of_getElem? (i := 157) (by decide +kernel)) (by decide +kernel)
theorem zk_158 : Cond.code ({ cls := "FrameDeltas$RunList", name := "<init>", desc := "()V" }) prog_6_method_1_code (1) (Option.none : Option ClassFile.FieldType) ∈ zTs := zTs_t (List.mem_of_getElem? (i := 158) (by decide +kernel)) (by decide +kernel)
theorem zk_159 : Cond.methodLink "FrameDeltas$RunList" (3) ({ cls := "java/lang/Object", name := "<init>", desc := "()V" }) ∈ zTs := zTs_t (List.mem_of_getElem? (i := 159) (by decide +kernel)) (by decide +kernel)
theorem zk_160 : Cond.fieldLink "FrameDeltas$RunList" (9) "FrameDeltas$RunList" "lengths" "[I" ∈ zTs := zTs_t (List.mem_of_getElem? (i := 160) (by decide +kernel)) (by decide +kernel)
theorem zk_161 : Cond.fieldLink "FrameDeltas$RunList" (15) "FrameDeltas$RunList" "values" "[I" ∈ zTs := zTs_t (List.mem_of_getElem? (i := 161) (by decide +kernel)) (by decide +kernel)
theorem zk_162 : Cond.fieldLink "FrameDeltas$RunList" (18) "FrameDeltas$RunList" "size" "I" ∈ zTs := zTs_t (List.mem_of_getElem? (i := 162) (by decide +kernel)) (by decide +kernel)
theorem zk_171 : Cond.fieldLink "FrameDeltas$Coder" (12) "FrameDeltas$Coder" "raw" "LFrameDeltas$RunList;" ∈ zTs := zTs_t (List.mem_of_getElem? (i := 171) (by decide +kernel)) (by decide +kernel)
theorem zk_172 : Cond.fieldLink "FrameDeltas$Coder" (18) "FrameDeltas$Coder" "delta" "LFrameDeltas$RunList;" ∈ zTs := zTs_t (List.mem_of_getElem? (i := 172) (by decide +kernel)) (by decide +kernel)
theorem zk_173 : Cond.fieldLink "FrameDeltas$Coder" (21) "FrameDeltas$Coder" "dx" "I" ∈ zTs := zTs_t (List.mem_of_getElem? (i := 173) (by decide +kernel)) (by decide +kernel)
theorem zk_174 : Cond.fieldLink "FrameDeltas$Coder" (25) "FrameDeltas$Coder" "dy" "I" ∈ zTs := zTs_t (List.mem_of_getElem? (i := 174) (by decide +kernel)) (by decide +kernel)
theorem zk_188 : Cond.code ({ cls := "FrameDeltas$Planner", name := "<init>", desc := "()V" }) prog_5_method_1_code (1) (Option.none : Option ClassFile.FieldType) ∈ zTs := zTs_t (List.mem_of_getElem? (i := 188) (by decide +kernel)) (by decide +kernel)
theorem zk_189 : Cond.methodLink "FrameDeltas$Planner" (3) ({ cls := "java/lang/Object", name := "<init>", desc := "()V" }) ∈ zTs := zTs_t (List.mem_of_getElem? (i := 189) (by decide +kernel)) (by decide +kernel)
theorem zk_190 : Cond.fieldLink "FrameDeltas$Planner" (9) "FrameDeltas$Planner" "keyCosts" "[I" ∈ zTs := zTs_t (List.mem_of_getElem? (i := 190) (by decide +kernel)) (by decide +kernel)
theorem zk_191 : Cond.fieldLink "FrameDeltas$Planner" (15) "FrameDeltas$Planner" "deltaCosts" "[I" ∈ zTs := zTs_t (List.mem_of_getElem? (i := 191) (by decide +kernel)) (by decide +kernel)
theorem zk_192 : Cond.fieldLink "FrameDeltas$Planner" (18) "FrameDeltas$Planner" "cost" "I" ∈ zTs := zTs_t (List.mem_of_getElem? (i := 192) (by decide +kernel)) (by decide +kernel)
theorem zk_194 : Cond.fieldLink "FrameDeltas$Planner" (22) "FrameDeltas$Planner" "keys" "I" ∈ zTs := zTs_t (List.mem_of_getElem? (i := 194) (by decide +kernel)) (by decide +kernel)
abbrev kbX2 : ByteArray := prog_4_method_1_code
def kyX2 : MethodName := ⟨zR_3, "<init>", "()V"⟩
theorem kdX2_0 : decode kbX2 0 = .ok (.aload_n 0, 1) := by decide +kernel
theorem kdX2_1 : decode kbX2 1 = .ok (.invokespecial 3, 3) := by decide +kernel
theorem kdX2_4 : decode kbX2 4 = .ok (.aload_n 0, 1) := by decide +kernel
theorem kdX2_5 : decode kbX2 5 = .ok (.sipush 144, 3) := by decide +kernel
theorem kdX2_8 : decode kbX2 8 = .ok (.newarray .int, 2) := by decide +kernel
theorem kdX2_10 : decode kbX2 10 = .ok (.putfield 9, 3) := by decide +kernel
theorem kdX2_13 : decode kbX2 13 = .ok (.aload_n 0, 1) := by decide +kernel
theorem kdX2_14 : decode kbX2 14 = .ok (.bipush 8, 2) := by decide +kernel
theorem kdX2_16 : decode kbX2 16 = .ok (.putfield 15, 3) := by decide +kernel
theorem kdX2_19 : decode kbX2 19 = .ok (.aload_n 0, 1) := by decide +kernel
theorem kdX2_20 : decode kbX2 20 = .ok (.bipush 8, 2) := by decide +kernel
theorem kdX2_22 : decode kbX2 22 = .ok (.putfield 19, 3) := by decide +kernel
theorem kdX2_25 : decode kbX2 25 = .ok (.return_, 1) := by decide +kernel
def kX2_c (ca : Nat → ClassId) (b0 n : Nat) : List va_E := [.inr (3, [.ref (b0 + (n + 1)), .int 8, .int 8]), .inl (ca 0, 144, .inl (fun _ => 0))]
def kX2_w : List Cond := .code kyX2 kbX2 1 none :: zTs
theorem kX2_g : GoodIn zTs kX2_w := k_good zk_30
theorem kX2_m (l : Launch) {b0 : Nat} {D : va_G} {ca : Nat → ClassId} {adK adV : Nat → Nat} {bS L : Nat} {xs : Nat → Int32} (pre : List va_E) (n : Nat) (hn : pre.length = n) : Met l kyX2 kX2_w ({ frames := 1, cells := 1, slots := 144, locals := 12 }) (va_Pc [.ref (b0 + n)] (zBw b0 D ca adK adV bS L xs (pre ++ [.inr (3, [.null, .int 0, .int 0])]))) (zQw b0 D (pre ++ kX2_c ca b0 n)) 1 144 (fun q => b0 ≤ q) := by
  refine zMet_of (cc := kbX2) (maxL := 1) (ret := none) (by decide) rfl ?_
  intro p e s m args below meth c s₁ B hml hv
  obtain ⟨rfl, hB, hP, hz, hO⟩ := hv
  have hx := B.exec
  have hb := B.bytes
  have hr := B.returns
  have hts2 := atoms_spec (ws := kX2_w) B.pre
  have hts : ∀ w ∈ zTs, w.before _ s = true := fun w hw => hts2 w (List.mem_cons_of_mem _ hw)
  have hown : s.vm.findClass zR_3 = some m.cls := findClass_of_methodNamed B.named
  have hlocks := B.notSynchronized
  have hin : meth.name = "<init>" := (name_of_methodNamed B.named B.method).1
  have aS : va_S (fun q => b0 ≤ q) s.heap s.heap [] := va_S.rf
  have hl := lv_entry ([.ref (b0 + n)]) (n := 1) (Nat.le_of_ble_eq_true rfl)
  rw [lg_entry_eq]
  generalize (lg_sl ([.ref (b0 + n)]) ++ List.replicate (1 - (lg_sl ([.ref (b0 + n)])).length) Slot.unset).toArray = ls at hl ⊢
  have hl : lv_has ls 1 [(0, .ref (b0 + n))] := hl
  have hP : va_P D zcl (zaw b0 0 (pre ++ [.inr (3, [.null, .int 0, .int 0])])) s.heap := hP
  have hz : s.heap.size = b0 + (pre ++ ([.inr (3, [.null, .int 0, .int 0])] : List va_E)).length := hz
  generalize hH : s.heap = H at hP hz ⊢
  have aS : va_S (fun q => b0 ≤ q) s.heap H [] := by rw [← hH]; exact aS
  refine lv_aload_n hx hb kdX2_0 rfl (lv_at hl 0 rfl) ?_
  refine W.objInit hx hb hown (hts _ zk_31) (hts _ zk_18) (hts _ zk_19) rfl (by rw [hml]; exact hl.1) rfl kdX2_1 (Nat.le_of_ble_eq_true rfl) (Nat.le_of_ble_eq_true rfl) ?_
  refine W.eq (g2 := F0 m 4 ls []) rfl ?_
  refine lv_aload_n hx hb kdX2_4 rfl (lv_at hl 0 rfl) ?_
  refine lv_sipush (v := 144) hx hb kdX2_5 (by decide) ?_
  refine zn_newa (atype := .int) (ty := .int) (N := 144) (a0 := (144, .inl (fun _ => 0))) hx hb (hts _ zk_44) rfl (zBk_cls hB).1 hP hz aS (fun cA => rfl) (by decide) (by decide) (Nat.le_of_ble_eq_true rfl) (Nat.le_of_ble_eq_true rfl) (Nat.le_of_ble_eq_true rfl) kdX2_8 (fun H hP hz aS => ?_)
  rw [List.append_assoc] at hP hz
  rw [List.length_append, hn]
  have hP : va_P D zcl (zaw b0 0 (pre ++ [.inr (3, [.null, .int 0, .int 0]), .inl (ca 0, 144, .inl (fun _ => 0))])) H := hP
  have hz : H.size = b0 + (pre ++ ([.inr (3, [.null, .int 0, .int 0]), .inl (ca 0, 144, .inl (fun _ => 0))] : List va_E)).length := hz
  refine W.eq (g2 := F0 m 10 ls [.ref (b0 + (n + 1)), .ref (b0 + (pre.length + 0))]) (by subst hn; rfl) ?_
  refine zn_putF (own := zR_3) (ref := zR_3) (C := zR_3) (T := zF_3) (N := 3) (ci := 3) (v := .ref (b0 + (n + 1))) hx hb hts zin_3t zty_3 zty_3_ok znm_3 hown hB.1 hP aS (pre.length + 0) (by rw [pre_at]; rfl) rfl 0 (by decide) (hts _ zk_32) (fun _ h9 => h9) rfl hin rfl (zty_3_ok 0 (by decide)) rfl rfl (Nat.le_of_ble_eq_true rfl) kdX2_10 (fun H1 locs hP hz1 aS => ?_)
  rw [pre_set] at hP
  have hP : va_P D zcl (zaw b0 0 (pre ++ [.inr (3, [.ref (b0 + (n + 1)), .int 0, .int 0]), .inl (ca 0, 144, .inl (fun _ => 0))])) H1 := hP
  have hz : H1.size = b0 + (pre ++ ([.inr (3, [.ref (b0 + (n + 1)), .int 0, .int 0]), .inl (ca 0, 144, .inl (fun _ => 0))] : List va_E)).length := len_eq pre _ _ b0 (hz1.trans hz) rfl
  clear hz1
  generalize H1 = H at hP hz aS ⊢
  refine lv_aload_n hx hb kdX2_13 rfl (lv_at hl 0 rfl) ?_
  refine lv_bipush (v := 8) hx hb kdX2_14 (by decide) ?_
  refine W.eq (g2 := F0 m 16 ls [.int 8, .ref (b0 + (pre.length + 0))]) (by subst hn; rfl) ?_
  refine zn_put (own := zR_3) (ref := zR_3) (C := zR_3) (T := zF_3) (N := 3) (ci := 3) (v := .int 8) hx hb hts zin_3t zty_3 zty_3_ok znm_3 hown hB.1 hP aS (pre.length + 0) (by rw [pre_at]; rfl) rfl 1 (by decide) (hts _ zk_33) (fun _ h9 => h9) rfl (zty_3_ok 1 (by decide)) rfl rfl (Nat.le_of_ble_eq_true rfl) kdX2_16 (fun H1 locs hP hz1 aS => ?_)
  rw [pre_set] at hP
  have hP : va_P D zcl (zaw b0 0 (pre ++ [.inr (3, [.ref (b0 + (n + 1)), .int 8, .int 0]), .inl (ca 0, 144, .inl (fun _ => 0))])) H1 := hP
  have hz : H1.size = b0 + (pre ++ ([.inr (3, [.ref (b0 + (n + 1)), .int 8, .int 0]), .inl (ca 0, 144, .inl (fun _ => 0))] : List va_E)).length := len_eq pre _ _ b0 (hz1.trans hz) rfl
  clear hz1
  generalize H1 = H at hP hz aS ⊢
  refine lv_aload_n hx hb kdX2_19 rfl (lv_at hl 0 rfl) ?_
  refine lv_bipush (v := 8) hx hb kdX2_20 (by decide) ?_
  refine W.eq (g2 := F0 m 22 ls [.int 8, .ref (b0 + (pre.length + 0))]) (by subst hn; rfl) ?_
  refine zn_put (own := zR_3) (ref := zR_3) (C := zR_3) (T := zF_3) (N := 3) (ci := 3) (v := .int 8) hx hb hts zin_3t zty_3 zty_3_ok znm_3 hown hB.1 hP aS (pre.length + 0) (by rw [pre_at]; rfl) rfl 2 (by decide) (hts _ zk_35) (fun _ h9 => h9) rfl (zty_3_ok 2 (by decide)) rfl rfl (Nat.le_of_ble_eq_true rfl) kdX2_22 (fun H1 locs hP hz1 aS => ?_)
  rw [pre_set] at hP
  have hP : va_P D zcl (zaw b0 0 (pre ++ [.inr (3, [.ref (b0 + (n + 1)), .int 8, .int 8]), .inl (ca 0, 144, .inl (fun _ => 0))])) H1 := hP
  have hz : H1.size = b0 + (pre ++ ([.inr (3, [.ref (b0 + (n + 1)), .int 8, .int 8]), .inl (ca 0, 144, .inl (fun _ => 0))] : List va_E)).length := len_eq pre _ _ b0 (hz1.trans hz) rfl
  clear hz1
  generalize H1 = H at hP hz aS ⊢
  exact W.vret hx hb hr (fun t ht hW => ⟨rfl, ⟨by rw [ht]; exact hP, by rw [ht]; exact hz⟩, aS.F ht⟩) aS.2.2 kdX2_25 hlocks
abbrev kbX1 : ByteArray := prog_3_method_1_code
def kyX1 : MethodName := ⟨zR_2, "<init>", "()V"⟩
theorem kdX1_0 : decode kbX1 0 = .ok (.aload_n 0, 1) := by decide +kernel
theorem kdX1_1 : decode kbX1 1 = .ok (.invokespecial 3, 3) := by decide +kernel
theorem kdX1_4 : decode kbX1 4 = .ok (.aload_n 0, 1) := by decide +kernel
theorem kdX1_5 : decode kbX1 5 = .ok (.new 9, 3) := by decide +kernel
theorem kdX1_8 : decode kbX1 8 = .ok (.dup, 1) := by decide +kernel
theorem kdX1_9 : decode kbX1 9 = .ok (.invokespecial 11, 3) := by decide +kernel
theorem kdX1_12 : decode kbX1 12 = .ok (.putfield 12, 3) := by decide +kernel
theorem kdX1_15 : decode kbX1 15 = .ok (.aload_n 0, 1) := by decide +kernel
theorem kdX1_16 : decode kbX1 16 = .ok (.bipush 36, 2) := by decide +kernel
theorem kdX1_18 : decode kbX1 18 = .ok (.newarray .int, 2) := by decide +kernel
theorem kdX1_20 : decode kbX1 20 = .ok (.putfield 18, 3) := by decide +kernel
theorem kdX1_23 : decode kbX1 23 = .ok (.aload_n 0, 1) := by decide +kernel
theorem kdX1_24 : decode kbX1 24 = .ok (.iconst (-1), 1) := by decide +kernel
theorem kdX1_25 : decode kbX1 25 = .ok (.putfield 22, 3) := by decide +kernel
theorem kdX1_28 : decode kbX1 28 = .ok (.aload_n 0, 1) := by decide +kernel
theorem kdX1_29 : decode kbX1 29 = .ok (.iconst 0, 1) := by decide +kernel
theorem kdX1_30 : decode kbX1 30 = .ok (.putfield 26, 3) := by decide +kernel
theorem kdX1_33 : decode kbX1 33 = .ok (.aload_n 0, 1) := by decide +kernel
theorem kdX1_34 : decode kbX1 34 = .ok (.iconst 0, 1) := by decide +kernel
theorem kdX1_35 : decode kbX1 35 = .ok (.putfield 29, 3) := by decide +kernel
theorem kdX1_38 : decode kbX1 38 = .ok (.return_, 1) := by decide +kernel
def kX1_c (ca : Nat → ClassId) (b0 n : Nat) : List va_E := [.inr (2, [.ref (b0 + (n + 1)), .ref (b0 + (n + 3)), .int (-1), .int 0, .int 0]), .inr (3, [.ref (b0 + (n + 2)), .int 8, .int 8]), .inl (ca 0, 144, .inl (fun _ => 0)), .inl (ca 0, 36, .inl (fun _ => 0))]
def kX1_w : List Cond := .code kyX1 kbX1 1 none :: zTs
theorem kX1_g : GoodIn zTs kX1_w := k_good zk_50
theorem kX1_m (l : Launch) {b0 : Nat} {D : va_G} {ca : Nat → ClassId} {adK adV : Nat → Nat} {bS L : Nat} {xs : Nat → Int32} (pre : List va_E) (n : Nat) (hn : pre.length = n) : Met l kyX1 kX1_w ({ frames := 2, cells := 3, slots := 183, locals := 32 }) (va_Pc [.ref (b0 + n)] (zBw b0 D ca adK adV bS L xs (pre ++ [.inr (2, [.null, .null, .int 0, .int 0, .int 0])]))) (zQw b0 D (pre ++ kX1_c ca b0 n)) 3 183 (fun q => b0 ≤ q) := by
  refine zMet_of (cc := kbX1) (maxL := 1) (ret := none) (by decide) rfl ?_
  intro p e s m args below meth c s₁ B hml hv
  obtain ⟨rfl, hB, hP, hz, hO⟩ := hv
  have hx := B.exec
  have hb := B.bytes
  have hr := B.returns
  have hts2 := atoms_spec (ws := kX1_w) B.pre
  have hts : ∀ w ∈ zTs, w.before _ s = true := fun w hw => hts2 w (List.mem_cons_of_mem _ hw)
  have hown : s.vm.findClass zR_2 = some m.cls := findClass_of_methodNamed B.named
  have hlocks := B.notSynchronized
  have hin : meth.name = "<init>" := (name_of_methodNamed B.named B.method).1
  have aS : va_S (fun q => b0 ≤ q) s.heap s.heap [] := va_S.rf
  have hl := lv_entry ([.ref (b0 + n)]) (n := 1) (Nat.le_of_ble_eq_true rfl)
  rw [lg_entry_eq]
  generalize (lg_sl ([.ref (b0 + n)]) ++ List.replicate (1 - (lg_sl ([.ref (b0 + n)])).length) Slot.unset).toArray = ls at hl ⊢
  have hl : lv_has ls 1 [(0, .ref (b0 + n))] := hl
  have hP : va_P D zcl (zaw b0 0 (pre ++ [.inr (2, [.null, .null, .int 0, .int 0, .int 0])])) s.heap := hP
  have hz : s.heap.size = b0 + (pre ++ ([.inr (2, [.null, .null, .int 0, .int 0, .int 0])] : List va_E)).length := hz
  generalize hH : s.heap = H at hP hz ⊢
  have aS : va_S (fun q => b0 ≤ q) s.heap H [] := by rw [← hH]; exact aS
  refine lv_aload_n hx hb kdX1_0 rfl (lv_at hl 0 rfl) ?_
  refine W.objInit hx hb hown (hts _ zk_51) (hts _ zk_18) (hts _ zk_19) rfl (by rw [hml]; exact hl.1) rfl kdX1_1 (Nat.le_of_ble_eq_true rfl) (Nat.le_of_ble_eq_true rfl) ?_
  refine W.eq (g2 := F0 m 4 ls []) rfl ?_
  refine lv_aload_n hx hb kdX1_4 rfl (lv_at hl 0 rfl) ?_
  refine zn_new (ci := 3) (fs := [.null, .int 0, .int 0]) (C := zR_3) (T := zF_3) (N := 3) hx hb hts zin_3t zty_3_ok hown (hts _ zk_52) (hts _ zk_27) (hts _ zk_3) hB.1 hP hz aS rfl (fun j hj => by rcases (show j = 0 ∨ j = 1 ∨ j = 2 by omega) with rfl | rfl | rfl <;> rfl) (Nat.le_of_ble_eq_true rfl) (Nat.le_of_ble_eq_true rfl) kdX1_5 (fun H hP hz aS => ?_)
  rw [List.append_assoc] at hP hz
  rw [List.length_append, hn]
  have hP : va_P D zcl (zaw b0 0 (pre ++ [.inr (2, [.null, .null, .int 0, .int 0, .int 0]), .inr (3, [.null, .int 0, .int 0])])) H := hP
  have hz : H.size = b0 + (pre ++ ([.inr (2, [.null, .null, .int 0, .int 0, .int 0]), .inr (3, [.null, .int 0, .int 0])] : List va_E)).length := hz
  refine lv_dup hx hb kdX1_8 rfl ?_
  have hP2 : va_P D zcl (zaw b0 0 ((pre ++ ([.inr (2, [.null, .null, .int 0, .int 0, .int 0])] : List va_E)) ++ [.inr (3, [.null, .int 0, .int 0])])) H := by rw [List.append_assoc]; exact hP
  have hz2 : H.size = b0 + ((pre ++ ([.inr (2, [.null, .null, .int 0, .int 0, .int 0])] : List va_E)) ++ [(.inr (3, [.null, .int 0, .int 0]) : va_E)]).length := by rw [List.append_assoc]; exact hz
  refine zbackw (es := (pre ++ ([.inr (2, [.null, .null, .int 0, .int 0, .int 0])] : List va_E)) ++ kX2_c ca b0 (n + 1)) (va_runIN (host := "FrameDeltas") (As := []) (rest := [.ref (b0 + (n + 1)), .ref (b0 + (n + 0))]) ⟨hx, hb, hml, hown, hts⟩ (kX2_m l (b0 := b0) (D := D) (ca := ca) (adK := adK) (adV := adV) (bS := bS) (L := L) (xs := xs) (pre ++ ([.inr (2, [.null, .null, .int 0, .int 0, .int 0])] : List va_E)) (n + 1) (by rw [List.length_append, hn]; rfl)) ⟨va_cnB 0 hts (kX2_g) rfl rfl rfl (hB.2.2.2 _ zk_53) (hts _ zk_3) ⟨by decide, by decide, rfl⟩ ⟨Nat.le_of_ble_eq_true rfl, Nat.le_of_ble_eq_true rfl⟩, rfl, hts _ zk_29⟩ (zPrew hB hP2 hz2 aS hO) rfl rfl hl.1 rfl (lv_room (Nat.le_of_ble_eq_true rfl)) kdX1_9 ⟨Nat.le_of_ble_eq_true rfl, Nat.le_of_ble_eq_true rfl⟩) aS (fun H locs hP hz aS => ?_)
  rw [List.append_assoc] at hP hz
  have hP : va_P D zcl (zaw b0 0 (pre ++ [.inr (2, [.null, .null, .int 0, .int 0, .int 0]), .inr (3, [.ref (b0 + (n + 2)), .int 8, .int 8]), .inl (ca 0, 144, .inl (fun _ => 0))])) H := hP
  have hz : H.size = b0 + (pre ++ ([.inr (2, [.null, .null, .int 0, .int 0, .int 0]), .inr (3, [.ref (b0 + (n + 2)), .int 8, .int 8]), .inl (ca 0, 144, .inl (fun _ => 0))] : List va_E)).length := hz
  refine W.eq (g2 := F0 m 12 ls [.ref (b0 + (n + 1)), .ref (b0 + (pre.length + 0))]) (by subst hn; rfl) ?_
  refine zn_putF (own := zR_2) (ref := zR_2) (C := zR_2) (T := zF_2) (N := 5) (ci := 2) (v := .ref (b0 + (n + 1))) hx hb hts zin_2t zty_2 zty_2_ok znm_2 hown hB.1 hP aS (pre.length + 0) (by rw [pre_at]; rfl) rfl 0 (by decide) (hts _ zk_54) (fun _ h9 => h9) rfl hin rfl (zty_2_ok 0 (by decide)) rfl rfl (Nat.le_of_ble_eq_true rfl) kdX1_12 (fun H1 locs hP hz1 aS => ?_)
  rw [pre_set] at hP
  have hP : va_P D zcl (zaw b0 0 (pre ++ [.inr (2, [.ref (b0 + (n + 1)), .null, .int 0, .int 0, .int 0]), .inr (3, [.ref (b0 + (n + 2)), .int 8, .int 8]), .inl (ca 0, 144, .inl (fun _ => 0))])) H1 := hP
  have hz : H1.size = b0 + (pre ++ ([.inr (2, [.ref (b0 + (n + 1)), .null, .int 0, .int 0, .int 0]), .inr (3, [.ref (b0 + (n + 2)), .int 8, .int 8]), .inl (ca 0, 144, .inl (fun _ => 0))] : List va_E)).length := len_eq pre _ _ b0 (hz1.trans hz) rfl
  clear hz1
  generalize H1 = H at hP hz aS ⊢
  refine lv_aload_n hx hb kdX1_15 rfl (lv_at hl 0 rfl) ?_
  refine lv_bipush (v := 36) hx hb kdX1_16 (by decide) ?_
  refine zn_newa (atype := .int) (ty := .int) (N := 36) (a0 := (36, .inl (fun _ => 0))) hx hb (hts _ zk_44) rfl (zBk_cls hB).1 hP hz aS (fun cA => rfl) (by decide) (by decide) (Nat.le_of_ble_eq_true rfl) (Nat.le_of_ble_eq_true rfl) (Nat.le_of_ble_eq_true rfl) kdX1_18 (fun H hP hz aS => ?_)
  rw [List.append_assoc] at hP hz
  rw [List.length_append, hn]
  have hP : va_P D zcl (zaw b0 0 (pre ++ [.inr (2, [.ref (b0 + (n + 1)), .null, .int 0, .int 0, .int 0]), .inr (3, [.ref (b0 + (n + 2)), .int 8, .int 8]), .inl (ca 0, 144, .inl (fun _ => 0)), .inl (ca 0, 36, .inl (fun _ => 0))])) H := hP
  have hz : H.size = b0 + (pre ++ ([.inr (2, [.ref (b0 + (n + 1)), .null, .int 0, .int 0, .int 0]), .inr (3, [.ref (b0 + (n + 2)), .int 8, .int 8]), .inl (ca 0, 144, .inl (fun _ => 0)), .inl (ca 0, 36, .inl (fun _ => 0))] : List va_E)).length := hz
  refine W.eq (g2 := F0 m 20 ls [.ref (b0 + (n + 3)), .ref (b0 + (pre.length + 0))]) (by subst hn; rfl) ?_
  refine zn_putF (own := zR_2) (ref := zR_2) (C := zR_2) (T := zF_2) (N := 5) (ci := 2) (v := .ref (b0 + (n + 3))) hx hb hts zin_2t zty_2 zty_2_ok znm_2 hown hB.1 hP aS (pre.length + 0) (by rw [pre_at]; rfl) rfl 1 (by decide) (hts _ zk_59) (fun _ h9 => h9) rfl hin rfl (zty_2_ok 1 (by decide)) rfl rfl (Nat.le_of_ble_eq_true rfl) kdX1_20 (fun H1 locs hP hz1 aS => ?_)
  rw [pre_set] at hP
  have hP : va_P D zcl (zaw b0 0 (pre ++ [.inr (2, [.ref (b0 + (n + 1)), .ref (b0 + (n + 3)), .int 0, .int 0, .int 0]), .inr (3, [.ref (b0 + (n + 2)), .int 8, .int 8]), .inl (ca 0, 144, .inl (fun _ => 0)), .inl (ca 0, 36, .inl (fun _ => 0))])) H1 := hP
  have hz : H1.size = b0 + (pre ++ ([.inr (2, [.ref (b0 + (n + 1)), .ref (b0 + (n + 3)), .int 0, .int 0, .int 0]), .inr (3, [.ref (b0 + (n + 2)), .int 8, .int 8]), .inl (ca 0, 144, .inl (fun _ => 0)), .inl (ca 0, 36, .inl (fun _ => 0))] : List va_E)).length := len_eq pre _ _ b0 (hz1.trans hz) rfl
  clear hz1
  generalize H1 = H at hP hz aS ⊢
  refine lv_aload_n hx hb kdX1_23 rfl (lv_at hl 0 rfl) ?_
  refine lv_iconst (v := -1) hx hb kdX1_24 (by decide) ?_
  refine W.eq (g2 := F0 m 25 ls [.int (-1), .ref (b0 + (pre.length + 0))]) (by subst hn; rfl) ?_
  refine zn_put (own := zR_2) (ref := zR_2) (C := zR_2) (T := zF_2) (N := 5) (ci := 2) (v := .int (-1)) hx hb hts zin_2t zty_2 zty_2_ok znm_2 hown hB.1 hP aS (pre.length + 0) (by rw [pre_at]; rfl) rfl 2 (by decide) (hts _ zk_60) (fun _ h9 => h9) rfl (zty_2_ok 2 (by decide)) rfl rfl (Nat.le_of_ble_eq_true rfl) kdX1_25 (fun H1 locs hP hz1 aS => ?_)
  rw [pre_set] at hP
  have hP : va_P D zcl (zaw b0 0 (pre ++ [.inr (2, [.ref (b0 + (n + 1)), .ref (b0 + (n + 3)), .int (-1), .int 0, .int 0]), .inr (3, [.ref (b0 + (n + 2)), .int 8, .int 8]), .inl (ca 0, 144, .inl (fun _ => 0)), .inl (ca 0, 36, .inl (fun _ => 0))])) H1 := hP
  have hz : H1.size = b0 + (pre ++ ([.inr (2, [.ref (b0 + (n + 1)), .ref (b0 + (n + 3)), .int (-1), .int 0, .int 0]), .inr (3, [.ref (b0 + (n + 2)), .int 8, .int 8]), .inl (ca 0, 144, .inl (fun _ => 0)), .inl (ca 0, 36, .inl (fun _ => 0))] : List va_E)).length := len_eq pre _ _ b0 (hz1.trans hz) rfl
  clear hz1
  generalize H1 = H at hP hz aS ⊢
  refine lv_aload_n hx hb kdX1_28 rfl (lv_at hl 0 rfl) ?_
  refine lv_iconst (v := 0) hx hb kdX1_29 (by decide) ?_
  refine W.eq (g2 := F0 m 30 ls [.int 0, .ref (b0 + (pre.length + 0))]) (by subst hn; rfl) ?_
  refine zn_put (own := zR_2) (ref := zR_2) (C := zR_2) (T := zF_2) (N := 5) (ci := 2) (v := .int 0) hx hb hts zin_2t zty_2 zty_2_ok znm_2 hown hB.1 hP aS (pre.length + 0) (by rw [pre_at]; rfl) rfl 3 (by decide) (hts _ zk_64) (fun _ h9 => h9) rfl (zty_2_ok 3 (by decide)) rfl rfl (Nat.le_of_ble_eq_true rfl) kdX1_30 (fun H1 locs hP hz1 aS => ?_)
  rw [pre_set] at hP
  have hP : va_P D zcl (zaw b0 0 (pre ++ [.inr (2, [.ref (b0 + (n + 1)), .ref (b0 + (n + 3)), .int (-1), .int 0, .int 0]), .inr (3, [.ref (b0 + (n + 2)), .int 8, .int 8]), .inl (ca 0, 144, .inl (fun _ => 0)), .inl (ca 0, 36, .inl (fun _ => 0))])) H1 := hP
  have hz : H1.size = b0 + (pre ++ ([.inr (2, [.ref (b0 + (n + 1)), .ref (b0 + (n + 3)), .int (-1), .int 0, .int 0]), .inr (3, [.ref (b0 + (n + 2)), .int 8, .int 8]), .inl (ca 0, 144, .inl (fun _ => 0)), .inl (ca 0, 36, .inl (fun _ => 0))] : List va_E)).length := len_eq pre _ _ b0 (hz1.trans hz) rfl
  clear hz1
  generalize H1 = H at hP hz aS ⊢
  refine lv_aload_n hx hb kdX1_33 rfl (lv_at hl 0 rfl) ?_
  refine lv_iconst (v := 0) hx hb kdX1_34 (by decide) ?_
  refine W.eq (g2 := F0 m 35 ls [.int 0, .ref (b0 + (pre.length + 0))]) (by subst hn; rfl) ?_
  refine zn_put (own := zR_2) (ref := zR_2) (C := zR_2) (T := zF_2) (N := 5) (ci := 2) (v := .int 0) hx hb hts zin_2t zty_2 zty_2_ok znm_2 hown hB.1 hP aS (pre.length + 0) (by rw [pre_at]; rfl) rfl 4 (by decide) (hts _ zk_69) (fun _ h9 => h9) rfl (zty_2_ok 4 (by decide)) rfl rfl (Nat.le_of_ble_eq_true rfl) kdX1_35 (fun H1 locs hP hz1 aS => ?_)
  rw [pre_set] at hP
  have hP : va_P D zcl (zaw b0 0 (pre ++ [.inr (2, [.ref (b0 + (n + 1)), .ref (b0 + (n + 3)), .int (-1), .int 0, .int 0]), .inr (3, [.ref (b0 + (n + 2)), .int 8, .int 8]), .inl (ca 0, 144, .inl (fun _ => 0)), .inl (ca 0, 36, .inl (fun _ => 0))])) H1 := hP
  have hz : H1.size = b0 + (pre ++ ([.inr (2, [.ref (b0 + (n + 1)), .ref (b0 + (n + 3)), .int (-1), .int 0, .int 0]), .inr (3, [.ref (b0 + (n + 2)), .int 8, .int 8]), .inl (ca 0, 144, .inl (fun _ => 0)), .inl (ca 0, 36, .inl (fun _ => 0))] : List va_E)).length := len_eq pre _ _ b0 (hz1.trans hz) rfl
  clear hz1
  generalize H1 = H at hP hz aS ⊢
  exact W.vret hx hb hr (fun t ht hW => ⟨rfl, ⟨by rw [ht]; exact hP, by rw [ht]; exact hz⟩, aS.F ht⟩) aS.2.2 kdX1_38 hlocks
abbrev kbX4 : ByteArray := prog_6_method_1_code
def kyX4 : MethodName := ⟨zR_12, "<init>", "()V"⟩
theorem kdX4_0 : decode kbX4 0 = .ok (.aload_n 0, 1) := by decide +kernel
theorem kdX4_1 : decode kbX4 1 = .ok (.invokespecial 3, 3) := by decide +kernel
theorem kdX4_4 : decode kbX4 4 = .ok (.aload_n 0, 1) := by decide +kernel
theorem kdX4_5 : decode kbX4 5 = .ok (.bipush 16, 2) := by decide +kernel
theorem kdX4_7 : decode kbX4 7 = .ok (.newarray .int, 2) := by decide +kernel
theorem kdX4_9 : decode kbX4 9 = .ok (.putfield 9, 3) := by decide +kernel
theorem kdX4_12 : decode kbX4 12 = .ok (.aload_n 0, 1) := by decide +kernel
theorem kdX4_13 : decode kbX4 13 = .ok (.bipush 16, 2) := by decide +kernel
theorem kdX4_15 : decode kbX4 15 = .ok (.newarray .int, 2) := by decide +kernel
theorem kdX4_17 : decode kbX4 17 = .ok (.putfield 15, 3) := by decide +kernel
theorem kdX4_20 : decode kbX4 20 = .ok (.aload_n 0, 1) := by decide +kernel
theorem kdX4_21 : decode kbX4 21 = .ok (.iconst 0, 1) := by decide +kernel
theorem kdX4_22 : decode kbX4 22 = .ok (.putfield 18, 3) := by decide +kernel
theorem kdX4_25 : decode kbX4 25 = .ok (.return_, 1) := by decide +kernel
def kX4_c (ca : Nat → ClassId) (b0 n : Nat) : List va_E := [.inr (6, [.ref (b0 + (n + 1)), .ref (b0 + (n + 2)), .int 0]), .inl (ca 0, 16, .inl (fun _ => 0)), .inl (ca 0, 16, .inl (fun _ => 0))]
def kX4_w : List Cond := .code kyX4 kbX4 1 none :: zTs
theorem kX4_g : GoodIn zTs kX4_w := k_good zk_158
theorem kX4_m (l : Launch) {b0 : Nat} {D : va_G} {ca : Nat → ClassId} {adK adV : Nat → Nat} {bS L : Nat} {xs : Nat → Int32} (pre : List va_E) (n : Nat) (hn : pre.length = n) : Met l kyX4 kX4_w ({ frames := 1, cells := 2, slots := 32, locals := 12 }) (va_Pc [.ref (b0 + n)] (zBw b0 D ca adK adV bS L xs (pre ++ [.inr (6, [.null, .null, .int 0])]))) (zQw b0 D (pre ++ kX4_c ca b0 n)) 2 32 (fun q => b0 ≤ q) := by
  refine zMet_of (cc := kbX4) (maxL := 1) (ret := none) (by decide) rfl ?_
  intro p e s m args below meth c s₁ B hml hv
  obtain ⟨rfl, hB, hP, hz, hO⟩ := hv
  have hx := B.exec
  have hb := B.bytes
  have hr := B.returns
  have hts2 := atoms_spec (ws := kX4_w) B.pre
  have hts : ∀ w ∈ zTs, w.before _ s = true := fun w hw => hts2 w (List.mem_cons_of_mem _ hw)
  have hown : s.vm.findClass zR_12 = some m.cls := findClass_of_methodNamed B.named
  have hlocks := B.notSynchronized
  have hin : meth.name = "<init>" := (name_of_methodNamed B.named B.method).1
  have aS : va_S (fun q => b0 ≤ q) s.heap s.heap [] := va_S.rf
  have hl := lv_entry ([.ref (b0 + n)]) (n := 1) (Nat.le_of_ble_eq_true rfl)
  rw [lg_entry_eq]
  generalize (lg_sl ([.ref (b0 + n)]) ++ List.replicate (1 - (lg_sl ([.ref (b0 + n)])).length) Slot.unset).toArray = ls at hl ⊢
  have hl : lv_has ls 1 [(0, .ref (b0 + n))] := hl
  have hP : va_P D zcl (zaw b0 0 (pre ++ [.inr (6, [.null, .null, .int 0])])) s.heap := hP
  have hz : s.heap.size = b0 + (pre ++ ([.inr (6, [.null, .null, .int 0])] : List va_E)).length := hz
  generalize hH : s.heap = H at hP hz ⊢
  have aS : va_S (fun q => b0 ≤ q) s.heap H [] := by rw [← hH]; exact aS
  refine lv_aload_n hx hb kdX4_0 rfl (lv_at hl 0 rfl) ?_
  refine W.objInit hx hb hown (hts _ zk_159) (hts _ zk_18) (hts _ zk_19) rfl (by rw [hml]; exact hl.1) rfl kdX4_1 (Nat.le_of_ble_eq_true rfl) (Nat.le_of_ble_eq_true rfl) ?_
  refine W.eq (g2 := F0 m 4 ls []) rfl ?_
  refine lv_aload_n hx hb kdX4_4 rfl (lv_at hl 0 rfl) ?_
  refine lv_bipush (v := 16) hx hb kdX4_5 (by decide) ?_
  refine zn_newa (atype := .int) (ty := .int) (N := 16) (a0 := (16, .inl (fun _ => 0))) hx hb (hts _ zk_44) rfl (zBk_cls hB).1 hP hz aS (fun cA => rfl) (by decide) (by decide) (Nat.le_of_ble_eq_true rfl) (Nat.le_of_ble_eq_true rfl) (Nat.le_of_ble_eq_true rfl) kdX4_7 (fun H hP hz aS => ?_)
  rw [List.append_assoc] at hP hz
  rw [List.length_append, hn]
  have hP : va_P D zcl (zaw b0 0 (pre ++ [.inr (6, [.null, .null, .int 0]), .inl (ca 0, 16, .inl (fun _ => 0))])) H := hP
  have hz : H.size = b0 + (pre ++ ([.inr (6, [.null, .null, .int 0]), .inl (ca 0, 16, .inl (fun _ => 0))] : List va_E)).length := hz
  refine W.eq (g2 := F0 m 9 ls [.ref (b0 + (n + 1)), .ref (b0 + (pre.length + 0))]) (by subst hn; rfl) ?_
  refine zn_putF (own := zR_12) (ref := zR_12) (C := zR_12) (T := zF_12) (N := 3) (ci := 6) (v := .ref (b0 + (n + 1))) hx hb hts zin_12t zty_12 zty_12_ok znm_12 hown hB.1 hP aS (pre.length + 0) (by rw [pre_at]; rfl) rfl 0 (by decide) (hts _ zk_160) (fun _ h9 => h9) rfl hin rfl (zty_12_ok 0 (by decide)) rfl rfl (Nat.le_of_ble_eq_true rfl) kdX4_9 (fun H1 locs hP hz1 aS => ?_)
  rw [pre_set] at hP
  have hP : va_P D zcl (zaw b0 0 (pre ++ [.inr (6, [.ref (b0 + (n + 1)), .null, .int 0]), .inl (ca 0, 16, .inl (fun _ => 0))])) H1 := hP
  have hz : H1.size = b0 + (pre ++ ([.inr (6, [.ref (b0 + (n + 1)), .null, .int 0]), .inl (ca 0, 16, .inl (fun _ => 0))] : List va_E)).length := len_eq pre _ _ b0 (hz1.trans hz) rfl
  clear hz1
  generalize H1 = H at hP hz aS ⊢
  refine lv_aload_n hx hb kdX4_12 rfl (lv_at hl 0 rfl) ?_
  refine lv_bipush (v := 16) hx hb kdX4_13 (by decide) ?_
  refine zn_newa (atype := .int) (ty := .int) (N := 16) (a0 := (16, .inl (fun _ => 0))) hx hb (hts _ zk_44) rfl (zBk_cls hB).1 hP hz aS (fun cA => rfl) (by decide) (by decide) (Nat.le_of_ble_eq_true rfl) (Nat.le_of_ble_eq_true rfl) (Nat.le_of_ble_eq_true rfl) kdX4_15 (fun H hP hz aS => ?_)
  rw [List.append_assoc] at hP hz
  rw [List.length_append, hn]
  have hP : va_P D zcl (zaw b0 0 (pre ++ [.inr (6, [.ref (b0 + (n + 1)), .null, .int 0]), .inl (ca 0, 16, .inl (fun _ => 0)), .inl (ca 0, 16, .inl (fun _ => 0))])) H := hP
  have hz : H.size = b0 + (pre ++ ([.inr (6, [.ref (b0 + (n + 1)), .null, .int 0]), .inl (ca 0, 16, .inl (fun _ => 0)), .inl (ca 0, 16, .inl (fun _ => 0))] : List va_E)).length := hz
  refine W.eq (g2 := F0 m 17 ls [.ref (b0 + (n + 2)), .ref (b0 + (pre.length + 0))]) (by subst hn; rfl) ?_
  refine zn_putF (own := zR_12) (ref := zR_12) (C := zR_12) (T := zF_12) (N := 3) (ci := 6) (v := .ref (b0 + (n + 2))) hx hb hts zin_12t zty_12 zty_12_ok znm_12 hown hB.1 hP aS (pre.length + 0) (by rw [pre_at]; rfl) rfl 1 (by decide) (hts _ zk_161) (fun _ h9 => h9) rfl hin rfl (zty_12_ok 1 (by decide)) rfl rfl (Nat.le_of_ble_eq_true rfl) kdX4_17 (fun H1 locs hP hz1 aS => ?_)
  rw [pre_set] at hP
  have hP : va_P D zcl (zaw b0 0 (pre ++ [.inr (6, [.ref (b0 + (n + 1)), .ref (b0 + (n + 2)), .int 0]), .inl (ca 0, 16, .inl (fun _ => 0)), .inl (ca 0, 16, .inl (fun _ => 0))])) H1 := hP
  have hz : H1.size = b0 + (pre ++ ([.inr (6, [.ref (b0 + (n + 1)), .ref (b0 + (n + 2)), .int 0]), .inl (ca 0, 16, .inl (fun _ => 0)), .inl (ca 0, 16, .inl (fun _ => 0))] : List va_E)).length := len_eq pre _ _ b0 (hz1.trans hz) rfl
  clear hz1
  generalize H1 = H at hP hz aS ⊢
  refine lv_aload_n hx hb kdX4_20 rfl (lv_at hl 0 rfl) ?_
  refine lv_iconst (v := 0) hx hb kdX4_21 (by decide) ?_
  refine W.eq (g2 := F0 m 22 ls [.int 0, .ref (b0 + (pre.length + 0))]) (by subst hn; rfl) ?_
  refine zn_put (own := zR_12) (ref := zR_12) (C := zR_12) (T := zF_12) (N := 3) (ci := 6) (v := .int 0) hx hb hts zin_12t zty_12 zty_12_ok znm_12 hown hB.1 hP aS (pre.length + 0) (by rw [pre_at]; rfl) rfl 2 (by decide) (hts _ zk_162) (fun _ h9 => h9) rfl (zty_12_ok 2 (by decide)) rfl rfl (Nat.le_of_ble_eq_true rfl) kdX4_22 (fun H1 locs hP hz1 aS => ?_)
  rw [pre_set] at hP
  have hP : va_P D zcl (zaw b0 0 (pre ++ [.inr (6, [.ref (b0 + (n + 1)), .ref (b0 + (n + 2)), .int 0]), .inl (ca 0, 16, .inl (fun _ => 0)), .inl (ca 0, 16, .inl (fun _ => 0))])) H1 := hP
  have hz : H1.size = b0 + (pre ++ ([.inr (6, [.ref (b0 + (n + 1)), .ref (b0 + (n + 2)), .int 0]), .inl (ca 0, 16, .inl (fun _ => 0)), .inl (ca 0, 16, .inl (fun _ => 0))] : List va_E)).length := len_eq pre _ _ b0 (hz1.trans hz) rfl
  clear hz1
  generalize H1 = H at hP hz aS ⊢
  exact W.vret hx hb hr (fun t ht hW => ⟨rfl, ⟨by rw [ht]; exact hP, by rw [ht]; exact hz⟩, aS.F ht⟩) aS.2.2 kdX4_25 hlocks
abbrev kbX0 : ByteArray := prog_2_method_1_code
def kyX0 : MethodName := ⟨zR_11, "<init>", "()V"⟩
theorem kdX0_0 : decode kbX0 0 = .ok (.aload_n 0, 1) := by decide +kernel
theorem kdX0_1 : decode kbX0 1 = .ok (.invokespecial 3, 3) := by decide +kernel
theorem kdX0_4 : decode kbX0 4 = .ok (.aload_n 0, 1) := by decide +kernel
theorem kdX0_5 : decode kbX0 5 = .ok (.new 9, 3) := by decide +kernel
theorem kdX0_8 : decode kbX0 8 = .ok (.dup, 1) := by decide +kernel
theorem kdX0_9 : decode kbX0 9 = .ok (.invokespecial 11, 3) := by decide +kernel
theorem kdX0_12 : decode kbX0 12 = .ok (.putfield 12, 3) := by decide +kernel
theorem kdX0_15 : decode kbX0 15 = .ok (.aload_n 0, 1) := by decide +kernel
theorem kdX0_16 : decode kbX0 16 = .ok (.new 9, 3) := by decide +kernel
theorem kdX0_19 : decode kbX0 19 = .ok (.dup, 1) := by decide +kernel
theorem kdX0_20 : decode kbX0 20 = .ok (.invokespecial 11, 3) := by decide +kernel
theorem kdX0_23 : decode kbX0 23 = .ok (.putfield 18, 3) := by decide +kernel
theorem kdX0_26 : decode kbX0 26 = .ok (.aload_n 0, 1) := by decide +kernel
theorem kdX0_27 : decode kbX0 27 = .ok (.iconst 0, 1) := by decide +kernel
theorem kdX0_28 : decode kbX0 28 = .ok (.putfield 21, 3) := by decide +kernel
theorem kdX0_31 : decode kbX0 31 = .ok (.aload_n 0, 1) := by decide +kernel
theorem kdX0_32 : decode kbX0 32 = .ok (.iconst 0, 1) := by decide +kernel
theorem kdX0_33 : decode kbX0 33 = .ok (.putfield 25, 3) := by decide +kernel
theorem kdX0_36 : decode kbX0 36 = .ok (.return_, 1) := by decide +kernel
def kX0_c (ca : Nat → ClassId) (b0 n : Nat) : List va_E := [.inr (5, [.ref (b0 + (n + 1)), .ref (b0 + (n + 4)), .int 0, .int 0]), .inr (6, [.ref (b0 + (n + 2)), .ref (b0 + (n + 3)), .int 0]), .inl (ca 0, 16, .inl (fun _ => 0)), .inl (ca 0, 16, .inl (fun _ => 0)), .inr (6, [.ref (b0 + (n + 5)), .ref (b0 + (n + 6)), .int 0]), .inl (ca 0, 16, .inl (fun _ => 0)), .inl (ca 0, 16, .inl (fun _ => 0))]
def kX0_w : List Cond := .code kyX0 kbX0 1 none :: zTs
theorem kX0_g : GoodIn zTs kX0_w := k_good zk_152
theorem kX0_m (l : Launch) {b0 : Nat} {D : va_G} {ca : Nat → ClassId} {adK adV : Nat → Nat} {bS L : Nat} {xs : Nat → Int32} (pre : List va_E) (n : Nat) (hn : pre.length = n) : Met l kyX0 kX0_w ({ frames := 2, cells := 6, slots := 70, locals := 32 }) (va_Pc [.ref (b0 + n)] (zBw b0 D ca adK adV bS L xs (pre ++ [.inr (5, [.null, .null, .int 0, .int 0])]))) (zQw b0 D (pre ++ kX0_c ca b0 n)) 6 70 (fun q => b0 ≤ q) := by
  refine zMet_of (cc := kbX0) (maxL := 1) (ret := none) (by decide) rfl ?_
  intro p e s m args below meth c s₁ B hml hv
  obtain ⟨rfl, hB, hP, hz, hO⟩ := hv
  have hx := B.exec
  have hb := B.bytes
  have hr := B.returns
  have hts2 := atoms_spec (ws := kX0_w) B.pre
  have hts : ∀ w ∈ zTs, w.before _ s = true := fun w hw => hts2 w (List.mem_cons_of_mem _ hw)
  have hown : s.vm.findClass zR_11 = some m.cls := findClass_of_methodNamed B.named
  have hlocks := B.notSynchronized
  have hin : meth.name = "<init>" := (name_of_methodNamed B.named B.method).1
  have aS : va_S (fun q => b0 ≤ q) s.heap s.heap [] := va_S.rf
  have hl := lv_entry ([.ref (b0 + n)]) (n := 1) (Nat.le_of_ble_eq_true rfl)
  rw [lg_entry_eq]
  generalize (lg_sl ([.ref (b0 + n)]) ++ List.replicate (1 - (lg_sl ([.ref (b0 + n)])).length) Slot.unset).toArray = ls at hl ⊢
  have hl : lv_has ls 1 [(0, .ref (b0 + n))] := hl
  have hP : va_P D zcl (zaw b0 0 (pre ++ [.inr (5, [.null, .null, .int 0, .int 0])])) s.heap := hP
  have hz : s.heap.size = b0 + (pre ++ ([.inr (5, [.null, .null, .int 0, .int 0])] : List va_E)).length := hz
  generalize hH : s.heap = H at hP hz ⊢
  have aS : va_S (fun q => b0 ≤ q) s.heap H [] := by rw [← hH]; exact aS
  refine lv_aload_n hx hb kdX0_0 rfl (lv_at hl 0 rfl) ?_
  refine W.objInit hx hb hown (hts _ zk_153) (hts _ zk_18) (hts _ zk_19) rfl (by rw [hml]; exact hl.1) rfl kdX0_1 (Nat.le_of_ble_eq_true rfl) (Nat.le_of_ble_eq_true rfl) ?_
  refine W.eq (g2 := F0 m 4 ls []) rfl ?_
  refine lv_aload_n hx hb kdX0_4 rfl (lv_at hl 0 rfl) ?_
  refine zn_new (ci := 6) (fs := [.null, .null, .int 0]) (C := zR_12) (T := zF_12) (N := 3) hx hb hts zin_12t zty_12_ok hown (hts _ zk_154) (hts _ zk_155) (hts _ zk_7) hB.1 hP hz aS rfl (fun j hj => by rcases (show j = 0 ∨ j = 1 ∨ j = 2 by omega) with rfl | rfl | rfl <;> rfl) (Nat.le_of_ble_eq_true rfl) (Nat.le_of_ble_eq_true rfl) kdX0_5 (fun H hP hz aS => ?_)
  rw [List.append_assoc] at hP hz
  rw [List.length_append, hn]
  have hP : va_P D zcl (zaw b0 0 (pre ++ [.inr (5, [.null, .null, .int 0, .int 0]), .inr (6, [.null, .null, .int 0])])) H := hP
  have hz : H.size = b0 + (pre ++ ([.inr (5, [.null, .null, .int 0, .int 0]), .inr (6, [.null, .null, .int 0])] : List va_E)).length := hz
  refine lv_dup hx hb kdX0_8 rfl ?_
  have hP2 : va_P D zcl (zaw b0 0 ((pre ++ ([.inr (5, [.null, .null, .int 0, .int 0])] : List va_E)) ++ [.inr (6, [.null, .null, .int 0])])) H := by rw [List.append_assoc]; exact hP
  have hz2 : H.size = b0 + ((pre ++ ([.inr (5, [.null, .null, .int 0, .int 0])] : List va_E)) ++ [(.inr (6, [.null, .null, .int 0]) : va_E)]).length := by rw [List.append_assoc]; exact hz
  refine zbackw (es := (pre ++ ([.inr (5, [.null, .null, .int 0, .int 0])] : List va_E)) ++ kX4_c ca b0 (n + 1)) (va_runIN (host := "FrameDeltas") (As := []) (rest := [.ref (b0 + (n + 1)), .ref (b0 + (n + 0))]) ⟨hx, hb, hml, hown, hts⟩ (kX4_m l (b0 := b0) (D := D) (ca := ca) (adK := adK) (adV := adV) (bS := bS) (L := L) (xs := xs) (pre ++ ([.inr (5, [.null, .null, .int 0, .int 0])] : List va_E)) (n + 1) (by rw [List.length_append, hn]; rfl)) ⟨va_cnB 0 hts (kX4_g) rfl rfl rfl (hB.2.2.2 _ zk_156) (hts _ zk_7) ⟨by decide, by decide, rfl⟩ ⟨Nat.le_of_ble_eq_true rfl, Nat.le_of_ble_eq_true rfl⟩, rfl, hts _ zk_157⟩ (zPrew hB hP2 hz2 aS hO) rfl rfl hl.1 rfl (lv_room (Nat.le_of_ble_eq_true rfl)) kdX0_9 ⟨Nat.le_of_ble_eq_true rfl, Nat.le_of_ble_eq_true rfl⟩) aS (fun H locs hP hz aS => ?_)
  rw [List.append_assoc] at hP hz
  have hP : va_P D zcl (zaw b0 0 (pre ++ [.inr (5, [.null, .null, .int 0, .int 0]), .inr (6, [.ref (b0 + (n + 2)), .ref (b0 + (n + 3)), .int 0]), .inl (ca 0, 16, .inl (fun _ => 0)), .inl (ca 0, 16, .inl (fun _ => 0))])) H := hP
  have hz : H.size = b0 + (pre ++ ([.inr (5, [.null, .null, .int 0, .int 0]), .inr (6, [.ref (b0 + (n + 2)), .ref (b0 + (n + 3)), .int 0]), .inl (ca 0, 16, .inl (fun _ => 0)), .inl (ca 0, 16, .inl (fun _ => 0))] : List va_E)).length := hz
  refine W.eq (g2 := F0 m 12 ls [.ref (b0 + (n + 1)), .ref (b0 + (pre.length + 0))]) (by subst hn; rfl) ?_
  refine zn_putF (own := zR_11) (ref := zR_11) (C := zR_11) (T := zF_11) (N := 4) (ci := 5) (v := .ref (b0 + (n + 1))) hx hb hts zin_11t zty_11 zty_11_ok znm_11 hown hB.1 hP aS (pre.length + 0) (by rw [pre_at]; rfl) rfl 0 (by decide) (hts _ zk_171) (fun _ h9 => h9) rfl hin rfl (zty_11_ok 0 (by decide)) rfl rfl (Nat.le_of_ble_eq_true rfl) kdX0_12 (fun H1 locs hP hz1 aS => ?_)
  rw [pre_set] at hP
  have hP : va_P D zcl (zaw b0 0 (pre ++ [.inr (5, [.ref (b0 + (n + 1)), .null, .int 0, .int 0]), .inr (6, [.ref (b0 + (n + 2)), .ref (b0 + (n + 3)), .int 0]), .inl (ca 0, 16, .inl (fun _ => 0)), .inl (ca 0, 16, .inl (fun _ => 0))])) H1 := hP
  have hz : H1.size = b0 + (pre ++ ([.inr (5, [.ref (b0 + (n + 1)), .null, .int 0, .int 0]), .inr (6, [.ref (b0 + (n + 2)), .ref (b0 + (n + 3)), .int 0]), .inl (ca 0, 16, .inl (fun _ => 0)), .inl (ca 0, 16, .inl (fun _ => 0))] : List va_E)).length := len_eq pre _ _ b0 (hz1.trans hz) rfl
  clear hz1
  generalize H1 = H at hP hz aS ⊢
  refine lv_aload_n hx hb kdX0_15 rfl (lv_at hl 0 rfl) ?_
  refine zn_new (ci := 6) (fs := [.null, .null, .int 0]) (C := zR_12) (T := zF_12) (N := 3) hx hb hts zin_12t zty_12_ok hown (hts _ zk_154) (hts _ zk_155) (hts _ zk_7) hB.1 hP hz aS rfl (fun j hj => by rcases (show j = 0 ∨ j = 1 ∨ j = 2 by omega) with rfl | rfl | rfl <;> rfl) (Nat.le_of_ble_eq_true rfl) (Nat.le_of_ble_eq_true rfl) kdX0_16 (fun H hP hz aS => ?_)
  rw [List.append_assoc] at hP hz
  rw [List.length_append, hn]
  have hP : va_P D zcl (zaw b0 0 (pre ++ [.inr (5, [.ref (b0 + (n + 1)), .null, .int 0, .int 0]), .inr (6, [.ref (b0 + (n + 2)), .ref (b0 + (n + 3)), .int 0]), .inl (ca 0, 16, .inl (fun _ => 0)), .inl (ca 0, 16, .inl (fun _ => 0)), .inr (6, [.null, .null, .int 0])])) H := hP
  have hz : H.size = b0 + (pre ++ ([.inr (5, [.ref (b0 + (n + 1)), .null, .int 0, .int 0]), .inr (6, [.ref (b0 + (n + 2)), .ref (b0 + (n + 3)), .int 0]), .inl (ca 0, 16, .inl (fun _ => 0)), .inl (ca 0, 16, .inl (fun _ => 0)), .inr (6, [.null, .null, .int 0])] : List va_E)).length := hz
  refine lv_dup hx hb kdX0_19 rfl ?_
  have hP2 : va_P D zcl (zaw b0 0 ((pre ++ ([.inr (5, [.ref (b0 + (n + 1)), .null, .int 0, .int 0]), .inr (6, [.ref (b0 + (n + 2)), .ref (b0 + (n + 3)), .int 0]), .inl (ca 0, 16, .inl (fun _ => 0)), .inl (ca 0, 16, .inl (fun _ => 0))] : List va_E)) ++ [.inr (6, [.null, .null, .int 0])])) H := by rw [List.append_assoc]; exact hP
  have hz2 : H.size = b0 + ((pre ++ ([.inr (5, [.ref (b0 + (n + 1)), .null, .int 0, .int 0]), .inr (6, [.ref (b0 + (n + 2)), .ref (b0 + (n + 3)), .int 0]), .inl (ca 0, 16, .inl (fun _ => 0)), .inl (ca 0, 16, .inl (fun _ => 0))] : List va_E)) ++ [(.inr (6, [.null, .null, .int 0]) : va_E)]).length := by rw [List.append_assoc]; exact hz
  refine zbackw (es := (pre ++ ([.inr (5, [.ref (b0 + (n + 1)), .null, .int 0, .int 0]), .inr (6, [.ref (b0 + (n + 2)), .ref (b0 + (n + 3)), .int 0]), .inl (ca 0, 16, .inl (fun _ => 0)), .inl (ca 0, 16, .inl (fun _ => 0))] : List va_E)) ++ kX4_c ca b0 (n + 4)) (va_runIN (host := "FrameDeltas") (As := []) (rest := [.ref (b0 + (n + 4)), .ref (b0 + (n + 0))]) ⟨hx, hb, hml, hown, hts⟩ (kX4_m l (b0 := b0) (D := D) (ca := ca) (adK := adK) (adV := adV) (bS := bS) (L := L) (xs := xs) (pre ++ ([.inr (5, [.ref (b0 + (n + 1)), .null, .int 0, .int 0]), .inr (6, [.ref (b0 + (n + 2)), .ref (b0 + (n + 3)), .int 0]), .inl (ca 0, 16, .inl (fun _ => 0)), .inl (ca 0, 16, .inl (fun _ => 0))] : List va_E)) (n + 4) (by rw [List.length_append, hn]; rfl)) ⟨va_cnB 0 hts (kX4_g) rfl rfl rfl (hB.2.2.2 _ zk_156) (hts _ zk_7) ⟨by decide, by decide, rfl⟩ ⟨Nat.le_of_ble_eq_true rfl, Nat.le_of_ble_eq_true rfl⟩, rfl, hts _ zk_157⟩ (zPrew hB hP2 hz2 aS hO) rfl rfl hl.1 rfl (lv_room (Nat.le_of_ble_eq_true rfl)) kdX0_20 ⟨Nat.le_of_ble_eq_true rfl, Nat.le_of_ble_eq_true rfl⟩) aS (fun H locs hP hz aS => ?_)
  rw [List.append_assoc] at hP hz
  have hP : va_P D zcl (zaw b0 0 (pre ++ [.inr (5, [.ref (b0 + (n + 1)), .null, .int 0, .int 0]), .inr (6, [.ref (b0 + (n + 2)), .ref (b0 + (n + 3)), .int 0]), .inl (ca 0, 16, .inl (fun _ => 0)), .inl (ca 0, 16, .inl (fun _ => 0)), .inr (6, [.ref (b0 + (n + 5)), .ref (b0 + (n + 6)), .int 0]), .inl (ca 0, 16, .inl (fun _ => 0)), .inl (ca 0, 16, .inl (fun _ => 0))])) H := hP
  have hz : H.size = b0 + (pre ++ ([.inr (5, [.ref (b0 + (n + 1)), .null, .int 0, .int 0]), .inr (6, [.ref (b0 + (n + 2)), .ref (b0 + (n + 3)), .int 0]), .inl (ca 0, 16, .inl (fun _ => 0)), .inl (ca 0, 16, .inl (fun _ => 0)), .inr (6, [.ref (b0 + (n + 5)), .ref (b0 + (n + 6)), .int 0]), .inl (ca 0, 16, .inl (fun _ => 0)), .inl (ca 0, 16, .inl (fun _ => 0))] : List va_E)).length := hz
  refine W.eq (g2 := F0 m 23 ls [.ref (b0 + (n + 4)), .ref (b0 + (pre.length + 0))]) (by subst hn; rfl) ?_
  refine zn_putF (own := zR_11) (ref := zR_11) (C := zR_11) (T := zF_11) (N := 4) (ci := 5) (v := .ref (b0 + (n + 4))) hx hb hts zin_11t zty_11 zty_11_ok znm_11 hown hB.1 hP aS (pre.length + 0) (by rw [pre_at]; rfl) rfl 1 (by decide) (hts _ zk_172) (fun _ h9 => h9) rfl hin rfl (zty_11_ok 1 (by decide)) rfl rfl (Nat.le_of_ble_eq_true rfl) kdX0_23 (fun H1 locs hP hz1 aS => ?_)
  rw [pre_set] at hP
  have hP : va_P D zcl (zaw b0 0 (pre ++ [.inr (5, [.ref (b0 + (n + 1)), .ref (b0 + (n + 4)), .int 0, .int 0]), .inr (6, [.ref (b0 + (n + 2)), .ref (b0 + (n + 3)), .int 0]), .inl (ca 0, 16, .inl (fun _ => 0)), .inl (ca 0, 16, .inl (fun _ => 0)), .inr (6, [.ref (b0 + (n + 5)), .ref (b0 + (n + 6)), .int 0]), .inl (ca 0, 16, .inl (fun _ => 0)), .inl (ca 0, 16, .inl (fun _ => 0))])) H1 := hP
  have hz : H1.size = b0 + (pre ++ ([.inr (5, [.ref (b0 + (n + 1)), .ref (b0 + (n + 4)), .int 0, .int 0]), .inr (6, [.ref (b0 + (n + 2)), .ref (b0 + (n + 3)), .int 0]), .inl (ca 0, 16, .inl (fun _ => 0)), .inl (ca 0, 16, .inl (fun _ => 0)), .inr (6, [.ref (b0 + (n + 5)), .ref (b0 + (n + 6)), .int 0]), .inl (ca 0, 16, .inl (fun _ => 0)), .inl (ca 0, 16, .inl (fun _ => 0))] : List va_E)).length := len_eq pre _ _ b0 (hz1.trans hz) rfl
  clear hz1
  generalize H1 = H at hP hz aS ⊢
  refine lv_aload_n hx hb kdX0_26 rfl (lv_at hl 0 rfl) ?_
  refine lv_iconst (v := 0) hx hb kdX0_27 (by decide) ?_
  refine W.eq (g2 := F0 m 28 ls [.int 0, .ref (b0 + (pre.length + 0))]) (by subst hn; rfl) ?_
  refine zn_put (own := zR_11) (ref := zR_11) (C := zR_11) (T := zF_11) (N := 4) (ci := 5) (v := .int 0) hx hb hts zin_11t zty_11 zty_11_ok znm_11 hown hB.1 hP aS (pre.length + 0) (by rw [pre_at]; rfl) rfl 2 (by decide) (hts _ zk_173) (fun _ h9 => h9) rfl (zty_11_ok 2 (by decide)) rfl rfl (Nat.le_of_ble_eq_true rfl) kdX0_28 (fun H1 locs hP hz1 aS => ?_)
  rw [pre_set] at hP
  have hP : va_P D zcl (zaw b0 0 (pre ++ [.inr (5, [.ref (b0 + (n + 1)), .ref (b0 + (n + 4)), .int 0, .int 0]), .inr (6, [.ref (b0 + (n + 2)), .ref (b0 + (n + 3)), .int 0]), .inl (ca 0, 16, .inl (fun _ => 0)), .inl (ca 0, 16, .inl (fun _ => 0)), .inr (6, [.ref (b0 + (n + 5)), .ref (b0 + (n + 6)), .int 0]), .inl (ca 0, 16, .inl (fun _ => 0)), .inl (ca 0, 16, .inl (fun _ => 0))])) H1 := hP
  have hz : H1.size = b0 + (pre ++ ([.inr (5, [.ref (b0 + (n + 1)), .ref (b0 + (n + 4)), .int 0, .int 0]), .inr (6, [.ref (b0 + (n + 2)), .ref (b0 + (n + 3)), .int 0]), .inl (ca 0, 16, .inl (fun _ => 0)), .inl (ca 0, 16, .inl (fun _ => 0)), .inr (6, [.ref (b0 + (n + 5)), .ref (b0 + (n + 6)), .int 0]), .inl (ca 0, 16, .inl (fun _ => 0)), .inl (ca 0, 16, .inl (fun _ => 0))] : List va_E)).length := len_eq pre _ _ b0 (hz1.trans hz) rfl
  clear hz1
  generalize H1 = H at hP hz aS ⊢
  refine lv_aload_n hx hb kdX0_31 rfl (lv_at hl 0 rfl) ?_
  refine lv_iconst (v := 0) hx hb kdX0_32 (by decide) ?_
  refine W.eq (g2 := F0 m 33 ls [.int 0, .ref (b0 + (pre.length + 0))]) (by subst hn; rfl) ?_
  refine zn_put (own := zR_11) (ref := zR_11) (C := zR_11) (T := zF_11) (N := 4) (ci := 5) (v := .int 0) hx hb hts zin_11t zty_11 zty_11_ok znm_11 hown hB.1 hP aS (pre.length + 0) (by rw [pre_at]; rfl) rfl 3 (by decide) (hts _ zk_174) (fun _ h9 => h9) rfl (zty_11_ok 3 (by decide)) rfl rfl (Nat.le_of_ble_eq_true rfl) kdX0_33 (fun H1 locs hP hz1 aS => ?_)
  rw [pre_set] at hP
  have hP : va_P D zcl (zaw b0 0 (pre ++ [.inr (5, [.ref (b0 + (n + 1)), .ref (b0 + (n + 4)), .int 0, .int 0]), .inr (6, [.ref (b0 + (n + 2)), .ref (b0 + (n + 3)), .int 0]), .inl (ca 0, 16, .inl (fun _ => 0)), .inl (ca 0, 16, .inl (fun _ => 0)), .inr (6, [.ref (b0 + (n + 5)), .ref (b0 + (n + 6)), .int 0]), .inl (ca 0, 16, .inl (fun _ => 0)), .inl (ca 0, 16, .inl (fun _ => 0))])) H1 := hP
  have hz : H1.size = b0 + (pre ++ ([.inr (5, [.ref (b0 + (n + 1)), .ref (b0 + (n + 4)), .int 0, .int 0]), .inr (6, [.ref (b0 + (n + 2)), .ref (b0 + (n + 3)), .int 0]), .inl (ca 0, 16, .inl (fun _ => 0)), .inl (ca 0, 16, .inl (fun _ => 0)), .inr (6, [.ref (b0 + (n + 5)), .ref (b0 + (n + 6)), .int 0]), .inl (ca 0, 16, .inl (fun _ => 0)), .inl (ca 0, 16, .inl (fun _ => 0))] : List va_E)).length := len_eq pre _ _ b0 (hz1.trans hz) rfl
  clear hz1
  generalize H1 = H at hP hz aS ⊢
  exact W.vret hx hb hr (fun t ht hW => ⟨rfl, ⟨by rw [ht]; exact hP, by rw [ht]; exact hz⟩, aS.F ht⟩) aS.2.2 kdX0_36 hlocks
abbrev kbX3 : ByteArray := prog_5_method_1_code
def kyX3 : MethodName := ⟨zR_15, "<init>", "()V"⟩
theorem kdX3_0 : decode kbX3 0 = .ok (.aload_n 0, 1) := by decide +kernel
theorem kdX3_1 : decode kbX3 1 = .ok (.invokespecial 3, 3) := by decide +kernel
theorem kdX3_4 : decode kbX3 4 = .ok (.aload_n 0, 1) := by decide +kernel
theorem kdX3_5 : decode kbX3 5 = .ok (.bipush 10, 2) := by decide +kernel
theorem kdX3_7 : decode kbX3 7 = .ok (.newarray .int, 2) := by decide +kernel
theorem kdX3_9 : decode kbX3 9 = .ok (.putfield 9, 3) := by decide +kernel
theorem kdX3_12 : decode kbX3 12 = .ok (.aload_n 0, 1) := by decide +kernel
theorem kdX3_13 : decode kbX3 13 = .ok (.bipush 10, 2) := by decide +kernel
theorem kdX3_15 : decode kbX3 15 = .ok (.newarray .int, 2) := by decide +kernel
theorem kdX3_17 : decode kbX3 17 = .ok (.putfield 15, 3) := by decide +kernel
theorem kdX3_20 : decode kbX3 20 = .ok (.aload_n 0, 1) := by decide +kernel
theorem kdX3_21 : decode kbX3 21 = .ok (.iconst 0, 1) := by decide +kernel
theorem kdX3_22 : decode kbX3 22 = .ok (.putfield 18, 3) := by decide +kernel
theorem kdX3_25 : decode kbX3 25 = .ok (.aload_n 0, 1) := by decide +kernel
theorem kdX3_26 : decode kbX3 26 = .ok (.iconst 0, 1) := by decide +kernel
theorem kdX3_27 : decode kbX3 27 = .ok (.putfield 22, 3) := by decide +kernel
theorem kdX3_30 : decode kbX3 30 = .ok (.return_, 1) := by decide +kernel
def kX3_c (ca : Nat → ClassId) (b0 n : Nat) : List va_E := [.inr (7, [.ref (b0 + (n + 1)), .ref (b0 + (n + 2)), .int 0, .int 0]), .inl (ca 0, 10, .inl (fun _ => 0)), .inl (ca 0, 10, .inl (fun _ => 0))]
def kX3_w : List Cond := .code kyX3 kbX3 1 none :: zTs
theorem kX3_g : GoodIn zTs kX3_w := k_good zk_188
theorem kX3_m (l : Launch) {b0 : Nat} {D : va_G} {ca : Nat → ClassId} {adK adV : Nat → Nat} {bS L : Nat} {xs : Nat → Int32} (pre : List va_E) (n : Nat) (hn : pre.length = n) : Met l kyX3 kX3_w ({ frames := 1, cells := 2, slots := 20, locals := 12 }) (va_Pc [.ref (b0 + n)] (zBw b0 D ca adK adV bS L xs (pre ++ [.inr (7, [.null, .null, .int 0, .int 0])]))) (zQw b0 D (pre ++ kX3_c ca b0 n)) 2 20 (fun q => b0 ≤ q) := by
  refine zMet_of (cc := kbX3) (maxL := 1) (ret := none) (by decide) rfl ?_
  intro p e s m args below meth c s₁ B hml hv
  obtain ⟨rfl, hB, hP, hz, hO⟩ := hv
  have hx := B.exec
  have hb := B.bytes
  have hr := B.returns
  have hts2 := atoms_spec (ws := kX3_w) B.pre
  have hts : ∀ w ∈ zTs, w.before _ s = true := fun w hw => hts2 w (List.mem_cons_of_mem _ hw)
  have hown : s.vm.findClass zR_15 = some m.cls := findClass_of_methodNamed B.named
  have hlocks := B.notSynchronized
  have hin : meth.name = "<init>" := (name_of_methodNamed B.named B.method).1
  have aS : va_S (fun q => b0 ≤ q) s.heap s.heap [] := va_S.rf
  have hl := lv_entry ([.ref (b0 + n)]) (n := 1) (Nat.le_of_ble_eq_true rfl)
  rw [lg_entry_eq]
  generalize (lg_sl ([.ref (b0 + n)]) ++ List.replicate (1 - (lg_sl ([.ref (b0 + n)])).length) Slot.unset).toArray = ls at hl ⊢
  have hl : lv_has ls 1 [(0, .ref (b0 + n))] := hl
  have hP : va_P D zcl (zaw b0 0 (pre ++ [.inr (7, [.null, .null, .int 0, .int 0])])) s.heap := hP
  have hz : s.heap.size = b0 + (pre ++ ([.inr (7, [.null, .null, .int 0, .int 0])] : List va_E)).length := hz
  generalize hH : s.heap = H at hP hz ⊢
  have aS : va_S (fun q => b0 ≤ q) s.heap H [] := by rw [← hH]; exact aS
  refine lv_aload_n hx hb kdX3_0 rfl (lv_at hl 0 rfl) ?_
  refine W.objInit hx hb hown (hts _ zk_189) (hts _ zk_18) (hts _ zk_19) rfl (by rw [hml]; exact hl.1) rfl kdX3_1 (Nat.le_of_ble_eq_true rfl) (Nat.le_of_ble_eq_true rfl) ?_
  refine W.eq (g2 := F0 m 4 ls []) rfl ?_
  refine lv_aload_n hx hb kdX3_4 rfl (lv_at hl 0 rfl) ?_
  refine lv_bipush (v := 10) hx hb kdX3_5 (by decide) ?_
  refine zn_newa (atype := .int) (ty := .int) (N := 10) (a0 := (10, .inl (fun _ => 0))) hx hb (hts _ zk_44) rfl (zBk_cls hB).1 hP hz aS (fun cA => rfl) (by decide) (by decide) (Nat.le_of_ble_eq_true rfl) (Nat.le_of_ble_eq_true rfl) (Nat.le_of_ble_eq_true rfl) kdX3_7 (fun H hP hz aS => ?_)
  rw [List.append_assoc] at hP hz
  rw [List.length_append, hn]
  have hP : va_P D zcl (zaw b0 0 (pre ++ [.inr (7, [.null, .null, .int 0, .int 0]), .inl (ca 0, 10, .inl (fun _ => 0))])) H := hP
  have hz : H.size = b0 + (pre ++ ([.inr (7, [.null, .null, .int 0, .int 0]), .inl (ca 0, 10, .inl (fun _ => 0))] : List va_E)).length := hz
  refine W.eq (g2 := F0 m 9 ls [.ref (b0 + (n + 1)), .ref (b0 + (pre.length + 0))]) (by subst hn; rfl) ?_
  refine zn_putF (own := zR_15) (ref := zR_15) (C := zR_15) (T := zF_15) (N := 4) (ci := 7) (v := .ref (b0 + (n + 1))) hx hb hts zin_15t zty_15 zty_15_ok znm_15 hown hB.1 hP aS (pre.length + 0) (by rw [pre_at]; rfl) rfl 0 (by decide) (hts _ zk_190) (fun _ h9 => h9) rfl hin rfl (zty_15_ok 0 (by decide)) rfl rfl (Nat.le_of_ble_eq_true rfl) kdX3_9 (fun H1 locs hP hz1 aS => ?_)
  rw [pre_set] at hP
  have hP : va_P D zcl (zaw b0 0 (pre ++ [.inr (7, [.ref (b0 + (n + 1)), .null, .int 0, .int 0]), .inl (ca 0, 10, .inl (fun _ => 0))])) H1 := hP
  have hz : H1.size = b0 + (pre ++ ([.inr (7, [.ref (b0 + (n + 1)), .null, .int 0, .int 0]), .inl (ca 0, 10, .inl (fun _ => 0))] : List va_E)).length := len_eq pre _ _ b0 (hz1.trans hz) rfl
  clear hz1
  generalize H1 = H at hP hz aS ⊢
  refine lv_aload_n hx hb kdX3_12 rfl (lv_at hl 0 rfl) ?_
  refine lv_bipush (v := 10) hx hb kdX3_13 (by decide) ?_
  refine zn_newa (atype := .int) (ty := .int) (N := 10) (a0 := (10, .inl (fun _ => 0))) hx hb (hts _ zk_44) rfl (zBk_cls hB).1 hP hz aS (fun cA => rfl) (by decide) (by decide) (Nat.le_of_ble_eq_true rfl) (Nat.le_of_ble_eq_true rfl) (Nat.le_of_ble_eq_true rfl) kdX3_15 (fun H hP hz aS => ?_)
  rw [List.append_assoc] at hP hz
  rw [List.length_append, hn]
  have hP : va_P D zcl (zaw b0 0 (pre ++ [.inr (7, [.ref (b0 + (n + 1)), .null, .int 0, .int 0]), .inl (ca 0, 10, .inl (fun _ => 0)), .inl (ca 0, 10, .inl (fun _ => 0))])) H := hP
  have hz : H.size = b0 + (pre ++ ([.inr (7, [.ref (b0 + (n + 1)), .null, .int 0, .int 0]), .inl (ca 0, 10, .inl (fun _ => 0)), .inl (ca 0, 10, .inl (fun _ => 0))] : List va_E)).length := hz
  refine W.eq (g2 := F0 m 17 ls [.ref (b0 + (n + 2)), .ref (b0 + (pre.length + 0))]) (by subst hn; rfl) ?_
  refine zn_putF (own := zR_15) (ref := zR_15) (C := zR_15) (T := zF_15) (N := 4) (ci := 7) (v := .ref (b0 + (n + 2))) hx hb hts zin_15t zty_15 zty_15_ok znm_15 hown hB.1 hP aS (pre.length + 0) (by rw [pre_at]; rfl) rfl 1 (by decide) (hts _ zk_191) (fun _ h9 => h9) rfl hin rfl (zty_15_ok 1 (by decide)) rfl rfl (Nat.le_of_ble_eq_true rfl) kdX3_17 (fun H1 locs hP hz1 aS => ?_)
  rw [pre_set] at hP
  have hP : va_P D zcl (zaw b0 0 (pre ++ [.inr (7, [.ref (b0 + (n + 1)), .ref (b0 + (n + 2)), .int 0, .int 0]), .inl (ca 0, 10, .inl (fun _ => 0)), .inl (ca 0, 10, .inl (fun _ => 0))])) H1 := hP
  have hz : H1.size = b0 + (pre ++ ([.inr (7, [.ref (b0 + (n + 1)), .ref (b0 + (n + 2)), .int 0, .int 0]), .inl (ca 0, 10, .inl (fun _ => 0)), .inl (ca 0, 10, .inl (fun _ => 0))] : List va_E)).length := len_eq pre _ _ b0 (hz1.trans hz) rfl
  clear hz1
  generalize H1 = H at hP hz aS ⊢
  refine lv_aload_n hx hb kdX3_20 rfl (lv_at hl 0 rfl) ?_
  refine lv_iconst (v := 0) hx hb kdX3_21 (by decide) ?_
  refine W.eq (g2 := F0 m 22 ls [.int 0, .ref (b0 + (pre.length + 0))]) (by subst hn; rfl) ?_
  refine zn_put (own := zR_15) (ref := zR_15) (C := zR_15) (T := zF_15) (N := 4) (ci := 7) (v := .int 0) hx hb hts zin_15t zty_15 zty_15_ok znm_15 hown hB.1 hP aS (pre.length + 0) (by rw [pre_at]; rfl) rfl 2 (by decide) (hts _ zk_192) (fun _ h9 => h9) rfl (zty_15_ok 2 (by decide)) rfl rfl (Nat.le_of_ble_eq_true rfl) kdX3_22 (fun H1 locs hP hz1 aS => ?_)
  rw [pre_set] at hP
  have hP : va_P D zcl (zaw b0 0 (pre ++ [.inr (7, [.ref (b0 + (n + 1)), .ref (b0 + (n + 2)), .int 0, .int 0]), .inl (ca 0, 10, .inl (fun _ => 0)), .inl (ca 0, 10, .inl (fun _ => 0))])) H1 := hP
  have hz : H1.size = b0 + (pre ++ ([.inr (7, [.ref (b0 + (n + 1)), .ref (b0 + (n + 2)), .int 0, .int 0]), .inl (ca 0, 10, .inl (fun _ => 0)), .inl (ca 0, 10, .inl (fun _ => 0))] : List va_E)).length := len_eq pre _ _ b0 (hz1.trans hz) rfl
  clear hz1
  generalize H1 = H at hP hz aS ⊢
  refine lv_aload_n hx hb kdX3_25 rfl (lv_at hl 0 rfl) ?_
  refine lv_iconst (v := 0) hx hb kdX3_26 (by decide) ?_
  refine W.eq (g2 := F0 m 27 ls [.int 0, .ref (b0 + (pre.length + 0))]) (by subst hn; rfl) ?_
  refine zn_put (own := zR_15) (ref := zR_15) (C := zR_15) (T := zF_15) (N := 4) (ci := 7) (v := .int 0) hx hb hts zin_15t zty_15 zty_15_ok znm_15 hown hB.1 hP aS (pre.length + 0) (by rw [pre_at]; rfl) rfl 3 (by decide) (hts _ zk_194) (fun _ h9 => h9) rfl (zty_15_ok 3 (by decide)) rfl rfl (Nat.le_of_ble_eq_true rfl) kdX3_27 (fun H1 locs hP hz1 aS => ?_)
  rw [pre_set] at hP
  have hP : va_P D zcl (zaw b0 0 (pre ++ [.inr (7, [.ref (b0 + (n + 1)), .ref (b0 + (n + 2)), .int 0, .int 0]), .inl (ca 0, 10, .inl (fun _ => 0)), .inl (ca 0, 10, .inl (fun _ => 0))])) H1 := hP
  have hz : H1.size = b0 + (pre ++ ([.inr (7, [.ref (b0 + (n + 1)), .ref (b0 + (n + 2)), .int 0, .int 0]), .inl (ca 0, 10, .inl (fun _ => 0)), .inl (ca 0, 10, .inl (fun _ => 0))] : List va_E)).length := len_eq pre _ _ b0 (hz1.trans hz) rfl
  clear hz1
  generalize H1 = H at hP hz aS ⊢
  exact W.vret hx hb hr (fun t ht hW => ⟨rfl, ⟨by rw [ht]; exact hP, by rw [ht]; exact hz⟩, aS.F ht⟩) aS.2.2 kdX3_30 hlocks
abbrev kbX5 : ByteArray := prog_7_method_1_code
def kyX5 : MethodName := ⟨zR_8, "<init>", "()V"⟩
theorem kdX5_0 : decode kbX5 0 = .ok (.aload_n 0, 1) := by decide +kernel
theorem kdX5_1 : decode kbX5 1 = .ok (.invokespecial 3, 3) := by decide +kernel
theorem kdX5_4 : decode kbX5 4 = .ok (.aload_n 0, 1) := by decide +kernel
theorem kdX5_5 : decode kbX5 5 = .ok (.sipush 160, 3) := by decide +kernel
theorem kdX5_8 : decode kbX5 8 = .ok (.newarray .char, 2) := by decide +kernel
theorem kdX5_10 : decode kbX5 10 = .ok (.putfield 9, 3) := by decide +kernel
theorem kdX5_13 : decode kbX5 13 = .ok (.aload_n 0, 1) := by decide +kernel
theorem kdX5_14 : decode kbX5 14 = .ok (.iconst 0, 1) := by decide +kernel
theorem kdX5_15 : decode kbX5 15 = .ok (.putfield 15, 3) := by decide +kernel
theorem kdX5_18 : decode kbX5 18 = .ok (.aload_n 0, 1) := by decide +kernel
theorem kdX5_19 : decode kbX5 19 = .ok (.iconst 0, 1) := by decide +kernel
theorem kdX5_20 : decode kbX5 20 = .ok (.putfield 19, 3) := by decide +kernel
theorem kdX5_23 : decode kbX5 23 = .ok (.aload_n 0, 1) := by decide +kernel
theorem kdX5_24 : decode kbX5 24 = .ok (.iconst 0, 1) := by decide +kernel
theorem kdX5_25 : decode kbX5 25 = .ok (.putfield 22, 3) := by decide +kernel
theorem kdX5_28 : decode kbX5 28 = .ok (.aload_n 0, 1) := by decide +kernel
theorem kdX5_29 : decode kbX5 29 = .ok (.iconst 0, 1) := by decide +kernel
theorem kdX5_30 : decode kbX5 30 = .ok (.putfield 25, 3) := by decide +kernel
theorem kdX5_33 : decode kbX5 33 = .ok (.aload_n 0, 1) := by decide +kernel
theorem kdX5_34 : decode kbX5 34 = .ok (.iconst 0, 1) := by decide +kernel
theorem kdX5_35 : decode kbX5 35 = .ok (.putfield 28, 3) := by decide +kernel
theorem kdX5_38 : decode kbX5 38 = .ok (.aload_n 0, 1) := by decide +kernel
theorem kdX5_39 : decode kbX5 39 = .ok (.sipush 160, 3) := by decide +kernel
theorem kdX5_42 : decode kbX5 42 = .ok (.newarray .int, 2) := by decide +kernel
theorem kdX5_44 : decode kbX5 44 = .ok (.putfield 31, 3) := by decide +kernel
theorem kdX5_47 : decode kbX5 47 = .ok (.aload_n 0, 1) := by decide +kernel
theorem kdX5_48 : decode kbX5 48 = .ok (.iconst 0, 1) := by decide +kernel
theorem kdX5_49 : decode kbX5 49 = .ok (.putfield 35, 3) := by decide +kernel
theorem kdX5_52 : decode kbX5 52 = .ok (.return_, 1) := by decide +kernel
def kX5_c (ca : Nat → ClassId) (b0 n : Nat) : List va_E := [.inr (4, [.ref (b0 + (n + 1)), .int 0, .int 0, .int 0, .int 0, .int 0, .ref (b0 + (n + 2)), .int 0]), .inl (ca 1, 160, .inl (fun _ => 0)), .inl (ca 0, 160, .inl (fun _ => 0))]
def kX5_w : List Cond := .code kyX5 kbX5 1 none :: zTs
theorem kX5_g : GoodIn zTs kX5_w := k_good zk_119
theorem kX5_m (l : Launch) {b0 : Nat} {D : va_G} {ca : Nat → ClassId} {adK adV : Nat → Nat} {bS L : Nat} {xs : Nat → Int32} (pre : List va_E) (n : Nat) (hn : pre.length = n) : Met l kyX5 kX5_w ({ frames := 1, cells := 2, slots := 320, locals := 12 }) (va_Pc [.ref (b0 + n)] (zBw b0 D ca adK adV bS L xs (pre ++ [.inr (4, [.null, .int 0, .int 0, .int 0, .int 0, .int 0, .null, .int 0])]))) (zQw b0 D (pre ++ kX5_c ca b0 n)) 2 320 (fun q => b0 ≤ q) := by
  refine zMet_of (cc := kbX5) (maxL := 1) (ret := none) (by decide) rfl ?_
  intro p e s m args below meth c s₁ B hml hv
  obtain ⟨rfl, hB, hP, hz, hO⟩ := hv
  have hx := B.exec
  have hb := B.bytes
  have hr := B.returns
  have hts2 := atoms_spec (ws := kX5_w) B.pre
  have hts : ∀ w ∈ zTs, w.before _ s = true := fun w hw => hts2 w (List.mem_cons_of_mem _ hw)
  have hown : s.vm.findClass zR_8 = some m.cls := findClass_of_methodNamed B.named
  have hlocks := B.notSynchronized
  have hin : meth.name = "<init>" := (name_of_methodNamed B.named B.method).1
  have aS : va_S (fun q => b0 ≤ q) s.heap s.heap [] := va_S.rf
  have hl := lv_entry ([.ref (b0 + n)]) (n := 1) (Nat.le_of_ble_eq_true rfl)
  rw [lg_entry_eq]
  generalize (lg_sl ([.ref (b0 + n)]) ++ List.replicate (1 - (lg_sl ([.ref (b0 + n)])).length) Slot.unset).toArray = ls at hl ⊢
  have hl : lv_has ls 1 [(0, .ref (b0 + n))] := hl
  have hP : va_P D zcl (zaw b0 0 (pre ++ [.inr (4, [.null, .int 0, .int 0, .int 0, .int 0, .int 0, .null, .int 0])])) s.heap := hP
  have hz : s.heap.size = b0 + (pre ++ ([.inr (4, [.null, .int 0, .int 0, .int 0, .int 0, .int 0, .null, .int 0])] : List va_E)).length := hz
  generalize hH : s.heap = H at hP hz ⊢
  have aS : va_S (fun q => b0 ≤ q) s.heap H [] := by rw [← hH]; exact aS
  refine lv_aload_n hx hb kdX5_0 rfl (lv_at hl 0 rfl) ?_
  refine W.objInit hx hb hown (hts _ zk_120) (hts _ zk_18) (hts _ zk_19) rfl (by rw [hml]; exact hl.1) rfl kdX5_1 (Nat.le_of_ble_eq_true rfl) (Nat.le_of_ble_eq_true rfl) ?_
  refine W.eq (g2 := F0 m 4 ls []) rfl ?_
  refine lv_aload_n hx hb kdX5_4 rfl (lv_at hl 0 rfl) ?_
  refine lv_sipush (v := 160) hx hb kdX5_5 (by decide) ?_
  refine zn_newa (atype := .char) (ty := .char) (N := 160) (a0 := (160, .inl (fun _ => 0))) hx hb (hts _ zk_147) rfl (zBk_cls hB).2.1 hP hz aS (fun cA => rfl) (by decide) (by decide) (Nat.le_of_ble_eq_true rfl) (Nat.le_of_ble_eq_true rfl) (Nat.le_of_ble_eq_true rfl) kdX5_8 (fun H hP hz aS => ?_)
  rw [List.append_assoc] at hP hz
  rw [List.length_append, hn]
  have hP : va_P D zcl (zaw b0 0 (pre ++ [.inr (4, [.null, .int 0, .int 0, .int 0, .int 0, .int 0, .null, .int 0]), .inl (ca 1, 160, .inl (fun _ => 0))])) H := hP
  have hz : H.size = b0 + (pre ++ ([.inr (4, [.null, .int 0, .int 0, .int 0, .int 0, .int 0, .null, .int 0]), .inl (ca 1, 160, .inl (fun _ => 0))] : List va_E)).length := hz
  refine W.eq (g2 := F0 m 10 ls [.ref (b0 + (n + 1)), .ref (b0 + (pre.length + 0))]) (by subst hn; rfl) ?_
  refine zn_putF (own := zR_8) (ref := zR_8) (C := zR_8) (T := zF_8) (N := 8) (ci := 4) (v := .ref (b0 + (n + 1))) hx hb hts zin_8t zty_8 zty_8_ok znm_8 hown hB.1 hP aS (pre.length + 0) (by rw [pre_at]; rfl) rfl 0 (by decide) (hts _ zk_121) (fun _ h9 => h9) rfl hin rfl (zty_8_ok 0 (by decide)) rfl rfl (Nat.le_of_ble_eq_true rfl) kdX5_10 (fun H1 locs hP hz1 aS => ?_)
  rw [pre_set] at hP
  have hP : va_P D zcl (zaw b0 0 (pre ++ [.inr (4, [.ref (b0 + (n + 1)), .int 0, .int 0, .int 0, .int 0, .int 0, .null, .int 0]), .inl (ca 1, 160, .inl (fun _ => 0))])) H1 := hP
  have hz : H1.size = b0 + (pre ++ ([.inr (4, [.ref (b0 + (n + 1)), .int 0, .int 0, .int 0, .int 0, .int 0, .null, .int 0]), .inl (ca 1, 160, .inl (fun _ => 0))] : List va_E)).length := len_eq pre _ _ b0 (hz1.trans hz) rfl
  clear hz1
  generalize H1 = H at hP hz aS ⊢
  refine lv_aload_n hx hb kdX5_13 rfl (lv_at hl 0 rfl) ?_
  refine lv_iconst (v := 0) hx hb kdX5_14 (by decide) ?_
  refine W.eq (g2 := F0 m 15 ls [.int 0, .ref (b0 + (pre.length + 0))]) (by subst hn; rfl) ?_
  refine zn_put (own := zR_8) (ref := zR_8) (C := zR_8) (T := zF_8) (N := 8) (ci := 4) (v := .int 0) hx hb hts zin_8t zty_8 zty_8_ok znm_8 hown hB.1 hP aS (pre.length + 0) (by rw [pre_at]; rfl) rfl 1 (by decide) (hts _ zk_122) (fun _ h9 => h9) rfl (zty_8_ok 1 (by decide)) rfl rfl (Nat.le_of_ble_eq_true rfl) kdX5_15 (fun H1 locs hP hz1 aS => ?_)
  rw [pre_set] at hP
  have hP : va_P D zcl (zaw b0 0 (pre ++ [.inr (4, [.ref (b0 + (n + 1)), .int 0, .int 0, .int 0, .int 0, .int 0, .null, .int 0]), .inl (ca 1, 160, .inl (fun _ => 0))])) H1 := hP
  have hz : H1.size = b0 + (pre ++ ([.inr (4, [.ref (b0 + (n + 1)), .int 0, .int 0, .int 0, .int 0, .int 0, .null, .int 0]), .inl (ca 1, 160, .inl (fun _ => 0))] : List va_E)).length := len_eq pre _ _ b0 (hz1.trans hz) rfl
  clear hz1
  generalize H1 = H at hP hz aS ⊢
  refine lv_aload_n hx hb kdX5_18 rfl (lv_at hl 0 rfl) ?_
  refine lv_iconst (v := 0) hx hb kdX5_19 (by decide) ?_
  refine W.eq (g2 := F0 m 20 ls [.int 0, .ref (b0 + (pre.length + 0))]) (by subst hn; rfl) ?_
  refine zn_put (own := zR_8) (ref := zR_8) (C := zR_8) (T := zF_8) (N := 8) (ci := 4) (v := .int 0) hx hb hts zin_8t zty_8 zty_8_ok znm_8 hown hB.1 hP aS (pre.length + 0) (by rw [pre_at]; rfl) rfl 2 (by decide) (hts _ zk_124) (fun _ h9 => h9) rfl (zty_8_ok 2 (by decide)) rfl rfl (Nat.le_of_ble_eq_true rfl) kdX5_20 (fun H1 locs hP hz1 aS => ?_)
  rw [pre_set] at hP
  have hP : va_P D zcl (zaw b0 0 (pre ++ [.inr (4, [.ref (b0 + (n + 1)), .int 0, .int 0, .int 0, .int 0, .int 0, .null, .int 0]), .inl (ca 1, 160, .inl (fun _ => 0))])) H1 := hP
  have hz : H1.size = b0 + (pre ++ ([.inr (4, [.ref (b0 + (n + 1)), .int 0, .int 0, .int 0, .int 0, .int 0, .null, .int 0]), .inl (ca 1, 160, .inl (fun _ => 0))] : List va_E)).length := len_eq pre _ _ b0 (hz1.trans hz) rfl
  clear hz1
  generalize H1 = H at hP hz aS ⊢
  refine lv_aload_n hx hb kdX5_23 rfl (lv_at hl 0 rfl) ?_
  refine lv_iconst (v := 0) hx hb kdX5_24 (by decide) ?_
  refine W.eq (g2 := F0 m 25 ls [.int 0, .ref (b0 + (pre.length + 0))]) (by subst hn; rfl) ?_
  refine zn_put (own := zR_8) (ref := zR_8) (C := zR_8) (T := zF_8) (N := 8) (ci := 4) (v := .int 0) hx hb hts zin_8t zty_8 zty_8_ok znm_8 hown hB.1 hP aS (pre.length + 0) (by rw [pre_at]; rfl) rfl 3 (by decide) (hts _ zk_125) (fun _ h9 => h9) rfl (zty_8_ok 3 (by decide)) rfl rfl (Nat.le_of_ble_eq_true rfl) kdX5_25 (fun H1 locs hP hz1 aS => ?_)
  rw [pre_set] at hP
  have hP : va_P D zcl (zaw b0 0 (pre ++ [.inr (4, [.ref (b0 + (n + 1)), .int 0, .int 0, .int 0, .int 0, .int 0, .null, .int 0]), .inl (ca 1, 160, .inl (fun _ => 0))])) H1 := hP
  have hz : H1.size = b0 + (pre ++ ([.inr (4, [.ref (b0 + (n + 1)), .int 0, .int 0, .int 0, .int 0, .int 0, .null, .int 0]), .inl (ca 1, 160, .inl (fun _ => 0))] : List va_E)).length := len_eq pre _ _ b0 (hz1.trans hz) rfl
  clear hz1
  generalize H1 = H at hP hz aS ⊢
  refine lv_aload_n hx hb kdX5_28 rfl (lv_at hl 0 rfl) ?_
  refine lv_iconst (v := 0) hx hb kdX5_29 (by decide) ?_
  refine W.eq (g2 := F0 m 30 ls [.int 0, .ref (b0 + (pre.length + 0))]) (by subst hn; rfl) ?_
  refine zn_put (own := zR_8) (ref := zR_8) (C := zR_8) (T := zF_8) (N := 8) (ci := 4) (v := .int 0) hx hb hts zin_8t zty_8 zty_8_ok znm_8 hown hB.1 hP aS (pre.length + 0) (by rw [pre_at]; rfl) rfl 4 (by decide) (hts _ zk_126) (fun _ h9 => h9) rfl (zty_8_ok 4 (by decide)) rfl rfl (Nat.le_of_ble_eq_true rfl) kdX5_30 (fun H1 locs hP hz1 aS => ?_)
  rw [pre_set] at hP
  have hP : va_P D zcl (zaw b0 0 (pre ++ [.inr (4, [.ref (b0 + (n + 1)), .int 0, .int 0, .int 0, .int 0, .int 0, .null, .int 0]), .inl (ca 1, 160, .inl (fun _ => 0))])) H1 := hP
  have hz : H1.size = b0 + (pre ++ ([.inr (4, [.ref (b0 + (n + 1)), .int 0, .int 0, .int 0, .int 0, .int 0, .null, .int 0]), .inl (ca 1, 160, .inl (fun _ => 0))] : List va_E)).length := len_eq pre _ _ b0 (hz1.trans hz) rfl
  clear hz1
  generalize H1 = H at hP hz aS ⊢
  refine lv_aload_n hx hb kdX5_33 rfl (lv_at hl 0 rfl) ?_
  refine lv_iconst (v := 0) hx hb kdX5_34 (by decide) ?_
  refine W.eq (g2 := F0 m 35 ls [.int 0, .ref (b0 + (pre.length + 0))]) (by subst hn; rfl) ?_
  refine zn_put (own := zR_8) (ref := zR_8) (C := zR_8) (T := zF_8) (N := 8) (ci := 4) (v := .int 0) hx hb hts zin_8t zty_8 zty_8_ok znm_8 hown hB.1 hP aS (pre.length + 0) (by rw [pre_at]; rfl) rfl 5 (by decide) (hts _ zk_127) (fun _ h9 => h9) rfl (zty_8_ok 5 (by decide)) rfl rfl (Nat.le_of_ble_eq_true rfl) kdX5_35 (fun H1 locs hP hz1 aS => ?_)
  rw [pre_set] at hP
  have hP : va_P D zcl (zaw b0 0 (pre ++ [.inr (4, [.ref (b0 + (n + 1)), .int 0, .int 0, .int 0, .int 0, .int 0, .null, .int 0]), .inl (ca 1, 160, .inl (fun _ => 0))])) H1 := hP
  have hz : H1.size = b0 + (pre ++ ([.inr (4, [.ref (b0 + (n + 1)), .int 0, .int 0, .int 0, .int 0, .int 0, .null, .int 0]), .inl (ca 1, 160, .inl (fun _ => 0))] : List va_E)).length := len_eq pre _ _ b0 (hz1.trans hz) rfl
  clear hz1
  generalize H1 = H at hP hz aS ⊢
  refine lv_aload_n hx hb kdX5_38 rfl (lv_at hl 0 rfl) ?_
  refine lv_sipush (v := 160) hx hb kdX5_39 (by decide) ?_
  refine zn_newa (atype := .int) (ty := .int) (N := 160) (a0 := (160, .inl (fun _ => 0))) hx hb (hts _ zk_44) rfl (zBk_cls hB).1 hP hz aS (fun cA => rfl) (by decide) (by decide) (Nat.le_of_ble_eq_true rfl) (Nat.le_of_ble_eq_true rfl) (Nat.le_of_ble_eq_true rfl) kdX5_42 (fun H hP hz aS => ?_)
  rw [List.append_assoc] at hP hz
  rw [List.length_append, hn]
  have hP : va_P D zcl (zaw b0 0 (pre ++ [.inr (4, [.ref (b0 + (n + 1)), .int 0, .int 0, .int 0, .int 0, .int 0, .null, .int 0]), .inl (ca 1, 160, .inl (fun _ => 0)), .inl (ca 0, 160, .inl (fun _ => 0))])) H := hP
  have hz : H.size = b0 + (pre ++ ([.inr (4, [.ref (b0 + (n + 1)), .int 0, .int 0, .int 0, .int 0, .int 0, .null, .int 0]), .inl (ca 1, 160, .inl (fun _ => 0)), .inl (ca 0, 160, .inl (fun _ => 0))] : List va_E)).length := hz
  refine W.eq (g2 := F0 m 44 ls [.ref (b0 + (n + 2)), .ref (b0 + (pre.length + 0))]) (by subst hn; rfl) ?_
  refine zn_putF (own := zR_8) (ref := zR_8) (C := zR_8) (T := zF_8) (N := 8) (ci := 4) (v := .ref (b0 + (n + 2))) hx hb hts zin_8t zty_8 zty_8_ok znm_8 hown hB.1 hP aS (pre.length + 0) (by rw [pre_at]; rfl) rfl 6 (by decide) (hts _ zk_128) (fun _ h9 => h9) rfl hin rfl (zty_8_ok 6 (by decide)) rfl rfl (Nat.le_of_ble_eq_true rfl) kdX5_44 (fun H1 locs hP hz1 aS => ?_)
  rw [pre_set] at hP
  have hP : va_P D zcl (zaw b0 0 (pre ++ [.inr (4, [.ref (b0 + (n + 1)), .int 0, .int 0, .int 0, .int 0, .int 0, .ref (b0 + (n + 2)), .int 0]), .inl (ca 1, 160, .inl (fun _ => 0)), .inl (ca 0, 160, .inl (fun _ => 0))])) H1 := hP
  have hz : H1.size = b0 + (pre ++ ([.inr (4, [.ref (b0 + (n + 1)), .int 0, .int 0, .int 0, .int 0, .int 0, .ref (b0 + (n + 2)), .int 0]), .inl (ca 1, 160, .inl (fun _ => 0)), .inl (ca 0, 160, .inl (fun _ => 0))] : List va_E)).length := len_eq pre _ _ b0 (hz1.trans hz) rfl
  clear hz1
  generalize H1 = H at hP hz aS ⊢
  refine lv_aload_n hx hb kdX5_47 rfl (lv_at hl 0 rfl) ?_
  refine lv_iconst (v := 0) hx hb kdX5_48 (by decide) ?_
  refine W.eq (g2 := F0 m 49 ls [.int 0, .ref (b0 + (pre.length + 0))]) (by subst hn; rfl) ?_
  refine zn_put (own := zR_8) (ref := zR_8) (C := zR_8) (T := zF_8) (N := 8) (ci := 4) (v := .int 0) hx hb hts zin_8t zty_8 zty_8_ok znm_8 hown hB.1 hP aS (pre.length + 0) (by rw [pre_at]; rfl) rfl 7 (by decide) (hts _ zk_129) (fun _ h9 => h9) rfl (zty_8_ok 7 (by decide)) rfl rfl (Nat.le_of_ble_eq_true rfl) kdX5_49 (fun H1 locs hP hz1 aS => ?_)
  rw [pre_set] at hP
  have hP : va_P D zcl (zaw b0 0 (pre ++ [.inr (4, [.ref (b0 + (n + 1)), .int 0, .int 0, .int 0, .int 0, .int 0, .ref (b0 + (n + 2)), .int 0]), .inl (ca 1, 160, .inl (fun _ => 0)), .inl (ca 0, 160, .inl (fun _ => 0))])) H1 := hP
  have hz : H1.size = b0 + (pre ++ ([.inr (4, [.ref (b0 + (n + 1)), .int 0, .int 0, .int 0, .int 0, .int 0, .ref (b0 + (n + 2)), .int 0]), .inl (ca 1, 160, .inl (fun _ => 0)), .inl (ca 0, 160, .inl (fun _ => 0))] : List va_E)).length := len_eq pre _ _ b0 (hz1.trans hz) rfl
  clear hz1
  generalize H1 = H at hP hz aS ⊢
  exact W.vret hx hb hr (fun t ht hW => ⟨rfl, ⟨by rw [ht]; exact hP, by rw [ht]; exact hz⟩, aS.F ht⟩) aS.2.2 kdX5_52 hlocks
