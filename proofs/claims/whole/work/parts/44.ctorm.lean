/-! ===== stores into arrays with sizes; the model's constructor ===== -/
theorem zaw_get (b0 : Nat) (pre l : List va_E) (i : Nat) {x : va_E} (h : l[i]? = some x) : (zaw b0 0 (pre ++ l))[pre.length + i]? = some (b0 + (pre.length + i), x) := by
  rw [zaw_at, pre_at, h]
  show some (b0 + 0 + (pre.length + i), x) = _
  rw [Nat.add_zero]
section Ma
variable {p : Program} {l : Launch} {e : Env} {R : Room} {s : State} {m : MethodId} {args : Array Value} {below : List Frame} {meth : Method} {c : Code} {H : Heap} {locs : List Loc} {cells slots : Nat} {Q : State → Prop}
variable {b0 : Nat} {D : va_G} {ca : Nat → ClassId} {cc : ByteArray} {pc : Nat} {ls : Array Slot} {rest : List Value} {es : List va_E}
theorem zaw_one {j : Nat} {x : va_E} (he : es[j]? = some x) : (zaw b0 0 es)[j]? = some (b0 + j, x) := by
  rw [zaw_at, he]
  show some (b0 + 0 + j, _) = _
  rw [Nat.add_zero]
theorem zn_iast (hexec : p.tables.exec = Jvm.exec) (hb : c.code = cc) {tys : List (ClassId × FieldType)} (hK : va_K D zcl tys s) (hP : va_P D zcl (zaw b0 0 es) H) (aS : va_S (fun q => b0 ≤ q) s.heap H locs) (j t0 : Nat) {cA : ClassId} {n : Nat} {f : Nat → Int32} (he : es[j]? = some (.inl (cA, n, .inl f))) (ht : tys[t0]? = some (cA, .int)) {i x : Int32} (hin : vp_in i n) (hdg : decode cc pc = .ok (.iastore, 1))
    (kk : ∀ (H1 : Heap) (locs1 : List Loc), va_P D zcl (zaw b0 0 (es.set j (.inl (cA, n, .inl (upd f i.toNatClampNeg x))))) H1 → H1.size = H.size → va_S (fun q => b0 ≤ q) s.heap H1 locs1 → W p l e R s m args below meth c H1 locs1 cells slots Q (F0 m (pc + 1) ls rest)) : W p l e R s m args below meth c H locs cells slots Q (F0 m pc ls (.int x :: .int i :: .ref (b0 + j) :: rest)) := by
  have hw := zaw_one (b0 := b0) he
  refine W.iast hexec hb (hP j _ hw) ((hK.2 t0 _ ht).1 n (fun q => .int (f q))) (fun q => by cases q) (by show ¬ (i < 0 ∨ (arrV _ _ _).slots.size ≤ _); rw [arrV_size]; exact hin) rfl rfl hdg fun H1 e z oq => ?_
  have hx : va_at D zcl (b0 + j, .inl (cA, n, .inl (upd f i.toNatClampNeg x))) H1 := by
    show H1[b0 + j]? = some (vp_cell _ _)
    rw [e, vp_cell_i, vp_cell_i, arrV_store]
    congr 2
    funext q
    by_cases hq : q = i.toNatClampNeg
    · subst hq
      simp [updV, upd]
    · simp [updV, upd, hq]
  have g := hP.set (zaw_D b0 es) hw hx oq
  rw [zaw_set] at g
  exact kk H1 _ g z (aS.put z oq (Nat.le_add_right b0 j))
theorem zn_astq (hexec : p.tables.exec = Jvm.exec) (hb : c.code = cc) {tys : List (ClassId × FieldType)} (hK : va_K D zcl tys s) (hP : va_P D zcl (zaw b0 0 es) H) (aS : va_S (fun q => b0 ≤ q) s.heap H locs) (j t0 jv ci : Nat) {cA : ClassId} {r : vw_C} {n : Nat} {vs : List Value} {f : Nat → Option Nat} (he : es[j]? = some (.inl (cA, n, .inr (.inr (.inr (.inr f)))))) (ht : tys[t0]? = some (cA, .object r.1)) (hv : es[jv]? = some (.inr (ci, vs))) (hc : zcl[ci]? = some r) {i : Int32} (hin : vp_in i n) (hdg : decode cc pc = .ok (.aastore, 1))
    (kk : ∀ (H1 : Heap) (locs1 : List Loc), va_P D zcl (zaw b0 0 (es.set j (.inl (cA, n, .inr (.inr (.inr (.inr (va_up f i.toNatClampNeg (some (b0 + jv)))))))))) H1 → H1.size = H.size → va_S (fun q => b0 ≤ q) s.heap H1 locs1 → W p l e R s m args below meth c H1 locs1 cells slots Q (F0 m (pc + 1) ls rest)) : W p l e R s m args below meth c H locs cells slots Q (F0 m pc ls (.ref (b0 + jv) :: .int i :: .ref (b0 + j) :: rest)) := by
  have hlt : i.toNatClampNeg < n := Nat.not_le.mp fun q => hin (Or.inr q)
  have h0 : ¬ i < 0 := fun q => hin (Or.inl q)
  have hw := zaw_one (b0 := b0) he
  obtain ⟨r', hr', cellV, g1, g2, g3, -⟩ := hP jv _ (zaw_one (b0 := b0) hv)
  have hcls := (hK.1 ci r hc).2
  obtain ⟨kA, comp, k1, k2, k3, -⟩ := (hK.2 t0 _ ht).2
  have hcomp : comp = D.1 ci := Option.some.inj (k3.symm.trans hcls.1)
  subst hcomp
  obtain ⟨kC, hkC, -⟩ := hcls.2
  refine W.aast hexec hb (hP j _ hw) (fun q h => by cases h) (fun h => by cases h) k1 k2 rfl hkC ⟨h0, by show _ < (arrV _ _ _).slots.size; rw [arrV_size]; exact hlt⟩ g1 (fun q h => by rw [g3] at h; cases h) (by rw [g2]; exact hkC) (by rw [g2]; exact va_assign hcls) rfl rfl hdg fun H1 e z oq => ?_
  have hx : va_at D zcl (b0 + j, .inl (cA, n, .inr (.inr (.inr (.inr (va_up f i.toNatClampNeg (some (b0 + jv)))))))) H1 := by
    show H1[b0 + j]? = some (vp_cell _ _)
    rw [e, vp_cell_q, vp_cell_q, arrV_store]
    congr 2
    funext q
    by_cases hq : q = i.toNatClampNeg
    · subst hq
      simp [updV, va_up, va_rf]
    · simp [updV, va_up, hq]
  have g := hP.set (zaw_D b0 es) hw hx oq
  rw [zaw_set] at g
  exact kk H1 _ g z (aS.put z oq (Nat.le_add_right b0 j))
end Ma
theorem zk_481 : Cond.arrayClass ClassFile.FieldType.byte ∈ zTs := zTs_t (List.mem_of_getElem? (i := 481) (by decide +kernel)) (by decide +kernel)
theorem zk_752 : Cond.code ({ cls := "FrameDeltasModel", name := "<init>", desc := "()V" }) prog_10_method_1_code (1) (Option.none : Option ClassFile.FieldType) ∈ zTs := zTs_t (List.mem_of_getElem? (i := 752) (by decide +kernel)) (by decide +kernel)
theorem zk_753 : Cond.methodLink "FrameDeltasModel" (1) ({ cls := "java/lang/Object", name := "<init>", desc := "()V" }) ∈ zTs := zTs_t (List.mem_of_getElem? (i := 753) (by decide +kernel)) (by decide +kernel)
theorem zk_754 : Cond.fieldLink "FrameDeltasModel" (7) "FrameDeltasModel" "s" "[I" ∈ zTs := zTs_t (List.mem_of_getElem? (i := 754) (by decide +kernel)) (by decide +kernel)
theorem zk_755 : Cond.fieldLink "FrameDeltasModel" (13) "FrameDeltasModel" "past" "[I" ∈ zTs := zTs_t (List.mem_of_getElem? (i := 755) (by decide +kernel)) (by decide +kernel)
theorem zk_757 : Cond.fieldLink "FrameDeltasModel" (16) "FrameDeltasModel" "text" "[B" ∈ zTs := zTs_t (List.mem_of_getElem? (i := 757) (by decide +kernel)) (by decide +kernel)
theorem zk_765 : Cond.fieldLink "FrameDeltasModel" (20) "FrameDeltasModel" "kept" "[I" ∈ zTs := zTs_t (List.mem_of_getElem? (i := 765) (by decide +kernel)) (by decide +kernel)
theorem zk_766 : Cond.fieldLink "FrameDeltasModel" (23) "FrameDeltasModel" "before" "[I" ∈ zTs := zTs_t (List.mem_of_getElem? (i := 766) (by decide +kernel)) (by decide +kernel)
theorem zk_767 : Cond.fieldLink "FrameDeltasModel" (26) "FrameDeltasModel" "made" "[I" ∈ zTs := zTs_t (List.mem_of_getElem? (i := 767) (by decide +kernel)) (by decide +kernel)
theorem zk_768 : Cond.fieldLink "FrameDeltasModel" (29) "FrameDeltasModel" "keyCost" "[I" ∈ zTs := zTs_t (List.mem_of_getElem? (i := 768) (by decide +kernel)) (by decide +kernel)
theorem zk_769 : Cond.fieldLink "FrameDeltasModel" (32) "FrameDeltasModel" "nextCost" "[I" ∈ zTs := zTs_t (List.mem_of_getElem? (i := 769) (by decide +kernel)) (by decide +kernel)
theorem zk_771 : Cond.fieldLink "FrameDeltasModel" (35) "FrameDeltasModel" "digests" "[I" ∈ zTs := zTs_t (List.mem_of_getElem? (i := 771) (by decide +kernel)) (by decide +kernel)
abbrev kbX8 : ByteArray := prog_10_method_1_code
def kyX8 : MethodName := ⟨zR_20, "<init>", "()V"⟩
theorem kdX8_0 : decode kbX8 0 = .ok (.aload_n 0, 1) := by decide +kernel
theorem kdX8_1 : decode kbX8 1 = .ok (.invokespecial 1, 3) := by decide +kernel
theorem kdX8_4 : decode kbX8 4 = .ok (.aload_n 0, 1) := by decide +kernel
theorem kdX8_5 : decode kbX8 5 = .ok (.sipush 1880, 3) := by decide +kernel
theorem kdX8_8 : decode kbX8 8 = .ok (.newarray .int, 2) := by decide +kernel
theorem kdX8_10 : decode kbX8 10 = .ok (.putfield 7, 3) := by decide +kernel
theorem kdX8_13 : decode kbX8 13 = .ok (.aload_n 0, 1) := by decide +kernel
theorem kdX8_14 : decode kbX8 14 = .ok (.sipush 11280, 3) := by decide +kernel
theorem kdX8_17 : decode kbX8 17 = .ok (.newarray .int, 2) := by decide +kernel
theorem kdX8_19 : decode kbX8 19 = .ok (.putfield 13, 3) := by decide +kernel
theorem kdX8_22 : decode kbX8 22 = .ok (.aload_n 0, 1) := by decide +kernel
theorem kdX8_23 : decode kbX8 23 = .ok (.sipush 160, 3) := by decide +kernel
theorem kdX8_26 : decode kbX8 26 = .ok (.newarray .byte, 2) := by decide +kernel
theorem kdX8_28 : decode kbX8 28 = .ok (.putfield 16, 3) := by decide +kernel
theorem kdX8_31 : decode kbX8 31 = .ok (.aload_n 0, 1) := by decide +kernel
theorem kdX8_32 : decode kbX8 32 = .ok (.sipush 144, 3) := by decide +kernel
theorem kdX8_35 : decode kbX8 35 = .ok (.newarray .int, 2) := by decide +kernel
theorem kdX8_37 : decode kbX8 37 = .ok (.putfield 20, 3) := by decide +kernel
theorem kdX8_40 : decode kbX8 40 = .ok (.aload_n 0, 1) := by decide +kernel
theorem kdX8_41 : decode kbX8 41 = .ok (.sipush 144, 3) := by decide +kernel
theorem kdX8_44 : decode kbX8 44 = .ok (.newarray .int, 2) := by decide +kernel
theorem kdX8_46 : decode kbX8 46 = .ok (.putfield 23, 3) := by decide +kernel
theorem kdX8_49 : decode kbX8 49 = .ok (.aload_n 0, 1) := by decide +kernel
theorem kdX8_50 : decode kbX8 50 = .ok (.bipush 27, 2) := by decide +kernel
theorem kdX8_52 : decode kbX8 52 = .ok (.newarray .int, 2) := by decide +kernel
theorem kdX8_54 : decode kbX8 54 = .ok (.putfield 26, 3) := by decide +kernel
theorem kdX8_57 : decode kbX8 57 = .ok (.aload_n 0, 1) := by decide +kernel
theorem kdX8_58 : decode kbX8 58 = .ok (.bipush 10, 2) := by decide +kernel
theorem kdX8_60 : decode kbX8 60 = .ok (.newarray .int, 2) := by decide +kernel
theorem kdX8_62 : decode kbX8 62 = .ok (.putfield 29, 3) := by decide +kernel
theorem kdX8_65 : decode kbX8 65 = .ok (.aload_n 0, 1) := by decide +kernel
theorem kdX8_66 : decode kbX8 66 = .ok (.bipush 10, 2) := by decide +kernel
theorem kdX8_68 : decode kbX8 68 = .ok (.newarray .int, 2) := by decide +kernel
theorem kdX8_70 : decode kbX8 70 = .ok (.putfield 32, 3) := by decide +kernel
theorem kdX8_73 : decode kbX8 73 = .ok (.aload_n 0, 1) := by decide +kernel
theorem kdX8_74 : decode kbX8 74 = .ok (.bipush 81, 2) := by decide +kernel
theorem kdX8_76 : decode kbX8 76 = .ok (.newarray .int, 2) := by decide +kernel
theorem kdX8_78 : decode kbX8 78 = .ok (.putfield 35, 3) := by decide +kernel
theorem kdX8_81 : decode kbX8 81 = .ok (.aload_n 0, 1) := by decide +kernel
theorem kdX8_82 : decode kbX8 82 = .ok (.getfield 7, 3) := by decide +kernel
theorem kdX8_85 : decode kbX8 85 = .ok (.iconst 0, 1) := by decide +kernel
theorem kdX8_86 : decode kbX8 86 = .ok (.bipush 8, 2) := by decide +kernel
theorem kdX8_88 : decode kbX8 88 = .ok (.iastore, 1) := by decide +kernel
theorem kdX8_89 : decode kbX8 89 = .ok (.aload_n 0, 1) := by decide +kernel
theorem kdX8_90 : decode kbX8 90 = .ok (.getfield 7, 3) := by decide +kernel
theorem kdX8_93 : decode kbX8 93 = .ok (.iconst 1, 1) := by decide +kernel
theorem kdX8_94 : decode kbX8 94 = .ok (.bipush 8, 2) := by decide +kernel
theorem kdX8_96 : decode kbX8 96 = .ok (.iastore, 1) := by decide +kernel
theorem kdX8_97 : decode kbX8 97 = .ok (.aload_n 0, 1) := by decide +kernel
theorem kdX8_98 : decode kbX8 98 = .ok (.getfield 7, 3) := by decide +kernel
theorem kdX8_101 : decode kbX8 101 = .ok (.iconst 3, 1) := by decide +kernel
theorem kdX8_102 : decode kbX8 102 = .ok (.iconst 2, 1) := by decide +kernel
theorem kdX8_103 : decode kbX8 103 = .ok (.iastore, 1) := by decide +kernel
theorem kdX8_104 : decode kbX8 104 = .ok (.aload_n 0, 1) := by decide +kernel
theorem kdX8_105 : decode kbX8 105 = .ok (.getfield 7, 3) := by decide +kernel
theorem kdX8_108 : decode kbX8 108 = .ok (.iconst 4, 1) := by decide +kernel
theorem kdX8_109 : decode kbX8 109 = .ok (.iconst 4, 1) := by decide +kernel
theorem kdX8_110 : decode kbX8 110 = .ok (.iastore, 1) := by decide +kernel
theorem kdX8_111 : decode kbX8 111 = .ok (.return_, 1) := by decide +kernel
def kX8_c (ca : Nat → ClassId) (b0 n : Nat) : List va_E := [.inr (8, [.ref (b0 + (n + 1)), .ref (b0 + (n + 2)), .int 0, .ref (b0 + (n + 3)), .int 0, .int 0, .int 0, .int 0, .long 0, .int 0, .int 0, .ref (b0 + (n + 4)), .ref (b0 + (n + 5)), .ref (b0 + (n + 6)), .ref (b0 + (n + 7)), .ref (b0 + (n + 8)), .int 0, .ref (b0 + (n + 9))]), .inl (ca 0, 1880, .inl (upd (upd (upd (upd (fun _ => 0) (Int32.toNatClampNeg 0) 8) (Int32.toNatClampNeg 1) 8) (Int32.toNatClampNeg 3) 2) (Int32.toNatClampNeg 4) 4)), .inl (ca 0, 11280, .inl (fun _ => 0)), .inl (ca 2, 160, .inl (fun _ => 0)), .inl (ca 0, 144, .inl (fun _ => 0)), .inl (ca 0, 144, .inl (fun _ => 0)), .inl (ca 0, 27, .inl (fun _ => 0)), .inl (ca 0, 10, .inl (fun _ => 0)), .inl (ca 0, 10, .inl (fun _ => 0)), .inl (ca 0, 81, .inl (fun _ => 0))]
def kX8_w : List Cond := .code kyX8 kbX8 1 none :: zTs
theorem kX8_g : GoodIn zTs kX8_w := k_good zk_752
theorem kX8_m (l : Launch) {b0 : Nat} {D : va_G} {ca : Nat → ClassId} {adK adV : Nat → Nat} {bS L : Nat} {xs : Nat → Int32} (pre : List va_E) (n : Nat) (hn : pre.length = n) : Met l kyX8 kX8_w ({ frames := 1, cells := 9, slots := 13736, locals := 12 }) (va_Pc [.ref (b0 + n)] (zBw b0 D ca adK adV bS L xs (pre ++ [.inr (8, [.null, .null, .int 0, .null, .int 0, .int 0, .int 0, .int 0, .long 0, .int 0, .int 0, .null, .null, .null, .null, .null, .int 0, .null])]))) (zQw b0 D (pre ++ kX8_c ca b0 n)) 9 13736 (fun q => b0 ≤ q) := by
  refine zMet_of (cc := kbX8) (maxL := 1) (ret := none) (by decide) rfl ?_
  intro p e s m args below meth c s₁ B hml hv
  obtain ⟨rfl, hB, hP, hz, hO⟩ := hv
  have hx := B.exec
  have hb := B.bytes
  have hr := B.returns
  have hts2 := atoms_spec (ws := kX8_w) B.pre
  have hts : ∀ w ∈ zTs, w.before _ s = true := fun w hw => hts2 w (List.mem_cons_of_mem _ hw)
  have hown : s.vm.findClass zR_20 = some m.cls := findClass_of_methodNamed B.named
  have hlocks := B.notSynchronized
  have hin : meth.name = "<init>" := (name_of_methodNamed B.named B.method).1
  have aS : va_S (fun q => b0 ≤ q) s.heap s.heap [] := va_S.rf
  have hl := lv_entry ([.ref (b0 + n)]) (n := 1) (Nat.le_of_ble_eq_true rfl)
  rw [lg_entry_eq]
  generalize (lg_sl ([.ref (b0 + n)]) ++ List.replicate (1 - (lg_sl ([.ref (b0 + n)])).length) Slot.unset).toArray = ls at hl ⊢
  have hl : lv_has ls 1 [(0, .ref (b0 + n))] := hl
  have hP : va_P D zcl (zaw b0 0 (pre ++ [.inr (8, [.null, .null, .int 0, .null, .int 0, .int 0, .int 0, .int 0, .long 0, .int 0, .int 0, .null, .null, .null, .null, .null, .int 0, .null])])) s.heap := hP
  have hz : s.heap.size = b0 + (pre ++ ([.inr (8, [.null, .null, .int 0, .null, .int 0, .int 0, .int 0, .int 0, .long 0, .int 0, .int 0, .null, .null, .null, .null, .null, .int 0, .null])] : List va_E)).length := hz
  generalize hH : s.heap = H at hP hz ⊢
  have aS : va_S (fun q => b0 ≤ q) s.heap H [] := by rw [← hH]; exact aS
  refine lv_aload_n hx hb kdX8_0 rfl (lv_at hl 0 rfl) ?_
  refine W.objInit hx hb hown (hts _ zk_753) (hts _ zk_23) (hts _ zk_24) rfl (by rw [hml]; exact hl.1) rfl kdX8_1 (Nat.le_of_ble_eq_true rfl) (Nat.le_of_ble_eq_true rfl) ?_
  refine W.eq (g2 := F0 m 4 ls []) rfl ?_
  refine lv_aload_n hx hb kdX8_4 rfl (lv_at hl 0 rfl) ?_
  refine lv_sipush (v := 1880) hx hb kdX8_5 (by decide) ?_
  refine zn_newa (atype := .int) (ty := .int) (N := 1880) (a0 := (1880, .inl (fun _ => 0))) hx hb (hts _ zk_51) rfl (zBk_cls hB).1 hP hz aS (fun cA => rfl) (by decide) (by decide) (Nat.le_of_ble_eq_true rfl) (Nat.le_of_ble_eq_true rfl) (Nat.le_of_ble_eq_true rfl) kdX8_8 (fun H hP hz aS => ?_)
  rw [List.append_assoc] at hP hz
  rw [List.length_append, hn]
  have hP : va_P D zcl (zaw b0 0 (pre ++ [.inr (8, [.null, .null, .int 0, .null, .int 0, .int 0, .int 0, .int 0, .long 0, .int 0, .int 0, .null, .null, .null, .null, .null, .int 0, .null]), .inl (ca 0, 1880, .inl (fun _ => 0))])) H := hP
  have hz : H.size = b0 + (pre ++ ([.inr (8, [.null, .null, .int 0, .null, .int 0, .int 0, .int 0, .int 0, .long 0, .int 0, .int 0, .null, .null, .null, .null, .null, .int 0, .null]), .inl (ca 0, 1880, .inl (fun _ => 0))] : List va_E)).length := hz
  refine W.eq (g2 := F0 m 10 ls [.ref (b0 + (n + 1)), .ref (b0 + (pre.length + 0))]) (by subst hn; rfl) ?_
  refine zn_putF (own := zR_20) (ref := zR_20) (C := zR_20) (T := zF_20) (N := 18) (ci := 8) (v := .ref (b0 + (n + 1))) hx hb hts zin_20t zty_20 zty_20_ok znm_20 hown hB.1 hP aS (pre.length + 0) (by rw [pre_at]; rfl) rfl 0 (by decide) (hts _ zk_754) (fun _ h9 => h9) rfl hin rfl (zty_20_ok 0 (by decide)) rfl rfl (Nat.le_of_ble_eq_true rfl) kdX8_10 (fun H1 locs hP hz1 aS => ?_)
  rw [pre_set] at hP
  have hP : va_P D zcl (zaw b0 0 (pre ++ [.inr (8, [.ref (b0 + (n + 1)), .null, .int 0, .null, .int 0, .int 0, .int 0, .int 0, .long 0, .int 0, .int 0, .null, .null, .null, .null, .null, .int 0, .null]), .inl (ca 0, 1880, .inl (fun _ => 0))])) H1 := hP
  have hz : H1.size = b0 + (pre ++ ([.inr (8, [.ref (b0 + (n + 1)), .null, .int 0, .null, .int 0, .int 0, .int 0, .int 0, .long 0, .int 0, .int 0, .null, .null, .null, .null, .null, .int 0, .null]), .inl (ca 0, 1880, .inl (fun _ => 0))] : List va_E)).length := len_eq pre _ _ b0 (hz1.trans hz) rfl
  clear hz1
  generalize H1 = H at hP hz aS ⊢
  refine lv_aload_n hx hb kdX8_13 rfl (lv_at hl 0 rfl) ?_
  refine lv_sipush (v := 11280) hx hb kdX8_14 (by decide) ?_
  refine zn_newa (atype := .int) (ty := .int) (N := 11280) (a0 := (11280, .inl (fun _ => 0))) hx hb (hts _ zk_51) rfl (zBk_cls hB).1 hP hz aS (fun cA => rfl) (by decide) (by decide) (Nat.le_of_ble_eq_true rfl) (Nat.le_of_ble_eq_true rfl) (Nat.le_of_ble_eq_true rfl) kdX8_17 (fun H hP hz aS => ?_)
  rw [List.append_assoc] at hP hz
  rw [List.length_append, hn]
  have hP : va_P D zcl (zaw b0 0 (pre ++ [.inr (8, [.ref (b0 + (n + 1)), .null, .int 0, .null, .int 0, .int 0, .int 0, .int 0, .long 0, .int 0, .int 0, .null, .null, .null, .null, .null, .int 0, .null]), .inl (ca 0, 1880, .inl (fun _ => 0)), .inl (ca 0, 11280, .inl (fun _ => 0))])) H := hP
  have hz : H.size = b0 + (pre ++ ([.inr (8, [.ref (b0 + (n + 1)), .null, .int 0, .null, .int 0, .int 0, .int 0, .int 0, .long 0, .int 0, .int 0, .null, .null, .null, .null, .null, .int 0, .null]), .inl (ca 0, 1880, .inl (fun _ => 0)), .inl (ca 0, 11280, .inl (fun _ => 0))] : List va_E)).length := hz
  refine W.eq (g2 := F0 m 19 ls [.ref (b0 + (n + 2)), .ref (b0 + (pre.length + 0))]) (by subst hn; rfl) ?_
  refine zn_putF (own := zR_20) (ref := zR_20) (C := zR_20) (T := zF_20) (N := 18) (ci := 8) (v := .ref (b0 + (n + 2))) hx hb hts zin_20t zty_20 zty_20_ok znm_20 hown hB.1 hP aS (pre.length + 0) (by rw [pre_at]; rfl) rfl 1 (by decide) (hts _ zk_755) (fun _ h9 => h9) rfl hin rfl (zty_20_ok 1 (by decide)) rfl rfl (Nat.le_of_ble_eq_true rfl) kdX8_19 (fun H1 locs hP hz1 aS => ?_)
  rw [pre_set] at hP
  have hP : va_P D zcl (zaw b0 0 (pre ++ [.inr (8, [.ref (b0 + (n + 1)), .ref (b0 + (n + 2)), .int 0, .null, .int 0, .int 0, .int 0, .int 0, .long 0, .int 0, .int 0, .null, .null, .null, .null, .null, .int 0, .null]), .inl (ca 0, 1880, .inl (fun _ => 0)), .inl (ca 0, 11280, .inl (fun _ => 0))])) H1 := hP
  have hz : H1.size = b0 + (pre ++ ([.inr (8, [.ref (b0 + (n + 1)), .ref (b0 + (n + 2)), .int 0, .null, .int 0, .int 0, .int 0, .int 0, .long 0, .int 0, .int 0, .null, .null, .null, .null, .null, .int 0, .null]), .inl (ca 0, 1880, .inl (fun _ => 0)), .inl (ca 0, 11280, .inl (fun _ => 0))] : List va_E)).length := len_eq pre _ _ b0 (hz1.trans hz) rfl
  clear hz1
  generalize H1 = H at hP hz aS ⊢
  refine lv_aload_n hx hb kdX8_22 rfl (lv_at hl 0 rfl) ?_
  refine lv_sipush (v := 160) hx hb kdX8_23 (by decide) ?_
  refine zn_newa (atype := .byte) (ty := .byte) (N := 160) (a0 := (160, .inl (fun _ => 0))) hx hb (hts _ zk_481) rfl (zBk_cls hB).2.2.1 hP hz aS (fun cA => rfl) (by decide) (by decide) (Nat.le_of_ble_eq_true rfl) (Nat.le_of_ble_eq_true rfl) (Nat.le_of_ble_eq_true rfl) kdX8_26 (fun H hP hz aS => ?_)
  rw [List.append_assoc] at hP hz
  rw [List.length_append, hn]
  have hP : va_P D zcl (zaw b0 0 (pre ++ [.inr (8, [.ref (b0 + (n + 1)), .ref (b0 + (n + 2)), .int 0, .null, .int 0, .int 0, .int 0, .int 0, .long 0, .int 0, .int 0, .null, .null, .null, .null, .null, .int 0, .null]), .inl (ca 0, 1880, .inl (fun _ => 0)), .inl (ca 0, 11280, .inl (fun _ => 0)), .inl (ca 2, 160, .inl (fun _ => 0))])) H := hP
  have hz : H.size = b0 + (pre ++ ([.inr (8, [.ref (b0 + (n + 1)), .ref (b0 + (n + 2)), .int 0, .null, .int 0, .int 0, .int 0, .int 0, .long 0, .int 0, .int 0, .null, .null, .null, .null, .null, .int 0, .null]), .inl (ca 0, 1880, .inl (fun _ => 0)), .inl (ca 0, 11280, .inl (fun _ => 0)), .inl (ca 2, 160, .inl (fun _ => 0))] : List va_E)).length := hz
  refine W.eq (g2 := F0 m 28 ls [.ref (b0 + (n + 3)), .ref (b0 + (pre.length + 0))]) (by subst hn; rfl) ?_
  refine zn_putF (own := zR_20) (ref := zR_20) (C := zR_20) (T := zF_20) (N := 18) (ci := 8) (v := .ref (b0 + (n + 3))) hx hb hts zin_20t zty_20 zty_20_ok znm_20 hown hB.1 hP aS (pre.length + 0) (by rw [pre_at]; rfl) rfl 3 (by decide) (hts _ zk_757) (fun _ h9 => h9) rfl hin rfl (zty_20_ok 3 (by decide)) rfl rfl (Nat.le_of_ble_eq_true rfl) kdX8_28 (fun H1 locs hP hz1 aS => ?_)
  rw [pre_set] at hP
  have hP : va_P D zcl (zaw b0 0 (pre ++ [.inr (8, [.ref (b0 + (n + 1)), .ref (b0 + (n + 2)), .int 0, .ref (b0 + (n + 3)), .int 0, .int 0, .int 0, .int 0, .long 0, .int 0, .int 0, .null, .null, .null, .null, .null, .int 0, .null]), .inl (ca 0, 1880, .inl (fun _ => 0)), .inl (ca 0, 11280, .inl (fun _ => 0)), .inl (ca 2, 160, .inl (fun _ => 0))])) H1 := hP
  have hz : H1.size = b0 + (pre ++ ([.inr (8, [.ref (b0 + (n + 1)), .ref (b0 + (n + 2)), .int 0, .ref (b0 + (n + 3)), .int 0, .int 0, .int 0, .int 0, .long 0, .int 0, .int 0, .null, .null, .null, .null, .null, .int 0, .null]), .inl (ca 0, 1880, .inl (fun _ => 0)), .inl (ca 0, 11280, .inl (fun _ => 0)), .inl (ca 2, 160, .inl (fun _ => 0))] : List va_E)).length := len_eq pre _ _ b0 (hz1.trans hz) rfl
  clear hz1
  generalize H1 = H at hP hz aS ⊢
  refine lv_aload_n hx hb kdX8_31 rfl (lv_at hl 0 rfl) ?_
  refine lv_sipush (v := 144) hx hb kdX8_32 (by decide) ?_
  refine zn_newa (atype := .int) (ty := .int) (N := 144) (a0 := (144, .inl (fun _ => 0))) hx hb (hts _ zk_51) rfl (zBk_cls hB).1 hP hz aS (fun cA => rfl) (by decide) (by decide) (Nat.le_of_ble_eq_true rfl) (Nat.le_of_ble_eq_true rfl) (Nat.le_of_ble_eq_true rfl) kdX8_35 (fun H hP hz aS => ?_)
  rw [List.append_assoc] at hP hz
  rw [List.length_append, hn]
  have hP : va_P D zcl (zaw b0 0 (pre ++ [.inr (8, [.ref (b0 + (n + 1)), .ref (b0 + (n + 2)), .int 0, .ref (b0 + (n + 3)), .int 0, .int 0, .int 0, .int 0, .long 0, .int 0, .int 0, .null, .null, .null, .null, .null, .int 0, .null]), .inl (ca 0, 1880, .inl (fun _ => 0)), .inl (ca 0, 11280, .inl (fun _ => 0)), .inl (ca 2, 160, .inl (fun _ => 0)), .inl (ca 0, 144, .inl (fun _ => 0))])) H := hP
  have hz : H.size = b0 + (pre ++ ([.inr (8, [.ref (b0 + (n + 1)), .ref (b0 + (n + 2)), .int 0, .ref (b0 + (n + 3)), .int 0, .int 0, .int 0, .int 0, .long 0, .int 0, .int 0, .null, .null, .null, .null, .null, .int 0, .null]), .inl (ca 0, 1880, .inl (fun _ => 0)), .inl (ca 0, 11280, .inl (fun _ => 0)), .inl (ca 2, 160, .inl (fun _ => 0)), .inl (ca 0, 144, .inl (fun _ => 0))] : List va_E)).length := hz
  refine W.eq (g2 := F0 m 37 ls [.ref (b0 + (n + 4)), .ref (b0 + (pre.length + 0))]) (by subst hn; rfl) ?_
  refine zn_putF (own := zR_20) (ref := zR_20) (C := zR_20) (T := zF_20) (N := 18) (ci := 8) (v := .ref (b0 + (n + 4))) hx hb hts zin_20t zty_20 zty_20_ok znm_20 hown hB.1 hP aS (pre.length + 0) (by rw [pre_at]; rfl) rfl 11 (by decide) (hts _ zk_765) (fun _ h9 => h9) rfl hin rfl (zty_20_ok 11 (by decide)) rfl rfl (Nat.le_of_ble_eq_true rfl) kdX8_37 (fun H1 locs hP hz1 aS => ?_)
  rw [pre_set] at hP
  have hP : va_P D zcl (zaw b0 0 (pre ++ [.inr (8, [.ref (b0 + (n + 1)), .ref (b0 + (n + 2)), .int 0, .ref (b0 + (n + 3)), .int 0, .int 0, .int 0, .int 0, .long 0, .int 0, .int 0, .ref (b0 + (n + 4)), .null, .null, .null, .null, .int 0, .null]), .inl (ca 0, 1880, .inl (fun _ => 0)), .inl (ca 0, 11280, .inl (fun _ => 0)), .inl (ca 2, 160, .inl (fun _ => 0)), .inl (ca 0, 144, .inl (fun _ => 0))])) H1 := hP
  have hz : H1.size = b0 + (pre ++ ([.inr (8, [.ref (b0 + (n + 1)), .ref (b0 + (n + 2)), .int 0, .ref (b0 + (n + 3)), .int 0, .int 0, .int 0, .int 0, .long 0, .int 0, .int 0, .ref (b0 + (n + 4)), .null, .null, .null, .null, .int 0, .null]), .inl (ca 0, 1880, .inl (fun _ => 0)), .inl (ca 0, 11280, .inl (fun _ => 0)), .inl (ca 2, 160, .inl (fun _ => 0)), .inl (ca 0, 144, .inl (fun _ => 0))] : List va_E)).length := len_eq pre _ _ b0 (hz1.trans hz) rfl
  clear hz1
  generalize H1 = H at hP hz aS ⊢
  refine lv_aload_n hx hb kdX8_40 rfl (lv_at hl 0 rfl) ?_
  refine lv_sipush (v := 144) hx hb kdX8_41 (by decide) ?_
  refine zn_newa (atype := .int) (ty := .int) (N := 144) (a0 := (144, .inl (fun _ => 0))) hx hb (hts _ zk_51) rfl (zBk_cls hB).1 hP hz aS (fun cA => rfl) (by decide) (by decide) (Nat.le_of_ble_eq_true rfl) (Nat.le_of_ble_eq_true rfl) (Nat.le_of_ble_eq_true rfl) kdX8_44 (fun H hP hz aS => ?_)
  rw [List.append_assoc] at hP hz
  rw [List.length_append, hn]
  have hP : va_P D zcl (zaw b0 0 (pre ++ [.inr (8, [.ref (b0 + (n + 1)), .ref (b0 + (n + 2)), .int 0, .ref (b0 + (n + 3)), .int 0, .int 0, .int 0, .int 0, .long 0, .int 0, .int 0, .ref (b0 + (n + 4)), .null, .null, .null, .null, .int 0, .null]), .inl (ca 0, 1880, .inl (fun _ => 0)), .inl (ca 0, 11280, .inl (fun _ => 0)), .inl (ca 2, 160, .inl (fun _ => 0)), .inl (ca 0, 144, .inl (fun _ => 0)), .inl (ca 0, 144, .inl (fun _ => 0))])) H := hP
  have hz : H.size = b0 + (pre ++ ([.inr (8, [.ref (b0 + (n + 1)), .ref (b0 + (n + 2)), .int 0, .ref (b0 + (n + 3)), .int 0, .int 0, .int 0, .int 0, .long 0, .int 0, .int 0, .ref (b0 + (n + 4)), .null, .null, .null, .null, .int 0, .null]), .inl (ca 0, 1880, .inl (fun _ => 0)), .inl (ca 0, 11280, .inl (fun _ => 0)), .inl (ca 2, 160, .inl (fun _ => 0)), .inl (ca 0, 144, .inl (fun _ => 0)), .inl (ca 0, 144, .inl (fun _ => 0))] : List va_E)).length := hz
  refine W.eq (g2 := F0 m 46 ls [.ref (b0 + (n + 5)), .ref (b0 + (pre.length + 0))]) (by subst hn; rfl) ?_
  refine zn_putF (own := zR_20) (ref := zR_20) (C := zR_20) (T := zF_20) (N := 18) (ci := 8) (v := .ref (b0 + (n + 5))) hx hb hts zin_20t zty_20 zty_20_ok znm_20 hown hB.1 hP aS (pre.length + 0) (by rw [pre_at]; rfl) rfl 12 (by decide) (hts _ zk_766) (fun _ h9 => h9) rfl hin rfl (zty_20_ok 12 (by decide)) rfl rfl (Nat.le_of_ble_eq_true rfl) kdX8_46 (fun H1 locs hP hz1 aS => ?_)
  rw [pre_set] at hP
  have hP : va_P D zcl (zaw b0 0 (pre ++ [.inr (8, [.ref (b0 + (n + 1)), .ref (b0 + (n + 2)), .int 0, .ref (b0 + (n + 3)), .int 0, .int 0, .int 0, .int 0, .long 0, .int 0, .int 0, .ref (b0 + (n + 4)), .ref (b0 + (n + 5)), .null, .null, .null, .int 0, .null]), .inl (ca 0, 1880, .inl (fun _ => 0)), .inl (ca 0, 11280, .inl (fun _ => 0)), .inl (ca 2, 160, .inl (fun _ => 0)), .inl (ca 0, 144, .inl (fun _ => 0)), .inl (ca 0, 144, .inl (fun _ => 0))])) H1 := hP
  have hz : H1.size = b0 + (pre ++ ([.inr (8, [.ref (b0 + (n + 1)), .ref (b0 + (n + 2)), .int 0, .ref (b0 + (n + 3)), .int 0, .int 0, .int 0, .int 0, .long 0, .int 0, .int 0, .ref (b0 + (n + 4)), .ref (b0 + (n + 5)), .null, .null, .null, .int 0, .null]), .inl (ca 0, 1880, .inl (fun _ => 0)), .inl (ca 0, 11280, .inl (fun _ => 0)), .inl (ca 2, 160, .inl (fun _ => 0)), .inl (ca 0, 144, .inl (fun _ => 0)), .inl (ca 0, 144, .inl (fun _ => 0))] : List va_E)).length := len_eq pre _ _ b0 (hz1.trans hz) rfl
  clear hz1
  generalize H1 = H at hP hz aS ⊢
  refine lv_aload_n hx hb kdX8_49 rfl (lv_at hl 0 rfl) ?_
  refine lv_bipush (v := 27) hx hb kdX8_50 (by decide) ?_
  refine zn_newa (atype := .int) (ty := .int) (N := 27) (a0 := (27, .inl (fun _ => 0))) hx hb (hts _ zk_51) rfl (zBk_cls hB).1 hP hz aS (fun cA => rfl) (by decide) (by decide) (Nat.le_of_ble_eq_true rfl) (Nat.le_of_ble_eq_true rfl) (Nat.le_of_ble_eq_true rfl) kdX8_52 (fun H hP hz aS => ?_)
  rw [List.append_assoc] at hP hz
  rw [List.length_append, hn]
  have hP : va_P D zcl (zaw b0 0 (pre ++ [.inr (8, [.ref (b0 + (n + 1)), .ref (b0 + (n + 2)), .int 0, .ref (b0 + (n + 3)), .int 0, .int 0, .int 0, .int 0, .long 0, .int 0, .int 0, .ref (b0 + (n + 4)), .ref (b0 + (n + 5)), .null, .null, .null, .int 0, .null]), .inl (ca 0, 1880, .inl (fun _ => 0)), .inl (ca 0, 11280, .inl (fun _ => 0)), .inl (ca 2, 160, .inl (fun _ => 0)), .inl (ca 0, 144, .inl (fun _ => 0)), .inl (ca 0, 144, .inl (fun _ => 0)), .inl (ca 0, 27, .inl (fun _ => 0))])) H := hP
  have hz : H.size = b0 + (pre ++ ([.inr (8, [.ref (b0 + (n + 1)), .ref (b0 + (n + 2)), .int 0, .ref (b0 + (n + 3)), .int 0, .int 0, .int 0, .int 0, .long 0, .int 0, .int 0, .ref (b0 + (n + 4)), .ref (b0 + (n + 5)), .null, .null, .null, .int 0, .null]), .inl (ca 0, 1880, .inl (fun _ => 0)), .inl (ca 0, 11280, .inl (fun _ => 0)), .inl (ca 2, 160, .inl (fun _ => 0)), .inl (ca 0, 144, .inl (fun _ => 0)), .inl (ca 0, 144, .inl (fun _ => 0)), .inl (ca 0, 27, .inl (fun _ => 0))] : List va_E)).length := hz
  refine W.eq (g2 := F0 m 54 ls [.ref (b0 + (n + 6)), .ref (b0 + (pre.length + 0))]) (by subst hn; rfl) ?_
  refine zn_putF (own := zR_20) (ref := zR_20) (C := zR_20) (T := zF_20) (N := 18) (ci := 8) (v := .ref (b0 + (n + 6))) hx hb hts zin_20t zty_20 zty_20_ok znm_20 hown hB.1 hP aS (pre.length + 0) (by rw [pre_at]; rfl) rfl 13 (by decide) (hts _ zk_767) (fun _ h9 => h9) rfl hin rfl (zty_20_ok 13 (by decide)) rfl rfl (Nat.le_of_ble_eq_true rfl) kdX8_54 (fun H1 locs hP hz1 aS => ?_)
  rw [pre_set] at hP
  have hP : va_P D zcl (zaw b0 0 (pre ++ [.inr (8, [.ref (b0 + (n + 1)), .ref (b0 + (n + 2)), .int 0, .ref (b0 + (n + 3)), .int 0, .int 0, .int 0, .int 0, .long 0, .int 0, .int 0, .ref (b0 + (n + 4)), .ref (b0 + (n + 5)), .ref (b0 + (n + 6)), .null, .null, .int 0, .null]), .inl (ca 0, 1880, .inl (fun _ => 0)), .inl (ca 0, 11280, .inl (fun _ => 0)), .inl (ca 2, 160, .inl (fun _ => 0)), .inl (ca 0, 144, .inl (fun _ => 0)), .inl (ca 0, 144, .inl (fun _ => 0)), .inl (ca 0, 27, .inl (fun _ => 0))])) H1 := hP
  have hz : H1.size = b0 + (pre ++ ([.inr (8, [.ref (b0 + (n + 1)), .ref (b0 + (n + 2)), .int 0, .ref (b0 + (n + 3)), .int 0, .int 0, .int 0, .int 0, .long 0, .int 0, .int 0, .ref (b0 + (n + 4)), .ref (b0 + (n + 5)), .ref (b0 + (n + 6)), .null, .null, .int 0, .null]), .inl (ca 0, 1880, .inl (fun _ => 0)), .inl (ca 0, 11280, .inl (fun _ => 0)), .inl (ca 2, 160, .inl (fun _ => 0)), .inl (ca 0, 144, .inl (fun _ => 0)), .inl (ca 0, 144, .inl (fun _ => 0)), .inl (ca 0, 27, .inl (fun _ => 0))] : List va_E)).length := len_eq pre _ _ b0 (hz1.trans hz) rfl
  clear hz1
  generalize H1 = H at hP hz aS ⊢
  refine lv_aload_n hx hb kdX8_57 rfl (lv_at hl 0 rfl) ?_
  refine lv_bipush (v := 10) hx hb kdX8_58 (by decide) ?_
  refine zn_newa (atype := .int) (ty := .int) (N := 10) (a0 := (10, .inl (fun _ => 0))) hx hb (hts _ zk_51) rfl (zBk_cls hB).1 hP hz aS (fun cA => rfl) (by decide) (by decide) (Nat.le_of_ble_eq_true rfl) (Nat.le_of_ble_eq_true rfl) (Nat.le_of_ble_eq_true rfl) kdX8_60 (fun H hP hz aS => ?_)
  rw [List.append_assoc] at hP hz
  rw [List.length_append, hn]
  have hP : va_P D zcl (zaw b0 0 (pre ++ [.inr (8, [.ref (b0 + (n + 1)), .ref (b0 + (n + 2)), .int 0, .ref (b0 + (n + 3)), .int 0, .int 0, .int 0, .int 0, .long 0, .int 0, .int 0, .ref (b0 + (n + 4)), .ref (b0 + (n + 5)), .ref (b0 + (n + 6)), .null, .null, .int 0, .null]), .inl (ca 0, 1880, .inl (fun _ => 0)), .inl (ca 0, 11280, .inl (fun _ => 0)), .inl (ca 2, 160, .inl (fun _ => 0)), .inl (ca 0, 144, .inl (fun _ => 0)), .inl (ca 0, 144, .inl (fun _ => 0)), .inl (ca 0, 27, .inl (fun _ => 0)), .inl (ca 0, 10, .inl (fun _ => 0))])) H := hP
  have hz : H.size = b0 + (pre ++ ([.inr (8, [.ref (b0 + (n + 1)), .ref (b0 + (n + 2)), .int 0, .ref (b0 + (n + 3)), .int 0, .int 0, .int 0, .int 0, .long 0, .int 0, .int 0, .ref (b0 + (n + 4)), .ref (b0 + (n + 5)), .ref (b0 + (n + 6)), .null, .null, .int 0, .null]), .inl (ca 0, 1880, .inl (fun _ => 0)), .inl (ca 0, 11280, .inl (fun _ => 0)), .inl (ca 2, 160, .inl (fun _ => 0)), .inl (ca 0, 144, .inl (fun _ => 0)), .inl (ca 0, 144, .inl (fun _ => 0)), .inl (ca 0, 27, .inl (fun _ => 0)), .inl (ca 0, 10, .inl (fun _ => 0))] : List va_E)).length := hz
  refine W.eq (g2 := F0 m 62 ls [.ref (b0 + (n + 7)), .ref (b0 + (pre.length + 0))]) (by subst hn; rfl) ?_
  refine zn_putF (own := zR_20) (ref := zR_20) (C := zR_20) (T := zF_20) (N := 18) (ci := 8) (v := .ref (b0 + (n + 7))) hx hb hts zin_20t zty_20 zty_20_ok znm_20 hown hB.1 hP aS (pre.length + 0) (by rw [pre_at]; rfl) rfl 14 (by decide) (hts _ zk_768) (fun _ h9 => h9) rfl hin rfl (zty_20_ok 14 (by decide)) rfl rfl (Nat.le_of_ble_eq_true rfl) kdX8_62 (fun H1 locs hP hz1 aS => ?_)
  rw [pre_set] at hP
  have hP : va_P D zcl (zaw b0 0 (pre ++ [.inr (8, [.ref (b0 + (n + 1)), .ref (b0 + (n + 2)), .int 0, .ref (b0 + (n + 3)), .int 0, .int 0, .int 0, .int 0, .long 0, .int 0, .int 0, .ref (b0 + (n + 4)), .ref (b0 + (n + 5)), .ref (b0 + (n + 6)), .ref (b0 + (n + 7)), .null, .int 0, .null]), .inl (ca 0, 1880, .inl (fun _ => 0)), .inl (ca 0, 11280, .inl (fun _ => 0)), .inl (ca 2, 160, .inl (fun _ => 0)), .inl (ca 0, 144, .inl (fun _ => 0)), .inl (ca 0, 144, .inl (fun _ => 0)), .inl (ca 0, 27, .inl (fun _ => 0)), .inl (ca 0, 10, .inl (fun _ => 0))])) H1 := hP
  have hz : H1.size = b0 + (pre ++ ([.inr (8, [.ref (b0 + (n + 1)), .ref (b0 + (n + 2)), .int 0, .ref (b0 + (n + 3)), .int 0, .int 0, .int 0, .int 0, .long 0, .int 0, .int 0, .ref (b0 + (n + 4)), .ref (b0 + (n + 5)), .ref (b0 + (n + 6)), .ref (b0 + (n + 7)), .null, .int 0, .null]), .inl (ca 0, 1880, .inl (fun _ => 0)), .inl (ca 0, 11280, .inl (fun _ => 0)), .inl (ca 2, 160, .inl (fun _ => 0)), .inl (ca 0, 144, .inl (fun _ => 0)), .inl (ca 0, 144, .inl (fun _ => 0)), .inl (ca 0, 27, .inl (fun _ => 0)), .inl (ca 0, 10, .inl (fun _ => 0))] : List va_E)).length := len_eq pre _ _ b0 (hz1.trans hz) rfl
  clear hz1
  generalize H1 = H at hP hz aS ⊢
  refine lv_aload_n hx hb kdX8_65 rfl (lv_at hl 0 rfl) ?_
  refine lv_bipush (v := 10) hx hb kdX8_66 (by decide) ?_
  refine zn_newa (atype := .int) (ty := .int) (N := 10) (a0 := (10, .inl (fun _ => 0))) hx hb (hts _ zk_51) rfl (zBk_cls hB).1 hP hz aS (fun cA => rfl) (by decide) (by decide) (Nat.le_of_ble_eq_true rfl) (Nat.le_of_ble_eq_true rfl) (Nat.le_of_ble_eq_true rfl) kdX8_68 (fun H hP hz aS => ?_)
  rw [List.append_assoc] at hP hz
  rw [List.length_append, hn]
  have hP : va_P D zcl (zaw b0 0 (pre ++ [.inr (8, [.ref (b0 + (n + 1)), .ref (b0 + (n + 2)), .int 0, .ref (b0 + (n + 3)), .int 0, .int 0, .int 0, .int 0, .long 0, .int 0, .int 0, .ref (b0 + (n + 4)), .ref (b0 + (n + 5)), .ref (b0 + (n + 6)), .ref (b0 + (n + 7)), .null, .int 0, .null]), .inl (ca 0, 1880, .inl (fun _ => 0)), .inl (ca 0, 11280, .inl (fun _ => 0)), .inl (ca 2, 160, .inl (fun _ => 0)), .inl (ca 0, 144, .inl (fun _ => 0)), .inl (ca 0, 144, .inl (fun _ => 0)), .inl (ca 0, 27, .inl (fun _ => 0)), .inl (ca 0, 10, .inl (fun _ => 0)), .inl (ca 0, 10, .inl (fun _ => 0))])) H := hP
  have hz : H.size = b0 + (pre ++ ([.inr (8, [.ref (b0 + (n + 1)), .ref (b0 + (n + 2)), .int 0, .ref (b0 + (n + 3)), .int 0, .int 0, .int 0, .int 0, .long 0, .int 0, .int 0, .ref (b0 + (n + 4)), .ref (b0 + (n + 5)), .ref (b0 + (n + 6)), .ref (b0 + (n + 7)), .null, .int 0, .null]), .inl (ca 0, 1880, .inl (fun _ => 0)), .inl (ca 0, 11280, .inl (fun _ => 0)), .inl (ca 2, 160, .inl (fun _ => 0)), .inl (ca 0, 144, .inl (fun _ => 0)), .inl (ca 0, 144, .inl (fun _ => 0)), .inl (ca 0, 27, .inl (fun _ => 0)), .inl (ca 0, 10, .inl (fun _ => 0)), .inl (ca 0, 10, .inl (fun _ => 0))] : List va_E)).length := hz
  refine W.eq (g2 := F0 m 70 ls [.ref (b0 + (n + 8)), .ref (b0 + (pre.length + 0))]) (by subst hn; rfl) ?_
  refine zn_putF (own := zR_20) (ref := zR_20) (C := zR_20) (T := zF_20) (N := 18) (ci := 8) (v := .ref (b0 + (n + 8))) hx hb hts zin_20t zty_20 zty_20_ok znm_20 hown hB.1 hP aS (pre.length + 0) (by rw [pre_at]; rfl) rfl 15 (by decide) (hts _ zk_769) (fun _ h9 => h9) rfl hin rfl (zty_20_ok 15 (by decide)) rfl rfl (Nat.le_of_ble_eq_true rfl) kdX8_70 (fun H1 locs hP hz1 aS => ?_)
  rw [pre_set] at hP
  have hP : va_P D zcl (zaw b0 0 (pre ++ [.inr (8, [.ref (b0 + (n + 1)), .ref (b0 + (n + 2)), .int 0, .ref (b0 + (n + 3)), .int 0, .int 0, .int 0, .int 0, .long 0, .int 0, .int 0, .ref (b0 + (n + 4)), .ref (b0 + (n + 5)), .ref (b0 + (n + 6)), .ref (b0 + (n + 7)), .ref (b0 + (n + 8)), .int 0, .null]), .inl (ca 0, 1880, .inl (fun _ => 0)), .inl (ca 0, 11280, .inl (fun _ => 0)), .inl (ca 2, 160, .inl (fun _ => 0)), .inl (ca 0, 144, .inl (fun _ => 0)), .inl (ca 0, 144, .inl (fun _ => 0)), .inl (ca 0, 27, .inl (fun _ => 0)), .inl (ca 0, 10, .inl (fun _ => 0)), .inl (ca 0, 10, .inl (fun _ => 0))])) H1 := hP
  have hz : H1.size = b0 + (pre ++ ([.inr (8, [.ref (b0 + (n + 1)), .ref (b0 + (n + 2)), .int 0, .ref (b0 + (n + 3)), .int 0, .int 0, .int 0, .int 0, .long 0, .int 0, .int 0, .ref (b0 + (n + 4)), .ref (b0 + (n + 5)), .ref (b0 + (n + 6)), .ref (b0 + (n + 7)), .ref (b0 + (n + 8)), .int 0, .null]), .inl (ca 0, 1880, .inl (fun _ => 0)), .inl (ca 0, 11280, .inl (fun _ => 0)), .inl (ca 2, 160, .inl (fun _ => 0)), .inl (ca 0, 144, .inl (fun _ => 0)), .inl (ca 0, 144, .inl (fun _ => 0)), .inl (ca 0, 27, .inl (fun _ => 0)), .inl (ca 0, 10, .inl (fun _ => 0)), .inl (ca 0, 10, .inl (fun _ => 0))] : List va_E)).length := len_eq pre _ _ b0 (hz1.trans hz) rfl
  clear hz1
  generalize H1 = H at hP hz aS ⊢
  refine lv_aload_n hx hb kdX8_73 rfl (lv_at hl 0 rfl) ?_
  refine lv_bipush (v := 81) hx hb kdX8_74 (by decide) ?_
  refine zn_newa (atype := .int) (ty := .int) (N := 81) (a0 := (81, .inl (fun _ => 0))) hx hb (hts _ zk_51) rfl (zBk_cls hB).1 hP hz aS (fun cA => rfl) (by decide) (by decide) (Nat.le_of_ble_eq_true rfl) (Nat.le_of_ble_eq_true rfl) (Nat.le_of_ble_eq_true rfl) kdX8_76 (fun H hP hz aS => ?_)
  rw [List.append_assoc] at hP hz
  rw [List.length_append, hn]
  have hP : va_P D zcl (zaw b0 0 (pre ++ [.inr (8, [.ref (b0 + (n + 1)), .ref (b0 + (n + 2)), .int 0, .ref (b0 + (n + 3)), .int 0, .int 0, .int 0, .int 0, .long 0, .int 0, .int 0, .ref (b0 + (n + 4)), .ref (b0 + (n + 5)), .ref (b0 + (n + 6)), .ref (b0 + (n + 7)), .ref (b0 + (n + 8)), .int 0, .null]), .inl (ca 0, 1880, .inl (fun _ => 0)), .inl (ca 0, 11280, .inl (fun _ => 0)), .inl (ca 2, 160, .inl (fun _ => 0)), .inl (ca 0, 144, .inl (fun _ => 0)), .inl (ca 0, 144, .inl (fun _ => 0)), .inl (ca 0, 27, .inl (fun _ => 0)), .inl (ca 0, 10, .inl (fun _ => 0)), .inl (ca 0, 10, .inl (fun _ => 0)), .inl (ca 0, 81, .inl (fun _ => 0))])) H := hP
  have hz : H.size = b0 + (pre ++ ([.inr (8, [.ref (b0 + (n + 1)), .ref (b0 + (n + 2)), .int 0, .ref (b0 + (n + 3)), .int 0, .int 0, .int 0, .int 0, .long 0, .int 0, .int 0, .ref (b0 + (n + 4)), .ref (b0 + (n + 5)), .ref (b0 + (n + 6)), .ref (b0 + (n + 7)), .ref (b0 + (n + 8)), .int 0, .null]), .inl (ca 0, 1880, .inl (fun _ => 0)), .inl (ca 0, 11280, .inl (fun _ => 0)), .inl (ca 2, 160, .inl (fun _ => 0)), .inl (ca 0, 144, .inl (fun _ => 0)), .inl (ca 0, 144, .inl (fun _ => 0)), .inl (ca 0, 27, .inl (fun _ => 0)), .inl (ca 0, 10, .inl (fun _ => 0)), .inl (ca 0, 10, .inl (fun _ => 0)), .inl (ca 0, 81, .inl (fun _ => 0))] : List va_E)).length := hz
  refine W.eq (g2 := F0 m 78 ls [.ref (b0 + (n + 9)), .ref (b0 + (pre.length + 0))]) (by subst hn; rfl) ?_
  refine zn_putF (own := zR_20) (ref := zR_20) (C := zR_20) (T := zF_20) (N := 18) (ci := 8) (v := .ref (b0 + (n + 9))) hx hb hts zin_20t zty_20 zty_20_ok znm_20 hown hB.1 hP aS (pre.length + 0) (by rw [pre_at]; rfl) rfl 17 (by decide) (hts _ zk_771) (fun _ h9 => h9) rfl hin rfl (zty_20_ok 17 (by decide)) rfl rfl (Nat.le_of_ble_eq_true rfl) kdX8_78 (fun H1 locs hP hz1 aS => ?_)
  rw [pre_set] at hP
  have hP : va_P D zcl (zaw b0 0 (pre ++ [.inr (8, [.ref (b0 + (n + 1)), .ref (b0 + (n + 2)), .int 0, .ref (b0 + (n + 3)), .int 0, .int 0, .int 0, .int 0, .long 0, .int 0, .int 0, .ref (b0 + (n + 4)), .ref (b0 + (n + 5)), .ref (b0 + (n + 6)), .ref (b0 + (n + 7)), .ref (b0 + (n + 8)), .int 0, .ref (b0 + (n + 9))]), .inl (ca 0, 1880, .inl (fun _ => 0)), .inl (ca 0, 11280, .inl (fun _ => 0)), .inl (ca 2, 160, .inl (fun _ => 0)), .inl (ca 0, 144, .inl (fun _ => 0)), .inl (ca 0, 144, .inl (fun _ => 0)), .inl (ca 0, 27, .inl (fun _ => 0)), .inl (ca 0, 10, .inl (fun _ => 0)), .inl (ca 0, 10, .inl (fun _ => 0)), .inl (ca 0, 81, .inl (fun _ => 0))])) H1 := hP
  have hz : H1.size = b0 + (pre ++ ([.inr (8, [.ref (b0 + (n + 1)), .ref (b0 + (n + 2)), .int 0, .ref (b0 + (n + 3)), .int 0, .int 0, .int 0, .int 0, .long 0, .int 0, .int 0, .ref (b0 + (n + 4)), .ref (b0 + (n + 5)), .ref (b0 + (n + 6)), .ref (b0 + (n + 7)), .ref (b0 + (n + 8)), .int 0, .ref (b0 + (n + 9))]), .inl (ca 0, 1880, .inl (fun _ => 0)), .inl (ca 0, 11280, .inl (fun _ => 0)), .inl (ca 2, 160, .inl (fun _ => 0)), .inl (ca 0, 144, .inl (fun _ => 0)), .inl (ca 0, 144, .inl (fun _ => 0)), .inl (ca 0, 27, .inl (fun _ => 0)), .inl (ca 0, 10, .inl (fun _ => 0)), .inl (ca 0, 10, .inl (fun _ => 0)), .inl (ca 0, 81, .inl (fun _ => 0))] : List va_E)).length := len_eq pre _ _ b0 (hz1.trans hz) rfl
  clear hz1
  generalize H1 = H at hP hz aS ⊢
  refine lv_aload_n hx hb kdX8_81 rfl (lv_at hl 0 rfl) ?_
  refine W.eq (g2 := F0 m 82 ls [.ref (b0 + (pre.length + 0))]) (by subst hn; rfl) ?_
  refine va_get (own := zR_20) (ref := zR_20) (C := zR_20) (T := zF_20) (N := 18) (ci := 8) hx hb hts zin_20t hown hB.1 hP (pre.length + 0) (zaw_get b0 pre _ 0 rfl) rfl 0 (by decide) (hts _ zk_754) (fun _ h9 => h9) rfl kdX8_82 ?_
  refine lv_iconst (v := 0) hx hb kdX8_85 (by decide) ?_
  refine lv_bipush (v := 8) hx hb kdX8_86 (by decide) ?_
  refine W.eq (g2 := F0 m 88 ls [.int 8, .int 0, .ref (b0 + (pre.length + 1))]) (by subst hn; rfl) ?_
  refine zn_iast hx hb hB.1 hP aS (pre.length + 1) 0 (by rw [pre_at]; rfl) rfl (i := 0) (x := 8) (by unfold vp_in; decide) kdX8_88 (fun H1 locs hP hz1 aS => ?_)
  rw [pre_set] at hP
  have hP : va_P D zcl (zaw b0 0 (pre ++ [.inr (8, [.ref (b0 + (n + 1)), .ref (b0 + (n + 2)), .int 0, .ref (b0 + (n + 3)), .int 0, .int 0, .int 0, .int 0, .long 0, .int 0, .int 0, .ref (b0 + (n + 4)), .ref (b0 + (n + 5)), .ref (b0 + (n + 6)), .ref (b0 + (n + 7)), .ref (b0 + (n + 8)), .int 0, .ref (b0 + (n + 9))]), .inl (ca 0, 1880, .inl (upd (fun _ => 0) (Int32.toNatClampNeg 0) 8)), .inl (ca 0, 11280, .inl (fun _ => 0)), .inl (ca 2, 160, .inl (fun _ => 0)), .inl (ca 0, 144, .inl (fun _ => 0)), .inl (ca 0, 144, .inl (fun _ => 0)), .inl (ca 0, 27, .inl (fun _ => 0)), .inl (ca 0, 10, .inl (fun _ => 0)), .inl (ca 0, 10, .inl (fun _ => 0)), .inl (ca 0, 81, .inl (fun _ => 0))])) H1 := hP
  have hz : H1.size = b0 + (pre ++ ([.inr (8, [.ref (b0 + (n + 1)), .ref (b0 + (n + 2)), .int 0, .ref (b0 + (n + 3)), .int 0, .int 0, .int 0, .int 0, .long 0, .int 0, .int 0, .ref (b0 + (n + 4)), .ref (b0 + (n + 5)), .ref (b0 + (n + 6)), .ref (b0 + (n + 7)), .ref (b0 + (n + 8)), .int 0, .ref (b0 + (n + 9))]), .inl (ca 0, 1880, .inl (upd (fun _ => 0) (Int32.toNatClampNeg 0) 8)), .inl (ca 0, 11280, .inl (fun _ => 0)), .inl (ca 2, 160, .inl (fun _ => 0)), .inl (ca 0, 144, .inl (fun _ => 0)), .inl (ca 0, 144, .inl (fun _ => 0)), .inl (ca 0, 27, .inl (fun _ => 0)), .inl (ca 0, 10, .inl (fun _ => 0)), .inl (ca 0, 10, .inl (fun _ => 0)), .inl (ca 0, 81, .inl (fun _ => 0))] : List va_E)).length := len_eq pre _ _ b0 (hz1.trans hz) rfl
  clear hz1
  generalize H1 = H at hP hz aS ⊢
  refine lv_aload_n hx hb kdX8_89 rfl (lv_at hl 0 rfl) ?_
  refine W.eq (g2 := F0 m 90 ls [.ref (b0 + (pre.length + 0))]) (by subst hn; rfl) ?_
  refine va_get (own := zR_20) (ref := zR_20) (C := zR_20) (T := zF_20) (N := 18) (ci := 8) hx hb hts zin_20t hown hB.1 hP (pre.length + 0) (zaw_get b0 pre _ 0 rfl) rfl 0 (by decide) (hts _ zk_754) (fun _ h9 => h9) rfl kdX8_90 ?_
  refine lv_iconst (v := 1) hx hb kdX8_93 (by decide) ?_
  refine lv_bipush (v := 8) hx hb kdX8_94 (by decide) ?_
  refine W.eq (g2 := F0 m 96 ls [.int 8, .int 1, .ref (b0 + (pre.length + 1))]) (by subst hn; rfl) ?_
  refine zn_iast hx hb hB.1 hP aS (pre.length + 1) 0 (by rw [pre_at]; rfl) rfl (i := 1) (x := 8) (by unfold vp_in; decide) kdX8_96 (fun H1 locs hP hz1 aS => ?_)
  rw [pre_set] at hP
  have hP : va_P D zcl (zaw b0 0 (pre ++ [.inr (8, [.ref (b0 + (n + 1)), .ref (b0 + (n + 2)), .int 0, .ref (b0 + (n + 3)), .int 0, .int 0, .int 0, .int 0, .long 0, .int 0, .int 0, .ref (b0 + (n + 4)), .ref (b0 + (n + 5)), .ref (b0 + (n + 6)), .ref (b0 + (n + 7)), .ref (b0 + (n + 8)), .int 0, .ref (b0 + (n + 9))]), .inl (ca 0, 1880, .inl (upd (upd (fun _ => 0) (Int32.toNatClampNeg 0) 8) (Int32.toNatClampNeg 1) 8)), .inl (ca 0, 11280, .inl (fun _ => 0)), .inl (ca 2, 160, .inl (fun _ => 0)), .inl (ca 0, 144, .inl (fun _ => 0)), .inl (ca 0, 144, .inl (fun _ => 0)), .inl (ca 0, 27, .inl (fun _ => 0)), .inl (ca 0, 10, .inl (fun _ => 0)), .inl (ca 0, 10, .inl (fun _ => 0)), .inl (ca 0, 81, .inl (fun _ => 0))])) H1 := hP
  have hz : H1.size = b0 + (pre ++ ([.inr (8, [.ref (b0 + (n + 1)), .ref (b0 + (n + 2)), .int 0, .ref (b0 + (n + 3)), .int 0, .int 0, .int 0, .int 0, .long 0, .int 0, .int 0, .ref (b0 + (n + 4)), .ref (b0 + (n + 5)), .ref (b0 + (n + 6)), .ref (b0 + (n + 7)), .ref (b0 + (n + 8)), .int 0, .ref (b0 + (n + 9))]), .inl (ca 0, 1880, .inl (upd (upd (fun _ => 0) (Int32.toNatClampNeg 0) 8) (Int32.toNatClampNeg 1) 8)), .inl (ca 0, 11280, .inl (fun _ => 0)), .inl (ca 2, 160, .inl (fun _ => 0)), .inl (ca 0, 144, .inl (fun _ => 0)), .inl (ca 0, 144, .inl (fun _ => 0)), .inl (ca 0, 27, .inl (fun _ => 0)), .inl (ca 0, 10, .inl (fun _ => 0)), .inl (ca 0, 10, .inl (fun _ => 0)), .inl (ca 0, 81, .inl (fun _ => 0))] : List va_E)).length := len_eq pre _ _ b0 (hz1.trans hz) rfl
  clear hz1
  generalize H1 = H at hP hz aS ⊢
  refine lv_aload_n hx hb kdX8_97 rfl (lv_at hl 0 rfl) ?_
  refine W.eq (g2 := F0 m 98 ls [.ref (b0 + (pre.length + 0))]) (by subst hn; rfl) ?_
  refine va_get (own := zR_20) (ref := zR_20) (C := zR_20) (T := zF_20) (N := 18) (ci := 8) hx hb hts zin_20t hown hB.1 hP (pre.length + 0) (zaw_get b0 pre _ 0 rfl) rfl 0 (by decide) (hts _ zk_754) (fun _ h9 => h9) rfl kdX8_98 ?_
  refine lv_iconst (v := 3) hx hb kdX8_101 (by decide) ?_
  refine lv_iconst (v := 2) hx hb kdX8_102 (by decide) ?_
  refine W.eq (g2 := F0 m 103 ls [.int 2, .int 3, .ref (b0 + (pre.length + 1))]) (by subst hn; rfl) ?_
  refine zn_iast hx hb hB.1 hP aS (pre.length + 1) 0 (by rw [pre_at]; rfl) rfl (i := 3) (x := 2) (by unfold vp_in; decide) kdX8_103 (fun H1 locs hP hz1 aS => ?_)
  rw [pre_set] at hP
  have hP : va_P D zcl (zaw b0 0 (pre ++ [.inr (8, [.ref (b0 + (n + 1)), .ref (b0 + (n + 2)), .int 0, .ref (b0 + (n + 3)), .int 0, .int 0, .int 0, .int 0, .long 0, .int 0, .int 0, .ref (b0 + (n + 4)), .ref (b0 + (n + 5)), .ref (b0 + (n + 6)), .ref (b0 + (n + 7)), .ref (b0 + (n + 8)), .int 0, .ref (b0 + (n + 9))]), .inl (ca 0, 1880, .inl (upd (upd (upd (fun _ => 0) (Int32.toNatClampNeg 0) 8) (Int32.toNatClampNeg 1) 8) (Int32.toNatClampNeg 3) 2)), .inl (ca 0, 11280, .inl (fun _ => 0)), .inl (ca 2, 160, .inl (fun _ => 0)), .inl (ca 0, 144, .inl (fun _ => 0)), .inl (ca 0, 144, .inl (fun _ => 0)), .inl (ca 0, 27, .inl (fun _ => 0)), .inl (ca 0, 10, .inl (fun _ => 0)), .inl (ca 0, 10, .inl (fun _ => 0)), .inl (ca 0, 81, .inl (fun _ => 0))])) H1 := hP
  have hz : H1.size = b0 + (pre ++ ([.inr (8, [.ref (b0 + (n + 1)), .ref (b0 + (n + 2)), .int 0, .ref (b0 + (n + 3)), .int 0, .int 0, .int 0, .int 0, .long 0, .int 0, .int 0, .ref (b0 + (n + 4)), .ref (b0 + (n + 5)), .ref (b0 + (n + 6)), .ref (b0 + (n + 7)), .ref (b0 + (n + 8)), .int 0, .ref (b0 + (n + 9))]), .inl (ca 0, 1880, .inl (upd (upd (upd (fun _ => 0) (Int32.toNatClampNeg 0) 8) (Int32.toNatClampNeg 1) 8) (Int32.toNatClampNeg 3) 2)), .inl (ca 0, 11280, .inl (fun _ => 0)), .inl (ca 2, 160, .inl (fun _ => 0)), .inl (ca 0, 144, .inl (fun _ => 0)), .inl (ca 0, 144, .inl (fun _ => 0)), .inl (ca 0, 27, .inl (fun _ => 0)), .inl (ca 0, 10, .inl (fun _ => 0)), .inl (ca 0, 10, .inl (fun _ => 0)), .inl (ca 0, 81, .inl (fun _ => 0))] : List va_E)).length := len_eq pre _ _ b0 (hz1.trans hz) rfl
  clear hz1
  generalize H1 = H at hP hz aS ⊢
  refine lv_aload_n hx hb kdX8_104 rfl (lv_at hl 0 rfl) ?_
  refine W.eq (g2 := F0 m 105 ls [.ref (b0 + (pre.length + 0))]) (by subst hn; rfl) ?_
  refine va_get (own := zR_20) (ref := zR_20) (C := zR_20) (T := zF_20) (N := 18) (ci := 8) hx hb hts zin_20t hown hB.1 hP (pre.length + 0) (zaw_get b0 pre _ 0 rfl) rfl 0 (by decide) (hts _ zk_754) (fun _ h9 => h9) rfl kdX8_105 ?_
  refine lv_iconst (v := 4) hx hb kdX8_108 (by decide) ?_
  refine lv_iconst (v := 4) hx hb kdX8_109 (by decide) ?_
  refine W.eq (g2 := F0 m 110 ls [.int 4, .int 4, .ref (b0 + (pre.length + 1))]) (by subst hn; rfl) ?_
  refine zn_iast hx hb hB.1 hP aS (pre.length + 1) 0 (by rw [pre_at]; rfl) rfl (i := 4) (x := 4) (by unfold vp_in; decide) kdX8_110 (fun H1 locs hP hz1 aS => ?_)
  rw [pre_set] at hP
  have hP : va_P D zcl (zaw b0 0 (pre ++ [.inr (8, [.ref (b0 + (n + 1)), .ref (b0 + (n + 2)), .int 0, .ref (b0 + (n + 3)), .int 0, .int 0, .int 0, .int 0, .long 0, .int 0, .int 0, .ref (b0 + (n + 4)), .ref (b0 + (n + 5)), .ref (b0 + (n + 6)), .ref (b0 + (n + 7)), .ref (b0 + (n + 8)), .int 0, .ref (b0 + (n + 9))]), .inl (ca 0, 1880, .inl (upd (upd (upd (upd (fun _ => 0) (Int32.toNatClampNeg 0) 8) (Int32.toNatClampNeg 1) 8) (Int32.toNatClampNeg 3) 2) (Int32.toNatClampNeg 4) 4)), .inl (ca 0, 11280, .inl (fun _ => 0)), .inl (ca 2, 160, .inl (fun _ => 0)), .inl (ca 0, 144, .inl (fun _ => 0)), .inl (ca 0, 144, .inl (fun _ => 0)), .inl (ca 0, 27, .inl (fun _ => 0)), .inl (ca 0, 10, .inl (fun _ => 0)), .inl (ca 0, 10, .inl (fun _ => 0)), .inl (ca 0, 81, .inl (fun _ => 0))])) H1 := hP
  have hz : H1.size = b0 + (pre ++ ([.inr (8, [.ref (b0 + (n + 1)), .ref (b0 + (n + 2)), .int 0, .ref (b0 + (n + 3)), .int 0, .int 0, .int 0, .int 0, .long 0, .int 0, .int 0, .ref (b0 + (n + 4)), .ref (b0 + (n + 5)), .ref (b0 + (n + 6)), .ref (b0 + (n + 7)), .ref (b0 + (n + 8)), .int 0, .ref (b0 + (n + 9))]), .inl (ca 0, 1880, .inl (upd (upd (upd (upd (fun _ => 0) (Int32.toNatClampNeg 0) 8) (Int32.toNatClampNeg 1) 8) (Int32.toNatClampNeg 3) 2) (Int32.toNatClampNeg 4) 4)), .inl (ca 0, 11280, .inl (fun _ => 0)), .inl (ca 2, 160, .inl (fun _ => 0)), .inl (ca 0, 144, .inl (fun _ => 0)), .inl (ca 0, 144, .inl (fun _ => 0)), .inl (ca 0, 27, .inl (fun _ => 0)), .inl (ca 0, 10, .inl (fun _ => 0)), .inl (ca 0, 10, .inl (fun _ => 0)), .inl (ca 0, 81, .inl (fun _ => 0))] : List va_E)).length := len_eq pre _ _ b0 (hz1.trans hz) rfl
  clear hz1
  generalize H1 = H at hP hz aS ⊢
  exact W.vret hx hb hr (fun t ht hW => ⟨rfl, ⟨by rw [ht]; exact hP, by rw [ht]; exact hz⟩, aS.F ht⟩) aS.2.2 kdX8_111 hlocks
