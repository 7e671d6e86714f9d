section Main
variable {p : Program} {l : Launch} {e : Env} {R : Room} {s : State} {m : MethodId} {args : Array Value} {below : List Frame} {meth : Method} {c : Code} {cells slots : Nat} {Q : State → Prop}
variable {b0 : Nat} {D : va_G} {ca : Nat → ClassId} {adK adV : Nat → Nat} {bS L : Nat} {xs : Nat → Int32} {mi : Nat} {C : List mzN}
theorem zc_invokestatic (hx : p.tables.exec = Jvm.exec) (hb : c.code = zby mi) (hml : c.maxLocals = zml mi) (hown : s.vm.findClass (zy mi).cls = some m.cls) (hts : ∀ w ∈ zTs, w.before args s = true) (hB : zBk b0 D ca adK adV bS L xs s) (hR : zfr mi ≤ R.frames ∧ zlo mi ≤ R.locals ∧ cells ≤ R.cells ∧ slots ≤ R.slots) (hcp : ∀ q ∈ C, q.2.2.1 = 999 → 40 ≤ zlo mi) (h1f : 1 ≤ zfr mi) {idx k pc a : Nat} {cs : List (Int × Nat)} {hh : Bool} (hq : (pc, Instr.invokestatic idx, a, cs, hh) ∈ C) (hd : zdk (zby mi) pc (.invokestatic idx) = true) (hf : zfall C k pc (.invokestatic idx) = true) (h1 : zchk1 mi C pc (.invokestatic idx) a cs = true) (h2 : zOK2 (zy mi).cls (.invokestatic idx) a cs) {ls st : List mzV} {μ : mzM} {H : Heap} {locs : List Loc} {la : Array Slot} {sa : List Value} (hA : zA b0 D ca adK adV bS L xs s mi ls st μ H locs la sa) : zgoal (W p l e R s m args below meth c H locs cells slots Q (F0 m pc la sa)) (zK p l e R s m args below meth c cells slots Q b0 D ca adK adV bS L xs mi C) (zKC p l e R s m args below meth c cells slots Q b0 D ca adK adV bS L xs mi C) (zKE p l e R s m args below meth c cells slots Q b0 D ca adK adV bS L xs mi) (zstep (.invokestatic idx) a cs k ls st μ) := by
  have hd0 : decode (zby mi) pc = .ok (.invokestatic idx, 3) := (zdk_p hd).resolve_left (by rintro ⟨_, _, _, _, h⟩; cases h)
  have hp : zpcs C (k + 1) = pc + 3 := zfl_p hf
  have hcp2 := hcp _ hq
  unfold zstep
  dsimp only
  split
  · exact zcp_ok hx hb hml hown hts hB (Nat.le_trans h1f hR.1) (Nat.le_trans (hcp2 rfl) hR.2.1) hd0 hp h2 hA
  · next a' hne =>
    match cs, h1, h2 with
    | [], _, _ => trivial
    | [_], _, _ => trivial
    | (n, rk) :: (z, 0) :: cs, h1, h2 =>
      unfold zOK2 at h2
      dsimp only at h2
      split at h2
      · exact absurd rfl hne
      · exact zcallS hx hb hml hown hts hB hR hd0 hp h1 h2 hA
    | (n, rk) :: (z, g + 1) :: cs, h1, h2 =>
      have h3 : (Nat.ble (zfr a + 1) (zfr mi) && Nat.ble (8 + (zml a + 11) + zlo a) (zlo mi) && Nat.beq (g + 1) 0 && Nat.blt a 71 && Nat.ble n.toNat (zml a)) = true := h1
      simp only [Bool.and_eq_true] at h3
      exact absurd h3.1.1.2 (by simp)
theorem zc_invokevirtual (hx : p.tables.exec = Jvm.exec) (hb : c.code = zby mi) (hml : c.maxLocals = zml mi) (hown : s.vm.findClass (zy mi).cls = some m.cls) (hts : ∀ w ∈ zTs, w.before args s = true) (hB : zBk b0 D ca adK adV bS L xs s) (hR : zfr mi ≤ R.frames ∧ zlo mi ≤ R.locals ∧ cells ≤ R.cells ∧ slots ≤ R.slots) {idx k pc a : Nat} {cs : List (Int × Nat)} (hd : zdk (zby mi) pc (.invokevirtual idx) = true) (hf : zfall C k pc (.invokevirtual idx) = true) (h1 : zchk1 mi C pc (.invokevirtual idx) a cs = true) (h2 : zOK2 (zy mi).cls (.invokevirtual idx) a cs) {ls st : List mzV} {μ : mzM} {H : Heap} {locs : List Loc} {la : Array Slot} {sa : List Value} (hA : zA b0 D ca adK adV bS L xs s mi ls st μ H locs la sa) : zgoal (W p l e R s m args below meth c H locs cells slots Q (F0 m pc la sa)) (zK p l e R s m args below meth c cells slots Q b0 D ca adK adV bS L xs mi C) (zKC p l e R s m args below meth c cells slots Q b0 D ca adK adV bS L xs mi C) (zKE p l e R s m args below meth c cells slots Q b0 D ca adK adV bS L xs mi) (zstep (.invokevirtual idx) a cs k ls st μ) := by
  have hd0 : decode (zby mi) pc = .ok (.invokevirtual idx, 3) := (zdk_p hd).resolve_left (by rintro ⟨_, _, _, _, h⟩; cases h)
  have hp : zpcs C (k + 1) = pc + 3 := zfl_p hf
  match cs, h1, h2 with
  | [], _, _ => trivial
  | [_], _, _ => trivial
  | (n, rk) :: (z, 0) :: cs, h1, h2 =>
    have h3 : (Nat.ble (zfr a + 1) (zfr mi) && Nat.ble (8 + (zml a + 11) + zlo a) (zlo mi) && Nat.blt 0 0 && Nat.blt 0 n.toNat && Nat.blt a 71 && Nat.ble n.toNat (zml a) && (Nat.beq (zrow (0 - 1)) 0 && Nat.blt 0 (zcnt (0 - 1)))) = true := h1
    simp only [Bool.and_eq_true] at h3
    exact absurd h3.1.1.1.1.2 (by simp)
  | (n, rk) :: (z, g + 1) :: cs, h1, h2 => exact zcallV (z := z) (cs := cs) hx hb hml hown hts hB hR hd0 hp h1 h2 hA
theorem zstep_ok (hx : p.tables.exec = Jvm.exec) (hb : c.code = zby mi) (hml : c.maxLocals = zml mi) (hown : s.vm.findClass (zy mi).cls = some m.cls) (hts : ∀ w ∈ zTs, w.before args s = true) (hB : zBk b0 D ca adK adV bS L xs s) (hR : zfr mi ≤ R.frames ∧ zlo mi ≤ R.locals ∧ cells ≤ R.cells ∧ slots ≤ R.slots) (hcp : ∀ q ∈ C, q.2.2.1 = 999 → 40 ≤ zlo mi) (h1f : 1 ≤ zfr mi) {I : Instr} {k pc a : Nat} {cs : List (Int × Nat)} {hh : Bool} (hq : (pc, I, a, cs, hh) ∈ C) (hd : zdk (zby mi) pc I = true) (hf : zfall C k pc I = true) (h1 : zchk1 mi C pc I a cs = true) (h2 : zOK2 (zy mi).cls I a cs) {ls st : List mzV} {μ : mzM} {H : Heap} {locs : List Loc} {la : Array Slot} {sa : List Value} (hA : zA b0 D ca adK adV bS L xs s mi ls st μ H locs la sa) : zgoal (W p l e R s m args below meth c H locs cells slots Q (F0 m pc la sa)) (zK p l e R s m args below meth c cells slots Q b0 D ca adK adV bS L xs mi C) (zKC p l e R s m args below meth c cells slots Q b0 D ca adK adV bS L xs mi C) (zKE p l e R s m args below meth c cells slots Q b0 D ca adK adV bS L xs mi) (zstep I a cs k ls st μ) := by
  cases I with
  | iconst _ => exact zc_iconst hx hb hml hown hts hB hR hd hf h1 h2 hA
  | bipush _ => exact zc_bipush hx hb hml hown hts hB hR hd hf h1 h2 hA
  | sipush _ => exact zc_sipush hx hb hml hown hts hB hR hd hf h1 h2 hA
  | ldc_w _ => exact zc_ldc_w hx hb hml hown hts hB hR hd hf h1 h2 hA
  | lconst _ => exact zc_lconst hx hb hml hown hts hB hR hd hf h1 h2 hA
  | ldc2_w _ => exact zc_ldc2_w hx hb hml hown hts hB hR hd hf h1 h2 hA
  | ldc _ => exact zc_ldc hx hb hml hown hts hB hR hd hf h1 h2 hA
  | aconst_null => exact zc_aconst_null hx hb hml hown hts hB hR hd hf h1 h2 hA
  | iload _ => exact zc_iload hx hb hml hown hts hB hR hd hf h1 h2 hA
  | iload_n _ => exact zc_iload_n hx hb hml hown hts hB hR hd hf h1 h2 hA
  | lload_n _ => exact zc_lload_n hx hb hml hown hts hB hR hd hf h1 h2 hA
  | lload _ => exact zc_lload hx hb hml hown hts hB hR hd hf h1 h2 hA
  | aload _ => exact zc_aload hx hb hml hown hts hB hR hd hf h1 h2 hA
  | aload_n _ => exact zc_aload_n hx hb hml hown hts hB hR hd hf h1 h2 hA
  | istore _ => exact zc_istore hx hb hml hown hts hB hR hd hf h1 h2 hA
  | istore_n _ => exact zc_istore_n hx hb hml hown hts hB hR hd hf h1 h2 hA
  | astore _ => exact zc_astore hx hb hml hown hts hB hR hd hf h1 h2 hA
  | astore_n _ => exact zc_astore_n hx hb hml hown hts hB hR hd hf h1 h2 hA
  | lstore_n _ => exact zc_lstore_n hx hb hml hown hts hB hR hd hf h1 h2 hA
  | lstore _ => exact zc_lstore hx hb hml hown hts hB hR hd hf h1 h2 hA
  | iinc _ _ => exact zc_iinc hx hb hml hown hts hB hR hd hf h1 h2 hA
  | iadd => exact zc_iadd hx hb hml hown hts hB hR hd hf h1 h2 hA
  | isub => exact zc_isub hx hb hml hown hts hB hR hd hf h1 h2 hA
  | imul => exact zc_imul hx hb hml hown hts hB hR hd hf h1 h2 hA
  | idiv => exact zc_idiv hx hb hml hown hts hB hR hd hf h1 h2 hA
  | irem => exact zc_irem hx hb hml hown hts hB hR hd hf h1 h2 hA
  | ineg => exact zc_ineg hx hb hml hown hts hB hR hd hf h1 h2 hA
  | iand => exact zc_iand hx hb hml hown hts hB hR hd hf h1 h2 hA
  | ixor => exact zc_ixor hx hb hml hown hts hB hR hd hf h1 h2 hA
  | ishl => exact zc_ishl hx hb hml hown hts hB hR hd hf h1 h2 hA
  | ishr => exact zc_ishr hx hb hml hown hts hB hR hd hf h1 h2 hA
  | iushr => exact zc_iushr hx hb hml hown hts hB hR hd hf h1 h2 hA
  | ladd => exact zc_ladd hx hb hml hown hts hB hR hd hf h1 h2 hA
  | lmul => exact zc_lmul hx hb hml hown hts hB hR hd hf h1 h2 hA
  | lcmp => exact zc_lcmp hx hb hml hown hts hB hR hd hf h1 h2 hA
  | i2l => exact zc_i2l hx hb hml hown hts hB hR hd hf h1 h2 hA
  | l2i => exact zc_l2i hx hb hml hown hts hB hR hd hf h1 h2 hA
  | i2c => exact zc_i2c hx hb hml hown hts hB hR hd hf h1 h2 hA
  | i2b => exact zc_i2b hx hb hml hown hts hB hR hd hf h1 h2 hA
  | dup => exact zc_dup hx hb hml hown hts hB hR hd hf h1 h2 hA
  | dup2 => exact zc_dup2 hx hb hml hown hts hB hR hd hf h1 h2 hA
  | pop => exact zc_pop hx hb hml hown hts hB hR hd hf h1 h2 hA
  | goto _ => exact zc_goto hx hb hml hown hts hB hR hd hf h1 h2 hA
  | if_icmp _ _ => exact zc_if_icmp hx hb hml hown hts hB hR hd hf h1 h2 hA
  | ifCond _ _ => exact zc_ifCond hx hb hml hown hts hB hR hd hf h1 h2 hA
  | ifnull _ => exact zc_ifnull hx hb hml hown hts hB hR hd hf h1 h2 hA
  | ifnonnull _ => exact zc_ifnonnull hx hb hml hown hts hB hR hd hf h1 h2 hA
  | tableswitch _ _ _ _ => exact zc_tableswitch hx hb hml hown hts hB hR hd hf h1 h2 hA
  | getfield _ => exact zc_getfield hx hb hml hown hts hB hR hd hf h1 h2 hA
  | putfield _ => exact zc_putfield hx hb hml hown hts hB hR hd hf h1 h2 hA
  | arraylength => exact zc_arraylength hx hb hml hown hts hB hR hd hf h1 h2 hA
  | iaload => exact zc_iaload hx hb hml hown hts hB hR hd hf h1 h2 hA
  | aaload => exact zc_aaload hx hb hml hown hts hB hR hd hf h1 h2 hA
  | iastore => exact zc_iastore hx hb hml hown hts hB hR hd hf h1 h2 hA
  | invokevirtual _ => exact zc_invokevirtual hx hb hml hown hts hB hR hd hf h1 h2 hA
  | ireturn => exact zc_ireturn hx hb hml hown hts hB hR hd hf h1 h2 hA
  | lreturn => exact zc_lreturn hx hb hml hown hts hB hR hd hf h1 h2 hA
  | areturn => exact zc_areturn hx hb hml hown hts hB hR hd hf h1 h2 hA
  | return_ => exact zc_return_ hx hb hml hown hts hB hR hd hf h1 h2 hA
  | invokestatic _ => exact zc_invokestatic hx hb hml hown hts hB hR hcp h1f hq hd hf h1 h2 hA
  | _ => trivial
theorem zchk0_at {mi : Nat} {C : List mzN} : ∀ (D : List mzN) (j i : Nat) {pc : Nat} {I : Instr} {a : Nat} {cs : List (Int × Nat)} {hh : Bool}, zchk0 mi C j D = true → D[i]? = some (pc, I, a, cs, hh) → (zdk (zby mi) pc I = true ∧ zfall C (j + i) pc I = true) ∧ zchk1 mi C pc I a cs = true
  | [], j, i, pc, I, a, cs, hh, _, h => by simp at h
  | (pc0, I0, a0, cs0, hh0) :: D, j, i, pc, I, a, cs, hh, h0, h => by
    simp only [zchk0, Bool.and_eq_true] at h0
    cases i with
    | zero => simp at h; obtain ⟨rfl, rfl, rfl, rfl, rfl⟩ := h; exact ⟨h0.1.1, h0.1.2⟩
    | succ i =>
      have h3 := zchk0_at D (j + 1) i h0.2 (by simpa using h)
      rw [show j + (i + 1) = j + 1 + i by omega]
      exact h3
theorem zall2_at {own : String} : ∀ (D : List mzN) (i : Nat) {pc : Nat} {I : Instr} {a : Nat} {cs : List (Int × Nat)} {hh : Bool}, zall2 own D → D[i]? = some (pc, I, a, cs, hh) → zOK2 own I a cs
  | [], i, pc, I, a, cs, hh, _, h => by simp at h
  | (pc0, I0, a0, cs0, hh0) :: D, i, pc, I, a, cs, hh, h0, h => by
    cases i with
    | zero => simp at h; obtain ⟨rfl, rfl, rfl, rfl, rfl⟩ := h; exact h0.1
    | succ i => exact zall2_at D i h0.2 (by simpa using h)
theorem zchk_at {mi k pc : Nat} {I : Instr} {a : Nat} {cs : List (Int × Nat)} {hh : Bool} (h : (zcd mi)[k]? = some (pc, I, a, cs, hh)) : ((zdk (zby mi) pc I = true ∧ zfall (zcd mi) k pc I = true) ∧ zchk1 mi (zcd mi) pc I a cs = true) ∧ zOK2 (zy mi).cls I a cs := by
  have h0 := zok1_all mi
  unfold zchk at h0
  simp only [Bool.and_eq_true] at h0
  have h1 := zchk0_at (zcd mi) 0 k h0.1.1 h
  rw [Nat.zero_add] at h1
  exact ⟨h1, zall2_at (zcd mi) k (zok2_all mi) h⟩
theorem zchk_cp {mi : Nat} : ∀ q ∈ zcd mi, q.2.2.1 = 999 → 40 ≤ zlo mi := by
  intro q hq h9
  have h0 := zok1_all mi
  unfold zchk at h0
  simp only [Bool.and_eq_true] at h0
  have h1 := h0.2
  have h2 : (zcd mi).any (fun q => Nat.beq q.2.2.1 999) = true := List.any_eq_true.mpr ⟨q, hq, by rw [h9]; rfl⟩
  rw [h2] at h1
  exact Nat.ble_eq.mp h1
theorem zpcs_0 (mi : Nat) : zpcs (zcd mi) 0 = 0 := by
  have h0 := zok1_all mi
  unfold zchk at h0
  simp only [Bool.and_eq_true] at h0
  have h1 := h0.1.2
  unfold zpcs
  cases hC : zcd mi with
  | nil => rfl
  | cons x D =>
    obtain ⟨pc, r⟩ := x
    rw [hC] at h1
    exact Nat.eq_of_beq_eq_true h1
theorem zfr_pos : ∀ f, f < 72 → 1 ≤ zfr f := by decide +kernel
theorem zplain : ∀ f, f < 71 → plainFor (zy f) = true := by decide +kernel
/-- as the kit's maker of contracts, for the methods of java.lang.Math too -/
theorem zMet_of {l : Launch} {y : MethodName} {ws ws' : List Cond} {rm : Room} {Pc : Array Value → State → Prop} {Qc : Array Value → State → Outcome → State → Prop} {mc ms : Nat} {free : Addr → Prop} {cc : ByteArray} {maxL : Nat} {ret : Option FieldType}
    (hy : plainFor y = true) (hw : ws = Cond.code y cc maxL ret :: ws')
    (body : ∀ p e s m args below meth c s₁, BodyLoose p l y (headSpec ws rm) cc maxL ret e s m args below meth c s₁ → c.maxLocals = maxL → Pc args s →
      W p l e (headSpec ws rm).room s m args below meth c s.heap [] 0 0 (MQ below Qc args s mc ms free) (entryFrame m args maxL)) : Met l y ws rm Pc Qc mc ms free := by
  refine MetFree.of_bodySF (code := cc) (maxLocals := maxL) (ret := ret) hy ?_ ?_
  · intro args s m h hn
    obtain ⟨meth, c, h1, h2, h3, h4, h5, h6, -, -⟩ := Cond.code_spec hn (atoms_spec (ws := ws) h _ (by rw [hw]; exact List.mem_cons_self))
    exact ⟨meth, c, h1, h2, h3, h4, h5, h6⟩
  · intro p e s m args below meth c s₁ B hml hP _
    have hh0 : s₁.heap = s.heap := by rw [B.state]; rfl
    obtain ⟨t, a1, o, b1, b2, b3⟩ := body p e s m args below meth c s₁ B hml hP s₁ hh0 (Stand.of_body B)
    exact ⟨t, o, a1, b1, b2, ⟨b3.1, b3.2⟩⟩
/-- the end of a method whose answer is a number -/
theorem zW_ret {cc : ByteArray} {Qc : Array Value → State → Outcome → State → Prop} {free : Addr → Prop} {H : Heap} {locs : List Loc} {v v' : Int32} {ty : FieldType} (hexec : p.tables.exec = Jvm.exec) (hb : c.code = cc) (hr : meth.sig.returnType = some ty) (hn : narrow ty (.int v) = .int v') (hlocks : meth.locks = false)
    (hq : ∀ t : State, t.heap = H → s.WarmedH t.vm → Qc args s (.returned (some (.int v'))) t) (hf : ∀ q ∈ locs, free q.base)
    {pc : Nat} {ls : Array Slot} (hdg : decode cc pc = .ok (.ireturn, 1)) : W p l e R s m args below meth c H locs cells slots (MQ below Qc args s cells slots free) (F0 m pc ls [.int v]) := by
  intro T hT X
  obtain ⟨fs, hret, hrun, hended, hW, hframe⟩ := X.leave (v := some (.int v')) (fun h => by rw [hr] at h; cases h)
  have hmeth' : T.vm.method? m = some meth := X.method'
  refine ⟨T.setFrames fs, ?_, .returned (some (.int v')), hrun, hended, hq _ hT hW, locs, ⟨⟨_, rfl⟩, hW, hframe⟩, hf⟩
  jvm_step X.here [X.here.top, hexec, hb, hdg, hmeth', hr, hn]
  (try refine ⟨rfl, ?_⟩); (try refine ⟨rfl, ?_⟩)
  first | (intro acts; rw [hret _ acts rfl rfl rfl]) | rw [hret _ _ rfl rfl rfl]
  exact Steps.refl _
theorem zKE_end {f : Nat} {r : Option mzV} {ν : mzM} {av : List Value} (hexec : p.tables.exec = Jvm.exec) (hb : c.code = zby f) (hr : meth.sig.returnType = zrt f) (hlocks : meth.locks = false) : zKE p l e R s m args below meth c 0 0 (MQ below (zQc b0 D ca adK adV bS L xs r ν) args s 0 0 (fun q => b0 ≤ q)) b0 D ca adK adV bS L xs f r ν := by
  intro H locs la sa pc hraw hP hM hS
  have hq : ∀ (v : Option Value), zrO b0 adK adV bS r v → ∀ t : State, t.heap = H → s.WarmedH t.vm → zQc b0 D ca adK adV bS L xs r ν args s (.returned v) t := fun v hv t ht _ => ⟨⟨v, rfl, hv⟩, by rw [ht]; exact hP, hM, hS.F ht⟩
  rcases hraw with ⟨rfl, rfl, hd, h4⟩ | ⟨n, n', ty, rfl, rfl, h3, h4, hd, h5, h6, h7⟩ | ⟨n, rfl, rfl, h3, hd, h5⟩ | ⟨t, i, v, cn, rfl, rfl, hv, hd, h5⟩
  · exact W.vret hexec hb (hr.trans h4) (hq none trivial) hS.2.2 hd hlocks
  · exact zW_ret hexec hb (hr.trans h5) h6 hlocks (hq _ (show zrv b0 adK adV bS (vI n') _ from zrv_I h4)) hS.2.2 hd
  · exact W.lret hexec hb (hr.trans h5) (hq _ (show zrv b0 adK adV bS (vL n) _ from zrv_L h3)) hS.2.2 hd hlocks
  · exact W.aret hexec hb (hr.trans h5) (Or.inl ⟨_, rfl⟩) (zrv_ref hv) (hq _ (show zrv b0 adK adV bS (vR t i) _ from hv)) hS.2.2 hd hlocks
theorem zent_ok {f : Nat} {as : List mzV} {av : List Value} (hf : as.length ≤ zml f) (hn : ∀ w ∈ as, zisL w = false) (h : zrs b0 adK adV bS as av) : zrl b0 adK adV bS (zent (zml f) as) ((lg_sl av ++ List.replicate (zml f - (lg_sl av).length) Slot.unset).toArray) ∧ zlgo f (zent (zml f) as) := by
  have hcat : ∀ (as : List mzV) (av : List Value), (∀ w ∈ as, zisL w = false) → zrs b0 adK adV bS as av → lg_sl av = av.map Slot.val := by
    intro as
    induction as with
    | nil =>
      intro av _ h
      have h0 : av = [] := by have := h.1; cases av with | nil => rfl | cons _ _ => simp at this
      subst h0
      rfl
    | cons w as ih =>
      intro av hn h
      obtain ⟨v, ra, rfl, h1, h2⟩ := zrs_un h
      have h3 := ih ra (fun w hw => hn w (List.mem_cons_of_mem _ hw)) h2
      have h4 := zrv_cat h1
      rw [hn w List.mem_cons_self] at h4
      have h5 : lg_sl (v :: ra) = [Slot.val v] ++ lg_sl ra := by
        unfold lg_sl
        rw [List.flatMap_cons, if_neg (by rw [h4]; decide)]
      rw [h5, h3]
      rfl
  have hsl := hcat as av hn h
  have hlen : (lg_sl av).length = as.length := by rw [hsl, List.length_map, h.1]
  have hl := lv_entry av (n := zml f) (by rw [hlen]; exact hf)
  refine ⟨⟨?_, hl.2.1, fun i w hw => ?_⟩, ?_, fun i n hi => ?_⟩
  · rw [hl.1]
    unfold zent
    rw [List.length_append, List.length_replicate]
    omega
  · unfold zent at hw
    by_cases hi : i < as.length
    · rw [List.getElem?_append_left hi] at hw
      have hi2 : i < av.length := by rw [← h.1]; exact hi
      obtain ⟨v, hv⟩ : ∃ v, av[i]? = some v := ⟨av[i], List.getElem?_eq_getElem hi2⟩
      refine ⟨v, h.2 i _ v hw hv, ?_⟩
      rw [List.getElem?_toArray, List.getElem?_append_left (by rw [hlen]; exact hi), hsl, List.getElem?_map, hv]
      rfl
    · rw [List.getElem?_append_right (by omega)] at hw
      have := List.eq_of_mem_replicate (List.mem_of_getElem? hw)
      cases this
  · unfold zent
    rw [List.length_append, List.length_replicate]
    omega
  · unfold zent at hi
    by_cases hi2 : i < as.length
    · rw [List.getElem?_append_left hi2] at hi
      have := hn _ (List.mem_of_getElem? hi)
      cases this
    · rw [List.getElem?_append_right (by omega)] at hi
      have := List.eq_of_mem_replicate (List.mem_of_getElem? hi)
      cases this
/-- THE SIMULATION: what the small machine comes to, the machine comes to -/
theorem zsim (l : Launch) (b0 : Nat) (D : va_G) (ca : Nat → ClassId) (adK adV : Nat → Nat) (bS L : Nat) (xs : Nat → Int32) : ∀ (n mi k : Nat) (ls st : List mzV) (μ : mzM) (r : Option mzV) (ν : mzM), mi < 72 → mrun zcd zml n mi k ls st μ = some (r, ν) →
    ∀ (p : Program) (e : Env) (R : Room) (s : State) (m : MethodId) (args : Array Value) (below : List Frame) (meth : Method) (c : Code) (cells slots : Nat) (Q : State → Prop), p.tables.exec = Jvm.exec → c.code = zby mi → c.maxLocals = zml mi → s.vm.findClass (zy mi).cls = some m.cls → (∀ w ∈ zTs, w.before args s = true) → zBk b0 D ca adK adV bS L xs s → (zfr mi ≤ R.frames ∧ zlo mi ≤ R.locals ∧ cells ≤ R.cells ∧ slots ≤ R.slots) →
    zKE p l e R s m args below meth c cells slots Q b0 D ca adK adV bS L xs mi r ν → zK p l e R s m args below meth c cells slots Q b0 D ca adK adV bS L xs mi (zcd mi) (k, ls, st, μ) := by
  intro n
  induction n with
  | zero => intro mi k ls st μ r ν _ h; cases h
  | succ n ih =>
    intro mi k ls st μ r ν hmi h p e R s m args below meth c cells slots Q hx hb hml hown hts hB hR hE
    rw [mrun] at h
    cases hc : (zcd mi)[k]? with
    | none => rw [hc] at h; cases h
    | some ins =>
      obtain ⟨pc, I, a, cs, hh⟩ := ins
      rw [hc] at h
      dsimp only at h
      obtain ⟨⟨⟨hd, hf⟩, h1⟩, h2⟩ := zchk_at hc
      intro H locs la sa hA
      have hpc : zpcs (zcd mi) k = pc := by unfold zpcs; rw [hc]
      show W p l e R s m args below meth c H locs cells slots Q (F0 m (zpcs (zcd mi) k) la sa)
      rw [hpc]
      have hg := zstep_ok (l := l) (e := e) (below := below) (meth := meth) (Q := Q) hx hb hml hown hts hB hR zchk_cp (zfr_pos mi hmi) (List.mem_of_getElem? hc) hd hf h1 h2 hA
      have go : ∀ (x : mzC), mrun zcd zml n mi x.1 x.2.1 x.2.2.1 x.2.2.2 = some (r, ν) → zK p l e R s m args below meth c cells slots Q b0 D ca adK adV bS L xs mi (zcd mi) x := fun x hxr => ih mi x.1 x.2.1 x.2.2.1 x.2.2.2 r ν hmi hxr p e R s m args below meth c cells slots Q hx hb hml hown hts hB hR hE
      cases hs : zstep I a cs k ls st μ with
      | none => rw [hs] at h; cases h
      | some z =>
        rw [hs] at h hg
        rcases z with x | ⟨q1, x, y⟩ | ⟨q1, x⟩ | ⟨f, as, rk, x⟩ | ⟨v, ts, x⟩ | ⟨r2, ν2⟩
        · exact hg (go x h)
        · dsimp only at h
          refine hg (fun hq => go x ?_) (fun hq => go y ?_)
          · rw [@if_pos _ q1.2 hq] at h; exact h
          · rw [@if_neg _ q1.2 hq] at h; exact h
        · dsimp only at h
          by_cases hq : q1.1
          · rw [@if_pos _ q1.2 hq] at h; exact hg hq (go x h)
          · rw [@if_neg _ q1.2 hq] at h; cases h
        · dsimp only at h
          cases hcall : mrun zcd zml n f 0 (zent (zml f) as) [] x.2.2.2 with
          | none => rw [hcall] at h; cases h
          | some q =>
            obtain ⟨r1, ν1⟩ := q
            rw [hcall] at h
            dsimp only at h
            refine hg ⟨r1, ν1, ?_, go (x.1, x.2.1, zpush r1 x.2.2.1, ν1) h⟩
            rintro ⟨hf6, hlen, hnl⟩ av hav
            refine zMet_of (cc := zby f) (maxL := zml f) (ret := zrt f) (zplain f hf6) rfl ?_
            intro p2 e2 s2 m2 args2 below2 meth2 c2 s3 B hml2 hv
            obtain ⟨rfl, hB2, hP2, hM2⟩ := hv
            have hts2 := atoms_spec (ws := zwf f) B.pre
            have hown2 : s2.vm.findClass (zy f).cls = some m2.cls := findClass_of_methodNamed B.named
            obtain ⟨e1, e2'⟩ := zent_ok hlen hnl hav
            rw [lg_entry_eq]
            have hk := ih f 0 (zent (zml f) as) [] x.2.2.2 r1 ν1 (by omega) hcall p2 e2 (headSpec (zwf f) (zrm f)).room s2 m2 av.toArray below2 meth2 c2 0 0 (MQ below2 (zQc b0 D ca adK adV bS L xs r1 ν1) av.toArray s2 0 0 (fun q => b0 ≤ q)) B.exec B.bytes hml2 hown2 (fun w hw => hts2 w (List.mem_cons_of_mem _ hw)) hB2 ⟨Nat.le_refl _, Nat.le_refl _, Nat.zero_le _, Nat.zero_le _⟩ (zKE_end (av := av) B.exec B.bytes B.returns B.notSynchronized)
            have hk2 := hk s2.heap [] _ [] ⟨e1, e2', zrs_nil, hP2, hM2, va_S.rf⟩
            have h0 : zpcs (zcd f) 0 = 0 := zpcs_0 f
            have hk3 : W p2 l e2 (headSpec (zwf f) (zrm f)).room s2 m2 av.toArray below2 meth2 c2 s2.heap [] 0 0 (MQ below2 (zQc b0 D ca adK adV bS L xs r1 ν1) av.toArray s2 0 0 (fun q => b0 ≤ q)) (F0 m2 (zpcs (zcd f) 0) ((lg_sl av ++ List.replicate (zml f - (lg_sl av).length) Slot.unset).toArray) []) := hk2
            rw [h0] at hk3
            exact hk3
        · exact hg (go (zpick v ts x.1, x.2) h)
        · dsimp only at h
          cases h
          exact hg hE
end Main
