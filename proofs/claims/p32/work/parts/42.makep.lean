/-! ===== constructors: putfield with sizes; calls ===== -/
section Mp
variable {p : Program} {l : Launch} {e : Env} {R : Room} {s : State} {m : MethodId} {args : Array Value} {below : List Frame} {meth : Method} {c : Code} {H : Heap} {locs : List Loc} {cells slots : Nat} {Q : State → Prop}
variable {b0 : Nat} {D : va_G} {ca : Nat → ClassId} {cc : ByteArray} {pc : Nat} {ls : Array Slot} {rest : List Value} {es : List va_E}
theorem zn_put (hexec : p.tables.exec = Jvm.exec) (hb : c.code = cc) {own ref C : String} {T : u_T} {N ci index : Nat} {Ts : List Cond} (hts : ∀ w ∈ Ts, w.before args s = true) (hin : ∀ w ∈ u_ws C T N, w ∈ Ts) (ty0 : Nat → FieldType) (hty : ∀ k, k < N → parseFieldDescriptor (T k).2.2.1 = some (ty0 k)) (hnm : ∀ a, a < N → ∀ b, b < N → a ≠ b → (T a).2.1 ≠ (T b).2.1) (hown : s.vm.findClass own = some m.cls) {tys : List (ClassId × FieldType)} (hK : va_K D zcl tys s) (hP : va_P D zcl (zaw b0 0 es) H) (aS : va_S (fun q => b0 ≤ q) s.heap H locs) (j : Nat) {fs : List Value} (he : es[j]? = some (.inr (ci, fs))) (hc : zcl[ci]? = some (C, T, N)) (k : Nat) (hk : k < N) (hlink : (Cond.fieldLink own index ref (T k).2.1 (T k).2.2.1).before args s = true) (hsame : ∀ x, s.fieldFound? (T k).1 (T k).2.1 (T k).2.2.1 = some x → s.fieldFound? ref (T k).2.1 (T k).2.2.1 = some x) (hfin : (T k).2.2.2 = false) {ty : FieldType} {v : Value} (hd : parseFieldDescriptor (T k).2.2.1 = some ty) (hn : narrow ty v = v) (hfit : fits ty v = true) (hl : k < fs.length) (hdg : decode cc pc = .ok (.putfield index, 3))
    (kk : ∀ (H1 : Heap) (locs1 : List Loc), va_P D zcl (zaw b0 0 (es.set j (.inr (ci, fs.set k v)))) H1 → H1.size = H.size → va_S (fun q => b0 ≤ q) s.heap H1 locs1 → W p l e R s m args below meth c H1 locs1 cells slots Q (F0 m (pc + 3) ls rest)) : W p l e R s m args below meth c H locs cells slots Q (F0 m pc ls (v :: .ref (b0 + j) :: rest)) := by
  have hw : (zaw b0 0 es)[j]? = some (b0 + j, .inr (ci, fs)) := by
    rw [zaw_at, he]
    show some (b0 + 0 + j, _) = _
    rw [Nat.add_zero]
  have hap := va_apart (own := own) hts hin ty0 hty hnm hK hc
  have hPj := hP j _ hw
  obtain ⟨r, h1, cell, q1, q2, q3, q4⟩ := hPj
  have hr : r = (C, T, N) := Option.some.inj (h1.symm.trans hc)
  subst hr
  obtain ⟨hS, hfc, kC, hkC, hkind⟩ := hK.1 ci _ hc
  obtain ⟨cf, kf, fi, f, hi, hsl⟩ := hS k hk
  have hlay := hts _ (hin _ (u_in_lay hk))
  unfold u_lay at hlay
  rw [if_neg (by rw [hfin]; decide)] at hlay
  have hst := (u_facts hfc hkC (u_lays hts hin hk) hi).1
  refine W.putK hexec hb (f := f) ⟨hown, hlink, ⟨_, _, _, hsame _ hi⟩, hst⟩ (by rw [q2]; exact u_store hfc hkC hkind hlay hi hd hn hfit) q1 q3 (by rw [hsl]; exact k2_hasslot (q4 k hk)) rfl rfl hdg fun H1 e1 e2 e3 => ?_
  rw [hsl] at e1 ⊢
  have hx : va_at D zcl (b0 + j, .inr (ci, fs.set k v)) H1 := ⟨_, hc, t_OB.to (V := updV (vp_V fs) k v) ⟨_, e1, q2, q3, t_set q4 hap hk v⟩ (fun i _ => vp_updV_set hl v i)⟩
  have g := hP.set (zaw_D b0 es) hw hx e3
  rw [zaw_set] at g
  exact kk H1 _ g e2 (aS.put e2 e3 (Nat.le_add_right b0 j))
theorem zn_putF (hexec : p.tables.exec = Jvm.exec) (hb : c.code = cc) {own ref C : String} {T : u_T} {N ci index : Nat} {Ts : List Cond} (hts : ∀ w ∈ Ts, w.before args s = true) (hin : ∀ w ∈ u_ws C T N, w ∈ Ts) (ty0 : Nat → FieldType) (hty : ∀ k, k < N → parseFieldDescriptor (T k).2.2.1 = some (ty0 k)) (hnm : ∀ a, a < N → ∀ b, b < N → a ≠ b → (T a).2.1 ≠ (T b).2.1) (hown : s.vm.findClass own = some m.cls) {tys : List (ClassId × FieldType)} (hK : va_K D zcl tys s) (hP : va_P D zcl (zaw b0 0 es) H) (aS : va_S (fun q => b0 ≤ q) s.heap H locs) (j : Nat) {fs : List Value} (he : es[j]? = some (.inr (ci, fs))) (hc : zcl[ci]? = some (C, T, N)) (k : Nat) (hk : k < N) (hlink : (Cond.fieldLink own index ref (T k).2.1 (T k).2.2.1).before args s = true) (hsame : ∀ x, s.fieldFound? (T k).1 (T k).2.1 (T k).2.2.1 = some x → s.fieldFound? ref (T k).2.1 (T k).2.2.1 = some x) (hfin : (T k).2.2.2 = true) (hin2 : meth.name = "<init>") (hdecl : (T k).1 = own) {ty : FieldType} {v : Value} (hd : parseFieldDescriptor (T k).2.2.1 = some ty) (hn : narrow ty v = v) (hfit : fits ty v = true) (hl : k < fs.length) (hdg : decode cc pc = .ok (.putfield index, 3))
    (kk : ∀ (H1 : Heap) (locs1 : List Loc), va_P D zcl (zaw b0 0 (es.set j (.inr (ci, fs.set k v)))) H1 → H1.size = H.size → va_S (fun q => b0 ≤ q) s.heap H1 locs1 → W p l e R s m args below meth c H1 locs1 cells slots Q (F0 m (pc + 3) ls rest)) : W p l e R s m args below meth c H locs cells slots Q (F0 m pc ls (v :: .ref (b0 + j) :: rest)) := by
  have hw : (zaw b0 0 es)[j]? = some (b0 + j, .inr (ci, fs)) := by
    rw [zaw_at, he]
    show some (b0 + 0 + j, _) = _
    rw [Nat.add_zero]
  have hap := va_apart (own := own) hts hin ty0 hty hnm hK hc
  have hPj := hP j _ hw
  obtain ⟨r, h1, cell, q1, q2, q3, q4⟩ := hPj
  have hr : r = (C, T, N) := Option.some.inj (h1.symm.trans hc)
  subst hr
  obtain ⟨hS, hfc, kC, hkC, hkind⟩ := hK.1 ci _ hc
  obtain ⟨cf, kf, fi, f, hi, hsl⟩ := hS k hk
  have hlay := hts _ (hin _ (u_in_lay hk))
  unfold u_lay at hlay
  rw [if_pos hfin] at hlay
  have hst := (u_facts hfc hkC (u_lays hts hin hk) hi).1
  have hcf : m.cls = cf := by
    obtain ⟨_, _, c', _, _, _, -, -, hf', -, -, -, hown2, -⟩ := Cond.laysFinal_spec hlay
    have e1 : c' = cf := by have := hi.symm.trans hf'; simp at this; exact this.1.symm
    rw [hdecl] at hown2
    rw [← e1]
    exact Option.some.inj (hown.symm.trans hown2)
  refine W.putFinK hexec hb hown hlink (hsame _ hi) hst hcf hin2 (by rw [q2]; exact u_fits hfc hkC hkind (Or.inr hlay) hi hd hn hfit) q1 q3 (by rw [hsl]; exact k2_hasslot (q4 k hk)) rfl rfl hdg fun H1 e1 e2 e3 => ?_
  rw [hsl] at e1 ⊢
  have hx : va_at D zcl (b0 + j, .inr (ci, fs.set k v)) H1 := ⟨_, hc, t_OB.to (V := updV (vp_V fs) k v) ⟨_, e1, q2, q3, t_set q4 hap hk v⟩ (fun i _ => vp_updV_set hl v i)⟩
  have g := hP.set (zaw_D b0 es) hw hx e3
  rw [zaw_set] at g
  exact kk H1 _ g e2 (aS.put e2 e3 (Nat.le_add_right b0 j))
/-- behind a constructor -/
def zQw (b0 : Nat) (D : va_G) (es : List va_E) : Array Value → State → Outcome → State → Prop := fun _ st o t => o = .returned none ∧ (va_P D zcl (zaw b0 0 es) t.heap ∧ t.heap.size = b0 + es.length) ∧ va_F (fun q => b0 ≤ q) st t
theorem zbackw {mc ms : Nat} {a : Array Value} {sa : List Value} (hr : va_Run p l e R s m args below meth c H locs cells slots mc ms (F0 m pc ls sa) rest (zQw b0 D es a) (fun q => b0 ≤ q)) (hS : va_S (fun q => b0 ≤ q) s.heap H locs)
    (kk : ∀ (H1 : Heap) (locs1 : List Loc), va_P D zcl (zaw b0 0 es) H1 → H1.size = b0 + es.length → va_S (fun q => b0 ≤ q) s.heap H1 locs1 → W p l e R s m args below meth c H1 locs1 (cells + mc) (slots + ms) Q (F0 m (pc + 3) ls rest)) : W p l e R s m args below meth c H locs cells slots Q (F0 m pc ls sa) := by
  intro T hT X
  obtain ⟨v, st₀, t, T', L1, h0, X', hL, e1, e2, ⟨hv, ⟨hP, hz1⟩, hz, hk⟩, st⟩ := hr T hT X
  cases hv
  rw [h0] at hz hk
  obtain ⟨t2, a1, b1⟩ := kk T'.heap (locs ++ L1) (by rw [e1]; exact hP) (by rw [e1]; exact hz1)
    ⟨Nat.le_trans hS.1 (by rw [e1]; exact hz), fun q h1 h2 => by rw [e1, hk q (Nat.lt_of_lt_of_le h1 hS.1) h2]; exact hS.2.1 q h1 h2, fun q hq => by
      rcases List.mem_append.mp hq with h | h
      · exact hS.2.2 q h
      · exact hL q h⟩ T' rfl X'
  exact ⟨t2, st t2 a1, b1⟩
/-- the world that a constructor is called in -/
def zBw (b0 : Nat) (D : va_G) (ca : Nat → ClassId) (adK adV : Nat → Nat) (bS L : Nat) (xs : Nat → Int32) (es : List va_E) (U : State) : Prop := zBk b0 D ca adK adV bS L xs U ∧ va_P D zcl (zaw b0 0 es) U.heap ∧ U.heap.size = b0 + es.length ∧ va_AO "FrameDeltas$State" U ∧ va_AO "FrameDeltas$Frame" U
theorem zPrew {adK adV : Nat → Nat} {bS L : Nat} {xs : Nat → Int32} {As : List Value} (hB : zBk b0 D ca adK adV bS L xs s) (aP : va_P D zcl (zaw b0 0 es) H) (hz : H.size = b0 + es.length) (aS : va_S (fun q => b0 ≤ q) s.heap H locs) (hO : va_AO "FrameDeltas$State" s ∧ va_AO "FrameDeltas$Frame" s) : PreS s H (va_Pc As (zBw b0 D ca adK adV bS L xs es)) As :=
  ⟨fun a U g mk q => ⟨q.1, zBk_call q.2.1, q.2.2.1, q.2.2.2.1, va_AO.moved (u := U) (U := U.calling g mk a) (Vm.Alike.refl U.vm) q.2.2.2.2.1, va_AO.moved (u := U) (U := U.calling g mk a) (Vm.Alike.refl U.vm) q.2.2.2.2.2⟩, fun U hU hW => ⟨rfl, zBk_warm hU hW aS hB, by rw [hU]; exact aP, by rw [hU]; exact hz, va_AO.moved hW.alike hO.1, va_AO.moved hW.alike hO.2⟩⟩
theorem zBk_cls {adK adV : Nat → Nat} {bS L : Nat} {xs : Nat → Int32} (hB : zBk b0 D ca adK adV bS L xs s) : s.vm.findClass ("[" ++ (FieldType.int).toString) = some (ca 0) ∧ s.vm.findClass ("[" ++ (FieldType.char).toString) = some (ca 1) ∧ s.vm.findClass ("[" ++ (FieldType.int).toString) = some (ca 2) ∧ s.vm.findClass ("[" ++ (FieldType.object "FrameDeltas$State").toString) = some (ca 3) ∧ s.vm.findClass ("[" ++ (FieldType.object "FrameDeltas$Frame").toString) = some (ca 4) := by
  have h := hB.1.2
  have h3 := (h 3 (ca 3, .object "FrameDeltas$State") rfl).2
  have h4 := (h 4 (ca 4, .object "FrameDeltas$Frame") rfl).2
  exact ⟨(h 0 (ca 0, .int) rfl).2, (h 1 (ca 1, .char) rfl).2, (h 2 (ca 2, .int) rfl).2, by obtain ⟨_, _, _, _, _, q⟩ := h3; exact q, by obtain ⟨_, _, _, _, _, q⟩ := h4; exact q⟩
end Mp
