/-! ===== making cells: the world as a list of cells side by side from b0 on ===== -/
def zaw (b0 : Nat) : Nat → List va_E → va_W
  | _, [] => []
  | k, e :: es => (b0 + k, e) :: zaw b0 (k + 1) es
theorem zaw_len (b0 : Nat) : ∀ (es : List va_E) (k : Nat), (zaw b0 k es).length = es.length
  | [], _ => rfl
  | _ :: es, k => by
    unfold zaw
    rw [List.length_cons, List.length_cons, zaw_len b0 es]
theorem zaw_at (b0 : Nat) : ∀ (es : List va_E) (k i : Nat), (zaw b0 k es)[i]? = (es[i]?).map fun e => (b0 + k + i, e)
  | [], k, i => by simp [zaw]
  | e :: es, k, i => by
    unfold zaw
    cases i with
    | zero => rfl
    | succ i =>
      rw [List.getElem?_cons_succ, List.getElem?_cons_succ, zaw_at b0 es (k + 1) i]
      congr 1
      funext e
      rw [show b0 + (k + 1) + i = b0 + k + (i + 1) by omega]
theorem zaw_app (b0 : Nat) (es fs : List va_E) : zaw b0 0 (es ++ fs) = zaw b0 0 es ++ zaw b0 es.length fs := by
  apply List.ext_getElem?
  intro i
  rw [zaw_at]
  rcases Nat.lt_or_ge i es.length with h | h
  · rw [List.getElem?_append_left h, List.getElem?_append_left (by rw [zaw_len]; exact h), zaw_at]
  · rw [List.getElem?_append_right h, List.getElem?_append_right (by rw [zaw_len]; exact h), zaw_at, zaw_len]
    congr 1
    funext e
    rw [show b0 + 0 + i = b0 + es.length + (i - es.length) by omega]
theorem zaw_set (b0 : Nat) (es : List va_E) (i : Nat) (e : va_E) : (zaw b0 0 es).set i (b0 + i, e) = zaw b0 0 (es.set i e) := by
  apply List.ext_getElem?
  intro j
  rw [zaw_at, List.getElem?_set, List.getElem?_set, zaw_len]
  by_cases h : i = j
  · rw [if_pos h, if_pos h]
    subst h
    split
    · simp
    · rfl
  · rw [if_neg h, if_neg h, zaw_at]
theorem zaw_D (b0 : Nat) (es : List va_E) : va_D (fun q => b0 ≤ q) (zaw b0 0 es) := by
  refine ⟨fun i j a b hi hj hab => ?_, fun k a hk => ?_⟩
  · rw [zaw_at] at hi hj
    obtain ⟨x, -, rfl⟩ := Option.map_eq_some_iff.mp hi
    obtain ⟨y, -, rfl⟩ := Option.map_eq_some_iff.mp hj
    dsimp only at hab
    omega
  · rw [zaw_at] at hk
    obtain ⟨x, -, rfl⟩ := Option.map_eq_some_iff.mp hk
    show b0 ≤ b0 + 0 + k
    omega
section Mk
variable {p : Program} {l : Launch} {e : Env} {R : Room} {s : State} {m : MethodId} {args : Array Value} {below : List Frame} {meth : Method} {c : Code} {H : Heap} {locs : List Loc} {cells slots : Nat} {Q : State → Prop}
variable {b0 : Nat} {D : va_G} {ca : Nat → ClassId} {cc : ByteArray} {pc : Nat} {ls : Array Slot} {rest : List Value} {es : List va_E}
/-- one cell more -/
theorem zaw_grow {H1 : Heap} {x : va_E} (hP : va_P D zcl (zaw b0 0 es) H) (o1 : ∀ q, q < H.size → H1[q]? = H[q]?) (hx : va_at D zcl (b0 + es.length, x) H1) : va_P D zcl (zaw b0 0 (es ++ [x])) H1 := by
  rw [zaw_app]
  refine (hP.kept (fun k y hy => o1 y.1 ((hP k y hy).lt))).app (fun k y hy => ?_)
  have hz : k < 1 := (List.getElem?_eq_some_iff.mp hy).1
  rw [show k = 0 by omega] at hy
  cases hy
  exact hx
theorem zs_grow {H1 : Heap} (aS : va_S (fun q => b0 ≤ q) s.heap H locs) (z1 : H1.size = H.size + 1) (o1 : ∀ q, q < H.size → H1[q]? = H[q]?) : va_S (fun q => b0 ≤ q) s.heap H1 locs :=
  ⟨Nat.le_trans aS.1 (by omega), fun x h1 h2 => (o1 x (Nat.lt_of_lt_of_le h1 aS.1)).trans (aS.2.1 x h1 h2), aS.2.2⟩
/-- new, with its address -/
theorem zn_new (hexec : p.tables.exec = Jvm.exec) (hb : c.code = cc) {own C : String} {T : u_T} {N ci index : Nat} {Ts : List Cond} (hts : ∀ w ∈ Ts, w.before args s = true) (hin : ∀ w ∈ u_ws C T N, w ∈ Ts) {ty : Nat → FieldType} (hty : ∀ k, k < N → parseFieldDescriptor (T k).2.2.1 = some (ty k)) (hown : s.vm.findClass own = some m.cls) (hcl : (Cond.classLink own index C).before args s = true) (hinst : (Cond.instantiable C N).before args s = true) (hini : (Cond.initialized C).before args s = true)
    {tys : List (ClassId × FieldType)} (hK : va_K D zcl tys s) (hP : va_P D zcl (zaw b0 0 es) H) (hz : H.size = b0 + es.length) (aS : va_S (fun q => b0 ≤ q) s.heap H locs) (hc : zcl[ci]? = some (C, T, N)) {fs : List Value} (hfs : ∀ j, j < N → defaultValue (ty j) = vp_V fs j) (hcells : cells + 1 ≤ R.cells) (hslots : slots + N ≤ R.slots) (hdg : decode cc pc = .ok (.new index, 3))
    (kk : ∀ (H1 : Heap), va_P D zcl (zaw b0 0 (es ++ [.inr (ci, fs)])) H1 → H1.size = b0 + (es ++ [(.inr (ci, fs) : va_E)]).length → va_S (fun q => b0 ≤ q) s.heap H1 locs → W p l e R s m args below meth c H1 locs (cells + 1) (slots + N) Q (F0 m (pc + 3) ls (.ref (b0 + es.length) :: rest))) : W p l e R s m args below meth c H locs cells slots Q (F0 m pc ls rest) := by
  have hKn := hK.1 ci _ hc
  refine W.newcK hexec hb hown hcl hinst hini rfl hdg hcells hslots hKn.2.1 rfl fun H1 kC hkC e1 z1 o1 => ?_
  rw [hz]
  rw [hz] at e1
  refine kk H1 (zaw_grow hP o1 ⟨_, hc, (u_born ty hts hin hKn hkC e1 hty).to hfs⟩) ?_ (zs_grow aS z1 o1)
  rw [z1, hz, List.length_append]
  rfl
/-- newarray, with its address and its class -/
theorem zn_newa (hexec : p.tables.exec = Jvm.exec) (hb : c.code = cc) {atype : ArrayType} (harr : (Cond.arrayClass (newarray.typeOf atype)).before args s = true) {ty : FieldType} (hty : newarray.typeOf atype = ty) {cI : ClassId} (hcI : s.vm.findClass ("[" ++ ty.toString) = some cI) (hP : va_P D zcl (zaw b0 0 es) H) (hz : H.size = b0 + es.length) (aS : va_S (fun q => b0 ≤ q) s.heap H locs)
    {n : Int32} {N : Nat} {a0 : vp_A} (ha : ∀ cA : ClassId, vp_cell cA a0 = arrV cA N (fun _ => defaultValue ty)) (hn : ¬ n < 0) (hN : n.toNatClampNeg = N) (hbytes : N * componentBytes ty ≤ 536870912) (hcells : cells + 1 ≤ R.cells) (hslots : slots + N ≤ R.slots) (hdg : decode cc pc = .ok (.newarray atype, 2))
    (kk : ∀ (H1 : Heap), va_P D zcl (zaw b0 0 (es ++ [.inl (cI, a0)])) H1 → H1.size = b0 + (es ++ [(.inl (cI, a0) : va_E)]).length → va_S (fun q => b0 ≤ q) s.heap H1 locs → W p l e R s m args below meth c H1 locs (cells + 1) (slots + N) Q (F0 m (pc + 2) ls (.ref (b0 + es.length) :: rest))) : W p l e R s m args below meth c H locs cells slots Q (F0 m pc ls (.int n :: rest)) := by
  subst hty
  refine va_newaK hexec hb harr rfl hdg rfl hn hN hbytes hcells hslots hz fun H1 cA e1 z1 o1 hAr hNm => ?_
  have hcc : cA = cI := by
    rw [hcI] at hNm
    exact (Option.some.inj hNm).symm
  subst hcc
  rw [← hz] at o1
  refine kk H1 (zaw_grow hP o1 ?_) ?_ (zs_grow aS (by rw [z1, hz]) o1)
  · show H1[b0 + es.length]? = some (vp_cell _ _)
    rw [ha]
    exact e1
  · rw [z1, List.length_append]
    rfl
/-- anewarray, with its address and its class -/
theorem zn_newq (hexec : p.tables.exec = Jvm.exec) (hb : c.code = cc) {own C : String} {index : Nat} (hown : s.vm.findClass own = some m.cls) (hclink : (Cond.classLink own index C).before args s = true) (hover : va_AO C s) {cI : ClassId} (hcI : s.vm.findClass ("[" ++ (FieldType.object C).toString) = some cI) (hP : va_P D zcl (zaw b0 0 es) H) (hz : H.size = b0 + es.length) (aS : va_S (fun q => b0 ≤ q) s.heap H locs)
    {n : Int32} {N : Nat} (hn : ¬ n < 0) (hN : n.toNatClampNeg = N) (hbytes : N * 4 ≤ 536870912) (hcells : cells + 1 ≤ R.cells) (hslots : slots + N ≤ R.slots) (hdg : decode cc pc = .ok (.anewarray index, 3))
    (kk : ∀ (H1 : Heap), va_P D zcl (zaw b0 0 (es ++ [.inl (cI, N, .inr (.inr (.inr (.inr (fun _ => none)))))])) H1 → H1.size = b0 + (es ++ [(.inl (cI, N, .inr (.inr (.inr (.inr (fun _ => none))))) : va_E)]).length → va_S (fun q => b0 ≤ q) s.heap H1 locs → W p l e R s m args below meth c H1 locs (cells + 1) (slots + N) Q (F0 m (pc + 3) ls (.ref (b0 + es.length) :: rest))) : W p l e R s m args below meth c H locs cells slots Q (F0 m pc ls (.int n :: rest)) := by
  subst hN
  refine W.anew hexec hb hown hclink (va_AO.use hover) rfl hdg rfl hn hbytes hcells hslots fun cA kA comp f1 f2 f3 f4 => ?_
  have hcc : cA = cI := by
    rw [hcI] at f1
    exact (Option.some.inj f1).symm
  subst hcc
  generalize hH1 : H.push ({ cls := cA, slots := Array.replicate n.toNatClampNeg .null, vm := .none } : Cell) = H1
  have z1 : H1.size = H.size + 1 := by rw [← hH1, Array.size_push]
  have e1 : H1[H.size]? = some (arrV cA n.toNatClampNeg (fun _ => .null)) := by rw [← hH1, Array.getElem?_push_size, ← arrV_new]
  have o1 : ∀ q : Nat, q < H.size → H1[q]? = H[q]? := fun q hq => by rw [← hH1, Array.getElem?_push, if_neg (Nat.ne_of_lt hq)]
  rw [hz] at e1
  rw [hz]
  refine kk H1 (zaw_grow hP o1 ?_) ?_ (zs_grow aS z1 o1)
  · show H1[b0 + es.length]? = some (vp_cell _ _)
    rw [vp_cell_q]
    exact e1
  · rw [z1, hz, List.length_append]
    rfl
end Mk
