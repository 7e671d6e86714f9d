/-! ===== stores into arrays with sizes; the model's constructor ===== -/
theorem zaw_get (b0 : Nat) (pre l : List va_E) (i : Nat) {x : va_E} (h : l[i]? = some x) : (zaw b0 0 (pre ++ l))[pre.length + i]? = some (b0 + (pre.length + i), x) := by
  rw [zaw_at, pre_at, h]
  show some (b0 + 0 + (pre.length + i), x) = _
  rw [Nat.add_zero]
section Ma
variable {p : Program} {l : Launch} {e : Env} {R : Room} {s : State} {m : MethodId} {args : Array Value} {below : List Frame} {meth : Method} {c : Code} {H : Heap} {locs : List Loc} {cells slots : Nat} {Q : State → Prop}
variable {b0 : Nat} {D : va_G} {ca : Nat → ClassId} {cc : ByteArray} {pc : Nat} {ls : Array Slot} {rest : List Value} {es : List va_E}
theorem zaw_one {j : Nat} {x : va_E} (he : es[j]? = some x) : (zaw b0 0 es)[j]? = some (b0 + j, x) := by
  rw [zaw_at, he]
  show some (b0 + 0 + j, _) = _
  rw [Nat.add_zero]
theorem zn_iast (hexec : p.tables.exec = Jvm.exec) (hb : c.code = cc) {tys : List (ClassId × FieldType)} (hK : va_K D zcl tys s) (hP : va_P D zcl (zaw b0 0 es) H) (aS : va_S (fun q => b0 ≤ q) s.heap H locs) (j t0 : Nat) {cA : ClassId} {n : Nat} {f : Nat → Int32} (he : es[j]? = some (.inl (cA, n, .inl f))) (ht : tys[t0]? = some (cA, .int)) {i x : Int32} (hin : vp_in i n) (hdg : decode cc pc = .ok (.iastore, 1))
    (kk : ∀ (H1 : Heap) (locs1 : List Loc), va_P D zcl (zaw b0 0 (es.set j (.inl (cA, n, .inl (upd f i.toNatClampNeg x))))) H1 → H1.size = H.size → va_S (fun q => b0 ≤ q) s.heap H1 locs1 → W p l e R s m args below meth c H1 locs1 cells slots Q (F0 m (pc + 1) ls rest)) : W p l e R s m args below meth c H locs cells slots Q (F0 m pc ls (.int x :: .int i :: .ref (b0 + j) :: rest)) := by
  have hw := zaw_one (b0 := b0) he
  refine W.iast hexec hb (hP j _ hw) ((hK.2 t0 _ ht).1 n (fun q => .int (f q))) (fun q => by cases q) (by show ¬ (i < 0 ∨ (arrV _ _ _).slots.size ≤ _); rw [arrV_size]; exact hin) rfl rfl hdg fun H1 e z oq => ?_
  have hx : va_at D zcl (b0 + j, .inl (cA, n, .inl (upd f i.toNatClampNeg x))) H1 := by
    show H1[b0 + j]? = some (vp_cell _ _)
    rw [e, vp_cell_i, vp_cell_i, arrV_store]
    congr 2
    funext q
    by_cases hq : q = i.toNatClampNeg
    · subst hq
      simp [updV, upd]
    · simp [updV, upd, hq]
  have g := hP.set (zaw_D b0 es) hw hx oq
  rw [zaw_set] at g
  exact kk H1 _ g z (aS.put z oq (Nat.le_add_right b0 j))
theorem zn_astq (hexec : p.tables.exec = Jvm.exec) (hb : c.code = cc) {tys : List (ClassId × FieldType)} (hK : va_K D zcl tys s) (hP : va_P D zcl (zaw b0 0 es) H) (aS : va_S (fun q => b0 ≤ q) s.heap H locs) (j t0 jv ci : Nat) {cA : ClassId} {r : vw_C} {n : Nat} {vs : List Value} {f : Nat → Option Nat} (he : es[j]? = some (.inl (cA, n, .inr (.inr (.inr (.inr f)))))) (ht : tys[t0]? = some (cA, .object r.1)) (hv : es[jv]? = some (.inr (ci, vs))) (hc : zcl[ci]? = some r) {i : Int32} (hin : vp_in i n) (hdg : decode cc pc = .ok (.aastore, 1))
    (kk : ∀ (H1 : Heap) (locs1 : List Loc), va_P D zcl (zaw b0 0 (es.set j (.inl (cA, n, .inr (.inr (.inr (.inr (va_up f i.toNatClampNeg (some (b0 + jv)))))))))) H1 → H1.size = H.size → va_S (fun q => b0 ≤ q) s.heap H1 locs1 → W p l e R s m args below meth c H1 locs1 cells slots Q (F0 m (pc + 1) ls rest)) : W p l e R s m args below meth c H locs cells slots Q (F0 m pc ls (.ref (b0 + jv) :: .int i :: .ref (b0 + j) :: rest)) := by
  have hlt : i.toNatClampNeg < n := Nat.not_le.mp fun q => hin (Or.inr q)
  have h0 : ¬ i < 0 := fun q => hin (Or.inl q)
  have hw := zaw_one (b0 := b0) he
  obtain ⟨r', hr', cellV, g1, g2, g3, -⟩ := hP jv _ (zaw_one (b0 := b0) hv)
  have hcls := (hK.1 ci r hc).2
  obtain ⟨kA, comp, k1, k2, k3, -⟩ := (hK.2 t0 _ ht).2
  have hcomp : comp = D.1 ci := Option.some.inj (k3.symm.trans hcls.1)
  subst hcomp
  obtain ⟨kC, hkC, -⟩ := hcls.2
  refine W.aast hexec hb (hP j _ hw) (fun q h => by cases h) (fun h => by cases h) k1 k2 rfl hkC ⟨h0, by show _ < (arrV _ _ _).slots.size; rw [arrV_size]; exact hlt⟩ g1 (fun q h => by rw [g3] at h; cases h) (by rw [g2]; exact hkC) (by rw [g2]; exact va_assign hcls) rfl rfl hdg fun H1 e z oq => ?_
  have hx : va_at D zcl (b0 + j, .inl (cA, n, .inr (.inr (.inr (.inr (va_up f i.toNatClampNeg (some (b0 + jv)))))))) H1 := by
    show H1[b0 + j]? = some (vp_cell _ _)
    rw [e, vp_cell_q, vp_cell_q, arrV_store]
    congr 2
    funext q
    by_cases hq : q = i.toNatClampNeg
    · subst hq
      simp [updV, va_up, va_rf]
    · simp [updV, va_up, hq]
  have g := hP.set (zaw_D b0 es) hw hx oq
  rw [zaw_set] at g
  exact kk H1 _ g z (aS.put z oq (Nat.le_add_right b0 j))
end Ma