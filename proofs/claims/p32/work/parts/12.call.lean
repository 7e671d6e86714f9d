theorem zisN_tab {w : Cond} (h : zisN w = true) : w.onTables = true := by
  cases w <;> first | rfl | cases h
theorem zNs_tab {w : Cond} (h : w ∈ zNs) : w.onTables = true := zisN_tab (List.mem_filter.mp h).2
theorem zNs_warm {w : Cond} (h : w ∈ zNs) {s U : State} (hW : s.WarmedH U.vm) (hZ : va_Nw w s) : va_Nw w U := by
  have h1 := (List.mem_filter.mp h).2
  cases w <;> first | exact va_Nw.warmF hW hZ | exact va_Nw.warmM hW hZ | cases h1
theorem zTs_good {w : Cond} (h : w ∈ zTs) : (w.onTables && w.keeps) = true ∨ ∃ ty, w = .arrayClass ty := good_of_word (List.mem_filter.mp h).2
theorem zwf_good {f : Nat} (h : f < 71) : GoodIn zTs (zwf f) := by
  intro w hw
  have h1 : w ∈ zTs := by
    rcases List.mem_cons.mp hw with h2 | h2
    · rw [h2]; exact zcw_all f h
    · exact h2
  exact ⟨h1, zTs_good h1⟩
theorem zwords_len : ∀ (l : List mzV), l.length ≤ zwords l ∧ (zwords l = l.length → ∀ w ∈ l, zisL w = false)
  | [] => ⟨Nat.le_refl _, fun _ w h => by cases h⟩
  | v :: l => by
    obtain ⟨h1, h2⟩ := zwords_len l
    unfold zwords
    cases hv : zisL v with
    | true => exact ⟨by simp only [List.length_cons]; omega, fun h => by simp only [List.length_cons] at h; omega⟩
    | false =>
      refine ⟨by simp only [List.length_cons]; omega, fun h w hw => ?_⟩
      simp only [List.length_cons] at h
      rcases List.mem_cons.mp hw with rfl | hw
      · exact hv
      · exact h2 (by omega) w hw
theorem zwords_tk {st : List mzV} {n : Nat} (h1 : n ≤ st.length) (h2 : Nat.beq (zwords (st.take n)) n = true) : ((st.take n).reverse).length = n ∧ ∀ w ∈ (st.take n).reverse, zisL w = false := by
  have h3 := Nat.eq_of_beq_eq_true h2
  have h4 : (st.take n).length = n := by rw [List.length_take]; omega
  refine ⟨by rw [List.length_reverse]; exact h4, fun w hw => (zwords_len (st.take n)).2 (by rw [h4]; exact h3) w (List.mem_reverse.mp hw)⟩
section Call
variable {p : Program} {l : Launch} {e : Env} {R : Room} {s : State} {m : MethodId} {args : Array Value} {below : List Frame} {meth : Method} {c : Code} {cells slots : Nat} {Q : State → Prop}
variable {b0 : Nat} {D : va_G} {ca : Nat → ClassId} {adK adV : Nat → Nat} {bS L : Nat} {xs : Nat → Int32} {mi : Nat} {C : List mzN}
theorem zBk_call {U : State} {g : JFrame} {mk : MethodId} {a : Array Value} (h : zBk b0 D ca adK adV bS L xs U) : zBk b0 D ca adK adV bS L xs (U.calling g mk a) :=
  ⟨va_K.moved (u := U) (U := U.calling g mk a) (Vm.Alike.refl U.vm) h.1, va_X.moved (u := U) (U := U.calling g mk a) (Vm.Alike.refl U.vm) h.2.1, h.2.2.1, fun w hw => va_Nw.same (zNs_tab hw) (u := U) (U := U.calling g mk a) rfl (h.2.2.2 w hw)⟩
theorem zBk_warm {U : State} {H : Heap} {locs : List Loc} (hU : U.heap = H) (hW : s.WarmedH U.vm) (hS : va_S (fun q => b0 ≤ q) s.heap H locs) (h : zBk b0 D ca adK adV bS L xs s) : zBk b0 D ca adK adV bS L xs U := by
  obtain ⟨h1, h3, ⟨h4, h5, h6⟩, h10⟩ := h
  subst hU
  exact ⟨h1.moved hW.alike, (h3.kept (hS.2.1 bS (by omega) (by omega))).moved hW.alike, ⟨h4, Nat.le_trans h5 hS.1, h6⟩, fun w hw => zNs_warm hw hW (h10 w hw)⟩
theorem zPre {μ : mzM} {H : Heap} {locs : List Loc} {As : List Value} (hB : zBk b0 D ca adK adV bS L xs s) (aP : va_P D zcl (zws b0 ca μ) H) (aM : zM L xs μ) (aS : va_S (fun q => b0 ≤ q) s.heap H locs) : PreS s H (va_Pc As (zB b0 D ca adK adV bS L xs μ)) As :=
  ⟨fun a U g mk q => ⟨q.1, zBk_call q.2.1, q.2.2.1, q.2.2.2⟩, fun U hU hW => ⟨rfl, zBk_warm hU hW aS hB, by rw [hU]; exact aP, aM⟩⟩
/-- behind a call -/
theorem zback {H : Heap} {locs : List Loc} {pc : Nat} {la : Array Slot} {sa rest : List Value} {a : Array Value} {r : Option mzV} {ν : mzM} (hr : va_Run p l e R s m args below meth c H locs cells slots 0 0 (F0 m pc la sa) rest (zQc b0 D ca adK adV bS L xs r ν a) (fun q => b0 ≤ q)) (hS : va_S (fun q => b0 ≤ q) s.heap H locs)
    (kk : ∀ (v : Option Value) (H1 : Heap) (locs1 : List Loc), zrO b0 adK adV bS r v → va_P D zcl (zws b0 ca ν) H1 → zM L xs ν → va_S (fun q => b0 ≤ q) s.heap H1 locs1 → W p l e R s m args below meth c H1 locs1 cells slots Q (F0 m (pc + 3) la (v.toList ++ rest))) : W p l e R s m args below meth c H locs cells slots Q (F0 m pc la sa) := by
  intro T hT X
  obtain ⟨v, st₀, t, T', L1, h0, X', hL, e1, e2, ⟨⟨v', hv, hp⟩, hP, hM, hz, hk⟩, st⟩ := hr T hT X
  cases hv
  rw [h0] at hz hk
  obtain ⟨t2, a1, b1⟩ := kk v T'.heap (locs ++ L1) hp (by rw [e1]; exact hP) hM
    ⟨Nat.le_trans hS.1 (by rw [e1]; exact hz), fun q h1 h2 => by rw [e1, hk q (Nat.lt_of_lt_of_le h1 hS.1) h2]; exact hS.2.1 q h1 h2, fun q hq => by
      rcases List.mem_append.mp hq with h | h
      · exact hS.2.2 q h
      · exact hL q h⟩ T' rfl X'
  exact ⟨t2, st t2 a1, b1⟩
theorem zwin {pc : Nat} {la : Array Slot} {sa : List Value} {ls st : List mzV} {ν : mzM} {k n : Nat} {r : Option mzV} (al : zrl b0 adK adV bS ls la) (ag : zlgo mi ls) (as : zrs b0 adK adV bS st sa) (hp : zpcs C (k + 1) = pc + 3)
    (hK : zK p l e R s m args below meth c cells slots Q b0 D ca adK adV bS L xs mi C (k + 1, ls, zpush r (st.drop n), ν)) : ∀ (v : Option Value) (H1 : Heap) (locs1 : List Loc), zrO b0 adK adV bS r v → va_P D zcl (zws b0 ca ν) H1 → zM L xs ν → va_S (fun q => b0 ≤ q) s.heap H1 locs1 → W p l e R s m args below meth c H1 locs1 cells slots Q (F0 m (pc + 3) la (v.toList ++ sa.drop n)) := by
  intro v H1 locs1 hr hP hM hS
  rw [← hp]
  exact hK _ _ _ _ ⟨al, ag, zrs_push hr (zrs_drop n as), hP, hM, hS⟩
theorem zcallS (hx : p.tables.exec = Jvm.exec) (hb : c.code = zby mi) (hml : c.maxLocals = zml mi) (hown : s.vm.findClass (zy mi).cls = some m.cls) (hts : ∀ w ∈ zTs, w.before args s = true) (hB : zBk b0 D ca adK adV bS L xs s) (hR : zfr mi ≤ R.frames ∧ zlo mi ≤ R.locals ∧ cells ≤ R.cells ∧ slots ≤ R.slots) {idx k pc a : Nat} {n : Int} {rk : Nat} {z : Int} {cs : List (Int × Nat)} (hd0 : decode (zby mi) pc = .ok (.invokestatic idx, 3)) (hp : zpcs C (k + 1) = pc + 3)
    (h1 : (Nat.ble (zfr a + 1) (zfr mi) && Nat.ble (8 + (zml a + 11) + zlo a) (zlo mi) && Nat.beq 0 0 && Nat.blt a 71 && Nat.ble n.toNat (zml a)) = true) (h2 : zML (zy mi).cls idx a n 0) {ls st : List mzV} {μ : mzM} {H : Heap} {locs : List Loc} {la : Array Slot} {sa : List Value} (hA : zA b0 D ca adK adV bS L xs s mi ls st μ H locs la sa) :
    zgoal (W p l e R s m args below meth c H locs cells slots Q (F0 m pc la sa)) (zK p l e R s m args below meth c cells slots Q b0 D ca adK adV bS L xs mi C) (zKC p l e R s m args below meth c cells slots Q b0 D ca adK adV bS L xs mi C) (zKE p l e R s m args below meth c cells slots Q b0 D ca adK adV bS L xs mi) (zcall a ((n, rk) :: (z, 0) :: cs) st μ (k + 1) ls) := by
  obtain ⟨al, ag, as, aP, aM, aS⟩ := hA
  simp only [Bool.and_eq_true, Nat.ble_eq, Nat.blt_eq] at h1
  obtain ⟨⟨⟨⟨q1, q2⟩, -⟩, q3⟩, q4⟩ := h1
  unfold zcall
  dsimp only
  split
  · next w1 w2 =>
    simp only [Bool.and_eq_true, Nat.ble_eq] at w1 w2
    rintro ⟨r, ν, hM0, hK⟩
    obtain ⟨t1, t2⟩ := zwords_tk w2.1 w2.2
    have hM := hM0 ⟨q3, by rw [t1]; exact q4, t2⟩
    have hav : zrs b0 adK adV bS (st.take n.toNat).reverse (sa.take n.toNat).reverse := zrs_rev (zrs_take n.toNat as)
    have hlen : n.toNat ≤ sa.length := by rw [← as.1]; exact w2.1
    obtain ⟨g1, g2, g3, g4, g5, g6⟩ := h2
    refine zback (va_runS (cc := zby mi) (nL := zml mi) (own := (zy mi).cls) (Ts := zTs) (n := n.toNat) (As := (sa.take n.toNat).reverse) (rest := sa.drop n.toNat) (index := idx) ⟨hx, hb, hml, hown, hts⟩ (hM _ hav) ⟨callB_of n.toNat hts (zwf_good q3) rfl rfl rfl (hts _ g4) (hts _ g5) ⟨g1, g2, g3⟩ ⟨Nat.le_trans q1 hR.1, Nat.le_trans q2 hR.2.1⟩, hts _ g6⟩ (zPre hB aP aM aS) rfl ?_ ?_ ?_ (lv_room ?_) hd0 ⟨hR.2.2.1, hR.2.2.2⟩) aS (zwin al ag as hp hK)
    · rw [List.length_reverse, List.length_take]; omega
    · show la.size = zml mi
      rw [al.1, ag.1]
    · show sa = _
      rw [List.reverse_reverse, List.take_append_drop]
    · rw [zrs_words (zrs_drop n.toNat as)]; exact w1
  · trivial
theorem zrecv (hB : zBk b0 D ca adK adV bS L xs s) {μ : mzM} {H : Heap} {locs : List Loc} (aP : va_P D zcl (zws b0 ca μ) H) (aS : va_S (fun q => b0 ≤ q) s.heap H locs) {t : Nat} {i : Int} {v : Value} (hv : zrv b0 adK adV bS (vR t i) v) (ht : (Nat.beq (zrow t) 0 && Nat.blt 0 (zcnt t)) = true) :
    ∃ b, v = .ref b ∧ ∃ cellB : Cell, H[b]? = some cellB ∧ cellB.vm.isStatics = false ∧ s.vm.findClass (zcname t) = some cellB.cls := by
  simp only [Bool.and_eq_true, Nat.blt_eq] at ht
  have h0 := Nat.eq_of_beq_eq_true ht.1
  have hlt := zcnt_lt ht.2
  obtain ⟨g1, g2, g3⟩ := zrv_unR hv hlt
  obtain ⟨C1, T1, N1, ty1, z1, -⟩ := zcls_of hlt ht.2 h0
  have he := zws_at b0 ca μ g2
  rw [zcel_obj h0] at he
  obtain ⟨cell, k1, k2, k3⟩ := va_recv hB.1 aP z1 he
  refine ⟨_, g3, cell, k1, k2, ?_⟩
  have hn := ztag_ok t hlt ht.2 h0
  rw [z1] at hn
  rw [← Option.some.inj hn]
  exact k3
theorem zcallV (hx : p.tables.exec = Jvm.exec) (hb : c.code = zby mi) (hml : c.maxLocals = zml mi) (hown : s.vm.findClass (zy mi).cls = some m.cls) (hts : ∀ w ∈ zTs, w.before args s = true) (hB : zBk b0 D ca adK adV bS L xs s) (hR : zfr mi ≤ R.frames ∧ zlo mi ≤ R.locals ∧ cells ≤ R.cells ∧ slots ≤ R.slots) {idx k pc a : Nat} {n : Int} {rk g : Nat} {z : Int} {cs : List (Int × Nat)} (hd0 : decode (zby mi) pc = .ok (.invokevirtual idx, 3)) (hp : zpcs C (k + 1) = pc + 3)
    (h1 : (Nat.ble (zfr a + 1) (zfr mi) && Nat.ble (8 + (zml a + 11) + zlo a) (zlo mi) && Nat.blt 0 (g + 1) && Nat.blt 0 n.toNat && Nat.blt a 71 && Nat.ble n.toNat (zml a) && (Nat.beq (zrow (g + 1 - 1)) 0 && Nat.blt 0 (zcnt (g + 1 - 1)))) = true) (h2 : zML (zy mi).cls idx a n (g + 1)) {ls st : List mzV} {μ : mzM} {H : Heap} {locs : List Loc} {la : Array Slot} {sa : List Value} (hA : zA b0 D ca adK adV bS L xs s mi ls st μ H locs la sa) :
    zgoal (W p l e R s m args below meth c H locs cells slots Q (F0 m pc la sa)) (zK p l e R s m args below meth c cells slots Q b0 D ca adK adV bS L xs mi C) (zKC p l e R s m args below meth c cells slots Q b0 D ca adK adV bS L xs mi C) (zKE p l e R s m args below meth c cells slots Q b0 D ca adK adV bS L xs mi) (zcall a ((n, rk) :: (z, g + 1) :: cs) st μ (k + 1) ls) := by
  obtain ⟨al, ag, as, aP, aM, aS⟩ := hA
  rw [Bool.and_eq_true] at h1
  obtain ⟨h1, q5⟩ := h1
  simp only [Bool.and_eq_true, Nat.ble_eq, Nat.blt_eq] at h1
  obtain ⟨⟨⟨⟨⟨q1, q2⟩, -⟩, qn⟩, q3⟩, q4⟩ := h1
  unfold zcall
  dsimp only
  split
  · next w1 w2 =>
    simp only [Bool.and_eq_true, Nat.ble_eq] at w1 w2
    have hav : zrs b0 adK adV bS (st.take n.toNat).reverse (sa.take n.toNat).reverse := zrs_rev (zrs_take n.toNat as)
    have hlen : n.toNat ≤ sa.length := by rw [← as.1]; exact w2.1
    split
    · next t i r0 hst =>
      split
      · next hg =>
        have htg := Nat.eq_of_beq_eq_true hg
        subst htg
        rintro ⟨r, ν, hM0, hK⟩
        obtain ⟨t1, t2⟩ := zwords_tk w2.1 w2.2
        have hM := hM0 ⟨q3, by rw [t1]; exact q4, t2⟩
        rw [hst] at hav
        obtain ⟨v0, As, hsa, hv, hAs⟩ := zrs_un hav
        obtain ⟨b, rfl, hcell⟩ := zrecv hB aP aS hv q5
        obtain ⟨g1, g2, g3, g4, g5, g6, g7, g8⟩ := h2
        rw [g7] at hcell
        have hAl : As.length = n.toNat - 1 := by
          have h3 := congrArg List.length hsa
          rw [List.length_reverse, List.length_take, List.length_cons] at h3
          omega
        have hstk : sa = As.reverse ++ Value.ref b :: sa.drop n.toNat := by
          have h3 : sa.take n.toNat = As.reverse ++ [Value.ref b] := by
            rw [← List.reverse_reverse (sa.take n.toNat), hsa, List.reverse_cons]
          calc sa = sa.take n.toNat ++ sa.drop n.toNat := (List.take_append_drop _ _).symm
            _ = _ := by rw [h3, List.append_assoc]; rfl
        have hpre : PreV s H (zy a).cls b (va_Pc (Value.ref b :: As) (zB b0 D ca adK adV bS L xs μ)) As := ⟨(zPre (As := Value.ref b :: As) hB aP aM aS).1, hcell, (zPre (As := Value.ref b :: As) hB aP aM aS).2⟩
        have hM2 := hM (Value.ref b :: As) (by rw [hst, ← hsa, ← hst]; exact zrs_rev (zrs_take n.toNat as))
        have hfl : la.size = zml mi := by rw [al.1, ag.1]
        have hw8 : ((sa.drop n.toNat).map fun v => v.category).sum ≤ 8 := by rw [zrs_words (zrs_drop n.toNat as)]; exact w1
        rcases g8 with g8 | g8
        · exact zback (va_runV (cc := zby mi) (nL := zml mi) (own := (zy mi).cls) (Ts := zTs) (n := n.toNat - 1) (As := As) (rest := sa.drop n.toNat) (index := idx) (C := (zy a).cls) ⟨hx, hb, hml, hown, hts⟩ hM2 ⟨callB_of (n.toNat - 1) hts (zwf_good q3) rfl rfl rfl (hts _ g4) (hts _ g8) ⟨g1, g2, g3⟩ ⟨Nat.le_trans q1 hR.1, Nat.le_trans q2 hR.2.1⟩, hts _ g5, hts _ g6⟩ hpre rfl hAl hfl hstk (lv_room hw8) hd0 ⟨hR.2.2.1, hR.2.2.2⟩) aS (zwin al ag as hp hK)
        · exact zback (va_runVN (cc := zby mi) (nL := zml mi) (own := (zy mi).cls) (Ts := zTs) (n := n.toNat - 1) (As := As) (rest := sa.drop n.toNat) (index := idx) (C := (zy a).cls) (host := "FrameDeltas") ⟨hx, hb, hml, hown, hts⟩ hM2 ⟨va_cnB (n.toNat - 1) hts (zwf_good q3) rfl rfl rfl (hB.2.2.2 _ g8) (hts _ g4) ⟨g1, g2, g3⟩ ⟨Nat.le_trans q1 hR.1, Nat.le_trans q2 hR.2.1⟩, hts _ g5, hts _ g6⟩ hpre rfl hAl hfl hstk (lv_room hw8) hd0 ⟨hR.2.2.1, hR.2.2.2⟩) aS (zwin al ag as hp hK)
      · trivial
    · trivial
  · trivial
end Call
