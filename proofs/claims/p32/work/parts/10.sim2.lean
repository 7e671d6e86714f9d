section Sim
variable {p : Program} {l : Launch} {e : Env} {R : Room} {s : State} {m : MethodId} {args : Array Value} {below : List Frame} {meth : Method} {c : Code} {cells slots : Nat} {Q : State → Prop}
variable {b0 : Nat} {D : va_G} {ca : Nat → ClassId} {adK adV : Nat → Nat} {bS L : Nat} {xs : Nat → Int32} {mi : Nat} {C : List mzN}
theorem zc_iinc (hx : p.tables.exec = Jvm.exec) (hb : c.code = zby mi) (hml : c.maxLocals = zml mi) (hown : s.vm.findClass (zy mi).cls = some m.cls) (hts : ∀ w ∈ zTs, w.before args s = true) (hB : zBk b0 D ca adK adV bS L xs s) (hR : zfr mi ≤ R.frames ∧ zlo mi ≤ R.locals ∧ cells ≤ R.cells ∧ slots ≤ R.slots) {v : Nat} {n : Int} {k pc a : Nat} {cs : List (Int × Nat)} (hd : zdk (zby mi) pc (.iinc v n) = true) (hf : zfall C k pc (.iinc v n) = true) (h1 : zchk1 mi C pc (.iinc v n) a cs = true) (h2 : zOK2 (zy mi).cls (.iinc v n) a cs) {ls st : List mzV} {μ : mzM} {H : Heap} {locs : List Loc} {la : Array Slot} {sa : List Value} (hA : zA b0 D ca adK adV bS L xs s mi ls st μ H locs la sa) : zgoal (W p l e R s m args below meth c H locs cells slots Q (F0 m pc la sa)) (zK p l e R s m args below meth c cells slots Q b0 D ca adK adV bS L xs mi C) (zKC p l e R s m args below meth c cells slots Q b0 D ca adK adV bS L xs mi C) (zKE p l e R s m args below meth c cells slots Q b0 D ca adK adV bS L xs mi) (zstep (.iinc v n) a cs k ls st μ) := by
  have hd0 : decode (zby mi) pc = .ok (.iinc v n, 3) := (zdk_p hd).resolve_left (by rintro ⟨_, _, _, _, h⟩; cases h)
  have hp : zpcs C (k + 1) = pc + 3 := zfl_p hf
  obtain ⟨al, ag, as, aP, aM, aS⟩ := hA
  have h3 := Bool.and_eq_true_iff.mp h1
  have h4 := Bool.and_eq_true_iff.mp h3.1
  have h5 : -32768 ≤ n := of_decide_eq_true h4.2
  have h6 : n ≤ 32767 := of_decide_eq_true h3.2
  have hn : zin n := by constructor <;> omega
  show zgoal _ _ _ _ (zld ls v (fun u => match u with | some (.inl y) => zst ls v (vI (y + n)) fun l1 => sG (zin (y + n)) inferInstance (k + 1, l1, st, μ) | _ => none))
  refine zld_ok al (fun w v0 hw hv hl => ?_)
  rcases w with y | y | ⟨t, i⟩
  · show zgoal _ _ _ _ (zst ls v (vI (y + n)) fun l1 => sG (zin (y + n)) inferInstance (k + 1, l1, st, μ))
    refine zst_ok ?_
    intro hq hK
    have hq : zin (y + n) := hq
    obtain ⟨hy, rfl⟩ := hv
    have hlt : v < la.size := by
      rw [al.1, ag.1]
      exact Nat.blt_eq.mp (Bool.and_eq_true_iff.mp h4.1).1
    obtain ⟨j, hj⟩ := List.getElem?_of_mem (zlv_mem.mpr hl)
    refine lv_iinc (v := Int32.ofInt (y + n)) hx hb hd0 (zlv_has al.2.1) hj (zn_add hy hn hq) hlt rfl (fun l1 hl1 => ?_)
    obtain ⟨z1, z2⟩ := zrl_set (b0 := b0) (adK := adK) (adV := adV) (bS := bS) al ag h4.1 (zrv_I hq) rfl hl1
    rw [← hp]
    exact hK _ _ _ _ ⟨z1, z2, as, aP, aM, aS⟩
  · trivial
  · trivial
theorem zrl_set2 {ls : List mzV} {la la' : Array Slot} {i : Nat} {n : Int} (h : zrl b0 adK adV bS ls la) (hg : zlgo mi ls) (hi : zsto mi i = true) (hz : zlg mi i = true) (hl : i + 1 < ls.length) (hv : zin6 n)
    (h' : lv_has la' la.size ((i, .long (Int64.ofInt n)) :: (zlv la).filter (fun q => !(q.1 == i) && (!(q.1 == i + 1) && !(q.1 + 1 == i && q.2.category == 2))))) : zrl b0 adK adV bS ((ls.set i (vL n)).set (i + 1) none) la' ∧ zlgo mi ((ls.set i (vL n)).set (i + 1) none) := by
  refine ⟨⟨by rw [List.length_set, List.length_set, ← h.1]; exact h'.1, h'.2.1, fun j x hj => ?_⟩, by rw [List.length_set, List.length_set]; exact hg.1, fun j y hj => ?_⟩
  · by_cases hj1 : j = i + 1
    · rw [hj1, List.getElem?_set_self (by rw [List.length_set]; exact hl)] at hj
      cases hj
    · rw [List.getElem?_set_ne (Ne.symm hj1)] at hj
      by_cases hji : j = i
      · rw [hji, List.getElem?_set_self (by omega)] at hj
        cases hj
        exact ⟨.long (Int64.ofInt n), zrv_L hv, by rw [hji]; exact h'.2.2 (i, .long (Int64.ofInt n)) List.mem_cons_self⟩
      · rw [List.getElem?_set_ne (Ne.symm hji)] at hj
        obtain ⟨u, hu, hq⟩ := h.2.2 j x hj
        refine ⟨u, hu, h'.2.2 (j, u) (List.mem_cons_of_mem _ (List.mem_filter.mpr ⟨zlv_mem.mpr hq, ?_⟩))⟩
        simp only [Bool.and_eq_true, Bool.not_eq_true', beq_eq_false_iff_ne, ne_eq, Bool.and_eq_false_iff]
        refine ⟨hji, hj1, ?_⟩
        by_cases hj2 : j + 1 = i
        · right
          intro hc
          rw [zrv_cat hu] at hc
          have hl2 : zisL (some x) = true := by
            cases hx : zisL (some x) with
            | true => rfl
            | false => rw [hx] at hc; exact absurd hc (by decide)
          rcases x with y | y | ⟨t, k⟩
          · cases hl2
          · have h8 := hg.2 j y hj
            subst hj2
            unfold zsto at hi
            simp only [Bool.and_eq_true, Bool.not_eq_true'] at hi
            rw [h8] at hi
            exact absurd hi.2 (by decide)
          · cases hl2
        · exact Or.inl hj2
  · by_cases hj1 : j = i + 1
    · rw [hj1, List.getElem?_set_self (by rw [List.length_set]; exact hl)] at hj
      cases hj
    · rw [List.getElem?_set_ne (Ne.symm hj1)] at hj
      by_cases hji : j = i
      · rw [hji]; exact hz
      · rw [List.getElem?_set_ne (Ne.symm hji)] at hj
        exact hg.2 j y hj
theorem zc_lstore_n (hx : p.tables.exec = Jvm.exec) (hb : c.code = zby mi) (hml : c.maxLocals = zml mi) (hown : s.vm.findClass (zy mi).cls = some m.cls) (hts : ∀ w ∈ zTs, w.before args s = true) (hB : zBk b0 D ca adK adV bS L xs s) (hR : zfr mi ≤ R.frames ∧ zlo mi ≤ R.locals ∧ cells ≤ R.cells ∧ slots ≤ R.slots) {v : Fin 4} {k pc a : Nat} {cs : List (Int × Nat)} (hd : zdk (zby mi) pc (.lstore_n v) = true) (hf : zfall C k pc (.lstore_n v) = true) (h1 : zchk1 mi C pc (.lstore_n v) a cs = true) (h2 : zOK2 (zy mi).cls (.lstore_n v) a cs) {ls st : List mzV} {μ : mzM} {H : Heap} {locs : List Loc} {la : Array Slot} {sa : List Value} (hA : zA b0 D ca adK adV bS L xs s mi ls st μ H locs la sa) : zgoal (W p l e R s m args below meth c H locs cells slots Q (F0 m pc la sa)) (zK p l e R s m args below meth c cells slots Q b0 D ca adK adV bS L xs mi C) (zKC p l e R s m args below meth c cells slots Q b0 D ca adK adV bS L xs mi C) (zKE p l e R s m args below meth c cells slots Q b0 D ca adK adV bS L xs mi) (zstep (.lstore_n v) a cs k ls st μ) := by
  have hd0 : decode (zby mi) pc = .ok (.lstore_n v, 1) := (zdk_p hd).resolve_left (by rintro ⟨_, _, _, _, h⟩; cases h)
  have hp : zpcs C (k + 1) = pc + 1 := zfl_p hf
  obtain ⟨al, ag, as, aP, aM, aS⟩ := hA
  have h3 := Bool.and_eq_true_iff.mp h1
  have h4 := Bool.and_eq_true_iff.mp h3.1
  have hlt : v.val + 1 < ls.length := by rw [ag.1]; exact Nat.blt_eq.mp h3.2
  refine zl1_ok as (fun n r ra hsa hn hr => ?_)
  subst hsa
  show zgoal _ _ _ _ (match Nat.blt (v.val + 1) ls.length with | true => zst ls v.val (vL n) fun l1 => sN (k + 1, l1.set (v.val + 1) none, r, μ) | false => none)
  rw [Nat.blt_eq.mpr hlt]
  show zgoal _ _ _ _ (zst ls v.val (vL n) fun l1 => sN (k + 1, l1.set (v.val + 1) none, r, μ))
  refine zst_ok ?_
  intro hK
  refine lv_lstore_n hx hb hd0 rfl (zlv_has al.2.1) (by rw [al.1]; exact hlt) rfl (fun l1 hl1 => ?_)
  obtain ⟨z1, z2⟩ := zrl_set2 (b0 := b0) (adK := adK) (adV := adV) (bS := bS) al ag h4.1 h4.2 hlt hn hl1
  rw [← hp]
  exact hK _ _ _ _ ⟨z1, z2, hr, aP, aM, aS⟩
theorem zc_lstore (hx : p.tables.exec = Jvm.exec) (hb : c.code = zby mi) (hml : c.maxLocals = zml mi) (hown : s.vm.findClass (zy mi).cls = some m.cls) (hts : ∀ w ∈ zTs, w.before args s = true) (hB : zBk b0 D ca adK adV bS L xs s) (hR : zfr mi ≤ R.frames ∧ zlo mi ≤ R.locals ∧ cells ≤ R.cells ∧ slots ≤ R.slots) {v : Nat} {k pc a : Nat} {cs : List (Int × Nat)} (hd : zdk (zby mi) pc (.lstore v) = true) (hf : zfall C k pc (.lstore v) = true) (h1 : zchk1 mi C pc (.lstore v) a cs = true) (h2 : zOK2 (zy mi).cls (.lstore v) a cs) {ls st : List mzV} {μ : mzM} {H : Heap} {locs : List Loc} {la : Array Slot} {sa : List Value} (hA : zA b0 D ca adK adV bS L xs s mi ls st μ H locs la sa) : zgoal (W p l e R s m args below meth c H locs cells slots Q (F0 m pc la sa)) (zK p l e R s m args below meth c cells slots Q b0 D ca adK adV bS L xs mi C) (zKC p l e R s m args below meth c cells slots Q b0 D ca adK adV bS L xs mi C) (zKE p l e R s m args below meth c cells slots Q b0 D ca adK adV bS L xs mi) (zstep (.lstore v) a cs k ls st μ) := by
  have hd0 : decode (zby mi) pc = .ok (.lstore v, 2) := (zdk_p hd).resolve_left (by rintro ⟨_, _, _, _, h⟩; cases h)
  have hp : zpcs C (k + 1) = pc + 2 := zfl_p hf
  obtain ⟨al, ag, as, aP, aM, aS⟩ := hA
  have h3 := Bool.and_eq_true_iff.mp h1
  have h4 := Bool.and_eq_true_iff.mp h3.1
  have hlt : v + 1 < ls.length := by rw [ag.1]; exact Nat.blt_eq.mp h3.2
  refine zl1_ok as (fun n r ra hsa hn hr => ?_)
  subst hsa
  show zgoal _ _ _ _ (match Nat.blt (v + 1) ls.length with | true => zst ls v (vL n) fun l1 => sN (k + 1, l1.set (v + 1) none, r, μ) | false => none)
  rw [Nat.blt_eq.mpr hlt]
  show zgoal _ _ _ _ (zst ls v (vL n) fun l1 => sN (k + 1, l1.set (v + 1) none, r, μ))
  refine zst_ok ?_
  intro hK
  refine lv_lstore hx hb hd0 (zlv_has al.2.1) (by rw [al.1]; exact hlt) rfl (fun l1 hl1 => ?_)
  obtain ⟨z1, z2⟩ := zrl_set2 (b0 := b0) (adK := adK) (adV := adV) (bS := bS) al ag h4.1 h4.2 hlt hn hl1
  rw [← hp]
  exact hK _ _ _ _ ⟨z1, z2, hr, aP, aM, aS⟩
theorem zc_ifnull (hx : p.tables.exec = Jvm.exec) (hb : c.code = zby mi) (hml : c.maxLocals = zml mi) (hown : s.vm.findClass (zy mi).cls = some m.cls) (hts : ∀ w ∈ zTs, w.before args s = true) (hB : zBk b0 D ca adK adV bS L xs s) (hR : zfr mi ≤ R.frames ∧ zlo mi ≤ R.locals ∧ cells ≤ R.cells ∧ slots ≤ R.slots) {v : Int} {k pc a : Nat} {cs : List (Int × Nat)} (hd : zdk (zby mi) pc (.ifnull v) = true) (hf : zfall C k pc (.ifnull v) = true) (h1 : zchk1 mi C pc (.ifnull v) a cs = true) (h2 : zOK2 (zy mi).cls (.ifnull v) a cs) {ls st : List mzV} {μ : mzM} {H : Heap} {locs : List Loc} {la : Array Slot} {sa : List Value} (hA : zA b0 D ca adK adV bS L xs s mi ls st μ H locs la sa) : zgoal (W p l e R s m args below meth c H locs cells slots Q (F0 m pc la sa)) (zK p l e R s m args below meth c cells slots Q b0 D ca adK adV bS L xs mi C) (zKC p l e R s m args below meth c cells slots Q b0 D ca adK adV bS L xs mi C) (zKE p l e R s m args below meth c cells slots Q b0 D ca adK adV bS L xs mi) (zstep (.ifnull v) a cs k ls st μ) := by
  have hd0 : decode (zby mi) pc = .ok (.ifnull v, 3) := (zdk_p hd).resolve_left (by rintro ⟨_, _, _, _, h⟩; cases h)
  have hp : zpcs C (k + 1) = pc + 3 := zfl_p hf
  obtain ⟨al, ag, as, aP, aM, aS⟩ := hA
  refine zr1_ok as (fun t i r v0 ra hsa hv hr => ?_)
  subst hsa
  show zgoal _ _ _ _ (match Nat.beq t 99, Nat.beq t 98 with | true, _ => sN (a, ls, r, μ) | false, false => sN (k + 1, ls, r, μ) | _, _ => none)
  cases h99 : Nat.beq t 99 with
  | true =>
    have hv1 := zrv_null hv (Nat.eq_of_beq_eq_true h99)
    subst hv1
    intro hK
    refine lv_ifnullN hx hb hd0 (zgt_p h1) ?_
    exact hK _ _ _ _ ⟨al, ag, hr, aP, aM, aS⟩
  | false =>
    cases h98 : Nat.beq t 98 with
    | true => trivial
    | false =>
      obtain ⟨a0, hv1⟩ := zrv_nn hv (fun q => by rw [q] at h99; cases h99) (fun q => by rw [q] at h98; cases h98)
      subst hv1
      intro hK
      refine lv_ifnull hx hb hd0 ?_
      rw [← hp]
      exact hK _ _ _ _ ⟨al, ag, hr, aP, aM, aS⟩
theorem zc_ifnonnull (hx : p.tables.exec = Jvm.exec) (hb : c.code = zby mi) (hml : c.maxLocals = zml mi) (hown : s.vm.findClass (zy mi).cls = some m.cls) (hts : ∀ w ∈ zTs, w.before args s = true) (hB : zBk b0 D ca adK adV bS L xs s) (hR : zfr mi ≤ R.frames ∧ zlo mi ≤ R.locals ∧ cells ≤ R.cells ∧ slots ≤ R.slots) {v : Int} {k pc a : Nat} {cs : List (Int × Nat)} (hd : zdk (zby mi) pc (.ifnonnull v) = true) (hf : zfall C k pc (.ifnonnull v) = true) (h1 : zchk1 mi C pc (.ifnonnull v) a cs = true) (h2 : zOK2 (zy mi).cls (.ifnonnull v) a cs) {ls st : List mzV} {μ : mzM} {H : Heap} {locs : List Loc} {la : Array Slot} {sa : List Value} (hA : zA b0 D ca adK adV bS L xs s mi ls st μ H locs la sa) : zgoal (W p l e R s m args below meth c H locs cells slots Q (F0 m pc la sa)) (zK p l e R s m args below meth c cells slots Q b0 D ca adK adV bS L xs mi C) (zKC p l e R s m args below meth c cells slots Q b0 D ca adK adV bS L xs mi C) (zKE p l e R s m args below meth c cells slots Q b0 D ca adK adV bS L xs mi) (zstep (.ifnonnull v) a cs k ls st μ) := by
  have hd0 : decode (zby mi) pc = .ok (.ifnonnull v, 3) := (zdk_p hd).resolve_left (by rintro ⟨_, _, _, _, h⟩; cases h)
  have hp : zpcs C (k + 1) = pc + 3 := zfl_p hf
  obtain ⟨al, ag, as, aP, aM, aS⟩ := hA
  refine zr1_ok as (fun t i r v0 ra hsa hv hr => ?_)
  subst hsa
  show zgoal _ _ _ _ (match Nat.beq t 99, Nat.beq t 98 with | true, _ => sN (k + 1, ls, r, μ) | false, false => sN (a, ls, r, μ) | _, _ => none)
  cases h99 : Nat.beq t 99 with
  | true =>
    have hv1 := zrv_null hv (Nat.eq_of_beq_eq_true h99)
    subst hv1
    intro hK
    refine lv_ifnonnullN hx hb hd0 ?_
    rw [← hp]
    exact hK _ _ _ _ ⟨al, ag, hr, aP, aM, aS⟩
  | false =>
    cases h98 : Nat.beq t 98 with
    | true => trivial
    | false =>
      obtain ⟨a0, hv1⟩ := zrv_nn hv (fun q => by rw [q] at h99; cases h99) (fun q => by rw [q] at h98; cases h98)
      subst hv1
      intro hK
      refine lv_ifnonnull hx hb hd0 (zgt_p h1) ?_
      exact hK _ _ _ _ ⟨al, ag, hr, aP, aM, aS⟩
theorem zsw_pick {C : List mzN} {pc d : Nat} : ∀ (os : List Int) (cs : List (Int × Nat)) (lo : Int), zsw C pc lo os cs = true → ∀ v : Int, (lo ≤ v → v < lo + (os.length : Int) → ∃ off, os[(v - lo).toNat]? = some off ∧ (pc : Int) + off = (zpcs C (zpick v cs d) : Int)) ∧ ((v < lo ∨ lo + (os.length : Int) ≤ v) → zpick v cs d = d)
  | [], cs, lo, h, v => by
    cases cs with
    | nil => exact ⟨fun h1 h2 => by simp at h2; omega, fun _ => rfl⟩
    | cons x cs => cases h
  | o :: os, cs, lo, h, v => by
    cases cs with
    | nil => cases h
    | cons x cs =>
      obtain ⟨u, a⟩ := x
      simp only [zsw, Bool.and_eq_true, decide_eq_true_eq] at h
      obtain ⟨⟨h1, h2⟩, h3⟩ := h
      obtain ⟨i1, i2⟩ := zsw_pick (d := d) os cs (lo + 1) h3 v
      subst h1
      constructor
      · intro g1 g2
        by_cases hv : v = u
        · subst hv
          refine ⟨o, by simp, ?_⟩
          unfold zpick
          rw [if_pos rfl]
          exact zgt_p h2
        · obtain ⟨off, e1, e2⟩ := i1 (by omega) (by simp only [List.length_cons] at g2; omega)
          refine ⟨off, ?_, ?_⟩
          · rw [show (v - u).toNat = (v - (u + 1)).toNat + 1 from by omega, List.getElem?_cons_succ]
            exact e1
          · unfold zpick
            rw [if_neg hv]
            exact e2
      · intro g
        unfold zpick
        simp only [List.length_cons] at g
        rw [if_neg (by omega)]
        exact i2 (by omega)
theorem zc_tableswitch (hx : p.tables.exec = Jvm.exec) (hb : c.code = zby mi) (hml : c.maxLocals = zml mi) (hown : s.vm.findClass (zy mi).cls = some m.cls) (hts : ∀ w ∈ zTs, w.before args s = true) (hB : zBk b0 D ca adK adV bS L xs s) (hR : zfr mi ≤ R.frames ∧ zlo mi ≤ R.locals ∧ cells ≤ R.cells ∧ slots ≤ R.slots) {d lo hi : Int} {os : Array Int} {k pc a : Nat} {cs : List (Int × Nat)} (hd : zdk (zby mi) pc (.tableswitch d lo hi os) = true) (hf : zfall C k pc (.tableswitch d lo hi os) = true) (h1 : zchk1 mi C pc (.tableswitch d lo hi os) a cs = true) (h2 : zOK2 (zy mi).cls (.tableswitch d lo hi os) a cs) {ls st : List mzV} {μ : mzM} {H : Heap} {locs : List Loc} {la : Array Slot} {sa : List Value} (hA : zA b0 D ca adK adV bS L xs s mi ls st μ H locs la sa) : zgoal (W p l e R s m args below meth c H locs cells slots Q (F0 m pc la sa)) (zK p l e R s m args below meth c cells slots Q b0 D ca adK adV bS L xs mi C) (zKC p l e R s m args below meth c cells slots Q b0 D ca adK adV bS L xs mi C) (zKE p l e R s m args below meth c cells slots Q b0 D ca adK adV bS L xs mi) (zstep (.tableswitch d lo hi os) a cs k ls st μ) := by
  obtain ⟨al, ag, as, aP, aM, aS⟩ := hA
  have hd1 : ∃ n, decode (zby mi) pc = .ok (.tableswitch d lo hi os, n) := by
    unfold zdk at hd
    dsimp only at hd
    split at hd
    · next J n hj => exact ⟨n, by rw [hj, of_decide_eq_true hd]⟩
    · cases hd
  obtain ⟨n, hd1⟩ := hd1
  have h3 := Bool.and_eq_true_iff.mp h1
  have h4 := Bool.and_eq_true_iff.mp h3.1
  have h5 : hi = lo + (os.size : Int) - 1 := of_decide_eq_true h3.2
  refine zi1_ok as (fun v r ra hsa hv hr => ?_)
  subst hsa
  intro hK
  have hv2 := zi_to hv
  obtain ⟨i1, i2⟩ := zsw_pick (d := a) _ _ _ h4.2 v
  have hlen : os.toList.length = os.size := by simp
  rw [hlen] at i1 i2
  by_cases hin : lo ≤ v ∧ v < lo + (os.size : Int)
  · obtain ⟨off, e1, e2⟩ := i1 hin.1 hin.2
    refine lv_tableIn hx hb hd1 (by rw [hv2]; omega) (by rw [hv2]; omega) (off := off) (by rw [hv2, ← Array.getElem?_toList]; exact e1) e2 ?_
    exact hK _ _ _ _ ⟨al, ag, hr, aP, aM, aS⟩
  · have h6 := i2 (by omega)
    refine lv_tableOut hx hb hd1 (by rw [hv2]; omega) (zgt_p h4.1) ?_
    rw [← h6]
    exact hK _ _ _ _ ⟨al, ag, hr, aP, aM, aS⟩
theorem zcel_obj {μ : mzM} {t i : Nat} (h : zrow t = 0) : zcel b0 ca μ t i = .inr (zci t, (zfl t).map (zval b0 μ (i : Int))) := by unfold zcel; rw [h]; rfl
theorem zfl_kd : ∀ t, t < 30 → ∀ q ∈ zfl t, q.1 < 4 := by decide +kernel
theorem zfa_of {t k : Nat} {q : Nat × Nat × Nat × Int} (h : (zfl t)[k]? = some q) : zfa t k = q := by unfold zfa; rw [List.getD_eq_getElem?_getD, h]; rfl
/-- a field that is read: what the machine finds there -/
theorem zget_ok (hx : p.tables.exec = Jvm.exec) (hb : c.code = zby mi) (hown : s.vm.findClass (zy mi).cls = some m.cls) (hts : ∀ w ∈ zTs, w.before args s = true) (hB : zBk b0 D ca adK adV bS L xs s) {pc idx t k : Nat} {i : Nat} {q : Nat × Nat × Nat × Int} {μ : mzM} {H : Heap} {locs : List Loc} {la : Array Slot} {ra : List Value}
    (hz : i < zcnt t) (h0 : zrow t = 0) (hq : (zfl t)[k]? = some q) (hl : zFL (zy mi).cls idx t k) (hd0 : decode (zby mi) pc = .ok (.getfield idx, 3)) (aP : va_P D zcl (zws b0 ca μ) H)
    (kk : W p l e R s m args below meth c H locs cells slots Q (F0 m (pc + 3) la (zval b0 μ (i : Int) q :: ra))) : W p l e R s m args below meth c H locs cells slots Q (F0 m pc la (.ref (b0 + zpos t i) :: ra)) := by
  obtain ⟨CC, T, N, ty, c1, c2, c3, c4, c5, c6, c7, c8⟩ := zcls_of (zcnt_lt hz) (Nat.lt_of_le_of_lt (Nat.zero_le _) hz) h0
  have hkN : k < N := by rw [c6]; exact (List.getElem?_eq_some_iff.mp hq).1
  have he := zws_at b0 ca μ hz
  rw [zcel_obj h0] at he
  have hv : ((zfl t).map (zval b0 μ (i : Int)))[k]? = some (zval b0 μ (i : Int) q) := by rw [List.getElem?_map, hq]; rfl
  unfold zFL at hl
  rw [c2] at hl
  rcases hl with hl | hl
  · exact va_get (ref := CC) hx hb hts c3 hown hB.1 aP _ he c1 k hkN (hts _ hl) (fun x h => by rw [c7 k hkN] at h; exact h) hv hd0 kk
  · exact va_getN (ref := CC) (host := "FrameDeltas") hx hb hts c3 hown hB.1 aP _ he c1 k hkN (va_Nw.use rfl (hB.2.2.2 _ hl)) (fun x h => by rw [c7 k hkN] at h; exact h) hv hd0 kk
theorem zc_getfield (hx : p.tables.exec = Jvm.exec) (hb : c.code = zby mi) (hml : c.maxLocals = zml mi) (hown : s.vm.findClass (zy mi).cls = some m.cls) (hts : ∀ w ∈ zTs, w.before args s = true) (hB : zBk b0 D ca adK adV bS L xs s) (hR : zfr mi ≤ R.frames ∧ zlo mi ≤ R.locals ∧ cells ≤ R.cells ∧ slots ≤ R.slots) {v : Nat} {k pc a : Nat} {cs : List (Int × Nat)} (hd : zdk (zby mi) pc (.getfield v) = true) (hf : zfall C k pc (.getfield v) = true) (h1 : zchk1 mi C pc (.getfield v) a cs = true) (h2 : zOK2 (zy mi).cls (.getfield v) a cs) {ls st : List mzV} {μ : mzM} {H : Heap} {locs : List Loc} {la : Array Slot} {sa : List Value} (hA : zA b0 D ca adK adV bS L xs s mi ls st μ H locs la sa) : zgoal (W p l e R s m args below meth c H locs cells slots Q (F0 m pc la sa)) (zK p l e R s m args below meth c cells slots Q b0 D ca adK adV bS L xs mi C) (zKC p l e R s m args below meth c cells slots Q b0 D ca adK adV bS L xs mi C) (zKE p l e R s m args below meth c cells slots Q b0 D ca adK adV bS L xs mi) (zstep (.getfield v) a cs k ls st μ) := by
  have hd0 : decode (zby mi) pc = .ok (.getfield v, 3) := (zdk_p hd).resolve_left (by rintro ⟨_, _, _, _, h⟩; cases h)
  have hp : zpcs C (k + 1) = pc + 3 := zfl_p hf
  obtain ⟨al, ag, as, aP, aM, aS⟩ := hA
  refine zr1_ok as (fun t i r v0 ra hsa hv hr => ?_)
  subst hsa
  match cs, h1, h2 with
  | [], _, _ => trivial
  | [_], _, _ => trivial
  | [_, _], _, _ => trivial
  | [_, _, _], _, _ => trivial
  | (x2, kd) :: (y1, o) :: (y2, x1) :: (y3, md) :: cs, h1, h2 =>
    show zgoal _ _ _ _ (match (generalizing := false) Nat.beq t o with
      | false => none
      | true => match (generalizing := false) kd with
        | 0 => sN (k + 1, ls, vI (μ x1 i x2) :: r, μ)
        | 1 => sN (k + 1, ls, vI (μ x1 i x2) :: r, μ)
        | 2 => sN (k + 1, ls, vL (μ x1 i x2) :: r, μ)
        | 3 => sN (k + 1, ls, vR x1 (zlead md x2 i) :: r, μ)
        | 4 => sN (k + 1, ls, vI x2 :: r, μ)
        | _ => none)
    cases hto : Nat.beq t o with
    | false => trivial
    | true =>
      have hto := Nat.eq_of_beq_eq_true hto
      subst hto
      have h1 : (decide ((zfl t)[a]? = some (kd, x1, md, x2)) && Nat.blt 0 (zcnt t) && Nat.beq (zrow t) 0) = true := h1
      simp only [Bool.and_eq_true, decide_eq_true_eq] at h1
      obtain ⟨⟨q1, q2⟩, q3⟩ := h1
      have q2 := Nat.blt_eq.mp q2
      have q3 := Nat.eq_of_beq_eq_true q3
      have ht30 : t < 30 := zcnt_lt q2
      obtain ⟨g1, g2, g3⟩ := zrv_unR hv ht30
      subst g3
      have hl : zFL (zy mi).cls v t a := h2
      have hi : ((i.toNat : Nat) : Int) = i := Int.toNat_of_nonneg g1
      have hm := zfl_mem t ht30 _ (List.mem_of_getElem? q1)
      have hkd := zfl_kd t ht30 _ (List.mem_of_getElem? q1)
      have hx33 : kd ≠ 2 → kd ≠ 3 → x1 ≠ 33 := by
        intro n2 n3
        rcases hm with h | ⟨-, h, -⟩
        · exact absurd h n3
        · rcases h with h | h
          · exact h
          · exact absurd h.1 n2
      have key : zK p l e R s m args below meth c cells slots Q b0 D ca adK adV bS L xs mi C (k + 1, ls, (match (generalizing := false) kd with | 2 => vL (μ x1 i x2) | 3 => vR x1 (zlead md x2 i) | _ => vI (μ x1 i x2)) :: r, μ) → W p l e R s m args below meth c H locs cells slots Q (F0 m pc la (.ref (b0 + zpos t i.toNat) :: ra)) := by
        intro hK
        refine zget_ok hx hb hown hts hB g2 q3 q1 hl hd0 aP ?_
        rw [hi, ← hp]
        refine hK _ _ _ _ ⟨al, ag, zrs_cons ?_ hr, aP, aM, aS⟩
        match kd, hm, hkd, q1, hx33 with
        | 0, _, _, _, hx33 => exact zrv_I (aM.1 _ _ _ (hx33 (by decide) (by decide)))
        | 1, _, _, _, hx33 => exact zrv_I (aM.1 _ _ _ (hx33 (by decide) (by decide)))
        | 2, hm, _, _, _ =>
          have h33 : x1 = 33 := by
            rcases hm with h | h
            · cases h
            · rcases h.2.2 with h | h
              · exact absurd rfl h
              · exact h
          subst h33
          exact zrv_L (aM.2.1 _ _)
        | 3, _, _, q1, _ =>
          obtain ⟨f1, f2⟩ := zfl_ref t ht30 _ (List.mem_of_getElem? q1) rfl i.toNat g2
          rw [hi] at f1 f2
          exact zrv_R f1 f2
        | n + 4, _, h, _, _ => exact absurd h (by simp)
      match kd, key, hkd with
      | 0, key, _ => exact key
      | 1, key, _ => exact key
      | 2, key, _ => exact key
      | 3, key, _ => exact key
      | n + 4, _, h => exact absurd h (by simp)
/-- a field that is written -/
theorem zput_ok (hx : p.tables.exec = Jvm.exec) (hb : c.code = zby mi) (hown : s.vm.findClass (zy mi).cls = some m.cls) (hts : ∀ w ∈ zTs, w.before args s = true) (hB : zBk b0 D ca adK adV bS L xs s) {pc idx t k kd x1 md : Nat} {x2 n : Int} {i : Nat} {μ : mzM} {H : Heap} {locs : List Loc} {la : Array Slot} {ra : List Value}
    (hz : i < zcnt t) (h0 : zrow t = 0) (hq : (zfl t)[k]? = some (kd, x1, md, x2)) (hl : zFL (zy mi).cls idx t k) (hd0 : decode (zby mi) pc = .ok (.putfield idx, 3)) (aP : va_P D zcl (zws b0 ca μ) H) (aS : va_S (fun q => b0 ≤ q) s.heap H locs)
    (hn : (kd = 0 ∧ zin n) ∨ (kd = 1 ∧ (n = 0 ∨ n = 1)) ∨ (kd = 2 ∧ zin6 n))
    (kk : ∀ (H1 : Heap) (locs1 : List Loc), va_P D zcl (zws b0 ca (mup μ x1 (i : Int) x2 n)) H1 → va_S (fun q => b0 ≤ q) s.heap H1 locs1 → W p l e R s m args below meth c H1 locs1 cells slots Q (F0 m (pc + 3) la ra)) : W p l e R s m args below meth c H locs cells slots Q (F0 m pc la (zval b0 (fun _ _ _ => n) (i : Int) (kd, x1, md, x2) :: .ref (b0 + zpos t i) :: ra)) := by
  obtain ⟨CC, T, N, ty, c1, c2, c3, c4, c5, c6, c7, c8⟩ := zcls_of (zcnt_lt hz) (Nat.lt_of_le_of_lt (Nat.zero_le _) hz) h0
  have hkN : k < N := by rw [c6]; exact (List.getElem?_eq_some_iff.mp hq).1
  have he := zws_at b0 ca μ hz
  rw [zcel_obj h0] at he
  have hfl : k < ((zfl t).map (zval b0 μ (i : Int))).length := by rw [List.length_map, ← c6]; exact hkN
  have hne3 : kd ≠ 3 := by omega
  have hx1 : zow x1 = t := zfl_ow t (zcnt_lt hz) _ (List.mem_of_getElem? hq) hne3
  have hnew : ∀ H1 locs1, va_P D zcl ((zws b0 ca μ).set (zpos t i) (b0 + zpos t i, .inr (zci t, ((zfl t).map (zval b0 μ (i : Int))).set k (zval b0 (fun _ _ _ => n) (i : Int) (kd, x1, md, x2))))) H1 → va_S (fun q => b0 ≤ q) s.heap H1 locs1 → W p l e R s m args below meth c H1 locs1 cells slots Q (F0 m (pc + 3) la ra) := by
    intro H1 locs1 g1 g2
    rw [zws_set (μ' := mup μ x1 (i : Int) x2 n) hz (zcel_put hz h0 hq hne3) (fun t' i' h' hne => zcel_off (x1 := x1) (i := i) (fun t2 i2 k2 h2 => mup_ne (fun z => h2 ⟨z.1, z.2.1⟩)) h' (by rw [hx1]; exact hne))] at g1
    exact kk H1 locs1 g1 g2
  have hfin : (T k).2.2.2 = false ∧ ∃ tk, ty k = tk ∧ narrow tk (zval b0 (fun _ _ _ => n) (i : Int) (kd, x1, md, x2)) = zval b0 (fun _ _ _ => n) (i : Int) (kd, x1, md, x2) ∧ fits tk (zval b0 (fun _ _ _ => n) (i : Int) (kd, x1, md, x2)) = true := by
    have hfa := zfa_of hq
    obtain ⟨w0, w1, w2⟩ := c8 k hkN
    rw [hfa] at w0 w1 w2
    rcases hn with ⟨rfl, -⟩ | ⟨rfl, hn⟩ | ⟨rfl, -⟩
    · obtain ⟨a1, a2⟩ := w0 rfl
      exact ⟨a2, _, a1, rfl, rfl⟩
    · obtain ⟨a1, a2⟩ := w1 rfl
      refine ⟨a2, _, a1, ?_, ?_⟩
      · have hz1 : zin n := ⟨by omega, by omega⟩
        have h9 := zn_bool (Int32.ofInt n)
        rw [zi_to hz1] at h9
        have h10 : (Int32.ofInt n &&& 1).toInt = n := h9.trans (by rcases hn with hn | hn <;> rw [hn] <;> decide)
        exact congrArg Value.int (zi_of h10)
      · rcases hn with rfl | rfl <;> rfl
    · obtain ⟨a1, a2⟩ := w2 rfl
      exact ⟨a2, _, a1, rfl, rfl⟩
  obtain ⟨hff, tk, htk, hnar, hfit⟩ := hfin
  have hdsc : parseFieldDescriptor (T k).2.2.1 = some tk := by rw [c4 k hkN, htk]
  unfold zFL at hl
  rw [c2] at hl
  rcases hl with hl | hl
  · exact va_put (ref := CC) hx hb hts c3 ty c4 c5 hown hB.1 aP (zws_D b0 ca μ) aS _ he c1 k hkN (hts _ hl) (fun x h => by rw [c7 k hkN] at h; exact h) hff hdsc hnar hfit hfl hd0 (fun H1 locs1 g1 _ g2 => hnew H1 locs1 g1 g2)
  · exact va_putN (ref := CC) (host := "FrameDeltas") hx hb hts c3 ty c4 c5 hown hB.1 aP (zws_D b0 ca μ) aS _ he c1 k hkN (va_Nw.use rfl (hB.2.2.2 _ hl)) (fun x h => by rw [c7 k hkN] at h; exact h) hff hdsc hnar hfit hfl hd0 (fun H1 locs1 g1 _ g2 => hnew H1 locs1 g1 g2)
theorem zc_putfield (hx : p.tables.exec = Jvm.exec) (hb : c.code = zby mi) (hml : c.maxLocals = zml mi) (hown : s.vm.findClass (zy mi).cls = some m.cls) (hts : ∀ w ∈ zTs, w.before args s = true) (hB : zBk b0 D ca adK adV bS L xs s) (hR : zfr mi ≤ R.frames ∧ zlo mi ≤ R.locals ∧ cells ≤ R.cells ∧ slots ≤ R.slots) {v : Nat} {k pc a : Nat} {cs : List (Int × Nat)} (hd : zdk (zby mi) pc (.putfield v) = true) (hf : zfall C k pc (.putfield v) = true) (h1 : zchk1 mi C pc (.putfield v) a cs = true) (h2 : zOK2 (zy mi).cls (.putfield v) a cs) {ls st : List mzV} {μ : mzM} {H : Heap} {locs : List Loc} {la : Array Slot} {sa : List Value} (hA : zA b0 D ca adK adV bS L xs s mi ls st μ H locs la sa) : zgoal (W p l e R s m args below meth c H locs cells slots Q (F0 m pc la sa)) (zK p l e R s m args below meth c cells slots Q b0 D ca adK adV bS L xs mi C) (zKC p l e R s m args below meth c cells slots Q b0 D ca adK adV bS L xs mi C) (zKE p l e R s m args below meth c cells slots Q b0 D ca adK adV bS L xs mi) (zstep (.putfield v) a cs k ls st μ) := by
  have hd0 : decode (zby mi) pc = .ok (.putfield v, 3) := (zdk_p hd).resolve_left (by rintro ⟨_, _, _, _, h⟩; cases h)
  have hp : zpcs C (k + 1) = pc + 3 := zfl_p hf
  obtain ⟨al, ag, as, aP, aM, aS⟩ := hA
  match st, as, cs, h1, h2 with
  | [], _, _, _, _ => trivial
  | [_], _, _, _, _ => trivial
  | _ :: none :: _, _, _, _, _ => trivial
  | _ :: some (.inl _) :: _, _, _, _, _ => trivial
  | _ :: some (.inr (.inl _)) :: _, _, _, _, _ => trivial
  | _ :: some (.inr (.inr (_, _))) :: _, _, [], _, _ => trivial
  | _ :: some (.inr (.inr (_, _))) :: _, _, [_], _, _ => trivial
  | _ :: some (.inr (.inr (_, _))) :: _, _, [_, _], _, _ => trivial
  | _ :: some (.inr (.inr (_, _))) :: _, _, [_, _, _], h1, _ => cases h1
  | w :: some (.inr (.inr (t, i))) :: r, as, (x2, kd) :: (y1, o) :: (y2, x1) :: (y3, md) :: cs, h1, h2 =>
    obtain ⟨v1, r1, rfl, hw, h5⟩ := zrs_un as
    obtain ⟨v0, ra, rfl, hv, hr⟩ := zrs_un h5
    show zgoal _ _ _ _ (match (generalizing := false) Nat.beq t o with
      | false => none
      | true => match (generalizing := false) kd, w with
        | 0, some (.inl n) => sN (k + 1, ls, r, mup μ x1 i x2 n)
        | 1, some (.inl n) => sG (n = 0 ∨ n = 1) inferInstance (k + 1, ls, r, mup μ x1 i x2 n)
        | 2, some (.inr (.inl n)) => sN (k + 1, ls, r, mup μ x1 i x2 n)
        | _, _ => none)
    cases hto : Nat.beq t o with
    | false => trivial
    | true =>
      have hto := Nat.eq_of_beq_eq_true hto
      subst hto
      have h1 : (decide ((zfl t)[a]? = some (kd, x1, md, x2)) && Nat.blt 0 (zcnt t) && Nat.beq (zrow t) 0 && Nat.blt kd 3) = true := h1
      simp only [Bool.and_eq_true, decide_eq_true_eq] at h1
      obtain ⟨⟨⟨q1, q2⟩, q3⟩, q4⟩ := h1
      have q2 := Nat.blt_eq.mp q2
      have q3 := Nat.eq_of_beq_eq_true q3
      have ht30 : t < 30 := zcnt_lt q2
      obtain ⟨g1, g2, g3⟩ := zrv_unR hv ht30
      subst g3
      have hl : zFL (zy mi).cls v t a := h2
      have hi : ((i.toNat : Nat) : Int) = i := Int.toNat_of_nonneg g1
      have hm := zfl_mem t ht30 _ (List.mem_of_getElem? q1)
      have key : ∀ n : Int, ((kd = 0 ∧ zin n) ∨ (kd = 1 ∧ (n = 0 ∨ n = 1)) ∨ (kd = 2 ∧ zin6 n)) → v1 = zval b0 (fun _ _ _ => n) i (kd, x1, md, x2) → zK p l e R s m args below meth c cells slots Q b0 D ca adK adV bS L xs mi C (k + 1, ls, r, mup μ x1 i x2 n) → W p l e R s m args below meth c H locs cells slots Q (F0 m pc la (v1 :: .ref (b0 + zpos t i.toNat) :: ra)) := by
        intro n hn hv1 hK
        rw [hv1, ← hi]
        refine zput_ok hx hb hown hts hB g2 q3 q1 hl hd0 aP aS hn (fun H1 locs1 z1 z2 => ?_)
        rw [hi] at z1
        rw [← hp]
        refine hK _ _ _ _ ⟨al, ag, hr, z1, ?_, z2⟩
        rcases hm with h | ⟨h6, h7, h8⟩
        · omega
        · refine zM_up aM h6 (fun h9 => ?_) (fun h9 => ?_)
          · rcases hn with ⟨-, hn⟩ | ⟨-, hn⟩ | ⟨h10, -⟩
            · exact hn
            · rcases hn with rfl | rfl <;> exact ⟨by decide, by decide⟩
            · rcases h8 with h8 | h8
              · exact absurd h10 h8
              · exact absurd h8 h9
          · rcases h7 with h7 | ⟨h7, h11⟩
            · exact absurd h9 h7
            · rcases hn with ⟨h10, -⟩ | ⟨h10, -⟩ | ⟨-, hn⟩
              · omega
              · omega
              · exact ⟨hn, by have h12 : x2 = 0 := h11; omega⟩
      match kd, w, key, hw, q4 with
      | 0, none, _, _, _ => trivial
      | 0, some (.inl n), key, hw, _ => exact key n (Or.inl ⟨rfl, hw.1⟩) hw.2
      | 0, some (.inr _), _, _, _ => trivial
      | 1, none, _, _, _ => trivial
      | 1, some (.inl n), key, hw, _ => exact fun hq => key n (Or.inr (Or.inl ⟨rfl, hq⟩)) hw.2
      | 1, some (.inr _), _, _, _ => trivial
      | 2, none, _, _, _ => trivial
      | 2, some (.inl _), _, _, _ => trivial
      | 2, some (.inr (.inl n)), key, hw, _ => exact key n (Or.inr (Or.inr ⟨rfl, hw.1⟩)) hw.2
      | 2, some (.inr (.inr _)), _, _, _ => trivial
      | n + 3, _, _, _, q4 => exact absurd (Nat.blt_eq.mp q4) (by omega)
end Sim
