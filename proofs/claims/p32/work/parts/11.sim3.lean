section Sim
variable {p : Program} {l : Launch} {e : Env} {R : Room} {s : State} {m : MethodId} {args : Array Value} {below : List Frame} {meth : Method} {c : Code} {cells slots : Nat} {Q : State → Prop}
variable {b0 : Nat} {D : va_G} {ca : Nat → ClassId} {adK adV : Nat → Nat} {bS L : Nat} {xs : Nat → Int32} {mi : Nat} {C : List mzN}
theorem zcel_arr {μ : mzM} {t i : Nat} (h : zrow t ≠ 0) (h4 : zrow t ≠ 4) : zcel b0 ca μ t i = .inl (ca (zac t), zln t, .inl (fun j => Int32.ofInt (μ t (i : Int) (j : Int)))) := by
  unfold zcel
  split
  · next q => exact absurd q h
  · next q => exact absurd q h4
  · rfl
theorem zcel_ref {μ : mzM} {t i : Nat} (h4 : zrow t = 4) : zcel b0 ca μ t i = .inl (ca (zac t), zln t, .inr (.inr (.inr (.inr (fun j => some (b0 + zsee t i j)))))) := by unfold zcel; rw [h4]; rfl
theorem zarr_c {c : ClassId} {n : Nat} {f g : Nat → Int32} (h : ∀ j, f j = g j) : (Sum.inl (c, n, Sum.inl f) : va_E) = Sum.inl (c, n, Sum.inl g) := congrArg (fun q => (Sum.inl (c, n, Sum.inl q) : va_E)) (funext h)
theorem zi_nat {n : Nat} (h : n < 2 ^ 31) : Int32.ofNat n = Int32.ofInt (n : Int) := zi_of (nI_toInt h)
theorem zc_arraylength (hx : p.tables.exec = Jvm.exec) (hb : c.code = zby mi) (hml : c.maxLocals = zml mi) (hown : s.vm.findClass (zy mi).cls = some m.cls) (hts : ∀ w ∈ zTs, w.before args s = true) (hB : zBk b0 D ca adK adV bS L xs s) (hR : zfr mi ≤ R.frames ∧ zlo mi ≤ R.locals ∧ cells ≤ R.cells ∧ slots ≤ R.slots) {k pc a : Nat} {cs : List (Int × Nat)} (hd : zdk (zby mi) pc (.arraylength) = true) (hf : zfall C k pc (.arraylength) = true) (h1 : zchk1 mi C pc (.arraylength) a cs = true) (h2 : zOK2 (zy mi).cls (.arraylength) a cs) {ls st : List mzV} {μ : mzM} {H : Heap} {locs : List Loc} {la : Array Slot} {sa : List Value} (hA : zA b0 D ca adK adV bS L xs s mi ls st μ H locs la sa) : zgoal (W p l e R s m args below meth c H locs cells slots Q (F0 m pc la sa)) (zK p l e R s m args below meth c cells slots Q b0 D ca adK adV bS L xs mi C) (zKC p l e R s m args below meth c cells slots Q b0 D ca adK adV bS L xs mi C) (zKE p l e R s m args below meth c cells slots Q b0 D ca adK adV bS L xs mi) (zstep (.arraylength) a cs k ls st μ) := by
  have hd0 : decode (zby mi) pc = .ok (.arraylength, 1) := (zdk_p hd).resolve_left (by rintro ⟨_, _, _, _, h⟩; cases h)
  have hp : zpcs C (k + 1) = pc + 1 := zfl_p hf
  obtain ⟨al, ag, as, aP, aM, aS⟩ := hA
  refine zr1_ok as (fun t i r v0 ra hsa hv hr => ?_)
  subst hsa
  show zgoal _ _ _ _ (match zrow t with | 0 => none | _ => sN (k + 1, ls, vI (zlen t i μ) :: r, μ))
  cases hw : zrow t with
  | zero => trivial
  | succ w =>
    have hlt := zrow_lt hw (by omega)
    have hne : zrow t ≠ 0 := by omega
    obtain ⟨w1, w2, w3, w4, w6⟩ := zrow_a t hlt
    have hle : w + 1 ≤ 6 := by
      have : ∀ t, t < 33 → zrow t ≤ 6 := by decide +kernel
      have := this t hlt
      omega
    have heap : t < 30 → zK p l e R s m args below meth c cells slots Q b0 D ca adK adV bS L xs mi C (k + 1, ls, vI (zlen t i μ) :: r, μ) → W p l e R s m args below meth c H locs cells slots Q (F0 m pc la (v0 :: ra)) := by
      intro ht hK
      obtain ⟨g1, g2, g3⟩ := zrv_unR hv ht
      subst g3
      have he := zws_at b0 ca μ g2
      have hln := zln_lt t ht
      have hz : zlen t i μ = (zln t : Int) := zlen_n t ht hne i μ
      have hgo : W p l e R s m args below meth c H locs cells slots Q (F0 m (pc + 1) la (.int (Int32.ofNat (zln t)) :: ra)) := by
        rw [zi_nat (by omega), ← hz, ← hp]
        exact hK _ _ _ _ ⟨al, ag, zrs_cons (zrv_I (by rw [hz]; constructor <;> omega)) hr, aP, aM, aS⟩
      by_cases h4 : zrow t = 4
      · rw [zcel_ref h4] at he
        have hty : ∃ ty, (zarr ca)[zac t]? = some (ca (zac t), ty) := by
          rcases w4 h4 with rfl | rfl
          · exact ⟨_, rfl⟩
          · exact ⟨_, rfl⟩
        obtain ⟨ty, hty⟩ := hty
        exact va_alen hx hb hB.1 aP _ (zac t) he hty rfl hd0 hgo
      · rw [zcel_arr hne h4] at he
        have hty : ∃ ty, (zarr ca)[zac t]? = some (ca (zac t), ty) := by
          have h6 : zrow t = 1 ∨ zrow t = 2 ∨ zrow t = 3 := by
            have h7 : zrow t ≠ 5 := (show ∀ t, t < 33 → zrow t ≠ 5 by decide +kernel) t hlt
            have h8 : zrow t ≠ 6 := fun q => by have := w6 q; omega
            omega
          rcases h6 with h6 | h6 | h6
          · rw [(w1 h6).2]; exact ⟨_, rfl⟩
          · rw [(w2 h6).2]; exact ⟨_, rfl⟩
          · rw [(w3 h6).2]; exact ⟨_, rfl⟩
        obtain ⟨ty, hty⟩ := hty
        exact va_alen hx hb hB.1 aP _ (zac t) he hty rfl hd0 hgo
    show zK p l e R s m args below meth c cells slots Q b0 D ca adK adV bS L xs mi C (k + 1, ls, vI (zlen t i μ) :: r, μ) → W p l e R s m args below meth c H locs cells slots Q (F0 m pc la (v0 :: ra))
    by_cases ht : t < 30
    · exact heap ht
    · intro hK
      have h9 : t = 32 := by
        have h10 : zrow 30 = 0 := rfl
        have h12 : zrow 31 = 0 := rfl
        have h11 : t ≠ 30 := fun q => by rw [q] at hw; cases hw
        have h13 : t ≠ 31 := fun q => by rw [q] at hw; cases hw
        omega
      subst h9
      obtain ⟨g1, g3⟩ := zrv_un32 hv
      subst g3
      have hL := hB.2.2.1.2.2
      refine va_slen hx hb hB.2.1 (Nat.lt_of_lt_of_le hB.2.2.1.1 hB.2.2.1.2.1) (Nat.not_le.mpr hB.2.2.1.1) aS hd0 ?_
      rw [zi_nat hL, ← hp]
      have h12 : zlen 32 i μ = (L : Int) := aM.2.2.1
      rw [← h12]
      exact hK _ _ _ _ ⟨al, ag, zrs_cons (zrv_I (by rw [h12]; constructor <;> omega)) hr, aP, aM, aS⟩
theorem zal_1 (hx : p.tables.exec = Jvm.exec) (hb : c.code = zby mi) (hB : zBk b0 D ca adK adV bS L xs s) {k pc : Nat} {ls st : List mzV} {μ : mzM} {H : Heap} {locs : List Loc} {la : Array Slot} {sa : List Value} (hA : zA b0 D ca adK adV bS L xs s mi ls st μ H locs la sa) (hd0 : decode (zby mi) pc = .ok (.iaload, 1)) (hp : zpcs C (k + 1) = pc + 1) : zgoal (W p l e R s m args below meth c H locs cells slots Q (F0 m pc la sa)) (zK p l e R s m args below meth c cells slots Q b0 D ca adK adV bS L xs mi C) (zKC p l e R s m args below meth c cells slots Q b0 D ca adK adV bS L xs mi C) (zKE p l e R s m args below meth c cells slots Q b0 D ca adK adV bS L xs mi) (zaload 1 st μ (k + 1) ls) := by
  obtain ⟨al, ag, as, aP, aM, aS⟩ := hA
  refine zir_ok as (fun j t i r v0 ra hsa hj hv hr => ?_)
  subst hsa
  cases hw : Nat.beq 1 (zrow t) with
  | false => trivial
  | true =>
    have hw := (Nat.eq_of_beq_eq_true hw).symm
    obtain ⟨ht, hac⟩ := (zrow_a t (zrow_lt hw (by omega))).1 hw
    show (0 ≤ j ∧ j < zlen t i μ) → _
    intro hq hK
    rw [zlen_n t ht (by omega)] at hq
    obtain ⟨g1, g2, g3⟩ := zrv_unR hv ht
    subst g3
    have he := zws_at b0 ca μ g2
    rw [zcel_arr (by omega) (by omega), hac] at he
    refine va_iald hx hb hB.1 aP _ 0 he rfl (zn_vin hj hq.1 hq.2) hd0 ?_
    rw [zn_nat hj, Int.toNat_of_nonneg g1, Int.toNat_of_nonneg hq.1, ← hp]
    exact hK _ _ _ _ ⟨al, ag, zrs_cons (zrv_I (aM.1 _ _ _ (by omega))) hr, aP, aM, aS⟩
theorem zal_6 (hx : p.tables.exec = Jvm.exec) (hb : c.code = zby mi) (hB : zBk b0 D ca adK adV bS L xs s) {k pc : Nat} {ls st : List mzV} {μ : mzM} {H : Heap} {locs : List Loc} {la : Array Slot} {sa : List Value} (hA : zA b0 D ca adK adV bS L xs s mi ls st μ H locs la sa) (hd0 : decode (zby mi) pc = .ok (.iaload, 1)) (hp : zpcs C (k + 1) = pc + 1) : zgoal (W p l e R s m args below meth c H locs cells slots Q (F0 m pc la sa)) (zK p l e R s m args below meth c cells slots Q b0 D ca adK adV bS L xs mi C) (zKC p l e R s m args below meth c cells slots Q b0 D ca adK adV bS L xs mi C) (zKE p l e R s m args below meth c cells slots Q b0 D ca adK adV bS L xs mi) (zaload 6 st μ (k + 1) ls) := by
  obtain ⟨al, ag, as, aP, aM, aS⟩ := hA
  refine zir_ok as (fun j t i r v0 ra hsa hj hv hr => ?_)
  subst hsa
  cases hw : Nat.beq 6 (zrow t) with
  | false => trivial
  | true =>
    have hw := (Nat.eq_of_beq_eq_true hw).symm
    have ht := (zrow_a t (zrow_lt hw (by omega))).2.2.2.2 hw
    subst ht
    show (0 ≤ j ∧ j < μ 33 0 1) → _
    intro hq hK
    have hL := aM.2.2.1
    rw [hL] at hq
    obtain ⟨g1, g3⟩ := zrv_un32 hv
    subst g3
    subst g1
    refine va_sld hx hb hB.2.1 (Nat.lt_of_lt_of_le hB.2.2.1.1 hB.2.2.1.2.1) (Nat.not_le.mpr hB.2.2.1.1) aS (zn_vin hj hq.1 hq.2) hd0 ?_
    rw [zn_nat hj, zi_of (aM.2.2.2 j.toNat (by omega)).symm, Int.toNat_of_nonneg hq.1, ← hp]
    exact hK _ _ _ _ ⟨al, ag, zrs_cons (zrv_I (aM.1 _ _ _ (by omega))) hr, aP, aM, aS⟩
theorem zsee_ok : (∀ i, i < 7 → ∀ j, j < 10 → 11 * i + j < zcnt 2) ∧ (∀ j, j < 6 → 1 + j < zcnt 1) := by decide +kernel
theorem zal_4 (hx : p.tables.exec = Jvm.exec) (hb : c.code = zby mi) (hB : zBk b0 D ca adK adV bS L xs s) {k pc : Nat} {ls st : List mzV} {μ : mzM} {H : Heap} {locs : List Loc} {la : Array Slot} {sa : List Value} (hA : zA b0 D ca adK adV bS L xs s mi ls st μ H locs la sa) (hd0 : decode (zby mi) pc = .ok (.aaload, 1)) (hp : zpcs C (k + 1) = pc + 1) : zgoal (W p l e R s m args below meth c H locs cells slots Q (F0 m pc la sa)) (zK p l e R s m args below meth c cells slots Q b0 D ca adK adV bS L xs mi C) (zKC p l e R s m args below meth c cells slots Q b0 D ca adK adV bS L xs mi C) (zKE p l e R s m args below meth c cells slots Q b0 D ca adK adV bS L xs mi) (zaload 4 st μ (k + 1) ls) := by
  obtain ⟨al, ag, as, aP, aM, aS⟩ := hA
  refine zir_ok as (fun j t i r v0 ra hsa hj hv hr => ?_)
  subst hsa
  cases hw : Nat.beq 4 (zrow t) with
  | false => trivial
  | true =>
    have hw := (Nat.eq_of_beq_eq_true hw).symm
    have ht := (zrow_a t (zrow_lt hw (by omega))).2.2.2.1 hw
    show (0 ≤ j ∧ j < zlen t i μ) → _
    intro hq hK
    rcases ht with rfl | rfl
    · obtain ⟨g1, g2, g3⟩ := zrv_unR hv (by omega)
      have hq : 0 ≤ j ∧ j < 10 := hq
      subst g3
      have he := zws_at b0 ca μ g2
      rw [zcel_ref hw] at he
      refine va_aldq hx hb hB.1 aP _ 4 he rfl (zn_vin hj hq.1 hq.2) hd0 ?_
      rw [zn_nat hj, ← hp]
      have h5 := zsee_ok.1 i.toNat g2 j.toNat (by omega)
      refine hK _ _ _ _ ⟨al, ag, zrs_cons ?_ hr, aP, aM, aS⟩
      have h6 : (11 * i + j).toNat = 11 * i.toNat + j.toNat := by omega
      refine Or.inr (Or.inr ⟨by omega, by rw [h6]; exact h5, ?_⟩)
      rw [h6]
      rfl
    · obtain ⟨g1, g2, g3⟩ := zrv_unR hv (by omega)
      have hq : 0 ≤ j ∧ j < 6 := hq
      subst g3
      have he := zws_at b0 ca μ g2
      rw [zcel_ref hw] at he
      refine va_aldq hx hb hB.1 aP _ 3 he rfl (zn_vin hj hq.1 hq.2) hd0 ?_
      rw [zn_nat hj, ← hp]
      have h5 := zsee_ok.2 j.toNat (by omega)
      refine hK _ _ _ _ ⟨al, ag, zrs_cons ?_ hr, aP, aM, aS⟩
      have h6 : (1 + j).toNat = 1 + j.toNat := by omega
      refine Or.inr (Or.inr ⟨by omega, by rw [h6]; exact h5, ?_⟩)
      rw [h6]
      rfl
theorem zc_iaload (hx : p.tables.exec = Jvm.exec) (hb : c.code = zby mi) (hml : c.maxLocals = zml mi) (hown : s.vm.findClass (zy mi).cls = some m.cls) (hts : ∀ w ∈ zTs, w.before args s = true) (hB : zBk b0 D ca adK adV bS L xs s) (hR : zfr mi ≤ R.frames ∧ zlo mi ≤ R.locals ∧ cells ≤ R.cells ∧ slots ≤ R.slots) {k pc a : Nat} {cs : List (Int × Nat)} (hd : zdk (zby mi) pc (.iaload) = true) (hf : zfall C k pc (.iaload) = true) (h1 : zchk1 mi C pc (.iaload) a cs = true) (h2 : zOK2 (zy mi).cls (.iaload) a cs) {ls st : List mzV} {μ : mzM} {H : Heap} {locs : List Loc} {la : Array Slot} {sa : List Value} (hA : zA b0 D ca adK adV bS L xs s mi ls st μ H locs la sa) : zgoal (W p l e R s m args below meth c H locs cells slots Q (F0 m pc la sa)) (zK p l e R s m args below meth c cells slots Q b0 D ca adK adV bS L xs mi C) (zKC p l e R s m args below meth c cells slots Q b0 D ca adK adV bS L xs mi C) (zKE p l e R s m args below meth c cells slots Q b0 D ca adK adV bS L xs mi) (zstep (.iaload) a cs k ls st μ) := by
  have hd0 : decode (zby mi) pc = .ok (.iaload, 1) := (zdk_p hd).resolve_left (by rintro ⟨_, _, _, _, h⟩; cases h)
  have hp : zpcs C (k + 1) = pc + 1 := zfl_p hf
  obtain ⟨al, ag, as, aP, aM, aS⟩ := hA
  have hA : zA b0 D ca adK adV bS L xs s mi ls st μ H locs la sa := ⟨al, ag, as, aP, aM, aS⟩
  unfold zstep
  dsimp only
  split
  · exact zal_6 hx hb hB hA hd0 hp
  · exact zal_1 hx hb hB hA hd0 hp
theorem zc_aaload (hx : p.tables.exec = Jvm.exec) (hb : c.code = zby mi) (hml : c.maxLocals = zml mi) (hown : s.vm.findClass (zy mi).cls = some m.cls) (hts : ∀ w ∈ zTs, w.before args s = true) (hB : zBk b0 D ca adK adV bS L xs s) (hR : zfr mi ≤ R.frames ∧ zlo mi ≤ R.locals ∧ cells ≤ R.cells ∧ slots ≤ R.slots) {k pc a : Nat} {cs : List (Int × Nat)} (hd : zdk (zby mi) pc (.aaload) = true) (hf : zfall C k pc (.aaload) = true) (h1 : zchk1 mi C pc (.aaload) a cs = true) (h2 : zOK2 (zy mi).cls (.aaload) a cs) {ls st : List mzV} {μ : mzM} {H : Heap} {locs : List Loc} {la : Array Slot} {sa : List Value} (hA : zA b0 D ca adK adV bS L xs s mi ls st μ H locs la sa) : zgoal (W p l e R s m args below meth c H locs cells slots Q (F0 m pc la sa)) (zK p l e R s m args below meth c cells slots Q b0 D ca adK adV bS L xs mi C) (zKC p l e R s m args below meth c cells slots Q b0 D ca adK adV bS L xs mi C) (zKE p l e R s m args below meth c cells slots Q b0 D ca adK adV bS L xs mi) (zstep (.aaload) a cs k ls st μ) := by
  have hd0 : decode (zby mi) pc = .ok (.aaload, 1) := (zdk_p hd).resolve_left (by rintro ⟨_, _, _, _, h⟩; cases h)
  have hp : zpcs C (k + 1) = pc + 1 := zfl_p hf
  obtain ⟨al, ag, as, aP, aM, aS⟩ := hA
  exact zal_4 hx hb hB ⟨al, ag, as, aP, aM, aS⟩ hd0 hp
theorem zc_iastore (hx : p.tables.exec = Jvm.exec) (hb : c.code = zby mi) (hml : c.maxLocals = zml mi) (hown : s.vm.findClass (zy mi).cls = some m.cls) (hts : ∀ w ∈ zTs, w.before args s = true) (hB : zBk b0 D ca adK adV bS L xs s) (hR : zfr mi ≤ R.frames ∧ zlo mi ≤ R.locals ∧ cells ≤ R.cells ∧ slots ≤ R.slots) {k pc a : Nat} {cs : List (Int × Nat)} (hd : zdk (zby mi) pc (.iastore) = true) (hf : zfall C k pc (.iastore) = true) (h1 : zchk1 mi C pc (.iastore) a cs = true) (h2 : zOK2 (zy mi).cls (.iastore) a cs) {ls st : List mzV} {μ : mzM} {H : Heap} {locs : List Loc} {la : Array Slot} {sa : List Value} (hA : zA b0 D ca adK adV bS L xs s mi ls st μ H locs la sa) : zgoal (W p l e R s m args below meth c H locs cells slots Q (F0 m pc la sa)) (zK p l e R s m args below meth c cells slots Q b0 D ca adK adV bS L xs mi C) (zKC p l e R s m args below meth c cells slots Q b0 D ca adK adV bS L xs mi C) (zKE p l e R s m args below meth c cells slots Q b0 D ca adK adV bS L xs mi) (zstep (.iastore) a cs k ls st μ) := by
  have hd0 : decode (zby mi) pc = .ok (.iastore, 1) := (zdk_p hd).resolve_left (by rintro ⟨_, _, _, _, h⟩; cases h)
  have hp : zpcs C (k + 1) = pc + 1 := zfl_p hf
  obtain ⟨al, ag, as, aP, aM, aS⟩ := hA
  refine zvir_ok as (fun n j t i r v0 ra hsa hn hj hv hr => ?_)
  subst hsa
  cases hw : Nat.beq 1 (zrow t) with
  | false => trivial
  | true =>
    have hw := (Nat.eq_of_beq_eq_true hw).symm
    obtain ⟨ht, hac⟩ := (zrow_a t (zrow_lt hw (by omega))).1 hw
    show (0 ≤ j ∧ j < zlen t i μ) → zK p l e R s m args below meth c cells slots Q b0 D ca adK adV bS L xs mi C (k + 1, ls, r, mup μ t i j (n)) → _
    intro hq hK
    rw [zlen_n t ht (by omega)] at hq
    obtain ⟨g1, g2, g3⟩ := zrv_unR hv ht
    subst g3
    have he := zws_at b0 ca μ g2
    rw [zcel_arr (by omega) (by omega), hac] at he
    refine va_iast hx hb hB.1 aP (zws_D b0 ca μ) aS _ 0 he rfl (zn_vin hj hq.1 hq.2) hd0 (fun H1 locs1 z1 _ z2 => ?_)
    have hval : Int32.ofInt n = Int32.ofInt (n) := rfl
    rw [hval, zws_set (μ' := mup μ t i j (n)) g2 ?_ ?_] at z1
    · rw [← hp]
      exact hK _ _ _ _ ⟨al, ag, hr, z1, zM_up aM (by omega) (fun _ => hn) (fun q => by omega), z2⟩
    · rw [zcel_arr (by omega) (by omega), hac]
      refine zarr_c (fun j' => ?_)
      rw [zn_nat hj]
      unfold upd mup
      by_cases hjj : j' = j.toNat
      · rw [if_pos ⟨rfl, by omega, by omega⟩, if_pos hjj]
      · rw [if_neg (fun q => hjj (by omega)), if_neg hjj]
    · intro t' i' h' hne
      refine zcel_off (x1 := t) (i := i.toNat) (fun t2 i2 k2 h2 => mup_ne (fun z => h2 ⟨z.1, by omega⟩)) h' ?_
      rw [zow_row t ht]
      exact hne
theorem zcp_ok (hx : p.tables.exec = Jvm.exec) (hb : c.code = zby mi) (hml : c.maxLocals = zml mi) (hown : s.vm.findClass (zy mi).cls = some m.cls) (hts : ∀ w ∈ zTs, w.before args s = true) (hB : zBk b0 D ca adK adV bS L xs s) (hfr : 1 ≤ R.frames) (hlo : 40 ≤ R.locals) {k pc idx : Nat} (hd0 : decode (zby mi) pc = .ok (.invokestatic idx, 3)) (hp : zpcs C (k + 1) = pc + 3)
    (h2 : Cond.methodLink (zy mi).cls idx arraycopyName ∈ zTs ∧ Cond.native arraycopyName ∈ zTs ∧ Cond.static arraycopyName ∈ zTs ∧ Cond.initialized "java/lang/System" ∈ zTs) {ls st : List mzV} {μ : mzM} {H : Heap} {locs : List Loc} {la : Array Slot} {sa : List Value} (hA : zA b0 D ca adK adV bS L xs s mi ls st μ H locs la sa) : zgoal (W p l e R s m args below meth c H locs cells slots Q (F0 m pc la sa)) (zK p l e R s m args below meth c cells slots Q b0 D ca adK adV bS L xs mi C) (zKC p l e R s m args below meth c cells slots Q b0 D ca adK adV bS L xs mi C) (zKE p l e R s m args below meth c cells slots Q b0 D ca adK adV bS L xs mi) (zcopy st μ (k + 1) ls) := by
  obtain ⟨al, ag, as, aP, aM, aS⟩ := hA
  unfold zcopy
  split
  · next n dp td id sp ts is r =>
    obtain ⟨s1, rfl, hn, a1⟩ := zrs_unI as
    obtain ⟨s2, rfl, hdp, a2⟩ := zrs_unI a1
    obtain ⟨v3, s3, rfl, hv3, a3⟩ := zrs_un a2
    obtain ⟨s4, rfl, hsp, a4⟩ := zrs_unI a3
    obtain ⟨v5, ra, rfl, hv5, hr⟩ := zrs_un a4
    split
    · next w1 w2 w8 =>
      obtain ⟨ht1, hac1⟩ := (zrow_a td (zrow_lt w1 (by omega))).1 w1
      obtain ⟨ht2, hac2⟩ := (zrow_a ts (zrow_lt w2 (by omega))).1 w2
      show ((0 ≤ n ∧ 0 ≤ dp ∧ 0 ≤ sp) ∧ (sp + n ≤ zlen ts is μ ∧ dp + n ≤ zlen td id μ)) → zK p l e R s m args below meth c cells slots Q b0 D ca adK adV bS L xs mi C (k + 1, ls, r, mcp μ ts is sp td id dp n) → _
      rintro ⟨⟨n0, d0, s0⟩, b1, b2⟩ hK
      rw [zlen_n ts ht2 (by omega)] at b1
      rw [zlen_n td ht1 (by omega)] at b2
      obtain ⟨f1, f2, f3⟩ := zrv_unR hv3 ht1
      obtain ⟨g1, g2, g3⟩ := zrv_unR hv5 ht2
      subst f3
      subst g3
      have he1 := zws_at b0 ca μ f2
      have he2 := zws_at b0 ca μ g2
      rw [zcel_arr (by omega) (by omega), hac1] at he1
      rw [zcel_arr (by omega) (by omega), hac2] at he2
      have hsz : la.size = c.maxLocals := by rw [al.1, ag.1, hml]
      have hw8 : (ra.map fun v => v.category).sum ≤ 8 := by rw [zrs_words hr]; exact Nat.ble_eq.mp w8
      refine va_copyi hx hb hsz.symm hown (hts _ h2.1) (hts _ h2.2.1) (hts _ h2.2.2.1) (hts _ h2.2.2.2) hB.1 aP (zws_D b0 ca μ) aS _ _ 0 0 he2 he1 rfl rfl rfl ?_ ?_ ?_ ?_ ?_ (fun _ _ => rfl) hfr ?_ hd0 (fun H1 locs1 z1 _ z2 => ?_)
      · rw [Int32.lt_iff_toInt_lt, zi_to hsp]; exact fun q => by simp at q; omega
      · rw [Int32.lt_iff_toInt_lt, zi_to hdp]; exact fun q => by simp at q; omega
      · rw [Int32.lt_iff_toInt_lt, zi_to hn]; exact fun q => by simp at q; omega
      · rw [zn_nat hsp, zn_nat hn]; omega
      · rw [zn_nat hdp, zn_nat hn]; omega
      · have h9 : nativeFrameWords "java/lang/System" "arraycopy" 5 = 7 := by decide
        rw [h9]; omega
      · rw [zn_nat hsp, zn_nat hdp, zn_nat hn] at z1
        rw [zws_set (μ' := mcp μ ts is sp td id dp n) f2 ?_ ?_] at z1
        · rw [← hp]
          exact hK _ _ _ _ ⟨al, ag, hr, z1, zM_cp aM (by omega) (by omega) (by omega), z2⟩
        · rw [zcel_arr (by omega) (by omega), hac1]
          refine zarr_c (fun j' => ?_)
          unfold va_cpy mcp
          by_cases hj : dp.toNat ≤ j' ∧ j' < dp.toNat + n.toNat
          · rw [if_pos ⟨rfl, by omega, by omega, by omega⟩, if_pos hj]
            rw [show sp + ((j' : Int) - dp) = ((sp.toNat + (j' - dp.toNat) : Nat) : Int) by omega, show ((is.toNat : Nat) : Int) = is by omega]
          · rw [if_neg (fun q => hj (by omega)), if_neg hj]
        · intro t' i' h' hne
          refine zcel_off (x1 := td) (i := id.toNat) (fun t2 i2 k2 h2 => ?_) h' ?_
          · unfold mcp
            rw [if_neg (fun q => h2 ⟨q.1, by omega⟩)]
          · rw [zow_row td ht1]
            exact hne
    · trivial
  · trivial
theorem zc_return_ (hx : p.tables.exec = Jvm.exec) (hb : c.code = zby mi) (hml : c.maxLocals = zml mi) (hown : s.vm.findClass (zy mi).cls = some m.cls) (hts : ∀ w ∈ zTs, w.before args s = true) (hB : zBk b0 D ca adK adV bS L xs s) (hR : zfr mi ≤ R.frames ∧ zlo mi ≤ R.locals ∧ cells ≤ R.cells ∧ slots ≤ R.slots) {k pc a : Nat} {cs : List (Int × Nat)} (hd : zdk (zby mi) pc (.return_) = true) (hf : zfall C k pc (.return_) = true) (h1 : zchk1 mi C pc (.return_) a cs = true) (h2 : zOK2 (zy mi).cls (.return_) a cs) {ls st : List mzV} {μ : mzM} {H : Heap} {locs : List Loc} {la : Array Slot} {sa : List Value} (hA : zA b0 D ca adK adV bS L xs s mi ls st μ H locs la sa) : zgoal (W p l e R s m args below meth c H locs cells slots Q (F0 m pc la sa)) (zK p l e R s m args below meth c cells slots Q b0 D ca adK adV bS L xs mi C) (zKC p l e R s m args below meth c cells slots Q b0 D ca adK adV bS L xs mi C) (zKE p l e R s m args below meth c cells slots Q b0 D ca adK adV bS L xs mi) (zstep (.return_) a cs k ls st μ) := by
  have hd0 : decode (zby mi) pc = .ok (.return_, 1) := (zdk_p hd).resolve_left (by rintro ⟨_, _, _, _, h⟩; cases h)
  obtain ⟨al, ag, as, aP, aM, aS⟩ := hA
  match st, as with
  | [], as =>
    have h5 : sa = [] := by have := as.1; cases sa with | nil => rfl | cons _ _ => simp at this
    subst h5
    intro hE
    exact hE _ _ _ _ _ (Or.inl ⟨rfl, rfl, hd0, of_decide_eq_true h1⟩) aP aM aS
  | _ :: _, _ => trivial
theorem zc_lreturn (hx : p.tables.exec = Jvm.exec) (hb : c.code = zby mi) (hml : c.maxLocals = zml mi) (hown : s.vm.findClass (zy mi).cls = some m.cls) (hts : ∀ w ∈ zTs, w.before args s = true) (hB : zBk b0 D ca adK adV bS L xs s) (hR : zfr mi ≤ R.frames ∧ zlo mi ≤ R.locals ∧ cells ≤ R.cells ∧ slots ≤ R.slots) {k pc a : Nat} {cs : List (Int × Nat)} (hd : zdk (zby mi) pc (.lreturn) = true) (hf : zfall C k pc (.lreturn) = true) (h1 : zchk1 mi C pc (.lreturn) a cs = true) (h2 : zOK2 (zy mi).cls (.lreturn) a cs) {ls st : List mzV} {μ : mzM} {H : Heap} {locs : List Loc} {la : Array Slot} {sa : List Value} (hA : zA b0 D ca adK adV bS L xs s mi ls st μ H locs la sa) : zgoal (W p l e R s m args below meth c H locs cells slots Q (F0 m pc la sa)) (zK p l e R s m args below meth c cells slots Q b0 D ca adK adV bS L xs mi C) (zKC p l e R s m args below meth c cells slots Q b0 D ca adK adV bS L xs mi C) (zKE p l e R s m args below meth c cells slots Q b0 D ca adK adV bS L xs mi) (zstep (.lreturn) a cs k ls st μ) := by
  have hd0 : decode (zby mi) pc = .ok (.lreturn, 1) := (zdk_p hd).resolve_left (by rintro ⟨_, _, _, _, h⟩; cases h)
  obtain ⟨al, ag, as, aP, aM, aS⟩ := hA
  match st, as with
  | [], _ => trivial
  | none :: _, _ => trivial
  | some (.inl _) :: _, _ => trivial
  | some (.inr (.inr _)) :: _, _ => trivial
  | some (.inr (.inl _)) :: _ :: _, _ => trivial
  | [some (.inr (.inl n))], as =>
    obtain ⟨r1, rfl, hn, h5⟩ := zrs_unL as
    have h6 : r1 = [] := by have := h5.1; cases r1 with | nil => rfl | cons _ _ => simp at this
    subst h6
    intro hE
    exact hE _ _ _ _ _ (Or.inr (Or.inr (Or.inl ⟨n, rfl, rfl, hn, hd0, of_decide_eq_true h1⟩))) aP aM aS
theorem zc_areturn (hx : p.tables.exec = Jvm.exec) (hb : c.code = zby mi) (hml : c.maxLocals = zml mi) (hown : s.vm.findClass (zy mi).cls = some m.cls) (hts : ∀ w ∈ zTs, w.before args s = true) (hB : zBk b0 D ca adK adV bS L xs s) (hR : zfr mi ≤ R.frames ∧ zlo mi ≤ R.locals ∧ cells ≤ R.cells ∧ slots ≤ R.slots) {k pc a : Nat} {cs : List (Int × Nat)} (hd : zdk (zby mi) pc (.areturn) = true) (hf : zfall C k pc (.areturn) = true) (h1 : zchk1 mi C pc (.areturn) a cs = true) (h2 : zOK2 (zy mi).cls (.areturn) a cs) {ls st : List mzV} {μ : mzM} {H : Heap} {locs : List Loc} {la : Array Slot} {sa : List Value} (hA : zA b0 D ca adK adV bS L xs s mi ls st μ H locs la sa) : zgoal (W p l e R s m args below meth c H locs cells slots Q (F0 m pc la sa)) (zK p l e R s m args below meth c cells slots Q b0 D ca adK adV bS L xs mi C) (zKC p l e R s m args below meth c cells slots Q b0 D ca adK adV bS L xs mi C) (zKE p l e R s m args below meth c cells slots Q b0 D ca adK adV bS L xs mi) (zstep (.areturn) a cs k ls st μ) := by
  have hd0 : decode (zby mi) pc = .ok (.areturn, 1) := (zdk_p hd).resolve_left (by rintro ⟨_, _, _, _, h⟩; cases h)
  obtain ⟨al, ag, as, aP, aM, aS⟩ := hA
  match st, as with
  | [], _ => trivial
  | none :: _, _ => trivial
  | some (.inl _) :: _, _ => trivial
  | some (.inr (.inl _)) :: _, _ => trivial
  | some (.inr (.inr (_, _))) :: _ :: _, _ => trivial
  | [some (.inr (.inr (t, i)))], as =>
    obtain ⟨v0, r1, rfl, hv, h5⟩ := zrs_un as
    have h6 : r1 = [] := by have := h5.1; cases r1 with | nil => rfl | cons _ _ => simp at this
    subst h6
    intro hE
    have h7 : ∃ cn, zrt mi = some (.object cn) := by
      have h1 : (match zrt mi with | some (.object _) => true | _ => false) = true := h1
      split at h1
      · next cn hcn => exact ⟨cn, hcn⟩
      · cases h1
    obtain ⟨cn, h7⟩ := h7
    exact hE _ _ _ _ _ (Or.inr (Or.inr (Or.inr ⟨t, i, v0, cn, rfl, rfl, hv, hd0, h7⟩))) aP aM aS
theorem zc_ireturn (hx : p.tables.exec = Jvm.exec) (hb : c.code = zby mi) (hml : c.maxLocals = zml mi) (hown : s.vm.findClass (zy mi).cls = some m.cls) (hts : ∀ w ∈ zTs, w.before args s = true) (hB : zBk b0 D ca adK adV bS L xs s) (hR : zfr mi ≤ R.frames ∧ zlo mi ≤ R.locals ∧ cells ≤ R.cells ∧ slots ≤ R.slots) {k pc a : Nat} {cs : List (Int × Nat)} (hd : zdk (zby mi) pc (.ireturn) = true) (hf : zfall C k pc (.ireturn) = true) (h1 : zchk1 mi C pc (.ireturn) a cs = true) (h2 : zOK2 (zy mi).cls (.ireturn) a cs) {ls st : List mzV} {μ : mzM} {H : Heap} {locs : List Loc} {la : Array Slot} {sa : List Value} (hA : zA b0 D ca adK adV bS L xs s mi ls st μ H locs la sa) : zgoal (W p l e R s m args below meth c H locs cells slots Q (F0 m pc la sa)) (zK p l e R s m args below meth c cells slots Q b0 D ca adK adV bS L xs mi C) (zKC p l e R s m args below meth c cells slots Q b0 D ca adK adV bS L xs mi C) (zKE p l e R s m args below meth c cells slots Q b0 D ca adK adV bS L xs mi) (zstep (.ireturn) a cs k ls st μ) := by
  have hd0 : decode (zby mi) pc = .ok (.ireturn, 1) := (zdk_p hd).resolve_left (by rintro ⟨_, _, _, _, h⟩; cases h)
  obtain ⟨al, ag, as, aP, aM, aS⟩ := hA
  match st, as with
  | [], _ => trivial
  | none :: _, _ => trivial
  | some (.inr _) :: _, _ => trivial
  | some (.inl _) :: _ :: _, _ => trivial
  | [some (.inl n)], as =>
    obtain ⟨r1, rfl, hn, h5⟩ := zrs_unI as
    have h6 : r1 = [] := by have := h5.1; cases r1 with | nil => rfl | cons _ _ => simp at this
    subst h6
    intro hE
    have h1 : (match (generalizing := false) a with | 0 => decide (zrt mi = some .int) | 1 => decide (zrt mi = some .boolean) | 2 => decide (zrt mi = some .char) | _ => decide (zrt mi = some .byte)) = true := h1
    match a, h1, hE with
    | 0, h1, hE => exact hE _ _ _ _ _ (Or.inr (Or.inl ⟨n, n, .int, rfl, rfl, hn, hn, hd0, of_decide_eq_true h1, rfl, Or.inl rfl⟩)) aP aM aS
    | 1, h1, hE => exact hE _ _ _ _ _ (Or.inr (Or.inl ⟨n, n % 2, .boolean, rfl, rfl, hn, by constructor <;> omega, hd0, of_decide_eq_true h1, congrArg Value.int (zi_of (by rw [zn_bool, zi_to hn])), Or.inr (Or.inl rfl)⟩)) aP aM aS
    | 2, h1, hE => exact hE _ _ _ _ _ (Or.inr (Or.inl ⟨n, n % 65536, .char, rfl, rfl, hn, by constructor <;> omega, hd0, of_decide_eq_true h1, congrArg Value.int (by rw [zn_char]; exact zn_i2c hn), Or.inr (Or.inr (Or.inl rfl))⟩)) aP aM aS
    | j + 3, h1, hE => exact hE _ _ _ _ _ (Or.inr (Or.inl ⟨n, zb n, .byte, rfl, rfl, hn, zb_in n, hd0, of_decide_eq_true h1, congrArg Value.int (zn_i2b hn), Or.inr (Or.inr (Or.inr rfl))⟩)) aP aM aS
end Sim
