theorem zfl_p {A : Prop} {q : Bool} {h : Decidable A} (hh : (@decide A h && q) = true) : A := of_decide_eq_true (Bool.and_eq_true_iff.mp hh).1
theorem zdk_p {bs : ByteArray} {pc : Nat} {I : Instr} (h : zdk bs pc I = true) : (∃ d lo hi os, I = .tableswitch d lo hi os) ∨ decode bs pc = .ok (I, zil I) := by
  unfold zdk at h
  split at h
  · exact Or.inl ⟨_, _, _, _, rfl⟩
  · exact Or.inr (of_decide_eq_true h)
theorem zgt_p {C : List mzN} {pc : Nat} {off : Int} {a : Nat} (h : zgt C pc off a = true) : (pc : Int) + off = (zpcs C a : Int) := zfl_p h
theorem ztag_ok : ∀ t, t < 30 → 0 < zcnt t → zrow t = 0 → (zcl[zci t]?).map (fun q => q.1) = some (zcname t) := by decide +kernel
theorem zrow_hi {t : Nat} (h : 33 ≤ t) : zrow t = 0 := by
  obtain ⟨k, rfl⟩ := Nat.exists_eq_add_of_le h
  rw [Nat.add_comm]
  rfl
theorem zrow_lt {t w : Nat} (h : zrow t = w) (h0 : w ≠ 0) : t < 33 := by
  rcases Nat.lt_or_ge t 33 with q | q
  · exact q
  · rw [zrow_hi q] at h; exact absurd h.symm h0
theorem zrow_a : ∀ t, t < 33 → (zrow t = 1 → t < 30 ∧ zac t = 0) ∧ (zrow t = 2 → t < 30 ∧ zac t = 1) ∧ (zrow t = 3 → t < 30 ∧ zac t = 2) ∧ (zrow t = 4 → t = 6 ∨ t = 7) ∧ (zrow t = 6 → t = 32) := by decide +kernel
theorem zlen_n : ∀ t, t < 30 → zrow t ≠ 0 → ∀ (i : Int) (μ : mzM), zlen t i μ = (zln t : Int) := by
  intro t ht h0 i μ
  match t, ht, h0 with
  | 0, _, h0 => exact absurd rfl h0
  | 1, _, h0 => exact absurd rfl h0
  | 2, _, h0 => exact absurd rfl h0
  | 3, _, h0 => exact absurd rfl h0
  | 4, _, _ => exact rfl
  | 5, _, _ => exact rfl
  | 6, _, _ => exact rfl
  | 7, _, _ => exact rfl
  | 8, _, h0 => exact absurd rfl h0
  | 9, _, _ => exact rfl
  | 10, _, _ => exact rfl
  | 11, _, h0 => exact absurd rfl h0
  | 12, _, h0 => exact absurd rfl h0
  | 13, _, _ => exact rfl
  | 14, _, _ => exact rfl
  | 15, _, h0 => exact absurd rfl h0
  | 16, _, _ => exact rfl
  | 17, _, _ => exact rfl
  | 18, _, _ => exact rfl
  | 19, _, h0 => exact absurd rfl h0
  | 20, _, h0 => exact absurd rfl h0
  | 21, _, h0 => exact absurd rfl h0
  | 22, _, h0 => exact absurd rfl h0
  | 23, _, h0 => exact absurd rfl h0
  | 24, _, h0 => exact absurd rfl h0
  | 25, _, h0 => exact absurd rfl h0
  | 26, _, h0 => exact absurd rfl h0
  | 27, _, h0 => exact absurd rfl h0
  | 28, _, h0 => exact absurd rfl h0
  | 29, _, h0 => exact absurd rfl h0
  | n + 30, h, _ => exact absurd h (by omega)
theorem zln_lt : ∀ t, t < 30 → zln t < 20000 := by decide +kernel
theorem zfl_ref : ∀ t, t < 30 → ∀ q ∈ zfl t, q.1 = 3 → ∀ i, i < zcnt t → 0 ≤ zlead q.2.2.1 q.2.2.2 (i : Int) ∧ (zlead q.2.2.1 q.2.2.2 (i : Int)).toNat < zcnt q.2.1 := by decide +kernel
theorem zfl_mem : ∀ t, t < 30 → ∀ q ∈ zfl t, q.1 = 3 ∨ (q.2.1 ≠ 32 ∧ (q.2.1 ≠ 33 ∨ (q.1 = 2 ∧ q.2.2.2 = 0)) ∧ (q.1 ≠ 2 ∨ q.2.1 = 33)) := by decide +kernel
/-- what the tables say of a class of ours -/
def zcls (t : Nat) (C : String) (T : u_T) (N : Nat) (ty : Nat → FieldType) : Prop := zcl[zci t]? = some (C, T, N) ∧ zrec t = (C, T, N) ∧ (∀ w ∈ u_ws C T N, w ∈ zTs) ∧ (∀ k, k < N → parseFieldDescriptor (T k).2.2.1 = some (ty k)) ∧ (∀ a, a < N → ∀ b, b < N → a ≠ b → (T a).2.1 ≠ (T b).2.1) ∧ N = (zfl t).length ∧ (∀ k, k < N → (T k).1 = C) ∧
  ∀ k, k < N → ((zfa t k).1 = 0 → ty k = .int ∧ (T k).2.2.2 = false) ∧ ((zfa t k).1 = 1 → ty k = .boolean ∧ (T k).2.2.2 = false) ∧ ((zfa t k).1 = 2 → ty k = .long ∧ (T k).2.2.2 = false)
theorem zcls_0 : zcls 0 zR_0 zF_0 10 zty_0 := ⟨rfl, rfl, fun w h => zTs_l (zin_0 w h) (List.all_eq_true.mp zgd_0 w h), zty_0_ok, znm_0, rfl, by decide +kernel, by decide +kernel⟩
theorem zcls_1 : zcls 1 zR_1 zF_1 7 zty_1 := ⟨rfl, rfl, fun w h => zTs_l (zin_1 w h) (List.all_eq_true.mp zgd_1 w h), zty_1_ok, znm_1, rfl, by decide +kernel, by decide +kernel⟩
theorem zcls_2 : zcls 2 zR_2 zF_2 5 zty_2 := ⟨rfl, rfl, fun w h => zTs_l (zin_2 w h) (List.all_eq_true.mp zgd_2 w h), zty_2_ok, znm_2, rfl, by decide +kernel, by decide +kernel⟩
theorem zcls_3 : zcls 3 zR_3 zF_3 3 zty_3 := ⟨rfl, rfl, fun w h => zTs_l (zin_3 w h) (List.all_eq_true.mp zgd_3 w h), zty_3_ok, znm_3, rfl, by decide +kernel, by decide +kernel⟩
theorem zcls_8 : zcls 8 zR_8 zF_8 8 zty_8 := ⟨rfl, rfl, fun w h => zTs_l (zin_8 w h) (List.all_eq_true.mp zgd_8 w h), zty_8_ok, znm_8, rfl, by decide +kernel, by decide +kernel⟩
theorem zcls_11 : zcls 11 zR_11 zF_11 4 zty_11 := ⟨rfl, rfl, fun w h => zTs_l (zin_11 w h) (List.all_eq_true.mp zgd_11 w h), zty_11_ok, znm_11, rfl, by decide +kernel, by decide +kernel⟩
theorem zcls_12 : zcls 12 zR_12 zF_12 3 zty_12 := ⟨rfl, rfl, fun w h => zTs_l (zin_12 w h) (List.all_eq_true.mp zgd_12 w h), zty_12_ok, znm_12, rfl, by decide +kernel, by decide +kernel⟩
theorem zcls_15 : zcls 15 zR_15 zF_15 4 zty_15 := ⟨rfl, rfl, fun w h => zTs_l (zin_15 w h) (List.all_eq_true.mp zgd_15 w h), zty_15_ok, znm_15, rfl, by decide +kernel, by decide +kernel⟩
theorem zcls_of {t : Nat} (ht : t < 30) (h : 0 < zcnt t) (h0 : zrow t = 0) : ∃ C T N ty, zcls t C T N ty := by
  match t, ht, h, h0 with
  | 0, _, _, _ => exact ⟨_, _, _, _, zcls_0⟩
  | 1, _, _, _ => exact ⟨_, _, _, _, zcls_1⟩
  | 2, _, _, _ => exact ⟨_, _, _, _, zcls_2⟩
  | 3, _, _, _ => exact ⟨_, _, _, _, zcls_3⟩
  | 4, _, h, h0 => exact absurd (And.intro h h0) (by decide)
  | 5, _, h, h0 => exact absurd (And.intro h h0) (by decide)
  | 6, _, h, h0 => exact absurd (And.intro h h0) (by decide)
  | 7, _, h, h0 => exact absurd (And.intro h h0) (by decide)
  | 8, _, _, _ => exact ⟨_, _, _, _, zcls_8⟩
  | 9, _, h, h0 => exact absurd (And.intro h h0) (by decide)
  | 10, _, h, h0 => exact absurd (And.intro h h0) (by decide)
  | 11, _, _, _ => exact ⟨_, _, _, _, zcls_11⟩
  | 12, _, _, _ => exact ⟨_, _, _, _, zcls_12⟩
  | 13, _, h, h0 => exact absurd (And.intro h h0) (by decide)
  | 14, _, h, h0 => exact absurd (And.intro h h0) (by decide)
  | 15, _, _, _ => exact ⟨_, _, _, _, zcls_15⟩
  | 16, _, h, h0 => exact absurd (And.intro h h0) (by decide)
  | 17, _, h, h0 => exact absurd (And.intro h h0) (by decide)
  | 18, _, h, h0 => exact absurd (And.intro h h0) (by decide)
  | 19, _, h, h0 => exact absurd (And.intro h h0) (by decide)
  | 20, _, h, h0 => exact absurd (And.intro h h0) (by decide)
  | 21, _, h, h0 => exact absurd (And.intro h h0) (by decide)
  | 22, _, h, h0 => exact absurd (And.intro h h0) (by decide)
  | 23, _, h, h0 => exact absurd (And.intro h h0) (by decide)
  | 24, _, h, h0 => exact absurd (And.intro h h0) (by decide)
  | 25, _, h, h0 => exact absurd (And.intro h h0) (by decide)
  | 26, _, h, h0 => exact absurd (And.intro h h0) (by decide)
  | 27, _, h, h0 => exact absurd (And.intro h h0) (by decide)
  | 28, _, h, h0 => exact absurd (And.intro h h0) (by decide)
  | 29, _, h, h0 => exact absurd (And.intro h h0) (by decide)
  | n + 30, h, _, _ => exact absurd h (by omega)
section Sim
variable {p : Program} {l : Launch} {e : Env} {R : Room} {s : State} {m : MethodId} {args : Array Value} {below : List Frame} {meth : Method} {c : Code} {cells slots : Nat} {Q : State → Prop}
variable {b0 : Nat} {D : va_G} {ca : Nat → ClassId} {adK adV : Nat → Nat} {bS L : Nat} {xs : Nat → Int32} {mi : Nat} {C : List mzN}
def zA (b0 : Nat) (D : va_G) (ca : Nat → ClassId) (adK adV : Nat → Nat) (bS L : Nat) (xs : Nat → Int32) (s : State) (mi : Nat) (ls st : List mzV) (μ : mzM) (H : Heap) (locs : List Loc) (la : Array Slot) (sa : List Value) : Prop :=
  zrl b0 adK adV bS ls la ∧ zlgo mi ls ∧ zrs b0 adK adV bS st sa ∧ va_P D zcl (zws b0 ca μ) H ∧ zM L xs μ ∧ va_S (fun q => b0 ≤ q) s.heap H locs
/-- from an instruction on, whatever the machine's state that fits -/
def zK (p : Program) (l : Launch) (e : Env) (R : Room) (s : State) (m : MethodId) (args : Array Value) (below : List Frame) (meth : Method) (c : Code) (cells slots : Nat) (Q : State → Prop) (b0 : Nat) (D : va_G) (ca : Nat → ClassId) (adK adV : Nat → Nat) (bS L : Nat) (xs : Nat → Int32) (mi : Nat) (C : List mzN) (x : mzC) : Prop :=
  ∀ (H : Heap) (locs : List Loc) (la : Array Slot) (sa : List Value), zA b0 D ca adK adV bS L xs s mi x.2.1 x.2.2.1 x.2.2.2 H locs la sa → W p l e R s m args below meth c H locs cells slots Q (F0 m (zpcs C x.1) la sa)
/-- the last instruction: what lies on the stack, what the answer is -/
def zraw (b0 : Nat) (adK adV : Nat → Nat) (bS : Nat) (mi : Nat) (pc : Nat) (r : Option mzV) (sa : List Value) : Prop :=
  (r = none ∧ sa = [] ∧ decode (zby mi) pc = .ok (.return_, 1) ∧ zrt mi = none) ∨
  (∃ n n' ty, r = some (vI n') ∧ sa = [.int (Int32.ofInt n)] ∧ zin n ∧ zin n' ∧ decode (zby mi) pc = .ok (.ireturn, 1) ∧ zrt mi = some ty ∧ narrow ty (.int (Int32.ofInt n)) = .int (Int32.ofInt n') ∧ (ty = .int ∨ ty = .boolean ∨ ty = .char ∨ ty = .byte)) ∨
  (∃ n, r = some (vL n) ∧ sa = [.long (Int64.ofInt n)] ∧ zin6 n ∧ decode (zby mi) pc = .ok (.lreturn, 1) ∧ zrt mi = some .long) ∨
  (∃ t i v cn, r = some (vR t i) ∧ sa = [v] ∧ zrv b0 adK adV bS (vR t i) v ∧ decode (zby mi) pc = .ok (.areturn, 1) ∧ zrt mi = some (.object cn))
def zgoal (Wc : Prop) (K : mzC → Prop) (KC : Nat → List mzV → Nat → mzC → Prop) (KE : Option mzV → mzM → Prop) (r : mzS) : Prop := match r with
  | none => True
  | some (.inl x) => K x → Wc
  | some (.inr (.inl (q, x, y))) => (q.1 → K x) → (¬ q.1 → K y) → Wc
  | some (.inr (.inr (.inl (q, x)))) => q.1 → K x → Wc
  | some (.inr (.inr (.inr (.inl (f, as, r, x))))) => KC f as r x → Wc
  | some (.inr (.inr (.inr (.inr (.inl (v, ts, x)))))) => K (zpick v ts x.1, x.2) → Wc
  | some (.inr (.inr (.inr (.inr (.inr (r, ν)))))) => KE r ν → Wc
section Stk
variable {Wc : Prop} {K : mzC → Prop} {KC : Nat → List mzV → Nat → mzC → Prop} {KE : Option mzV → mzM → Prop}
theorem zi1_ok {st : List mzV} {sa : List Value} {f : Int → List mzV → mzS} (hs : zrs b0 adK adV bS st sa) (h : ∀ a r ra, sa = .int (Int32.ofInt a) :: ra → zin a → zrs b0 adK adV bS r ra → zgoal Wc K KC KE (f a r)) : zgoal Wc K KC KE (zi1 st f) := by
  unfold zi1
  split
  · next a r => obtain ⟨ra, h1, h2, h3⟩ := zrs_unI hs; exact h a r ra h1 h2 h3
  · trivial
theorem zl1_ok {st : List mzV} {sa : List Value} {f : Int → List mzV → mzS} (hs : zrs b0 adK adV bS st sa) (h : ∀ a r ra, sa = .long (Int64.ofInt a) :: ra → zin6 a → zrs b0 adK adV bS r ra → zgoal Wc K KC KE (f a r)) : zgoal Wc K KC KE (zl1 st f) := by
  unfold zl1
  split
  · next a r => obtain ⟨ra, h1, h2, h3⟩ := zrs_unL hs; exact h a r ra h1 h2 h3
  · trivial
theorem zi2_ok {st : List mzV} {sa : List Value} {f : Int → Int → List mzV → mzS} (hs : zrs b0 adK adV bS st sa) (h : ∀ a b r ra, sa = .int (Int32.ofInt b) :: .int (Int32.ofInt a) :: ra → zin a → zin b → zrs b0 adK adV bS r ra → zgoal Wc K KC KE (f a b r)) : zgoal Wc K KC KE (zi2 st f) := by
  unfold zi2
  split
  · next b a r =>
    obtain ⟨r1, h1, h2, h3⟩ := zrs_unI hs
    obtain ⟨r2, h4, h5, h6⟩ := zrs_unI h3
    exact h a b r r2 (by rw [h1, h4]) h5 h2 h6
  · trivial
theorem zl2_ok {st : List mzV} {sa : List Value} {f : Int → Int → List mzV → mzS} (hs : zrs b0 adK adV bS st sa) (h : ∀ a b r ra, sa = .long (Int64.ofInt b) :: .long (Int64.ofInt a) :: ra → zin6 a → zin6 b → zrs b0 adK adV bS r ra → zgoal Wc K KC KE (f a b r)) : zgoal Wc K KC KE (zl2 st f) := by
  unfold zl2
  split
  · next b a r =>
    obtain ⟨r1, h1, h2, h3⟩ := zrs_unL hs
    obtain ⟨r2, h4, h5, h6⟩ := zrs_unL h3
    exact h a b r r2 (by rw [h1, h4]) h5 h2 h6
  · trivial
theorem zr1_ok {st : List mzV} {sa : List Value} {f : Nat → Int → List mzV → mzS} (hs : zrs b0 adK adV bS st sa) (h : ∀ t i r v ra, sa = v :: ra → zrv b0 adK adV bS (vR t i) v → zrs b0 adK adV bS r ra → zgoal Wc K KC KE (f t i r)) : zgoal Wc K KC KE (zr1 st f) := by
  unfold zr1
  split
  · next t i r => obtain ⟨v, ra, h1, h2, h3⟩ := zrs_un hs; exact h t i r v ra h1 h2 h3
  · trivial
theorem zld_ok {ls : List mzV} {la : Array Slot} {i : Nat} {f : mzV → mzS} (hl : zrl b0 adK adV bS ls la) (h : ∀ w v, ls[i]? = some (some w) → zrv b0 adK adV bS (some w) v → la[i]? = some (.val v) → zgoal Wc K KC KE (f (some w))) : zgoal Wc K KC KE (zld ls i f) := by
  unfold zld
  split
  · next w hw => obtain ⟨v, h1, h2⟩ := hl.2.2 i w hw; exact h w v hw h1 h2
  · trivial
theorem zst_ok {ls : List mzV} {i : Nat} {v : mzV} {f : List mzV → mzS} (h : zgoal Wc K KC KE (f (ls.set i v))) : zgoal Wc K KC KE (zst ls i v f) := by
  unfold zst
  split
  · exact h
  · trivial
theorem zir_ok {st : List mzV} {sa : List Value} {f : Int → Nat → Int → List mzV → mzS} (hs : zrs b0 adK adV bS st sa) (h : ∀ j t i r v ra, sa = .int (Int32.ofInt j) :: v :: ra → zin j → zrv b0 adK adV bS (vR t i) v → zrs b0 adK adV bS r ra → zgoal Wc K KC KE (f j t i r)) : zgoal Wc K KC KE (zir st f) := by
  unfold zir
  split
  · next j t i r =>
    obtain ⟨r1, h1, h2, h3⟩ := zrs_unI hs
    obtain ⟨v, r2, h4, h5, h6⟩ := zrs_un h3
    exact h j t i r v r2 (by rw [h1, h4]) h2 h5 h6
  · trivial
theorem zvir_ok {st : List mzV} {sa : List Value} {f : Int → Int → Nat → Int → List mzV → mzS} (hs : zrs b0 adK adV bS st sa) (h : ∀ n j t i r v ra, sa = .int (Int32.ofInt n) :: .int (Int32.ofInt j) :: v :: ra → zin n → zin j → zrv b0 adK adV bS (vR t i) v → zrs b0 adK adV bS r ra → zgoal Wc K KC KE (f n j t i r)) : zgoal Wc K KC KE (zvir st f) := by
  unfold zvir
  split
  · next n j t i r =>
    obtain ⟨r0, h1, h2, h3⟩ := zrs_unI hs
    obtain ⟨r1, h4, h5, h6⟩ := zrs_unI h3
    obtain ⟨v, r2, h7, h8, h9⟩ := zrs_un h6
    exact h n j t i r v r2 (by rw [h1, h4, h7]) h2 h5 h8 h9
  · trivial
end Stk
theorem zM_up {μ : mzM} {t : Nat} {i k n : Int} (h : zM L xs μ) (ht : t ≠ 32) (h1 : t ≠ 33 → zin n) (h2 : t = 33 → zin6 n ∧ k ≠ 1) : zM L xs (mup μ t i k n) := by
  refine ⟨fun t' i' k' ht' => ?_, fun i' k' => ?_, ?_, fun j hj => ?_⟩
  · unfold mup
    split
    · next hq => exact h1 (by rw [← hq.1]; exact ht')
    · exact h.1 t' i' k' ht'
  · unfold mup
    split
    · next hq => exact (h2 hq.1.symm).1
    · exact h.2.1 i' k'
  · rw [mup_ne (by rintro ⟨q1, -, q3⟩; exact (h2 q1.symm).2 q3.symm)]
    exact h.2.2.1
  · rw [mup_ne (by rintro ⟨q1, -, -⟩; exact ht q1.symm)]
    exact h.2.2.2 j hj
theorem zM_cp {μ : mzM} {ts td : Nat} {is sp id dp n : Int} (h : zM L xs μ) (hs : ts ≠ 33) (h1 : td ≠ 32) (h2 : td ≠ 33) : zM L xs (mcp μ ts is sp td id dp n) := by
  refine ⟨fun t' i' k' ht' => ?_, fun i' k' => ?_, ?_, fun j hj => ?_⟩
  · unfold mcp
    split
    · exact h.1 _ _ _ hs
    · exact h.1 t' i' k' ht'
  · unfold mcp
    rw [if_neg (by rintro ⟨q, -⟩; exact h2 q.symm)]
    exact h.2.1 i' k'
  · unfold mcp
    rw [if_neg (by rintro ⟨q, -⟩; exact h2 q.symm)]
    exact h.2.2.1
  · unfold mcp
    rw [if_neg (by rintro ⟨q, -⟩; exact h1 q.symm)]
    exact h.2.2.2 j hj
theorem zTor {own : String} {idx : Nat} {args : Array Value} {s : State} (hts : ∀ w ∈ zTs, w.before args s = true) {w : Cond} (h : w ∈ zTs) : w.before args s = true := hts w h

def zKC (p : Program) (l : Launch) (e : Env) (R : Room) (s : State) (m : MethodId) (args : Array Value) (below : List Frame) (meth : Method) (c : Code) (cells slots : Nat) (Q : State → Prop) (b0 : Nat) (D : va_G) (ca : Nat → ClassId) (adK adV : Nat → Nat) (bS L : Nat) (xs : Nat → Int32) (mi : Nat) (C : List mzN) (f : Nat) (as : List mzV) (_ : Nat) (x : mzC) : Prop :=
  ∃ r ν, ((f < 71 ∧ as.length ≤ zml f ∧ ∀ w ∈ as, zisL w = false) → zMet l b0 D ca adK adV bS L xs f as x.2.2.2 r ν) ∧ zK p l e R s m args below meth c cells slots Q b0 D ca adK adV bS L xs mi C (x.1, x.2.1, zpush r x.2.2.1, ν)
def zKE (p : Program) (l : Launch) (e : Env) (R : Room) (s : State) (m : MethodId) (args : Array Value) (below : List Frame) (meth : Method) (c : Code) (cells slots : Nat) (Q : State → Prop) (b0 : Nat) (D : va_G) (ca : Nat → ClassId) (adK adV : Nat → Nat) (bS L : Nat) (xs : Nat → Int32) (mi : Nat) (r : Option mzV) (ν : mzM) : Prop :=
  ∀ (H : Heap) (locs : List Loc) (la : Array Slot) (sa : List Value) (pc : Nat), zraw b0 adK adV bS mi pc r sa → va_P D zcl (zws b0 ca ν) H → zM L xs ν → va_S (fun q => b0 ≤ q) s.heap H locs → W p l e R s m args below meth c H locs cells slots Q (F0 m pc la sa)
theorem zc_iconst (hx : p.tables.exec = Jvm.exec) (hb : c.code = zby mi) (hml : c.maxLocals = zml mi) (hown : s.vm.findClass (zy mi).cls = some m.cls) (hts : ∀ w ∈ zTs, w.before args s = true) (hB : zBk b0 D ca adK adV bS L xs s) (hR : zfr mi ≤ R.frames ∧ zlo mi ≤ R.locals ∧ cells ≤ R.cells ∧ slots ≤ R.slots) {v : Int} {k pc a : Nat} {cs : List (Int × Nat)} (hd : zdk (zby mi) pc (.iconst v) = true) (hf : zfall C k pc (.iconst v) = true) (h1 : zchk1 mi C pc (.iconst v) a cs = true) (h2 : zOK2 (zy mi).cls (.iconst v) a cs) {ls st : List mzV} {μ : mzM} {H : Heap} {locs : List Loc} {la : Array Slot} {sa : List Value} (hA : zA b0 D ca adK adV bS L xs s mi ls st μ H locs la sa) : zgoal (W p l e R s m args below meth c H locs cells slots Q (F0 m pc la sa)) (zK p l e R s m args below meth c cells slots Q b0 D ca adK adV bS L xs mi C) (zKC p l e R s m args below meth c cells slots Q b0 D ca adK adV bS L xs mi C) (zKE p l e R s m args below meth c cells slots Q b0 D ca adK adV bS L xs mi) (zstep (.iconst v) a cs k ls st μ) := by
  have hd0 : decode (zby mi) pc = .ok (.iconst v, 1) := (zdk_p hd).resolve_left (by rintro ⟨_, _, _, _, h⟩; cases h)
  have hp : zpcs C (k + 1) = pc + 1 := zfl_p hf
  obtain ⟨al, ag, as, aP, aM, aS⟩ := hA
  have hv : zin v := by
    have h3 := Bool.and_eq_true_iff.mp h1
    have h4 := of_decide_eq_true h3.1
    have h5 := of_decide_eq_true h3.2
    constructor <;> omega
  intro hK
  refine lv_iconst (v := Int32.ofInt v) hx hb hd0 rfl ?_
  rw [← hp]
  exact hK _ _ _ _ ⟨al, ag, zrs_cons (zrv_I hv) as, aP, aM, aS⟩
theorem zc_bipush (hx : p.tables.exec = Jvm.exec) (hb : c.code = zby mi) (hml : c.maxLocals = zml mi) (hown : s.vm.findClass (zy mi).cls = some m.cls) (hts : ∀ w ∈ zTs, w.before args s = true) (hB : zBk b0 D ca adK adV bS L xs s) (hR : zfr mi ≤ R.frames ∧ zlo mi ≤ R.locals ∧ cells ≤ R.cells ∧ slots ≤ R.slots) {v : Int} {k pc a : Nat} {cs : List (Int × Nat)} (hd : zdk (zby mi) pc (.bipush v) = true) (hf : zfall C k pc (.bipush v) = true) (h1 : zchk1 mi C pc (.bipush v) a cs = true) (h2 : zOK2 (zy mi).cls (.bipush v) a cs) {ls st : List mzV} {μ : mzM} {H : Heap} {locs : List Loc} {la : Array Slot} {sa : List Value} (hA : zA b0 D ca adK adV bS L xs s mi ls st μ H locs la sa) : zgoal (W p l e R s m args below meth c H locs cells slots Q (F0 m pc la sa)) (zK p l e R s m args below meth c cells slots Q b0 D ca adK adV bS L xs mi C) (zKC p l e R s m args below meth c cells slots Q b0 D ca adK adV bS L xs mi C) (zKE p l e R s m args below meth c cells slots Q b0 D ca adK adV bS L xs mi) (zstep (.bipush v) a cs k ls st μ) := by
  have hd0 : decode (zby mi) pc = .ok (.bipush v, 2) := (zdk_p hd).resolve_left (by rintro ⟨_, _, _, _, h⟩; cases h)
  have hp : zpcs C (k + 1) = pc + 2 := zfl_p hf
  obtain ⟨al, ag, as, aP, aM, aS⟩ := hA
  have h3 := Bool.and_eq_true_iff.mp h1
  have h4 : -128 ≤ v := of_decide_eq_true h3.1
  have h5 : v ≤ 127 := of_decide_eq_true h3.2
  have hv : zin v := by constructor <;> omega
  intro hK
  refine lv_bipush (v := Int32.ofInt v) hx hb hd0 (zi_of (by rw [Int8.toInt_toInt32]; exact Int8.toInt_ofInt_of_le (by omega) (by omega))) ?_
  rw [← hp]
  exact hK _ _ _ _ ⟨al, ag, zrs_cons (zrv_I hv) as, aP, aM, aS⟩
theorem zc_sipush (hx : p.tables.exec = Jvm.exec) (hb : c.code = zby mi) (hml : c.maxLocals = zml mi) (hown : s.vm.findClass (zy mi).cls = some m.cls) (hts : ∀ w ∈ zTs, w.before args s = true) (hB : zBk b0 D ca adK adV bS L xs s) (hR : zfr mi ≤ R.frames ∧ zlo mi ≤ R.locals ∧ cells ≤ R.cells ∧ slots ≤ R.slots) {v : Int} {k pc a : Nat} {cs : List (Int × Nat)} (hd : zdk (zby mi) pc (.sipush v) = true) (hf : zfall C k pc (.sipush v) = true) (h1 : zchk1 mi C pc (.sipush v) a cs = true) (h2 : zOK2 (zy mi).cls (.sipush v) a cs) {ls st : List mzV} {μ : mzM} {H : Heap} {locs : List Loc} {la : Array Slot} {sa : List Value} (hA : zA b0 D ca adK adV bS L xs s mi ls st μ H locs la sa) : zgoal (W p l e R s m args below meth c H locs cells slots Q (F0 m pc la sa)) (zK p l e R s m args below meth c cells slots Q b0 D ca adK adV bS L xs mi C) (zKC p l e R s m args below meth c cells slots Q b0 D ca adK adV bS L xs mi C) (zKE p l e R s m args below meth c cells slots Q b0 D ca adK adV bS L xs mi) (zstep (.sipush v) a cs k ls st μ) := by
  have hd0 : decode (zby mi) pc = .ok (.sipush v, 3) := (zdk_p hd).resolve_left (by rintro ⟨_, _, _, _, h⟩; cases h)
  have hp : zpcs C (k + 1) = pc + 3 := zfl_p hf
  obtain ⟨al, ag, as, aP, aM, aS⟩ := hA
  have h3 := Bool.and_eq_true_iff.mp h1
  have h4 : -32768 ≤ v := of_decide_eq_true h3.1
  have h5 : v ≤ 32767 := of_decide_eq_true h3.2
  have hv : zin v := by constructor <;> omega
  intro hK
  refine lv_sipush (v := Int32.ofInt v) hx hb hd0 (zi_of (by rw [Int16.toInt_toInt32]; exact Int16.toInt_ofInt_of_le (by omega) (by omega))) ?_
  rw [← hp]
  exact hK _ _ _ _ ⟨al, ag, zrs_cons (zrv_I hv) as, aP, aM, aS⟩
theorem zc_ldc_w (hx : p.tables.exec = Jvm.exec) (hb : c.code = zby mi) (hml : c.maxLocals = zml mi) (hown : s.vm.findClass (zy mi).cls = some m.cls) (hts : ∀ w ∈ zTs, w.before args s = true) (hB : zBk b0 D ca adK adV bS L xs s) (hR : zfr mi ≤ R.frames ∧ zlo mi ≤ R.locals ∧ cells ≤ R.cells ∧ slots ≤ R.slots) {v : Nat} {k pc a : Nat} {cs : List (Int × Nat)} (hd : zdk (zby mi) pc (.ldc_w v) = true) (hf : zfall C k pc (.ldc_w v) = true) (h1 : zchk1 mi C pc (.ldc_w v) a cs = true) (h2 : zOK2 (zy mi).cls (.ldc_w v) a cs) {ls st : List mzV} {μ : mzM} {H : Heap} {locs : List Loc} {la : Array Slot} {sa : List Value} (hA : zA b0 D ca adK adV bS L xs s mi ls st μ H locs la sa) : zgoal (W p l e R s m args below meth c H locs cells slots Q (F0 m pc la sa)) (zK p l e R s m args below meth c cells slots Q b0 D ca adK adV bS L xs mi C) (zKC p l e R s m args below meth c cells slots Q b0 D ca adK adV bS L xs mi C) (zKE p l e R s m args below meth c cells slots Q b0 D ca adK adV bS L xs mi) (zstep (.ldc_w v) a cs k ls st μ) := by
  have hd0 : decode (zby mi) pc = .ok (.ldc_w v, 3) := (zdk_p hd).resolve_left (by rintro ⟨_, _, _, _, h⟩; cases h)
  have hp : zpcs C (k + 1) = pc + 3 := zfl_p hf
  obtain ⟨al, ag, as, aP, aM, aS⟩ := hA
  match cs, h1, h2 with
  | [], _, _ => trivial
  | (n, z) :: cs, h1, h2 =>
    have h3 := Bool.and_eq_true_iff.mp h1
    have h4 : -2147483648 ≤ n := of_decide_eq_true h3.1
    have h5 : n ≤ 2147483647 := of_decide_eq_true h3.2
    intro hK
    refine lv_ldcw hx hb hown (hts _ h2) hd0 ?_
    rw [← hp]
    exact hK _ _ _ _ ⟨al, ag, zrs_cons (zrv_I ⟨h4, h5⟩) as, aP, aM, aS⟩
theorem zc_ldc (hx : p.tables.exec = Jvm.exec) (hb : c.code = zby mi) (hml : c.maxLocals = zml mi) (hown : s.vm.findClass (zy mi).cls = some m.cls) (hts : ∀ w ∈ zTs, w.before args s = true) (hB : zBk b0 D ca adK adV bS L xs s) (hR : zfr mi ≤ R.frames ∧ zlo mi ≤ R.locals ∧ cells ≤ R.cells ∧ slots ≤ R.slots) {v : Nat} {k pc a : Nat} {cs : List (Int × Nat)} (hd : zdk (zby mi) pc (.ldc v) = true) (hf : zfall C k pc (.ldc v) = true) (h1 : zchk1 mi C pc (.ldc v) a cs = true) (h2 : zOK2 (zy mi).cls (.ldc v) a cs) {ls st : List mzV} {μ : mzM} {H : Heap} {locs : List Loc} {la : Array Slot} {sa : List Value} (hA : zA b0 D ca adK adV bS L xs s mi ls st μ H locs la sa) : zgoal (W p l e R s m args below meth c H locs cells slots Q (F0 m pc la sa)) (zK p l e R s m args below meth c cells slots Q b0 D ca adK adV bS L xs mi C) (zKC p l e R s m args below meth c cells slots Q b0 D ca adK adV bS L xs mi C) (zKE p l e R s m args below meth c cells slots Q b0 D ca adK adV bS L xs mi) (zstep (.ldc v) a cs k ls st μ) := by
  have hd0 : decode (zby mi) pc = .ok (.ldc v, 2) := (zdk_p hd).resolve_left (by rintro ⟨_, _, _, _, h⟩; cases h)
  have hp : zpcs C (k + 1) = pc + 2 := zfl_p hf
  obtain ⟨al, ag, as, aP, aM, aS⟩ := hA
  match cs, h1, h2 with
  | [], _, _ => trivial
  | (n, z) :: cs, h1, h2 =>
    have h3 := Bool.and_eq_true_iff.mp h1
    have h4 : -2147483648 ≤ n := of_decide_eq_true h3.1
    have h5 : n ≤ 2147483647 := of_decide_eq_true h3.2
    intro hK
    refine lv_ldc hx hb hown (hts _ h2) hd0 ?_
    rw [← hp]
    exact hK _ _ _ _ ⟨al, ag, zrs_cons (zrv_I ⟨h4, h5⟩) as, aP, aM, aS⟩
theorem zc_ldc2_w (hx : p.tables.exec = Jvm.exec) (hb : c.code = zby mi) (hml : c.maxLocals = zml mi) (hown : s.vm.findClass (zy mi).cls = some m.cls) (hts : ∀ w ∈ zTs, w.before args s = true) (hB : zBk b0 D ca adK adV bS L xs s) (hR : zfr mi ≤ R.frames ∧ zlo mi ≤ R.locals ∧ cells ≤ R.cells ∧ slots ≤ R.slots) {v : Nat} {k pc a : Nat} {cs : List (Int × Nat)} (hd : zdk (zby mi) pc (.ldc2_w v) = true) (hf : zfall C k pc (.ldc2_w v) = true) (h1 : zchk1 mi C pc (.ldc2_w v) a cs = true) (h2 : zOK2 (zy mi).cls (.ldc2_w v) a cs) {ls st : List mzV} {μ : mzM} {H : Heap} {locs : List Loc} {la : Array Slot} {sa : List Value} (hA : zA b0 D ca adK adV bS L xs s mi ls st μ H locs la sa) : zgoal (W p l e R s m args below meth c H locs cells slots Q (F0 m pc la sa)) (zK p l e R s m args below meth c cells slots Q b0 D ca adK adV bS L xs mi C) (zKC p l e R s m args below meth c cells slots Q b0 D ca adK adV bS L xs mi C) (zKE p l e R s m args below meth c cells slots Q b0 D ca adK adV bS L xs mi) (zstep (.ldc2_w v) a cs k ls st μ) := by
  have hd0 : decode (zby mi) pc = .ok (.ldc2_w v, 3) := (zdk_p hd).resolve_left (by rintro ⟨_, _, _, _, h⟩; cases h)
  have hp : zpcs C (k + 1) = pc + 3 := zfl_p hf
  obtain ⟨al, ag, as, aP, aM, aS⟩ := hA
  match cs, h1, h2 with
  | [], _, _ => trivial
  | (n, z) :: cs, h1, h2 =>
    have h3 := Bool.and_eq_true_iff.mp h1
    have h4 : -9223372036854775808 ≤ n := of_decide_eq_true h3.1
    have h5 : n ≤ 9223372036854775807 := of_decide_eq_true h3.2
    intro hK
    refine W.ldc2 hx hb hown (hts _ h2) (g := F0 m pc la sa) rfl hd0 ?_
    show W p l e R s m args below meth c H locs cells slots Q (F0 m (pc + 3) la (.long (Int64.ofInt n) :: sa))
    rw [← hp]
    exact hK _ _ _ _ ⟨al, ag, zrs_cons (zrv_L ⟨h4, h5⟩) as, aP, aM, aS⟩
theorem zc_lconst (hx : p.tables.exec = Jvm.exec) (hb : c.code = zby mi) (hml : c.maxLocals = zml mi) (hown : s.vm.findClass (zy mi).cls = some m.cls) (hts : ∀ w ∈ zTs, w.before args s = true) (hB : zBk b0 D ca adK adV bS L xs s) (hR : zfr mi ≤ R.frames ∧ zlo mi ≤ R.locals ∧ cells ≤ R.cells ∧ slots ≤ R.slots) {v : Fin 2} {k pc a : Nat} {cs : List (Int × Nat)} (hd : zdk (zby mi) pc (.lconst v) = true) (hf : zfall C k pc (.lconst v) = true) (h1 : zchk1 mi C pc (.lconst v) a cs = true) (h2 : zOK2 (zy mi).cls (.lconst v) a cs) {ls st : List mzV} {μ : mzM} {H : Heap} {locs : List Loc} {la : Array Slot} {sa : List Value} (hA : zA b0 D ca adK adV bS L xs s mi ls st μ H locs la sa) : zgoal (W p l e R s m args below meth c H locs cells slots Q (F0 m pc la sa)) (zK p l e R s m args below meth c cells slots Q b0 D ca adK adV bS L xs mi C) (zKC p l e R s m args below meth c cells slots Q b0 D ca adK adV bS L xs mi C) (zKE p l e R s m args below meth c cells slots Q b0 D ca adK adV bS L xs mi) (zstep (.lconst v) a cs k ls st μ) := by
  have hd0 : decode (zby mi) pc = .ok (.lconst v, 1) := (zdk_p hd).resolve_left (by rintro ⟨_, _, _, _, h⟩; cases h)
  have hp : zpcs C (k + 1) = pc + 1 := zfl_p hf
  obtain ⟨al, ag, as, aP, aM, aS⟩ := hA
  intro hK
  refine lv_lconst (v := Int64.ofInt ((v.val : Nat) : Int)) hx hb hd0 rfl ?_
  rw [← hp]
  exact hK _ _ _ _ ⟨al, ag, zrs_cons (zrv_L (by have := v.isLt; constructor <;> omega)) as, aP, aM, aS⟩
theorem zc_aconst_null (hx : p.tables.exec = Jvm.exec) (hb : c.code = zby mi) (hml : c.maxLocals = zml mi) (hown : s.vm.findClass (zy mi).cls = some m.cls) (hts : ∀ w ∈ zTs, w.before args s = true) (hB : zBk b0 D ca adK adV bS L xs s) (hR : zfr mi ≤ R.frames ∧ zlo mi ≤ R.locals ∧ cells ≤ R.cells ∧ slots ≤ R.slots) {k pc a : Nat} {cs : List (Int × Nat)} (hd : zdk (zby mi) pc (.aconst_null) = true) (hf : zfall C k pc (.aconst_null) = true) (h1 : zchk1 mi C pc (.aconst_null) a cs = true) (h2 : zOK2 (zy mi).cls (.aconst_null) a cs) {ls st : List mzV} {μ : mzM} {H : Heap} {locs : List Loc} {la : Array Slot} {sa : List Value} (hA : zA b0 D ca adK adV bS L xs s mi ls st μ H locs la sa) : zgoal (W p l e R s m args below meth c H locs cells slots Q (F0 m pc la sa)) (zK p l e R s m args below meth c cells slots Q b0 D ca adK adV bS L xs mi C) (zKC p l e R s m args below meth c cells slots Q b0 D ca adK adV bS L xs mi C) (zKE p l e R s m args below meth c cells slots Q b0 D ca adK adV bS L xs mi) (zstep (.aconst_null) a cs k ls st μ) := by
  have hd0 : decode (zby mi) pc = .ok (.aconst_null, 1) := (zdk_p hd).resolve_left (by rintro ⟨_, _, _, _, h⟩; cases h)
  have hp : zpcs C (k + 1) = pc + 1 := zfl_p hf
  obtain ⟨al, ag, as, aP, aM, aS⟩ := hA
  intro hK
  refine lv_null hx hb hd0 ?_
  rw [← hp]
  exact hK _ _ _ _ ⟨al, ag, zrs_cons (Or.inl ⟨rfl, rfl⟩) as, aP, aM, aS⟩
theorem zc_iload (hx : p.tables.exec = Jvm.exec) (hb : c.code = zby mi) (hml : c.maxLocals = zml mi) (hown : s.vm.findClass (zy mi).cls = some m.cls) (hts : ∀ w ∈ zTs, w.before args s = true) (hB : zBk b0 D ca adK adV bS L xs s) (hR : zfr mi ≤ R.frames ∧ zlo mi ≤ R.locals ∧ cells ≤ R.cells ∧ slots ≤ R.slots) {v : Nat} {k pc a : Nat} {cs : List (Int × Nat)} (hd : zdk (zby mi) pc (.iload v) = true) (hf : zfall C k pc (.iload v) = true) (h1 : zchk1 mi C pc (.iload v) a cs = true) (h2 : zOK2 (zy mi).cls (.iload v) a cs) {ls st : List mzV} {μ : mzM} {H : Heap} {locs : List Loc} {la : Array Slot} {sa : List Value} (hA : zA b0 D ca adK adV bS L xs s mi ls st μ H locs la sa) : zgoal (W p l e R s m args below meth c H locs cells slots Q (F0 m pc la sa)) (zK p l e R s m args below meth c cells slots Q b0 D ca adK adV bS L xs mi C) (zKC p l e R s m args below meth c cells slots Q b0 D ca adK adV bS L xs mi C) (zKE p l e R s m args below meth c cells slots Q b0 D ca adK adV bS L xs mi) (zstep (.iload v) a cs k ls st μ) := by
  have hd0 : decode (zby mi) pc = .ok (.iload v, 2) := (zdk_p hd).resolve_left (by rintro ⟨_, _, _, _, h⟩; cases h)
  have hp : zpcs C (k + 1) = pc + 2 := zfl_p hf
  obtain ⟨al, ag, as, aP, aM, aS⟩ := hA
  show zgoal _ _ _ _ (zld ls v (fun u => match zisI u with | true => sN (k + 1, ls, u :: st, μ) | false => none))
  refine zld_ok al (fun w v0 hw hv hl => ?_)
  rcases w with n | n | ⟨t, i⟩
  · intro hK
    obtain ⟨hn, rfl⟩ := hv
    refine lv_iload hx hb hd0 hl ?_
    rw [← hp]
    exact hK _ _ _ _ ⟨al, ag, zrs_cons (zrv_I hn) as, aP, aM, aS⟩
  · trivial
  · trivial
theorem zc_iload_n (hx : p.tables.exec = Jvm.exec) (hb : c.code = zby mi) (hml : c.maxLocals = zml mi) (hown : s.vm.findClass (zy mi).cls = some m.cls) (hts : ∀ w ∈ zTs, w.before args s = true) (hB : zBk b0 D ca adK adV bS L xs s) (hR : zfr mi ≤ R.frames ∧ zlo mi ≤ R.locals ∧ cells ≤ R.cells ∧ slots ≤ R.slots) {v : Fin 4} {k pc a : Nat} {cs : List (Int × Nat)} (hd : zdk (zby mi) pc (.iload_n v) = true) (hf : zfall C k pc (.iload_n v) = true) (h1 : zchk1 mi C pc (.iload_n v) a cs = true) (h2 : zOK2 (zy mi).cls (.iload_n v) a cs) {ls st : List mzV} {μ : mzM} {H : Heap} {locs : List Loc} {la : Array Slot} {sa : List Value} (hA : zA b0 D ca adK adV bS L xs s mi ls st μ H locs la sa) : zgoal (W p l e R s m args below meth c H locs cells slots Q (F0 m pc la sa)) (zK p l e R s m args below meth c cells slots Q b0 D ca adK adV bS L xs mi C) (zKC p l e R s m args below meth c cells slots Q b0 D ca adK adV bS L xs mi C) (zKE p l e R s m args below meth c cells slots Q b0 D ca adK adV bS L xs mi) (zstep (.iload_n v) a cs k ls st μ) := by
  have hd0 : decode (zby mi) pc = .ok (.iload_n v, 1) := (zdk_p hd).resolve_left (by rintro ⟨_, _, _, _, h⟩; cases h)
  have hp : zpcs C (k + 1) = pc + 1 := zfl_p hf
  obtain ⟨al, ag, as, aP, aM, aS⟩ := hA
  show zgoal _ _ _ _ (zld ls v.val (fun u => match zisI u with | true => sN (k + 1, ls, u :: st, μ) | false => none))
  refine zld_ok al (fun w v0 hw hv hl => ?_)
  rcases w with n | n | ⟨t, i⟩
  · intro hK
    obtain ⟨hn, rfl⟩ := hv
    refine lv_iload_n hx hb hd0 rfl hl ?_
    rw [← hp]
    exact hK _ _ _ _ ⟨al, ag, zrs_cons (zrv_I hn) as, aP, aM, aS⟩
  · trivial
  · trivial
theorem zc_lload_n (hx : p.tables.exec = Jvm.exec) (hb : c.code = zby mi) (hml : c.maxLocals = zml mi) (hown : s.vm.findClass (zy mi).cls = some m.cls) (hts : ∀ w ∈ zTs, w.before args s = true) (hB : zBk b0 D ca adK adV bS L xs s) (hR : zfr mi ≤ R.frames ∧ zlo mi ≤ R.locals ∧ cells ≤ R.cells ∧ slots ≤ R.slots) {v : Fin 4} {k pc a : Nat} {cs : List (Int × Nat)} (hd : zdk (zby mi) pc (.lload_n v) = true) (hf : zfall C k pc (.lload_n v) = true) (h1 : zchk1 mi C pc (.lload_n v) a cs = true) (h2 : zOK2 (zy mi).cls (.lload_n v) a cs) {ls st : List mzV} {μ : mzM} {H : Heap} {locs : List Loc} {la : Array Slot} {sa : List Value} (hA : zA b0 D ca adK adV bS L xs s mi ls st μ H locs la sa) : zgoal (W p l e R s m args below meth c H locs cells slots Q (F0 m pc la sa)) (zK p l e R s m args below meth c cells slots Q b0 D ca adK adV bS L xs mi C) (zKC p l e R s m args below meth c cells slots Q b0 D ca adK adV bS L xs mi C) (zKE p l e R s m args below meth c cells slots Q b0 D ca adK adV bS L xs mi) (zstep (.lload_n v) a cs k ls st μ) := by
  have hd0 : decode (zby mi) pc = .ok (.lload_n v, 1) := (zdk_p hd).resolve_left (by rintro ⟨_, _, _, _, h⟩; cases h)
  have hp : zpcs C (k + 1) = pc + 1 := zfl_p hf
  obtain ⟨al, ag, as, aP, aM, aS⟩ := hA
  show zgoal _ _ _ _ (zld ls v.val (fun u => match zisL u with | true => sN (k + 1, ls, u :: st, μ) | false => none))
  refine zld_ok al (fun w v0 hw hv hl => ?_)
  rcases w with n | n | ⟨t, i⟩
  · trivial
  · intro hK
    obtain ⟨hn, rfl⟩ := hv
    refine lv_lload_n hx hb hd0 rfl hl ?_
    rw [← hp]
    exact hK _ _ _ _ ⟨al, ag, zrs_cons (zrv_L hn) as, aP, aM, aS⟩
  · trivial
theorem zc_lload (hx : p.tables.exec = Jvm.exec) (hb : c.code = zby mi) (hml : c.maxLocals = zml mi) (hown : s.vm.findClass (zy mi).cls = some m.cls) (hts : ∀ w ∈ zTs, w.before args s = true) (hB : zBk b0 D ca adK adV bS L xs s) (hR : zfr mi ≤ R.frames ∧ zlo mi ≤ R.locals ∧ cells ≤ R.cells ∧ slots ≤ R.slots) {v : Nat} {k pc a : Nat} {cs : List (Int × Nat)} (hd : zdk (zby mi) pc (.lload v) = true) (hf : zfall C k pc (.lload v) = true) (h1 : zchk1 mi C pc (.lload v) a cs = true) (h2 : zOK2 (zy mi).cls (.lload v) a cs) {ls st : List mzV} {μ : mzM} {H : Heap} {locs : List Loc} {la : Array Slot} {sa : List Value} (hA : zA b0 D ca adK adV bS L xs s mi ls st μ H locs la sa) : zgoal (W p l e R s m args below meth c H locs cells slots Q (F0 m pc la sa)) (zK p l e R s m args below meth c cells slots Q b0 D ca adK adV bS L xs mi C) (zKC p l e R s m args below meth c cells slots Q b0 D ca adK adV bS L xs mi C) (zKE p l e R s m args below meth c cells slots Q b0 D ca adK adV bS L xs mi) (zstep (.lload v) a cs k ls st μ) := by
  have hd0 : decode (zby mi) pc = .ok (.lload v, 2) := (zdk_p hd).resolve_left (by rintro ⟨_, _, _, _, h⟩; cases h)
  have hp : zpcs C (k + 1) = pc + 2 := zfl_p hf
  obtain ⟨al, ag, as, aP, aM, aS⟩ := hA
  show zgoal _ _ _ _ (zld ls v (fun u => match zisL u with | true => sN (k + 1, ls, u :: st, μ) | false => none))
  refine zld_ok al (fun w v0 hw hv hl => ?_)
  rcases w with n | n | ⟨t, i⟩
  · trivial
  · intro hK
    obtain ⟨hn, rfl⟩ := hv
    refine lv_lload hx hb hd0 hl ?_
    rw [← hp]
    exact hK _ _ _ _ ⟨al, ag, zrs_cons (zrv_L hn) as, aP, aM, aS⟩
  · trivial
theorem zc_aload (hx : p.tables.exec = Jvm.exec) (hb : c.code = zby mi) (hml : c.maxLocals = zml mi) (hown : s.vm.findClass (zy mi).cls = some m.cls) (hts : ∀ w ∈ zTs, w.before args s = true) (hB : zBk b0 D ca adK adV bS L xs s) (hR : zfr mi ≤ R.frames ∧ zlo mi ≤ R.locals ∧ cells ≤ R.cells ∧ slots ≤ R.slots) {v : Nat} {k pc a : Nat} {cs : List (Int × Nat)} (hd : zdk (zby mi) pc (.aload v) = true) (hf : zfall C k pc (.aload v) = true) (h1 : zchk1 mi C pc (.aload v) a cs = true) (h2 : zOK2 (zy mi).cls (.aload v) a cs) {ls st : List mzV} {μ : mzM} {H : Heap} {locs : List Loc} {la : Array Slot} {sa : List Value} (hA : zA b0 D ca adK adV bS L xs s mi ls st μ H locs la sa) : zgoal (W p l e R s m args below meth c H locs cells slots Q (F0 m pc la sa)) (zK p l e R s m args below meth c cells slots Q b0 D ca adK adV bS L xs mi C) (zKC p l e R s m args below meth c cells slots Q b0 D ca adK adV bS L xs mi C) (zKE p l e R s m args below meth c cells slots Q b0 D ca adK adV bS L xs mi) (zstep (.aload v) a cs k ls st μ) := by
  have hd0 : decode (zby mi) pc = .ok (.aload v, 2) := (zdk_p hd).resolve_left (by rintro ⟨_, _, _, _, h⟩; cases h)
  have hp : zpcs C (k + 1) = pc + 2 := zfl_p hf
  obtain ⟨al, ag, as, aP, aM, aS⟩ := hA
  show zgoal _ _ _ _ (zld ls v (fun u => match zisR u with | true => sN (k + 1, ls, u :: st, μ) | false => none))
  refine zld_ok al (fun w v0 hw hv hl => ?_)
  rcases w with n | n | ⟨t, i⟩
  · trivial
  · trivial
  · intro hK
    rcases zrv_ref hv with hv0 | ⟨a0, hv0⟩
    · subst hv0
      refine lv_aloadN hx hb hd0 hl ?_
      rw [← hp]
      exact hK _ _ _ _ ⟨al, ag, zrs_cons hv as, aP, aM, aS⟩
    · subst hv0
      refine lv_aload hx hb hd0 hl ?_
      rw [← hp]
      exact hK _ _ _ _ ⟨al, ag, zrs_cons hv as, aP, aM, aS⟩
theorem zc_aload_n (hx : p.tables.exec = Jvm.exec) (hb : c.code = zby mi) (hml : c.maxLocals = zml mi) (hown : s.vm.findClass (zy mi).cls = some m.cls) (hts : ∀ w ∈ zTs, w.before args s = true) (hB : zBk b0 D ca adK adV bS L xs s) (hR : zfr mi ≤ R.frames ∧ zlo mi ≤ R.locals ∧ cells ≤ R.cells ∧ slots ≤ R.slots) {v : Fin 4} {k pc a : Nat} {cs : List (Int × Nat)} (hd : zdk (zby mi) pc (.aload_n v) = true) (hf : zfall C k pc (.aload_n v) = true) (h1 : zchk1 mi C pc (.aload_n v) a cs = true) (h2 : zOK2 (zy mi).cls (.aload_n v) a cs) {ls st : List mzV} {μ : mzM} {H : Heap} {locs : List Loc} {la : Array Slot} {sa : List Value} (hA : zA b0 D ca adK adV bS L xs s mi ls st μ H locs la sa) : zgoal (W p l e R s m args below meth c H locs cells slots Q (F0 m pc la sa)) (zK p l e R s m args below meth c cells slots Q b0 D ca adK adV bS L xs mi C) (zKC p l e R s m args below meth c cells slots Q b0 D ca adK adV bS L xs mi C) (zKE p l e R s m args below meth c cells slots Q b0 D ca adK adV bS L xs mi) (zstep (.aload_n v) a cs k ls st μ) := by
  have hd0 : decode (zby mi) pc = .ok (.aload_n v, 1) := (zdk_p hd).resolve_left (by rintro ⟨_, _, _, _, h⟩; cases h)
  have hp : zpcs C (k + 1) = pc + 1 := zfl_p hf
  obtain ⟨al, ag, as, aP, aM, aS⟩ := hA
  show zgoal _ _ _ _ (zld ls v.val (fun u => match zisR u with | true => sN (k + 1, ls, u :: st, μ) | false => none))
  refine zld_ok al (fun w v0 hw hv hl => ?_)
  rcases w with n | n | ⟨t, i⟩
  · trivial
  · trivial
  · intro hK
    rcases zrv_ref hv with hv0 | ⟨a0, hv0⟩
    · subst hv0
      refine lv_aload_nN hx hb hd0 rfl hl ?_
      rw [← hp]
      exact hK _ _ _ _ ⟨al, ag, zrs_cons hv as, aP, aM, aS⟩
    · subst hv0
      refine lv_aload_n hx hb hd0 rfl hl ?_
      rw [← hp]
      exact hK _ _ _ _ ⟨al, ag, zrs_cons hv as, aP, aM, aS⟩
theorem zc_istore (hx : p.tables.exec = Jvm.exec) (hb : c.code = zby mi) (hml : c.maxLocals = zml mi) (hown : s.vm.findClass (zy mi).cls = some m.cls) (hts : ∀ w ∈ zTs, w.before args s = true) (hB : zBk b0 D ca adK adV bS L xs s) (hR : zfr mi ≤ R.frames ∧ zlo mi ≤ R.locals ∧ cells ≤ R.cells ∧ slots ≤ R.slots) {v : Nat} {k pc a : Nat} {cs : List (Int × Nat)} (hd : zdk (zby mi) pc (.istore v) = true) (hf : zfall C k pc (.istore v) = true) (h1 : zchk1 mi C pc (.istore v) a cs = true) (h2 : zOK2 (zy mi).cls (.istore v) a cs) {ls st : List mzV} {μ : mzM} {H : Heap} {locs : List Loc} {la : Array Slot} {sa : List Value} (hA : zA b0 D ca adK adV bS L xs s mi ls st μ H locs la sa) : zgoal (W p l e R s m args below meth c H locs cells slots Q (F0 m pc la sa)) (zK p l e R s m args below meth c cells slots Q b0 D ca adK adV bS L xs mi C) (zKC p l e R s m args below meth c cells slots Q b0 D ca adK adV bS L xs mi C) (zKE p l e R s m args below meth c cells slots Q b0 D ca adK adV bS L xs mi) (zstep (.istore v) a cs k ls st μ) := by
  have hd0 : decode (zby mi) pc = .ok (.istore v, 2) := (zdk_p hd).resolve_left (by rintro ⟨_, _, _, _, h⟩; cases h)
  have hp : zpcs C (k + 1) = pc + 2 := zfl_p hf
  obtain ⟨al, ag, as, aP, aM, aS⟩ := hA
  refine zi1_ok as (fun n r ra hsa hn hr => ?_)
  refine zst_ok ?_
  subst hsa
  intro hK
  have hlt : v < la.size := by
    rw [al.1, ag.1]
    exact Nat.blt_eq.mp (Bool.and_eq_true_iff.mp h1).1
  refine lv_istore hx hb hd0 (zlv_has al.2.1) hlt rfl (fun l1 hl1 => ?_)
  obtain ⟨z1, z2⟩ := zrl_set (b0 := b0) (adK := adK) (adV := adV) (bS := bS) al ag h1 (zrv_I hn) rfl hl1
  rw [← hp]
  exact hK _ _ _ _ ⟨z1, z2, hr, aP, aM, aS⟩
theorem zc_istore_n (hx : p.tables.exec = Jvm.exec) (hb : c.code = zby mi) (hml : c.maxLocals = zml mi) (hown : s.vm.findClass (zy mi).cls = some m.cls) (hts : ∀ w ∈ zTs, w.before args s = true) (hB : zBk b0 D ca adK adV bS L xs s) (hR : zfr mi ≤ R.frames ∧ zlo mi ≤ R.locals ∧ cells ≤ R.cells ∧ slots ≤ R.slots) {v : Fin 4} {k pc a : Nat} {cs : List (Int × Nat)} (hd : zdk (zby mi) pc (.istore_n v) = true) (hf : zfall C k pc (.istore_n v) = true) (h1 : zchk1 mi C pc (.istore_n v) a cs = true) (h2 : zOK2 (zy mi).cls (.istore_n v) a cs) {ls st : List mzV} {μ : mzM} {H : Heap} {locs : List Loc} {la : Array Slot} {sa : List Value} (hA : zA b0 D ca adK adV bS L xs s mi ls st μ H locs la sa) : zgoal (W p l e R s m args below meth c H locs cells slots Q (F0 m pc la sa)) (zK p l e R s m args below meth c cells slots Q b0 D ca adK adV bS L xs mi C) (zKC p l e R s m args below meth c cells slots Q b0 D ca adK adV bS L xs mi C) (zKE p l e R s m args below meth c cells slots Q b0 D ca adK adV bS L xs mi) (zstep (.istore_n v) a cs k ls st μ) := by
  have hd0 : decode (zby mi) pc = .ok (.istore_n v, 1) := (zdk_p hd).resolve_left (by rintro ⟨_, _, _, _, h⟩; cases h)
  have hp : zpcs C (k + 1) = pc + 1 := zfl_p hf
  obtain ⟨al, ag, as, aP, aM, aS⟩ := hA
  refine zi1_ok as (fun n r ra hsa hn hr => ?_)
  refine zst_ok ?_
  subst hsa
  intro hK
  have hlt : v.val < la.size := by
    rw [al.1, ag.1]
    exact Nat.blt_eq.mp (Bool.and_eq_true_iff.mp h1).1
  refine lv_istore_n hx hb hd0 rfl (zlv_has al.2.1) hlt rfl (fun l1 hl1 => ?_)
  obtain ⟨z1, z2⟩ := zrl_set (b0 := b0) (adK := adK) (adV := adV) (bS := bS) al ag h1 (zrv_I hn) rfl hl1
  rw [← hp]
  exact hK _ _ _ _ ⟨z1, z2, hr, aP, aM, aS⟩
theorem zc_astore (hx : p.tables.exec = Jvm.exec) (hb : c.code = zby mi) (hml : c.maxLocals = zml mi) (hown : s.vm.findClass (zy mi).cls = some m.cls) (hts : ∀ w ∈ zTs, w.before args s = true) (hB : zBk b0 D ca adK adV bS L xs s) (hR : zfr mi ≤ R.frames ∧ zlo mi ≤ R.locals ∧ cells ≤ R.cells ∧ slots ≤ R.slots) {v : Nat} {k pc a : Nat} {cs : List (Int × Nat)} (hd : zdk (zby mi) pc (.astore v) = true) (hf : zfall C k pc (.astore v) = true) (h1 : zchk1 mi C pc (.astore v) a cs = true) (h2 : zOK2 (zy mi).cls (.astore v) a cs) {ls st : List mzV} {μ : mzM} {H : Heap} {locs : List Loc} {la : Array Slot} {sa : List Value} (hA : zA b0 D ca adK adV bS L xs s mi ls st μ H locs la sa) : zgoal (W p l e R s m args below meth c H locs cells slots Q (F0 m pc la sa)) (zK p l e R s m args below meth c cells slots Q b0 D ca adK adV bS L xs mi C) (zKC p l e R s m args below meth c cells slots Q b0 D ca adK adV bS L xs mi C) (zKE p l e R s m args below meth c cells slots Q b0 D ca adK adV bS L xs mi) (zstep (.astore v) a cs k ls st μ) := by
  have hd0 : decode (zby mi) pc = .ok (.astore v, 2) := (zdk_p hd).resolve_left (by rintro ⟨_, _, _, _, h⟩; cases h)
  have hp : zpcs C (k + 1) = pc + 2 := zfl_p hf
  obtain ⟨al, ag, as, aP, aM, aS⟩ := hA
  refine zr1_ok as (fun t j r v0 ra hsa hv hr => ?_)
  refine zst_ok ?_
  subst hsa
  intro hK
  have hlt : v < la.size := by
    rw [al.1, ag.1]
    exact Nat.blt_eq.mp (Bool.and_eq_true_iff.mp h1).1
  rcases zrv_ref hv with hv0 | ⟨a0, hv0⟩
  · subst hv0
    refine lv_astoreN hx hb hd0 (zlv_has al.2.1) hlt rfl (fun l1 hl1 => ?_)
    obtain ⟨z1, z2⟩ := zrl_set (b0 := b0) (adK := adK) (adV := adV) (bS := bS) al ag h1 hv rfl hl1
    rw [← hp]
    exact hK _ _ _ _ ⟨z1, z2, hr, aP, aM, aS⟩
  · subst hv0
    refine lv_astore hx hb hd0 (zlv_has al.2.1) hlt rfl (fun l1 hl1 => ?_)
    obtain ⟨z1, z2⟩ := zrl_set (b0 := b0) (adK := adK) (adV := adV) (bS := bS) al ag h1 hv rfl hl1
    rw [← hp]
    exact hK _ _ _ _ ⟨z1, z2, hr, aP, aM, aS⟩
theorem zc_astore_n (hx : p.tables.exec = Jvm.exec) (hb : c.code = zby mi) (hml : c.maxLocals = zml mi) (hown : s.vm.findClass (zy mi).cls = some m.cls) (hts : ∀ w ∈ zTs, w.before args s = true) (hB : zBk b0 D ca adK adV bS L xs s) (hR : zfr mi ≤ R.frames ∧ zlo mi ≤ R.locals ∧ cells ≤ R.cells ∧ slots ≤ R.slots) {v : Fin 4} {k pc a : Nat} {cs : List (Int × Nat)} (hd : zdk (zby mi) pc (.astore_n v) = true) (hf : zfall C k pc (.astore_n v) = true) (h1 : zchk1 mi C pc (.astore_n v) a cs = true) (h2 : zOK2 (zy mi).cls (.astore_n v) a cs) {ls st : List mzV} {μ : mzM} {H : Heap} {locs : List Loc} {la : Array Slot} {sa : List Value} (hA : zA b0 D ca adK adV bS L xs s mi ls st μ H locs la sa) : zgoal (W p l e R s m args below meth c H locs cells slots Q (F0 m pc la sa)) (zK p l e R s m args below meth c cells slots Q b0 D ca adK adV bS L xs mi C) (zKC p l e R s m args below meth c cells slots Q b0 D ca adK adV bS L xs mi C) (zKE p l e R s m args below meth c cells slots Q b0 D ca adK adV bS L xs mi) (zstep (.astore_n v) a cs k ls st μ) := by
  have hd0 : decode (zby mi) pc = .ok (.astore_n v, 1) := (zdk_p hd).resolve_left (by rintro ⟨_, _, _, _, h⟩; cases h)
  have hp : zpcs C (k + 1) = pc + 1 := zfl_p hf
  obtain ⟨al, ag, as, aP, aM, aS⟩ := hA
  refine zr1_ok as (fun t j r v0 ra hsa hv hr => ?_)
  refine zst_ok ?_
  subst hsa
  intro hK
  have hlt : v.val < la.size := by
    rw [al.1, ag.1]
    exact Nat.blt_eq.mp (Bool.and_eq_true_iff.mp h1).1
  rcases zrv_ref hv with hv0 | ⟨a0, hv0⟩
  · subst hv0
    refine lv_astore_nN hx hb hd0 rfl (zlv_has al.2.1) hlt rfl (fun l1 hl1 => ?_)
    obtain ⟨z1, z2⟩ := zrl_set (b0 := b0) (adK := adK) (adV := adV) (bS := bS) al ag h1 hv rfl hl1
    rw [← hp]
    exact hK _ _ _ _ ⟨z1, z2, hr, aP, aM, aS⟩
  · subst hv0
    refine lv_astore_n hx hb hd0 rfl (zlv_has al.2.1) hlt rfl (fun l1 hl1 => ?_)
    obtain ⟨z1, z2⟩ := zrl_set (b0 := b0) (adK := adK) (adV := adV) (bS := bS) al ag h1 hv rfl hl1
    rw [← hp]
    exact hK _ _ _ _ ⟨z1, z2, hr, aP, aM, aS⟩
theorem zc_iadd (hx : p.tables.exec = Jvm.exec) (hb : c.code = zby mi) (hml : c.maxLocals = zml mi) (hown : s.vm.findClass (zy mi).cls = some m.cls) (hts : ∀ w ∈ zTs, w.before args s = true) (hB : zBk b0 D ca adK adV bS L xs s) (hR : zfr mi ≤ R.frames ∧ zlo mi ≤ R.locals ∧ cells ≤ R.cells ∧ slots ≤ R.slots) {k pc a : Nat} {cs : List (Int × Nat)} (hd : zdk (zby mi) pc (.iadd) = true) (hf : zfall C k pc (.iadd) = true) (h1 : zchk1 mi C pc (.iadd) a cs = true) (h2 : zOK2 (zy mi).cls (.iadd) a cs) {ls st : List mzV} {μ : mzM} {H : Heap} {locs : List Loc} {la : Array Slot} {sa : List Value} (hA : zA b0 D ca adK adV bS L xs s mi ls st μ H locs la sa) : zgoal (W p l e R s m args below meth c H locs cells slots Q (F0 m pc la sa)) (zK p l e R s m args below meth c cells slots Q b0 D ca adK adV bS L xs mi C) (zKC p l e R s m args below meth c cells slots Q b0 D ca adK adV bS L xs mi C) (zKE p l e R s m args below meth c cells slots Q b0 D ca adK adV bS L xs mi) (zstep (.iadd) a cs k ls st μ) := by
  have hd0 : decode (zby mi) pc = .ok (.iadd, 1) := (zdk_p hd).resolve_left (by rintro ⟨_, _, _, _, h⟩; cases h)
  have hp : zpcs C (k + 1) = pc + 1 := zfl_p hf
  obtain ⟨al, ag, as, aP, aM, aS⟩ := hA
  refine zi2_ok as (fun v w r ra hsa hv hw hr => ?_)
  subst hsa
  intro hq hK
  have hq : zin (v + w) := hq
  refine lv_iadd hx hb hd0 ?_
  rw [zn_add hv hw hq, ← hp]
  exact hK _ _ _ _ ⟨al, ag, zrs_cons (zrv_I hq) hr, aP, aM, aS⟩
theorem zc_isub (hx : p.tables.exec = Jvm.exec) (hb : c.code = zby mi) (hml : c.maxLocals = zml mi) (hown : s.vm.findClass (zy mi).cls = some m.cls) (hts : ∀ w ∈ zTs, w.before args s = true) (hB : zBk b0 D ca adK adV bS L xs s) (hR : zfr mi ≤ R.frames ∧ zlo mi ≤ R.locals ∧ cells ≤ R.cells ∧ slots ≤ R.slots) {k pc a : Nat} {cs : List (Int × Nat)} (hd : zdk (zby mi) pc (.isub) = true) (hf : zfall C k pc (.isub) = true) (h1 : zchk1 mi C pc (.isub) a cs = true) (h2 : zOK2 (zy mi).cls (.isub) a cs) {ls st : List mzV} {μ : mzM} {H : Heap} {locs : List Loc} {la : Array Slot} {sa : List Value} (hA : zA b0 D ca adK adV bS L xs s mi ls st μ H locs la sa) : zgoal (W p l e R s m args below meth c H locs cells slots Q (F0 m pc la sa)) (zK p l e R s m args below meth c cells slots Q b0 D ca adK adV bS L xs mi C) (zKC p l e R s m args below meth c cells slots Q b0 D ca adK adV bS L xs mi C) (zKE p l e R s m args below meth c cells slots Q b0 D ca adK adV bS L xs mi) (zstep (.isub) a cs k ls st μ) := by
  have hd0 : decode (zby mi) pc = .ok (.isub, 1) := (zdk_p hd).resolve_left (by rintro ⟨_, _, _, _, h⟩; cases h)
  have hp : zpcs C (k + 1) = pc + 1 := zfl_p hf
  obtain ⟨al, ag, as, aP, aM, aS⟩ := hA
  refine zi2_ok as (fun v w r ra hsa hv hw hr => ?_)
  subst hsa
  intro hq hK
  have hq : zin (v - w) := hq
  refine lv_isub hx hb hd0 ?_
  rw [zn_sub hv hw hq, ← hp]
  exact hK _ _ _ _ ⟨al, ag, zrs_cons (zrv_I hq) hr, aP, aM, aS⟩
theorem zc_imul (hx : p.tables.exec = Jvm.exec) (hb : c.code = zby mi) (hml : c.maxLocals = zml mi) (hown : s.vm.findClass (zy mi).cls = some m.cls) (hts : ∀ w ∈ zTs, w.before args s = true) (hB : zBk b0 D ca adK adV bS L xs s) (hR : zfr mi ≤ R.frames ∧ zlo mi ≤ R.locals ∧ cells ≤ R.cells ∧ slots ≤ R.slots) {k pc a : Nat} {cs : List (Int × Nat)} (hd : zdk (zby mi) pc (.imul) = true) (hf : zfall C k pc (.imul) = true) (h1 : zchk1 mi C pc (.imul) a cs = true) (h2 : zOK2 (zy mi).cls (.imul) a cs) {ls st : List mzV} {μ : mzM} {H : Heap} {locs : List Loc} {la : Array Slot} {sa : List Value} (hA : zA b0 D ca adK adV bS L xs s mi ls st μ H locs la sa) : zgoal (W p l e R s m args below meth c H locs cells slots Q (F0 m pc la sa)) (zK p l e R s m args below meth c cells slots Q b0 D ca adK adV bS L xs mi C) (zKC p l e R s m args below meth c cells slots Q b0 D ca adK adV bS L xs mi C) (zKE p l e R s m args below meth c cells slots Q b0 D ca adK adV bS L xs mi) (zstep (.imul) a cs k ls st μ) := by
  have hd0 : decode (zby mi) pc = .ok (.imul, 1) := (zdk_p hd).resolve_left (by rintro ⟨_, _, _, _, h⟩; cases h)
  have hp : zpcs C (k + 1) = pc + 1 := zfl_p hf
  obtain ⟨al, ag, as, aP, aM, aS⟩ := hA
  refine zi2_ok as (fun v w r ra hsa hv hw hr => ?_)
  subst hsa
  intro hq hK
  have hq : zin (v * w) := hq
  refine lv_imul hx hb hd0 ?_
  rw [zn_mul hv hw hq, ← hp]
  exact hK _ _ _ _ ⟨al, ag, zrs_cons (zrv_I hq) hr, aP, aM, aS⟩
theorem zc_idiv (hx : p.tables.exec = Jvm.exec) (hb : c.code = zby mi) (hml : c.maxLocals = zml mi) (hown : s.vm.findClass (zy mi).cls = some m.cls) (hts : ∀ w ∈ zTs, w.before args s = true) (hB : zBk b0 D ca adK adV bS L xs s) (hR : zfr mi ≤ R.frames ∧ zlo mi ≤ R.locals ∧ cells ≤ R.cells ∧ slots ≤ R.slots) {k pc a : Nat} {cs : List (Int × Nat)} (hd : zdk (zby mi) pc (.idiv) = true) (hf : zfall C k pc (.idiv) = true) (h1 : zchk1 mi C pc (.idiv) a cs = true) (h2 : zOK2 (zy mi).cls (.idiv) a cs) {ls st : List mzV} {μ : mzM} {H : Heap} {locs : List Loc} {la : Array Slot} {sa : List Value} (hA : zA b0 D ca adK adV bS L xs s mi ls st μ H locs la sa) : zgoal (W p l e R s m args below meth c H locs cells slots Q (F0 m pc la sa)) (zK p l e R s m args below meth c cells slots Q b0 D ca adK adV bS L xs mi C) (zKC p l e R s m args below meth c cells slots Q b0 D ca adK adV bS L xs mi C) (zKE p l e R s m args below meth c cells slots Q b0 D ca adK adV bS L xs mi) (zstep (.idiv) a cs k ls st μ) := by
  have hd0 : decode (zby mi) pc = .ok (.idiv, 1) := (zdk_p hd).resolve_left (by rintro ⟨_, _, _, _, h⟩; cases h)
  have hp : zpcs C (k + 1) = pc + 1 := zfl_p hf
  obtain ⟨al, ag, as, aP, aM, aS⟩ := hA
  refine zi2_ok as (fun v w r ra hsa hv hw hr => ?_)
  subst hsa
  intro hq hK
  have hq : w ≠ 0 ∧ zin (v.tdiv w) := hq
  refine lv_idiv hx hb hd0 (by rw [show (0 : Int32) = Int32.ofInt 0 from rfl, zn_eq hw zin_z]; exact hq.1) ?_
  rw [zn_div hv hw hq.2, ← hp]
  exact hK _ _ _ _ ⟨al, ag, zrs_cons (zrv_I hq.2) hr, aP, aM, aS⟩
theorem zc_irem (hx : p.tables.exec = Jvm.exec) (hb : c.code = zby mi) (hml : c.maxLocals = zml mi) (hown : s.vm.findClass (zy mi).cls = some m.cls) (hts : ∀ w ∈ zTs, w.before args s = true) (hB : zBk b0 D ca adK adV bS L xs s) (hR : zfr mi ≤ R.frames ∧ zlo mi ≤ R.locals ∧ cells ≤ R.cells ∧ slots ≤ R.slots) {k pc a : Nat} {cs : List (Int × Nat)} (hd : zdk (zby mi) pc (.irem) = true) (hf : zfall C k pc (.irem) = true) (h1 : zchk1 mi C pc (.irem) a cs = true) (h2 : zOK2 (zy mi).cls (.irem) a cs) {ls st : List mzV} {μ : mzM} {H : Heap} {locs : List Loc} {la : Array Slot} {sa : List Value} (hA : zA b0 D ca adK adV bS L xs s mi ls st μ H locs la sa) : zgoal (W p l e R s m args below meth c H locs cells slots Q (F0 m pc la sa)) (zK p l e R s m args below meth c cells slots Q b0 D ca adK adV bS L xs mi C) (zKC p l e R s m args below meth c cells slots Q b0 D ca adK adV bS L xs mi C) (zKE p l e R s m args below meth c cells slots Q b0 D ca adK adV bS L xs mi) (zstep (.irem) a cs k ls st μ) := by
  have hd0 : decode (zby mi) pc = .ok (.irem, 1) := (zdk_p hd).resolve_left (by rintro ⟨_, _, _, _, h⟩; cases h)
  have hp : zpcs C (k + 1) = pc + 1 := zfl_p hf
  obtain ⟨al, ag, as, aP, aM, aS⟩ := hA
  refine zi2_ok as (fun v w r ra hsa hv hw hr => ?_)
  subst hsa
  intro hq hK
  have hq : w ≠ 0 := hq
  refine lv_irem hx hb hd0 (by rw [show (0 : Int32) = Int32.ofInt 0 from rfl, zn_eq hw zin_z]; exact hq) ?_
  rw [zn_rem hv hw hq, ← hp]
  exact hK _ _ _ _ ⟨al, ag, zrs_cons (zrv_I (zin_tmod hv hw hq)) hr, aP, aM, aS⟩
theorem zc_ineg (hx : p.tables.exec = Jvm.exec) (hb : c.code = zby mi) (hml : c.maxLocals = zml mi) (hown : s.vm.findClass (zy mi).cls = some m.cls) (hts : ∀ w ∈ zTs, w.before args s = true) (hB : zBk b0 D ca adK adV bS L xs s) (hR : zfr mi ≤ R.frames ∧ zlo mi ≤ R.locals ∧ cells ≤ R.cells ∧ slots ≤ R.slots) {k pc a : Nat} {cs : List (Int × Nat)} (hd : zdk (zby mi) pc (.ineg) = true) (hf : zfall C k pc (.ineg) = true) (h1 : zchk1 mi C pc (.ineg) a cs = true) (h2 : zOK2 (zy mi).cls (.ineg) a cs) {ls st : List mzV} {μ : mzM} {H : Heap} {locs : List Loc} {la : Array Slot} {sa : List Value} (hA : zA b0 D ca adK adV bS L xs s mi ls st μ H locs la sa) : zgoal (W p l e R s m args below meth c H locs cells slots Q (F0 m pc la sa)) (zK p l e R s m args below meth c cells slots Q b0 D ca adK adV bS L xs mi C) (zKC p l e R s m args below meth c cells slots Q b0 D ca adK adV bS L xs mi C) (zKE p l e R s m args below meth c cells slots Q b0 D ca adK adV bS L xs mi) (zstep (.ineg) a cs k ls st μ) := by
  have hd0 : decode (zby mi) pc = .ok (.ineg, 1) := (zdk_p hd).resolve_left (by rintro ⟨_, _, _, _, h⟩; cases h)
  have hp : zpcs C (k + 1) = pc + 1 := zfl_p hf
  obtain ⟨al, ag, as, aP, aM, aS⟩ := hA
  refine zi1_ok as (fun v r ra hsa hv hr => ?_)
  subst hsa
  intro hK
  refine lv_ineg hx hb hd0 ?_
  rw [zn_neg hv, ← hp]
  exact hK _ _ _ _ ⟨al, ag, zrs_cons (zrv_I (zw_in _)) hr, aP, aM, aS⟩
theorem zc_iand (hx : p.tables.exec = Jvm.exec) (hb : c.code = zby mi) (hml : c.maxLocals = zml mi) (hown : s.vm.findClass (zy mi).cls = some m.cls) (hts : ∀ w ∈ zTs, w.before args s = true) (hB : zBk b0 D ca adK adV bS L xs s) (hR : zfr mi ≤ R.frames ∧ zlo mi ≤ R.locals ∧ cells ≤ R.cells ∧ slots ≤ R.slots) {k pc a : Nat} {cs : List (Int × Nat)} (hd : zdk (zby mi) pc (.iand) = true) (hf : zfall C k pc (.iand) = true) (h1 : zchk1 mi C pc (.iand) a cs = true) (h2 : zOK2 (zy mi).cls (.iand) a cs) {ls st : List mzV} {μ : mzM} {H : Heap} {locs : List Loc} {la : Array Slot} {sa : List Value} (hA : zA b0 D ca adK adV bS L xs s mi ls st μ H locs la sa) : zgoal (W p l e R s m args below meth c H locs cells slots Q (F0 m pc la sa)) (zK p l e R s m args below meth c cells slots Q b0 D ca adK adV bS L xs mi C) (zKC p l e R s m args below meth c cells slots Q b0 D ca adK adV bS L xs mi C) (zKE p l e R s m args below meth c cells slots Q b0 D ca adK adV bS L xs mi) (zstep (.iand) a cs k ls st μ) := by
  have hd0 : decode (zby mi) pc = .ok (.iand, 1) := (zdk_p hd).resolve_left (by rintro ⟨_, _, _, _, h⟩; cases h)
  have hp : zpcs C (k + 1) = pc + 1 := zfl_p hf
  obtain ⟨al, ag, as, aP, aM, aS⟩ := hA
  refine zi2_ok as (fun v w r ra hsa hv hw hr => ?_)
  subst hsa
  intro hK
  refine lv_iand hx hb hd0 ?_
  rw [show _ = Int32.ofInt (zand v w) from zi_of rfl, ← hp]
  exact hK _ _ _ _ ⟨al, ag, zrs_cons (zrv_I (zin_32 _)) hr, aP, aM, aS⟩
theorem zc_ixor (hx : p.tables.exec = Jvm.exec) (hb : c.code = zby mi) (hml : c.maxLocals = zml mi) (hown : s.vm.findClass (zy mi).cls = some m.cls) (hts : ∀ w ∈ zTs, w.before args s = true) (hB : zBk b0 D ca adK adV bS L xs s) (hR : zfr mi ≤ R.frames ∧ zlo mi ≤ R.locals ∧ cells ≤ R.cells ∧ slots ≤ R.slots) {k pc a : Nat} {cs : List (Int × Nat)} (hd : zdk (zby mi) pc (.ixor) = true) (hf : zfall C k pc (.ixor) = true) (h1 : zchk1 mi C pc (.ixor) a cs = true) (h2 : zOK2 (zy mi).cls (.ixor) a cs) {ls st : List mzV} {μ : mzM} {H : Heap} {locs : List Loc} {la : Array Slot} {sa : List Value} (hA : zA b0 D ca adK adV bS L xs s mi ls st μ H locs la sa) : zgoal (W p l e R s m args below meth c H locs cells slots Q (F0 m pc la sa)) (zK p l e R s m args below meth c cells slots Q b0 D ca adK adV bS L xs mi C) (zKC p l e R s m args below meth c cells slots Q b0 D ca adK adV bS L xs mi C) (zKE p l e R s m args below meth c cells slots Q b0 D ca adK adV bS L xs mi) (zstep (.ixor) a cs k ls st μ) := by
  have hd0 : decode (zby mi) pc = .ok (.ixor, 1) := (zdk_p hd).resolve_left (by rintro ⟨_, _, _, _, h⟩; cases h)
  have hp : zpcs C (k + 1) = pc + 1 := zfl_p hf
  obtain ⟨al, ag, as, aP, aM, aS⟩ := hA
  refine zi2_ok as (fun v w r ra hsa hv hw hr => ?_)
  subst hsa
  intro hK
  refine lv_ixor hx hb hd0 ?_
  rw [show _ = Int32.ofInt (zxor v w) from zi_of rfl, ← hp]
  exact hK _ _ _ _ ⟨al, ag, zrs_cons (zrv_I (zin_32 _)) hr, aP, aM, aS⟩
theorem zc_ishl (hx : p.tables.exec = Jvm.exec) (hb : c.code = zby mi) (hml : c.maxLocals = zml mi) (hown : s.vm.findClass (zy mi).cls = some m.cls) (hts : ∀ w ∈ zTs, w.before args s = true) (hB : zBk b0 D ca adK adV bS L xs s) (hR : zfr mi ≤ R.frames ∧ zlo mi ≤ R.locals ∧ cells ≤ R.cells ∧ slots ≤ R.slots) {k pc a : Nat} {cs : List (Int × Nat)} (hd : zdk (zby mi) pc (.ishl) = true) (hf : zfall C k pc (.ishl) = true) (h1 : zchk1 mi C pc (.ishl) a cs = true) (h2 : zOK2 (zy mi).cls (.ishl) a cs) {ls st : List mzV} {μ : mzM} {H : Heap} {locs : List Loc} {la : Array Slot} {sa : List Value} (hA : zA b0 D ca adK adV bS L xs s mi ls st μ H locs la sa) : zgoal (W p l e R s m args below meth c H locs cells slots Q (F0 m pc la sa)) (zK p l e R s m args below meth c cells slots Q b0 D ca adK adV bS L xs mi C) (zKC p l e R s m args below meth c cells slots Q b0 D ca adK adV bS L xs mi C) (zKE p l e R s m args below meth c cells slots Q b0 D ca adK adV bS L xs mi) (zstep (.ishl) a cs k ls st μ) := by
  have hd0 : decode (zby mi) pc = .ok (.ishl, 1) := (zdk_p hd).resolve_left (by rintro ⟨_, _, _, _, h⟩; cases h)
  have hp : zpcs C (k + 1) = pc + 1 := zfl_p hf
  obtain ⟨al, ag, as, aP, aM, aS⟩ := hA
  refine zi2_ok as (fun v w r ra hsa hv hw hr => ?_)
  subst hsa
  intro hK
  refine lv_ishl hx hb hd0 ?_
  rw [show _ = Int32.ofInt (zshl v w) from zi_of rfl, ← hp]
  exact hK _ _ _ _ ⟨al, ag, zrs_cons (zrv_I (zin_32 _)) hr, aP, aM, aS⟩
theorem zc_ishr (hx : p.tables.exec = Jvm.exec) (hb : c.code = zby mi) (hml : c.maxLocals = zml mi) (hown : s.vm.findClass (zy mi).cls = some m.cls) (hts : ∀ w ∈ zTs, w.before args s = true) (hB : zBk b0 D ca adK adV bS L xs s) (hR : zfr mi ≤ R.frames ∧ zlo mi ≤ R.locals ∧ cells ≤ R.cells ∧ slots ≤ R.slots) {k pc a : Nat} {cs : List (Int × Nat)} (hd : zdk (zby mi) pc (.ishr) = true) (hf : zfall C k pc (.ishr) = true) (h1 : zchk1 mi C pc (.ishr) a cs = true) (h2 : zOK2 (zy mi).cls (.ishr) a cs) {ls st : List mzV} {μ : mzM} {H : Heap} {locs : List Loc} {la : Array Slot} {sa : List Value} (hA : zA b0 D ca adK adV bS L xs s mi ls st μ H locs la sa) : zgoal (W p l e R s m args below meth c H locs cells slots Q (F0 m pc la sa)) (zK p l e R s m args below meth c cells slots Q b0 D ca adK adV bS L xs mi C) (zKC p l e R s m args below meth c cells slots Q b0 D ca adK adV bS L xs mi C) (zKE p l e R s m args below meth c cells slots Q b0 D ca adK adV bS L xs mi) (zstep (.ishr) a cs k ls st μ) := by
  have hd0 : decode (zby mi) pc = .ok (.ishr, 1) := (zdk_p hd).resolve_left (by rintro ⟨_, _, _, _, h⟩; cases h)
  have hp : zpcs C (k + 1) = pc + 1 := zfl_p hf
  obtain ⟨al, ag, as, aP, aM, aS⟩ := hA
  refine zi2_ok as (fun v w r ra hsa hv hw hr => ?_)
  subst hsa
  intro hK
  refine lv_ishr hx hb hd0 ?_
  rw [show _ = Int32.ofInt (zshr v w) from zi_of rfl, ← hp]
  exact hK _ _ _ _ ⟨al, ag, zrs_cons (zrv_I (zin_32 _)) hr, aP, aM, aS⟩
theorem zc_iushr (hx : p.tables.exec = Jvm.exec) (hb : c.code = zby mi) (hml : c.maxLocals = zml mi) (hown : s.vm.findClass (zy mi).cls = some m.cls) (hts : ∀ w ∈ zTs, w.before args s = true) (hB : zBk b0 D ca adK adV bS L xs s) (hR : zfr mi ≤ R.frames ∧ zlo mi ≤ R.locals ∧ cells ≤ R.cells ∧ slots ≤ R.slots) {k pc a : Nat} {cs : List (Int × Nat)} (hd : zdk (zby mi) pc (.iushr) = true) (hf : zfall C k pc (.iushr) = true) (h1 : zchk1 mi C pc (.iushr) a cs = true) (h2 : zOK2 (zy mi).cls (.iushr) a cs) {ls st : List mzV} {μ : mzM} {H : Heap} {locs : List Loc} {la : Array Slot} {sa : List Value} (hA : zA b0 D ca adK adV bS L xs s mi ls st μ H locs la sa) : zgoal (W p l e R s m args below meth c H locs cells slots Q (F0 m pc la sa)) (zK p l e R s m args below meth c cells slots Q b0 D ca adK adV bS L xs mi C) (zKC p l e R s m args below meth c cells slots Q b0 D ca adK adV bS L xs mi C) (zKE p l e R s m args below meth c cells slots Q b0 D ca adK adV bS L xs mi) (zstep (.iushr) a cs k ls st μ) := by
  have hd0 : decode (zby mi) pc = .ok (.iushr, 1) := (zdk_p hd).resolve_left (by rintro ⟨_, _, _, _, h⟩; cases h)
  have hp : zpcs C (k + 1) = pc + 1 := zfl_p hf
  obtain ⟨al, ag, as, aP, aM, aS⟩ := hA
  refine zi2_ok as (fun v w r ra hsa hv hw hr => ?_)
  subst hsa
  intro hK
  refine lv_iushr (v := Int32.ofInt (zushr v w)) hx hb hd0 (zi_of rfl) ?_
  rw [← hp]
  exact hK _ _ _ _ ⟨al, ag, zrs_cons (zrv_I (zin_32 _)) hr, aP, aM, aS⟩
theorem zc_ladd (hx : p.tables.exec = Jvm.exec) (hb : c.code = zby mi) (hml : c.maxLocals = zml mi) (hown : s.vm.findClass (zy mi).cls = some m.cls) (hts : ∀ w ∈ zTs, w.before args s = true) (hB : zBk b0 D ca adK adV bS L xs s) (hR : zfr mi ≤ R.frames ∧ zlo mi ≤ R.locals ∧ cells ≤ R.cells ∧ slots ≤ R.slots) {k pc a : Nat} {cs : List (Int × Nat)} (hd : zdk (zby mi) pc (.ladd) = true) (hf : zfall C k pc (.ladd) = true) (h1 : zchk1 mi C pc (.ladd) a cs = true) (h2 : zOK2 (zy mi).cls (.ladd) a cs) {ls st : List mzV} {μ : mzM} {H : Heap} {locs : List Loc} {la : Array Slot} {sa : List Value} (hA : zA b0 D ca adK adV bS L xs s mi ls st μ H locs la sa) : zgoal (W p l e R s m args below meth c H locs cells slots Q (F0 m pc la sa)) (zK p l e R s m args below meth c cells slots Q b0 D ca adK adV bS L xs mi C) (zKC p l e R s m args below meth c cells slots Q b0 D ca adK adV bS L xs mi C) (zKE p l e R s m args below meth c cells slots Q b0 D ca adK adV bS L xs mi) (zstep (.ladd) a cs k ls st μ) := by
  have hd0 : decode (zby mi) pc = .ok (.ladd, 1) := (zdk_p hd).resolve_left (by rintro ⟨_, _, _, _, h⟩; cases h)
  have hp : zpcs C (k + 1) = pc + 1 := zfl_p hf
  obtain ⟨al, ag, as, aP, aM, aS⟩ := hA
  refine zl2_ok as (fun v w r ra hsa hv hw hr => ?_)
  subst hsa
  intro hK
  refine lv_ladd hx hb hd0 ?_
  rw [zl_add hv hw, ← hp]
  exact hK _ _ _ _ ⟨al, ag, zrs_cons (zrv_L (zw6_in _)) hr, aP, aM, aS⟩
theorem zc_lmul (hx : p.tables.exec = Jvm.exec) (hb : c.code = zby mi) (hml : c.maxLocals = zml mi) (hown : s.vm.findClass (zy mi).cls = some m.cls) (hts : ∀ w ∈ zTs, w.before args s = true) (hB : zBk b0 D ca adK adV bS L xs s) (hR : zfr mi ≤ R.frames ∧ zlo mi ≤ R.locals ∧ cells ≤ R.cells ∧ slots ≤ R.slots) {k pc a : Nat} {cs : List (Int × Nat)} (hd : zdk (zby mi) pc (.lmul) = true) (hf : zfall C k pc (.lmul) = true) (h1 : zchk1 mi C pc (.lmul) a cs = true) (h2 : zOK2 (zy mi).cls (.lmul) a cs) {ls st : List mzV} {μ : mzM} {H : Heap} {locs : List Loc} {la : Array Slot} {sa : List Value} (hA : zA b0 D ca adK adV bS L xs s mi ls st μ H locs la sa) : zgoal (W p l e R s m args below meth c H locs cells slots Q (F0 m pc la sa)) (zK p l e R s m args below meth c cells slots Q b0 D ca adK adV bS L xs mi C) (zKC p l e R s m args below meth c cells slots Q b0 D ca adK adV bS L xs mi C) (zKE p l e R s m args below meth c cells slots Q b0 D ca adK adV bS L xs mi) (zstep (.lmul) a cs k ls st μ) := by
  have hd0 : decode (zby mi) pc = .ok (.lmul, 1) := (zdk_p hd).resolve_left (by rintro ⟨_, _, _, _, h⟩; cases h)
  have hp : zpcs C (k + 1) = pc + 1 := zfl_p hf
  obtain ⟨al, ag, as, aP, aM, aS⟩ := hA
  refine zl2_ok as (fun v w r ra hsa hv hw hr => ?_)
  subst hsa
  intro hK
  refine lv_lmul hx hb hd0 ?_
  rw [zl_mul hv hw, ← hp]
  exact hK _ _ _ _ ⟨al, ag, zrs_cons (zrv_L (zw6_in _)) hr, aP, aM, aS⟩
theorem zc_lcmp (hx : p.tables.exec = Jvm.exec) (hb : c.code = zby mi) (hml : c.maxLocals = zml mi) (hown : s.vm.findClass (zy mi).cls = some m.cls) (hts : ∀ w ∈ zTs, w.before args s = true) (hB : zBk b0 D ca adK adV bS L xs s) (hR : zfr mi ≤ R.frames ∧ zlo mi ≤ R.locals ∧ cells ≤ R.cells ∧ slots ≤ R.slots) {k pc a : Nat} {cs : List (Int × Nat)} (hd : zdk (zby mi) pc (.lcmp) = true) (hf : zfall C k pc (.lcmp) = true) (h1 : zchk1 mi C pc (.lcmp) a cs = true) (h2 : zOK2 (zy mi).cls (.lcmp) a cs) {ls st : List mzV} {μ : mzM} {H : Heap} {locs : List Loc} {la : Array Slot} {sa : List Value} (hA : zA b0 D ca adK adV bS L xs s mi ls st μ H locs la sa) : zgoal (W p l e R s m args below meth c H locs cells slots Q (F0 m pc la sa)) (zK p l e R s m args below meth c cells slots Q b0 D ca adK adV bS L xs mi C) (zKC p l e R s m args below meth c cells slots Q b0 D ca adK adV bS L xs mi C) (zKE p l e R s m args below meth c cells slots Q b0 D ca adK adV bS L xs mi) (zstep (.lcmp) a cs k ls st μ) := by
  have hd0 : decode (zby mi) pc = .ok (.lcmp, 1) := (zdk_p hd).resolve_left (by rintro ⟨_, _, _, _, h⟩; cases h)
  have hp : zpcs C (k + 1) = pc + 1 := zfl_p hf
  obtain ⟨al, ag, as, aP, aM, aS⟩ := hA
  refine zl2_ok as (fun v w r ra hsa hv hw hr => ?_)
  subst hsa
  intro hK
  refine W.lcmp hx hb hd0 ?_
  rw [zl_cmp hv hw, ← hp]
  exact hK _ _ _ _ ⟨al, ag, zrs_cons (zrv_I (by unfold zcmp; constructor <;> split <;> (try split) <;> omega)) hr, aP, aM, aS⟩
theorem zc_i2l (hx : p.tables.exec = Jvm.exec) (hb : c.code = zby mi) (hml : c.maxLocals = zml mi) (hown : s.vm.findClass (zy mi).cls = some m.cls) (hts : ∀ w ∈ zTs, w.before args s = true) (hB : zBk b0 D ca adK adV bS L xs s) (hR : zfr mi ≤ R.frames ∧ zlo mi ≤ R.locals ∧ cells ≤ R.cells ∧ slots ≤ R.slots) {k pc a : Nat} {cs : List (Int × Nat)} (hd : zdk (zby mi) pc (.i2l) = true) (hf : zfall C k pc (.i2l) = true) (h1 : zchk1 mi C pc (.i2l) a cs = true) (h2 : zOK2 (zy mi).cls (.i2l) a cs) {ls st : List mzV} {μ : mzM} {H : Heap} {locs : List Loc} {la : Array Slot} {sa : List Value} (hA : zA b0 D ca adK adV bS L xs s mi ls st μ H locs la sa) : zgoal (W p l e R s m args below meth c H locs cells slots Q (F0 m pc la sa)) (zK p l e R s m args below meth c cells slots Q b0 D ca adK adV bS L xs mi C) (zKC p l e R s m args below meth c cells slots Q b0 D ca adK adV bS L xs mi C) (zKE p l e R s m args below meth c cells slots Q b0 D ca adK adV bS L xs mi) (zstep (.i2l) a cs k ls st μ) := by
  have hd0 : decode (zby mi) pc = .ok (.i2l, 1) := (zdk_p hd).resolve_left (by rintro ⟨_, _, _, _, h⟩; cases h)
  have hp : zpcs C (k + 1) = pc + 1 := zfl_p hf
  obtain ⟨al, ag, as, aP, aM, aS⟩ := hA
  refine zi1_ok as (fun v r ra hsa hv hr => ?_)
  subst hsa
  intro hK
  refine lv_i2l hx hb hd0 (zn_i2l hv) ?_
  rw [← hp]
  exact hK _ _ _ _ ⟨al, ag, zrs_cons (zrv_L (by have h3 := hv.1; have h4 := hv.2; constructor <;> omega)) hr, aP, aM, aS⟩
theorem zc_l2i (hx : p.tables.exec = Jvm.exec) (hb : c.code = zby mi) (hml : c.maxLocals = zml mi) (hown : s.vm.findClass (zy mi).cls = some m.cls) (hts : ∀ w ∈ zTs, w.before args s = true) (hB : zBk b0 D ca adK adV bS L xs s) (hR : zfr mi ≤ R.frames ∧ zlo mi ≤ R.locals ∧ cells ≤ R.cells ∧ slots ≤ R.slots) {k pc a : Nat} {cs : List (Int × Nat)} (hd : zdk (zby mi) pc (.l2i) = true) (hf : zfall C k pc (.l2i) = true) (h1 : zchk1 mi C pc (.l2i) a cs = true) (h2 : zOK2 (zy mi).cls (.l2i) a cs) {ls st : List mzV} {μ : mzM} {H : Heap} {locs : List Loc} {la : Array Slot} {sa : List Value} (hA : zA b0 D ca adK adV bS L xs s mi ls st μ H locs la sa) : zgoal (W p l e R s m args below meth c H locs cells slots Q (F0 m pc la sa)) (zK p l e R s m args below meth c cells slots Q b0 D ca adK adV bS L xs mi C) (zKC p l e R s m args below meth c cells slots Q b0 D ca adK adV bS L xs mi C) (zKE p l e R s m args below meth c cells slots Q b0 D ca adK adV bS L xs mi) (zstep (.l2i) a cs k ls st μ) := by
  have hd0 : decode (zby mi) pc = .ok (.l2i, 1) := (zdk_p hd).resolve_left (by rintro ⟨_, _, _, _, h⟩; cases h)
  have hp : zpcs C (k + 1) = pc + 1 := zfl_p hf
  obtain ⟨al, ag, as, aP, aM, aS⟩ := hA
  refine zl1_ok as (fun v r ra hsa hv hr => ?_)
  subst hsa
  intro hK
  refine lv_l2i hx hb hd0 (zn_l2i hv) ?_
  rw [← hp]
  exact hK _ _ _ _ ⟨al, ag, zrs_cons (zrv_I (zw_in _)) hr, aP, aM, aS⟩
theorem zc_i2c (hx : p.tables.exec = Jvm.exec) (hb : c.code = zby mi) (hml : c.maxLocals = zml mi) (hown : s.vm.findClass (zy mi).cls = some m.cls) (hts : ∀ w ∈ zTs, w.before args s = true) (hB : zBk b0 D ca adK adV bS L xs s) (hR : zfr mi ≤ R.frames ∧ zlo mi ≤ R.locals ∧ cells ≤ R.cells ∧ slots ≤ R.slots) {k pc a : Nat} {cs : List (Int × Nat)} (hd : zdk (zby mi) pc (.i2c) = true) (hf : zfall C k pc (.i2c) = true) (h1 : zchk1 mi C pc (.i2c) a cs = true) (h2 : zOK2 (zy mi).cls (.i2c) a cs) {ls st : List mzV} {μ : mzM} {H : Heap} {locs : List Loc} {la : Array Slot} {sa : List Value} (hA : zA b0 D ca adK adV bS L xs s mi ls st μ H locs la sa) : zgoal (W p l e R s m args below meth c H locs cells slots Q (F0 m pc la sa)) (zK p l e R s m args below meth c cells slots Q b0 D ca adK adV bS L xs mi C) (zKC p l e R s m args below meth c cells slots Q b0 D ca adK adV bS L xs mi C) (zKE p l e R s m args below meth c cells slots Q b0 D ca adK adV bS L xs mi) (zstep (.i2c) a cs k ls st μ) := by
  have hd0 : decode (zby mi) pc = .ok (.i2c, 1) := (zdk_p hd).resolve_left (by rintro ⟨_, _, _, _, h⟩; cases h)
  have hp : zpcs C (k + 1) = pc + 1 := zfl_p hf
  obtain ⟨al, ag, as, aP, aM, aS⟩ := hA
  refine zi1_ok as (fun v r ra hsa hv hr => ?_)
  subst hsa
  intro hK
  refine lv_i2c hx hb hd0 (zn_i2c hv) ?_
  rw [← hp]
  exact hK _ _ _ _ ⟨al, ag, zrs_cons (zrv_I (by constructor <;> omega)) hr, aP, aM, aS⟩
theorem zc_i2b (hx : p.tables.exec = Jvm.exec) (hb : c.code = zby mi) (hml : c.maxLocals = zml mi) (hown : s.vm.findClass (zy mi).cls = some m.cls) (hts : ∀ w ∈ zTs, w.before args s = true) (hB : zBk b0 D ca adK adV bS L xs s) (hR : zfr mi ≤ R.frames ∧ zlo mi ≤ R.locals ∧ cells ≤ R.cells ∧ slots ≤ R.slots) {k pc a : Nat} {cs : List (Int × Nat)} (hd : zdk (zby mi) pc (.i2b) = true) (hf : zfall C k pc (.i2b) = true) (h1 : zchk1 mi C pc (.i2b) a cs = true) (h2 : zOK2 (zy mi).cls (.i2b) a cs) {ls st : List mzV} {μ : mzM} {H : Heap} {locs : List Loc} {la : Array Slot} {sa : List Value} (hA : zA b0 D ca adK adV bS L xs s mi ls st μ H locs la sa) : zgoal (W p l e R s m args below meth c H locs cells slots Q (F0 m pc la sa)) (zK p l e R s m args below meth c cells slots Q b0 D ca adK adV bS L xs mi C) (zKC p l e R s m args below meth c cells slots Q b0 D ca adK adV bS L xs mi C) (zKE p l e R s m args below meth c cells slots Q b0 D ca adK adV bS L xs mi) (zstep (.i2b) a cs k ls st μ) := by
  have hd0 : decode (zby mi) pc = .ok (.i2b, 1) := (zdk_p hd).resolve_left (by rintro ⟨_, _, _, _, h⟩; cases h)
  have hp : zpcs C (k + 1) = pc + 1 := zfl_p hf
  obtain ⟨al, ag, as, aP, aM, aS⟩ := hA
  refine zi1_ok as (fun v r ra hsa hv hr => ?_)
  subst hsa
  intro hK
  refine lv_i2b hx hb hd0 (zn_i2b hv) ?_
  rw [← hp]
  exact hK _ _ _ _ ⟨al, ag, zrs_cons (zrv_I (zb_in _)) hr, aP, aM, aS⟩
theorem zc_goto (hx : p.tables.exec = Jvm.exec) (hb : c.code = zby mi) (hml : c.maxLocals = zml mi) (hown : s.vm.findClass (zy mi).cls = some m.cls) (hts : ∀ w ∈ zTs, w.before args s = true) (hB : zBk b0 D ca adK adV bS L xs s) (hR : zfr mi ≤ R.frames ∧ zlo mi ≤ R.locals ∧ cells ≤ R.cells ∧ slots ≤ R.slots) {v : Int} {k pc a : Nat} {cs : List (Int × Nat)} (hd : zdk (zby mi) pc (.goto v) = true) (hf : zfall C k pc (.goto v) = true) (h1 : zchk1 mi C pc (.goto v) a cs = true) (h2 : zOK2 (zy mi).cls (.goto v) a cs) {ls st : List mzV} {μ : mzM} {H : Heap} {locs : List Loc} {la : Array Slot} {sa : List Value} (hA : zA b0 D ca adK adV bS L xs s mi ls st μ H locs la sa) : zgoal (W p l e R s m args below meth c H locs cells slots Q (F0 m pc la sa)) (zK p l e R s m args below meth c cells slots Q b0 D ca adK adV bS L xs mi C) (zKC p l e R s m args below meth c cells slots Q b0 D ca adK adV bS L xs mi C) (zKE p l e R s m args below meth c cells slots Q b0 D ca adK adV bS L xs mi) (zstep (.goto v) a cs k ls st μ) := by
  have hd0 : decode (zby mi) pc = .ok (.goto v, 3) := (zdk_p hd).resolve_left (by rintro ⟨_, _, _, _, h⟩; cases h)
  obtain ⟨al, ag, as, aP, aM, aS⟩ := hA
  intro hK
  refine lv_goto hx hb hd0 (zgt_p h1) ?_
  exact hK _ _ _ _ ⟨al, ag, as, aP, aM, aS⟩
theorem zc_if_icmp (hx : p.tables.exec = Jvm.exec) (hb : c.code = zby mi) (hml : c.maxLocals = zml mi) (hown : s.vm.findClass (zy mi).cls = some m.cls) (hts : ∀ w ∈ zTs, w.before args s = true) (hB : zBk b0 D ca adK adV bS L xs s) (hR : zfr mi ≤ R.frames ∧ zlo mi ≤ R.locals ∧ cells ≤ R.cells ∧ slots ≤ R.slots) {v : Jvm.ClassFile.Cond} {w0 : Int} {k pc a : Nat} {cs : List (Int × Nat)} (hd : zdk (zby mi) pc (.if_icmp v w0) = true) (hf : zfall C k pc (.if_icmp v w0) = true) (h1 : zchk1 mi C pc (.if_icmp v w0) a cs = true) (h2 : zOK2 (zy mi).cls (.if_icmp v w0) a cs) {ls st : List mzV} {μ : mzM} {H : Heap} {locs : List Loc} {la : Array Slot} {sa : List Value} (hA : zA b0 D ca adK adV bS L xs s mi ls st μ H locs la sa) : zgoal (W p l e R s m args below meth c H locs cells slots Q (F0 m pc la sa)) (zK p l e R s m args below meth c cells slots Q b0 D ca adK adV bS L xs mi C) (zKC p l e R s m args below meth c cells slots Q b0 D ca adK adV bS L xs mi C) (zKE p l e R s m args below meth c cells slots Q b0 D ca adK adV bS L xs mi) (zstep (.if_icmp v w0) a cs k ls st μ) := by
  have hd0 : decode (zby mi) pc = .ok (.if_icmp v w0, 3) := (zdk_p hd).resolve_left (by rintro ⟨_, _, _, _, h⟩; cases h)
  have hp : zpcs C (k + 1) = pc + 3 := zfl_p hf
  obtain ⟨al, ag, as, aP, aM, aS⟩ := hA
  refine zi2_ok as (fun v1 v2 r ra hsa hv hw hr => ?_)
  subst hsa
  have hg : zK p l e R s m args below meth c cells slots Q b0 D ca adK adV bS L xs mi C (a, ls, r, μ) → W p l e R s m args below meth c H locs cells slots Q (F0 m (zpcs C a) la ra) := fun hK => hK _ _ _ _ ⟨al, ag, hr, aP, aM, aS⟩
  have hn : zK p l e R s m args below meth c cells slots Q b0 D ca adK adV bS L xs mi C (k + 1, ls, r, μ) → W p l e R s m args below meth c H locs cells slots Q (F0 m (pc + 3) la ra) := fun hK => by rw [← hp]; exact hK _ _ _ _ ⟨al, ag, hr, aP, aM, aS⟩
  cases v
  · intro hk1 hk2
    exact lv_icmp_eq hx hb hd0 (zgt_p h1) (fun h => hg (hk1 (by exact (zn_eq hv hw).mp h))) (fun h => hn (hk2 (by exact fun q => h ((zn_eq hv hw).mpr q))))
  · intro hk1 hk2
    exact lv_icmp_ne hx hb hd0 (zgt_p h1) (fun h => hg (hk2 (by exact fun q => h ((zn_eq hv hw).mpr q)))) (fun h => hn (hk1 (by exact (zn_eq hv hw).mp h)))
  · intro hk1 hk2
    exact lv_icmp_lt hx hb hd0 (zgt_p h1) (fun h => hg (hk1 (by exact (zn_lt hv hw).mp h))) (fun h => hn (hk2 (by exact fun q => h ((zn_lt hv hw).mpr q))))
  · intro hk1 hk2
    exact lv_icmp_ge hx hb hd0 (zgt_p h1) (fun h => hg (hk2 (by have h5 := (zn_le hw hv).mp h; exact fun q => by omega))) (fun h => hn (hk1 (by exact Int.not_le.mp fun q => h ((zn_le hw hv).mpr q))))
  · intro hk1 hk2
    exact lv_icmp_gt hx hb hd0 (zgt_p h1) (fun h => hg (hk1 (by exact (zn_lt hw hv).mp h))) (fun h => hn (hk2 (by exact fun q => h ((zn_lt hw hv).mpr q))))
  · intro hk1 hk2
    exact lv_icmp_le hx hb hd0 (zgt_p h1) (fun h => hg (hk2 (by have h5 := (zn_le hv hw).mp h; exact fun q => by omega))) (fun h => hn (hk1 (by exact Int.not_le.mp fun q => h ((zn_le hv hw).mpr q))))
theorem zc_ifCond (hx : p.tables.exec = Jvm.exec) (hb : c.code = zby mi) (hml : c.maxLocals = zml mi) (hown : s.vm.findClass (zy mi).cls = some m.cls) (hts : ∀ w ∈ zTs, w.before args s = true) (hB : zBk b0 D ca adK adV bS L xs s) (hR : zfr mi ≤ R.frames ∧ zlo mi ≤ R.locals ∧ cells ≤ R.cells ∧ slots ≤ R.slots) {v : Jvm.ClassFile.Cond} {w0 : Int} {k pc a : Nat} {cs : List (Int × Nat)} (hd : zdk (zby mi) pc (.ifCond v w0) = true) (hf : zfall C k pc (.ifCond v w0) = true) (h1 : zchk1 mi C pc (.ifCond v w0) a cs = true) (h2 : zOK2 (zy mi).cls (.ifCond v w0) a cs) {ls st : List mzV} {μ : mzM} {H : Heap} {locs : List Loc} {la : Array Slot} {sa : List Value} (hA : zA b0 D ca adK adV bS L xs s mi ls st μ H locs la sa) : zgoal (W p l e R s m args below meth c H locs cells slots Q (F0 m pc la sa)) (zK p l e R s m args below meth c cells slots Q b0 D ca adK adV bS L xs mi C) (zKC p l e R s m args below meth c cells slots Q b0 D ca adK adV bS L xs mi C) (zKE p l e R s m args below meth c cells slots Q b0 D ca adK adV bS L xs mi) (zstep (.ifCond v w0) a cs k ls st μ) := by
  have hd0 : decode (zby mi) pc = .ok (.ifCond v w0, 3) := (zdk_p hd).resolve_left (by rintro ⟨_, _, _, _, h⟩; cases h)
  have hp : zpcs C (k + 1) = pc + 3 := zfl_p hf
  obtain ⟨al, ag, as, aP, aM, aS⟩ := hA
  refine zi1_ok as (fun v1 r ra hsa hv hr => ?_)
  subst hsa
  have hg : zK p l e R s m args below meth c cells slots Q b0 D ca adK adV bS L xs mi C (a, ls, r, μ) → W p l e R s m args below meth c H locs cells slots Q (F0 m (zpcs C a) la ra) := fun hK => hK _ _ _ _ ⟨al, ag, hr, aP, aM, aS⟩
  have hn : zK p l e R s m args below meth c cells slots Q b0 D ca adK adV bS L xs mi C (k + 1, ls, r, μ) → W p l e R s m args below meth c H locs cells slots Q (F0 m (pc + 3) la ra) := fun hK => by rw [← hp]; exact hK _ _ _ _ ⟨al, ag, hr, aP, aM, aS⟩
  cases v
  · intro hk1 hk2
    exact lv_if_eq hx hb hd0 (zgt_p h1) (fun h => hg (hk1 (by rw [show (0 : Int32) = Int32.ofInt 0 from rfl] at h; exact (zn_eq hv zin_z).mp h))) (fun h => hn (hk2 (by rw [show (0 : Int32) = Int32.ofInt 0 from rfl] at h; exact fun q => h ((zn_eq hv zin_z).mpr q))))
  · intro hk1 hk2
    exact lv_if_ne hx hb hd0 (zgt_p h1) (fun h => hg (hk2 (by rw [show (0 : Int32) = Int32.ofInt 0 from rfl] at h; exact fun q => h ((zn_eq hv zin_z).mpr q)))) (fun h => hn (hk1 (by rw [show (0 : Int32) = Int32.ofInt 0 from rfl] at h; exact (zn_eq hv zin_z).mp h)))
  · intro hk1 hk2
    exact lv_if_lt hx hb hd0 (zgt_p h1) (fun h => hg (hk1 (by rw [show (0 : Int32) = Int32.ofInt 0 from rfl] at h; exact (zn_lt hv zin_z).mp h))) (fun h => hn (hk2 (by rw [show (0 : Int32) = Int32.ofInt 0 from rfl] at h; exact fun q => h ((zn_lt hv zin_z).mpr q))))
  · intro hk1 hk2
    exact lv_if_ge hx hb hd0 (zgt_p h1) (fun h => hg (hk2 (by rw [show (0 : Int32) = Int32.ofInt 0 from rfl] at h; have h5 := (zn_le zin_z hv).mp h; exact fun q => by omega))) (fun h => hn (hk1 (by rw [show (0 : Int32) = Int32.ofInt 0 from rfl] at h; exact Int.not_le.mp fun q => h ((zn_le zin_z hv).mpr q))))
  · intro hk1 hk2
    exact lv_if_gt hx hb hd0 (zgt_p h1) (fun h => hg (hk1 (by rw [show (0 : Int32) = Int32.ofInt 0 from rfl] at h; exact (zn_lt zin_z hv).mp h))) (fun h => hn (hk2 (by rw [show (0 : Int32) = Int32.ofInt 0 from rfl] at h; exact fun q => h ((zn_lt zin_z hv).mpr q))))
  · intro hk1 hk2
    exact lv_if_le hx hb hd0 (zgt_p h1) (fun h => hg (hk2 (by rw [show (0 : Int32) = Int32.ofInt 0 from rfl] at h; have h5 := (zn_le hv zin_z).mp h; exact fun q => by omega))) (fun h => hn (hk1 (by rw [show (0 : Int32) = Int32.ofInt 0 from rfl] at h; exact Int.not_le.mp fun q => h ((zn_le hv zin_z).mpr q))))
theorem zc_dup (hx : p.tables.exec = Jvm.exec) (hb : c.code = zby mi) (hml : c.maxLocals = zml mi) (hown : s.vm.findClass (zy mi).cls = some m.cls) (hts : ∀ w ∈ zTs, w.before args s = true) (hB : zBk b0 D ca adK adV bS L xs s) (hR : zfr mi ≤ R.frames ∧ zlo mi ≤ R.locals ∧ cells ≤ R.cells ∧ slots ≤ R.slots) {k pc a : Nat} {cs : List (Int × Nat)} (hd : zdk (zby mi) pc (.dup) = true) (hf : zfall C k pc (.dup) = true) (h1 : zchk1 mi C pc (.dup) a cs = true) (h2 : zOK2 (zy mi).cls (.dup) a cs) {ls st : List mzV} {μ : mzM} {H : Heap} {locs : List Loc} {la : Array Slot} {sa : List Value} (hA : zA b0 D ca adK adV bS L xs s mi ls st μ H locs la sa) : zgoal (W p l e R s m args below meth c H locs cells slots Q (F0 m pc la sa)) (zK p l e R s m args below meth c cells slots Q b0 D ca adK adV bS L xs mi C) (zKC p l e R s m args below meth c cells slots Q b0 D ca adK adV bS L xs mi C) (zKE p l e R s m args below meth c cells slots Q b0 D ca adK adV bS L xs mi) (zstep (.dup) a cs k ls st μ) := by
  have hd0 : decode (zby mi) pc = .ok (.dup, 1) := (zdk_p hd).resolve_left (by rintro ⟨_, _, _, _, h⟩; cases h)
  have hp : zpcs C (k + 1) = pc + 1 := zfl_p hf
  obtain ⟨al, ag, as, aP, aM, aS⟩ := hA
  match st, as with
  | [], _ => trivial
  | none :: _, _ => trivial
  | some v :: r, as =>
    obtain ⟨v0, ra, rfl, hv, hr⟩ := zrs_un as
    have hc := zrv_cat hv
    rw [show zstep .dup a cs k ls (some v :: r) μ = (match zisL (some v) with | false => sN (k + 1, ls, some v :: some v :: r, μ) | true => none) from rfl]
    cases hz : zisL (some v) with
    | true => trivial
    | false =>
      rw [hz] at hc
      intro hK
      refine lv_dup hx hb hd0 hc ?_
      rw [← hp]
      exact hK _ _ _ _ ⟨al, ag, zrs_cons hv (zrs_cons hv hr), aP, aM, aS⟩
theorem zc_pop (hx : p.tables.exec = Jvm.exec) (hb : c.code = zby mi) (hml : c.maxLocals = zml mi) (hown : s.vm.findClass (zy mi).cls = some m.cls) (hts : ∀ w ∈ zTs, w.before args s = true) (hB : zBk b0 D ca adK adV bS L xs s) (hR : zfr mi ≤ R.frames ∧ zlo mi ≤ R.locals ∧ cells ≤ R.cells ∧ slots ≤ R.slots) {k pc a : Nat} {cs : List (Int × Nat)} (hd : zdk (zby mi) pc (.pop) = true) (hf : zfall C k pc (.pop) = true) (h1 : zchk1 mi C pc (.pop) a cs = true) (h2 : zOK2 (zy mi).cls (.pop) a cs) {ls st : List mzV} {μ : mzM} {H : Heap} {locs : List Loc} {la : Array Slot} {sa : List Value} (hA : zA b0 D ca adK adV bS L xs s mi ls st μ H locs la sa) : zgoal (W p l e R s m args below meth c H locs cells slots Q (F0 m pc la sa)) (zK p l e R s m args below meth c cells slots Q b0 D ca adK adV bS L xs mi C) (zKC p l e R s m args below meth c cells slots Q b0 D ca adK adV bS L xs mi C) (zKE p l e R s m args below meth c cells slots Q b0 D ca adK adV bS L xs mi) (zstep (.pop) a cs k ls st μ) := by
  have hd0 : decode (zby mi) pc = .ok (.pop, 1) := (zdk_p hd).resolve_left (by rintro ⟨_, _, _, _, h⟩; cases h)
  have hp : zpcs C (k + 1) = pc + 1 := zfl_p hf
  obtain ⟨al, ag, as, aP, aM, aS⟩ := hA
  match st, as with
  | [], _ => trivial
  | none :: _, _ => trivial
  | some v :: r, as =>
    obtain ⟨v0, ra, rfl, hv, hr⟩ := zrs_un as
    have hc := zrv_cat hv
    rw [show zstep .pop a cs k ls (some v :: r) μ = (match zisL (some v) with | false => sN (k + 1, ls, r, μ) | true => none) from rfl]
    cases hz : zisL (some v) with
    | true => trivial
    | false =>
      rw [hz] at hc
      intro hK
      refine lv_pop hx hb hd0 hc ?_
      rw [← hp]
      exact hK _ _ _ _ ⟨al, ag, hr, aP, aM, aS⟩
theorem zc_dup2 (hx : p.tables.exec = Jvm.exec) (hb : c.code = zby mi) (hml : c.maxLocals = zml mi) (hown : s.vm.findClass (zy mi).cls = some m.cls) (hts : ∀ w ∈ zTs, w.before args s = true) (hB : zBk b0 D ca adK adV bS L xs s) (hR : zfr mi ≤ R.frames ∧ zlo mi ≤ R.locals ∧ cells ≤ R.cells ∧ slots ≤ R.slots) {k pc a : Nat} {cs : List (Int × Nat)} (hd : zdk (zby mi) pc (.dup2) = true) (hf : zfall C k pc (.dup2) = true) (h1 : zchk1 mi C pc (.dup2) a cs = true) (h2 : zOK2 (zy mi).cls (.dup2) a cs) {ls st : List mzV} {μ : mzM} {H : Heap} {locs : List Loc} {la : Array Slot} {sa : List Value} (hA : zA b0 D ca adK adV bS L xs s mi ls st μ H locs la sa) : zgoal (W p l e R s m args below meth c H locs cells slots Q (F0 m pc la sa)) (zK p l e R s m args below meth c cells slots Q b0 D ca adK adV bS L xs mi C) (zKC p l e R s m args below meth c cells slots Q b0 D ca adK adV bS L xs mi C) (zKE p l e R s m args below meth c cells slots Q b0 D ca adK adV bS L xs mi) (zstep (.dup2) a cs k ls st μ) := by
  have hd0 : decode (zby mi) pc = .ok (.dup2, 1) := (zdk_p hd).resolve_left (by rintro ⟨_, _, _, _, h⟩; cases h)
  have hp : zpcs C (k + 1) = pc + 1 := zfl_p hf
  obtain ⟨al, ag, as, aP, aM, aS⟩ := hA
  match st, as with
  | [], _ => trivial
  | none :: _, _ => trivial
  | [some _], _ => trivial
  | some _ :: none :: _, _ => trivial
  | some v :: some w :: r, as =>
    obtain ⟨v0, r0, rfl, hv, h0⟩ := zrs_un as
    obtain ⟨w0, ra, rfl, hw, hr⟩ := zrs_un h0
    have hc := zrv_cat hv
    have hc2 := zrv_cat hw
    rw [show zstep .dup2 a cs k ls (some v :: some w :: r) μ = (match zisL (some v) || zisL (some w) with | false => sN (k + 1, ls, some v :: some w :: some v :: some w :: r, μ) | true => none) from rfl]
    cases hz : zisL (some v) with
    | true => trivial
    | false =>
      cases hz2 : zisL (some w) with
      | true => trivial
      | false =>
        rw [hz] at hc
        rw [hz2] at hc2
        intro hK
        refine lv_dup2_11 hx hb hd0 hc hc2 ?_
        rw [← hp]
        exact hK _ _ _ _ ⟨al, ag, zrs_cons hv (zrs_cons hw (zrs_cons hv (zrs_cons hw hr))), aP, aM, aS⟩
end Sim
