/-! ===== what a value, the locals, the stack, the heap are to the small machine ===== -/
def zarr (ca : Nat → ClassId) : List (ClassId × FieldType) := [(ca 0, .int), (ca 1, .char), (ca 2, .int), (ca 3, .object "FrameDeltas$State"), (ca 4, .object "FrameDeltas$Frame")]
def zrv (b0 : Nat) (adK adV : Nat → Nat) (bS : Nat) (w : mzV) (v : Value) : Prop := match w with
  | none => False
  | some (.inl n) => zin n ∧ v = .int (Int32.ofInt n)
  | some (.inr (.inl n)) => zin6 n ∧ v = .long (Int64.ofInt n)
  | some (.inr (.inr (t, i))) => (t = 99 ∧ v = .null) ∨ (t = 32 ∧ i = 0 ∧ v = .ref bS) ∨ (0 ≤ i ∧ i.toNat < zcnt t ∧ v = .ref (b0 + zpos t i.toNat))
def zrs (b0 : Nat) (adK adV : Nat → Nat) (bS : Nat) (st : List mzV) (sa : List Value) : Prop := st.length = sa.length ∧ ∀ (i : Nat) (w : mzV) (v : Value), st[i]? = some w → sa[i]? = some v → zrv b0 adK adV bS w v
def zrl (b0 : Nat) (adK adV : Nat → Nat) (bS : Nat) (ls : List mzV) (la : Array Slot) : Prop := la.size = ls.length ∧ lv_wf la ∧ ∀ (i : Nat) (w : Int ⊕ (Int ⊕ (Nat × Int))), ls[i]? = some (some w) → ∃ v, zrv b0 adK adV bS (some w) v ∧ la[i]? = some (.val v)
def zlgo (mi : Nat) (ls : List mzV) : Prop := ls.length = zml mi ∧ ∀ (i : Nat) (n : Int), ls[i]? = some (some (.inr (.inl n))) → zlg mi i = true
/-- the numbers of a memory, and the script in it -/
def zM (L : Nat) (xs : Nat → Int32) (μ : mzM) : Prop := (∀ t i k, t ≠ 33 → zin (μ t i k)) ∧ (∀ i k, zin6 (μ 33 i k)) ∧ μ 33 0 1 = (L : Int) ∧ ∀ j : Nat, j < L → μ 32 0 (j : Int) = (xs j).toInt
/-- what stays as it is, at a state: the classes, the texts, the script, the statics, the nest mates' words -/
def zBk (b0 : Nat) (D : va_G) (ca : Nat → ClassId) (adK adV : Nat → Nat) (bS L : Nat) (xs : Nat → Int32) (U : State) : Prop :=
  va_K D zcl (zarr ca) U ∧ va_X bS L xs U U.heap ∧ (bS < b0 ∧ b0 ≤ U.heap.size ∧ L < 2 ^ 31) ∧ ∀ w ∈ zNs, va_Nw w U
def zB (b0 : Nat) (D : va_G) (ca : Nat → ClassId) (adK adV : Nat → Nat) (bS L : Nat) (xs : Nat → Int32) (μ : mzM) (U : State) : Prop := zBk b0 D ca adK adV bS L xs U ∧ va_P D zcl (zws b0 ca μ) U.heap ∧ zM L xs μ
def zrO (b0 : Nat) (adK adV : Nat → Nat) (bS : Nat) (r : Option mzV) (v : Option Value) : Prop := match r, v with
  | none, none => True
  | some w, some v => zrv b0 adK adV bS w v
  | _, _ => False
def zQc (b0 : Nat) (D : va_G) (ca : Nat → ClassId) (adK adV : Nat → Nat) (bS L : Nat) (xs : Nat → Int32) (r : Option mzV) (ν : mzM) : Array Value → State → Outcome → State → Prop := fun _ st o t =>
  (∃ v : Option Value, o = .returned v ∧ zrO b0 adK adV bS r v) ∧ va_P D zcl (zws b0 ca ν) t.heap ∧ zM L xs ν ∧ va_F (fun q => b0 ≤ q) st t
def zwf (f : Nat) : List Cond := .code (zy f) (zby f) (zml f) (zrt f) :: zTs
def zrm (f : Nat) : Room := { frames := zfr f, cells := 0, slots := 0, locals := zlo f }
/-- the contract of method f on these arguments and this memory -/
def zMet (l : Launch) (b0 : Nat) (D : va_G) (ca : Nat → ClassId) (adK adV : Nat → Nat) (bS L : Nat) (xs : Nat → Int32) (f : Nat) (as : List mzV) (μ : mzM) (r : Option mzV) (ν : mzM) : Prop :=
  ∀ av : List Value, zrs b0 adK adV bS as av → Met l (zy f) (zwf f) (zrm f) (va_Pc av (zB b0 D ca adK adV bS L xs μ)) (zQc b0 D ca adK adV bS L xs r ν) 0 0 (fun q => b0 ≤ q)
section Rel
variable {b0 : Nat} {D : va_G} {ca : Nat → ClassId} {adK adV : Nat → Nat} {bS L : Nat} {xs : Nat → Int32}
theorem zrs_nil : zrs b0 adK adV bS [] [] := ⟨rfl, fun i w v h _ => by simp at h⟩
theorem zrs_cons {w : mzV} {v : Value} {st : List mzV} {sa : List Value} (h : zrv b0 adK adV bS w v) (hs : zrs b0 adK adV bS st sa) : zrs b0 adK adV bS (w :: st) (v :: sa) := by
  refine ⟨by simp [hs.1], fun i w' v' h1 h2 => ?_⟩
  cases i with
  | zero => simp at h1 h2; rw [← h1, ← h2]; exact h
  | succ i => simp at h1 h2; exact hs.2 i w' v' h1 h2
theorem zrs_un {w : mzV} {st : List mzV} {sa : List Value} (h : zrs b0 adK adV bS (w :: st) sa) : ∃ v ra, sa = v :: ra ∧ zrv b0 adK adV bS w v ∧ zrs b0 adK adV bS st ra := by
  cases sa with
  | nil => have := h.1; simp at this
  | cons v ra => exact ⟨v, ra, rfl, h.2 0 w v rfl rfl, by have := h.1; simpa using this, fun i w' v' h1 h2 => h.2 (i + 1) w' v' (by simpa using h1) (by simpa using h2)⟩
theorem zrs_unI {n : Int} {st : List mzV} {sa : List Value} (h : zrs b0 adK adV bS (some (.inl n) :: st) sa) : ∃ ra, sa = .int (Int32.ofInt n) :: ra ∧ zin n ∧ zrs b0 adK adV bS st ra := by
  obtain ⟨v, ra, h1, h2, h3⟩ := zrs_un h
  exact ⟨ra, by rw [h1, h2.2], h2.1, h3⟩
theorem zrs_unL {n : Int} {st : List mzV} {sa : List Value} (h : zrs b0 adK adV bS (some (.inr (.inl n)) :: st) sa) : ∃ ra, sa = .long (Int64.ofInt n) :: ra ∧ zin6 n ∧ zrs b0 adK adV bS st ra := by
  obtain ⟨v, ra, h1, h2, h3⟩ := zrs_un h
  exact ⟨ra, by rw [h1, h2.2], h2.1, h3⟩
theorem zrv_I {n : Int} (h : zin n) : zrv b0 adK adV bS (vI n) (.int (Int32.ofInt n)) := ⟨h, rfl⟩
theorem zrv_L {n : Int} (h : zin6 n) : zrv b0 adK adV bS (vL n) (.long (Int64.ofInt n)) := ⟨h, rfl⟩
theorem zrv_R {t : Nat} {i : Int} (h0 : 0 ≤ i) (h : i.toNat < zcnt t) : zrv b0 adK adV bS (vR t i) (.ref (b0 + zpos t i.toNat)) := Or.inr (Or.inr ⟨h0, h, rfl⟩)
theorem zcnt_hi {t : Nat} (h : 30 ≤ t) : zcnt t = 0 := by
  obtain ⟨k, rfl⟩ := Nat.exists_eq_add_of_le h
  rw [Nat.add_comm]
  rfl
/-- a place of the heap's own kinds -/
theorem zrv_unR {t : Nat} {i : Int} {v : Value} (h : zrv b0 adK adV bS (some (.inr (.inr (t, i)))) v) (ht : t < 30) : 0 ≤ i ∧ i.toNat < zcnt t ∧ v = .ref (b0 + zpos t i.toNat) := by
  rcases h with h | h | h
  · omega
  · omega
  · exact h
theorem zrv_un32 {i : Int} {v : Value} (h : zrv b0 adK adV bS (some (.inr (.inr (32, i)))) v) : i = 0 ∧ v = .ref bS := by
  rcases h with h | h | h
  · omega
  · exact h.2
  · exact absurd h.2.1 (by rw [zcnt_hi (by omega)]; omega)
/-- null, or a reference -/
theorem zrv_ref {t : Nat} {i : Int} {v : Value} (h : zrv b0 adK adV bS (some (.inr (.inr (t, i)))) v) : v = .null ∨ ∃ a, v = .ref a := by
  rcases h with h | h | h
  · exact Or.inl h.2
  · exact Or.inr ⟨_, h.2.2⟩
  · exact Or.inr ⟨_, h.2.2⟩
theorem zrv_null {t : Nat} {i : Int} {v : Value} (h : zrv b0 adK adV bS (some (.inr (.inr (t, i)))) v) (h1 : t = 99) : v = .null := by
  subst h1
  rcases h with h | h | h
  · exact h.2
  · omega
  · exact absurd h.2.1 (by rw [zcnt_hi (by omega)]; omega)
theorem zrv_nn {t : Nat} {i : Int} {v : Value} (h : zrv b0 adK adV bS (some (.inr (.inr (t, i)))) v) (h1 : t ≠ 99) (h2 : t ≠ 98) : ∃ a, v = .ref a := by
  rcases h with h | h | h
  · exact absurd h.1 h1
  · exact ⟨_, h.2.2⟩
  · exact ⟨_, h.2.2⟩
theorem zrv_cat {w : mzV} {v : Value} (h : zrv b0 adK adV bS w v) : v.category = (match zisL w with | true => 2 | false => 1) := by
  rcases w with _ | n | n | ⟨t, i⟩
  · exact absurd h id
  · rw [h.2]; rfl
  · rw [h.2]; rfl
  · rcases zrv_ref h with h | ⟨a, h⟩ <;> rw [h] <;> rfl
theorem zrs_words : ∀ {st : List mzV} {sa : List Value}, zrs b0 adK adV bS st sa → (sa.map fun v => v.category).sum = zwords st
  | [], sa, h => by
    have h0 : sa = [] := by have := h.1; cases sa with | nil => rfl | cons _ _ => simp at this
    subst h0
    rfl
  | w :: st, sa, h => by
    obtain ⟨v, ra, rfl, h1, h2⟩ := zrs_un h
    simp only [List.map_cons, List.sum_cons, zwords]
    rw [zrs_words h2, zrv_cat h1]
    cases zisL w <;> rfl
theorem zrs_take {st : List mzV} {sa : List Value} (n : Nat) (h : zrs b0 adK adV bS st sa) : zrs b0 adK adV bS (st.take n) (sa.take n) := by
  refine ⟨by simp [h.1], fun i w v h1 h2 => ?_⟩
  rw [List.getElem?_take] at h1 h2
  split at h1
  · next hi => rw [if_pos hi] at h2; exact h.2 i w v h1 h2
  · cases h1
theorem zrs_drop {st : List mzV} {sa : List Value} (n : Nat) (h : zrs b0 adK adV bS st sa) : zrs b0 adK adV bS (st.drop n) (sa.drop n) := by
  refine ⟨by simp [h.1], fun i w v h1 h2 => ?_⟩
  rw [List.getElem?_drop] at h1 h2
  exact h.2 _ w v h1 h2
theorem zrs_rev {st : List mzV} {sa : List Value} (h : zrs b0 adK adV bS st sa) : zrs b0 adK adV bS st.reverse sa.reverse := by
  refine ⟨by simp [h.1], fun i w v h1 h2 => ?_⟩
  have hi : i < st.length := by have := (List.getElem?_eq_some_iff.mp h1).1; simpa using this
  rw [List.getElem?_reverse hi] at h1
  rw [List.getElem?_reverse (by rw [← h.1]; exact hi)] at h2
  rw [← h.1] at h2
  exact h.2 _ w v h1 h2
theorem zrs_push {r : Option mzV} {v : Option Value} {st : List mzV} {sa : List Value} (h : zrO b0 adK adV bS r v) (hs : zrs b0 adK adV bS st sa) : zrs b0 adK adV bS (zpush r st) (v.toList ++ sa) := by
  cases r with
  | none => cases v with
    | none => exact hs
    | some v => exact absurd h id
  | some w => cases v with
    | none => exact absurd h id
    | some v => exact zrs_cons h hs
/-- the listed values of some locals -/
def zlv (la : Array Slot) : List (Nat × Value) := (List.range la.size).filterMap fun i => match la[i]? with | some (Slot.val v) => some (i, v) | _ => none
theorem zlv_mem {la : Array Slot} {i : Nat} {v : Value} : (i, v) ∈ zlv la ↔ la[i]? = some (.val v) := by
  unfold zlv
  rw [List.mem_filterMap]
  constructor
  · rintro ⟨j, -, h⟩
    split at h
    · next v' hv => cases h; exact hv
    · cases h
  · intro h
    refine ⟨i, List.mem_range.mpr (Array.getElem?_eq_some_iff.mp h).1, ?_⟩
    rw [h]
theorem zlv_has {la : Array Slot} (h : lv_wf la) : lv_has la la.size (zlv la) := ⟨rfl, h, fun q hq => zlv_mem.mp hq⟩
/-- a store of one word into a local -/
theorem zrl_set {mi : Nat} {ls : List mzV} {la la' : Array Slot} {i : Nat} {v : Value} {w : Int ⊕ (Int ⊕ (Nat × Int))} (h : zrl b0 adK adV bS ls la) (hg : zlgo mi ls) (hi : zsto mi i = true) (hv : zrv b0 adK adV bS (some w) v) (hw : zisL (some w) = false)
    (h' : lv_has la' la.size ((i, v) :: (zlv la).filter (fun q => !(q.1 == i) && !(q.1 + 1 == i && q.2.category == 2)))) : zrl b0 adK adV bS (ls.set i (some w)) la' ∧ zlgo mi (ls.set i (some w)) := by
  have hil : i < ls.length := by
    rw [hg.1]
    unfold zsto at hi
    simp only [Bool.and_eq_true] at hi
    exact Nat.blt_eq.mp hi.1
  refine ⟨⟨by rw [List.length_set, ← h.1]; exact h'.1, h'.2.1, fun j x hj => ?_⟩, by rw [List.length_set]; exact hg.1, fun j n hj => ?_⟩
  · by_cases hji : j = i
    · subst hji
      rw [List.getElem?_set_self hil] at hj
      cases hj
      exact ⟨v, hv, h'.2.2 (j, v) List.mem_cons_self⟩
    · rw [List.getElem?_set_ne (Ne.symm hji)] at hj
      obtain ⟨u, hu, hl⟩ := h.2.2 j x hj
      refine ⟨u, hu, h'.2.2 (j, u) (List.mem_cons_of_mem _ (List.mem_filter.mpr ⟨zlv_mem.mpr hl, ?_⟩))⟩
      simp only [Bool.and_eq_true, Bool.not_eq_true', beq_eq_false_iff_ne, ne_eq, Bool.and_eq_false_iff]
      refine ⟨hji, ?_⟩
      by_cases hj1 : j + 1 = i
      · right
        intro hc
        rw [zrv_cat hu] at hc
        have hl2 : zisL (some x) = true := by
          cases hx : zisL (some x) with
          | true => rfl
          | false => rw [hx] at hc; exact absurd hc (by decide)
        rcases x with n | n | ⟨t, k⟩
        · cases hl2
        · have := hg.2 j n hj
          subst hj1
          unfold zsto at hi
          simp only [Bool.and_eq_true, Bool.not_eq_true'] at hi
          rw [this] at hi
          exact absurd hi.2 (by decide)
        · cases hl2
      · exact Or.inl hj1
  · by_cases hji : j = i
    · subst hji
      rw [List.getElem?_set_self hil] at hj
      cases hj
      cases hw
    · rw [List.getElem?_set_ne (Ne.symm hji)] at hj
      exact hg.2 j n hj
end Rel
