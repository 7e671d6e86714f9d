/-! ===== a world with an object under construction, what lies behind it, its array, the rest ===== -/
def kE (pre : List va_E) (o : va_E) (blk : List va_E) (q : va_E) (tl : List va_E) : List va_E := pre ++ (o :: (blk ++ (q :: tl)))
section Ke
variable {pre blk tl : List va_E} {o q : va_E}
theorem kE_app (zs : List va_E) : kE pre o blk q tl ++ zs = kE pre o blk q (tl ++ zs) := by
  unfold kE
  rw [List.append_assoc, List.cons_append, List.append_assoc, List.cons_append]
theorem kE_len : (kE pre o blk q tl).length = pre.length + (2 + blk.length) + tl.length := by
  unfold kE
  rw [List.length_append, List.length_cons, List.length_append, List.length_cons]
  omega
theorem kE_o : (kE pre o blk q tl)[pre.length + 0]? = some o := by
  unfold kE
  rw [pre_at]
  rfl
theorem kE_so (x : va_E) : (kE pre o blk q tl).set (pre.length + 0) x = kE pre x blk q tl := by
  unfold kE
  rw [pre_set]
  rfl
theorem kE_q : (kE pre o blk q tl)[pre.length + (blk.length + 1)]? = some q := by
  unfold kE
  rw [pre_at, List.getElem?_cons_succ, List.getElem?_append_right (Nat.le_refl _), Nat.sub_self]
  rfl
theorem kE_sq (x : va_E) : (kE pre o blk q tl).set (pre.length + (blk.length + 1)) x = kE pre o blk x tl := by
  unfold kE
  rw [pre_set, List.set_cons_succ, List.set_append_right _ _ (Nat.le_refl _), Nat.sub_self]
  rfl
theorem kE_at (i : Nat) : (kE pre o blk q tl)[pre.length + (2 + blk.length) + i]? = tl[i]? := by
  unfold kE
  rw [show pre.length + (2 + blk.length) + i = pre.length + ((blk.length + (i + 1)) + 1) by omega, pre_at, List.getElem?_cons_succ, List.getElem?_append_right (Nat.le_add_right _ _), Nat.add_sub_cancel_left, List.getElem?_cons_succ]
end Ke
/-- k blocks one behind the other, from a on, each of n cells -/
def kbl (g : Nat → List va_E) (a n : Nat) : Nat → List va_E
  | 0 => []
  | k + 1 => kbl g a n k ++ g (a + n * k)
theorem kbl_len {g : Nat → List va_E} {a n : Nat} (h : ∀ x, (g x).length = n) : ∀ k, (kbl g a n k).length = n * k
  | 0 => rfl
  | k + 1 => by
    unfold kbl
    rw [List.length_append, kbl_len h k, h, Nat.mul_succ]
/-- the references of an array that is filled up to k -/
def krf (b0 a n k : Nat) : Nat → Option Nat := fun j => if j < k then some (b0 + (a + n * j)) else none
theorem krf_0 (b0 a n : Nat) : krf b0 a n 0 = fun _ => none := by
  funext j
  unfold krf
  rw [if_neg (Nat.not_lt_zero j)]
theorem krf_s (b0 a n k : Nat) : va_up (krf b0 a n k) k (some (b0 + (a + n * k))) = krf b0 a n (k + 1) := by
  funext j
  unfold va_up krf
  by_cases h : j = k
  · subst h
    rw [if_pos (Nat.lt_succ_self j)]
    simp
  · by_cases h2 : j < k
    · rw [if_pos (show j < k + 1 by omega)]
      simp [h, h2]
    · rw [if_neg (show ¬ j < k + 1 by omega)]
      simp [h, h2]
theorem kint (k : Nat) (h : k < 100) : (Int32.ofNat k).toNatClampNeg = k ∧ ¬ Int32.ofNat k < 0 ∧ Int32.ofNat k + Int32.ofInt 1 = Int32.ofNat (k + 1) := by
  have key : ∀ k : Nat, k < 100 → (Int32.ofNat k).toNatClampNeg = k ∧ ¬ Int32.ofNat k < 0 ∧ Int32.ofNat k + Int32.ofInt 1 = Int32.ofNat (k + 1) := by decide +kernel
  exact key k h
theorem kint_le (k m : Nat) (h : k < 20) (h2 : m < 20) : Int32.ofNat m ≤ Int32.ofNat k ↔ m ≤ k := by
  have key : ∀ k : Nat, k < 20 → ∀ m : Nat, m < 20 → (Int32.ofNat m ≤ Int32.ofNat k ↔ m ≤ k) := by decide +kernel
  exact key k h m h2
