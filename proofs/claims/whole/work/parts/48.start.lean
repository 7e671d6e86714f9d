/-! ===== the picture behind the constructors is the small machine's ===== -/
/-- the memory at the start -/
def mu0 (L : Nat) (xs : Nat → Int32) : mzM := fun t i k =>
  if t = 3 then (if k = 1 ∨ k = 2 then 8 else 0)
  else if t = 2 then (if k = 2 then -1 else 0)
  else if t = 1 then (if k = 4 then 2 else if k = 5 then 4 else 0)
  else if t = 21 then (if k = 0 ∨ k = 1 then 8 else if k = 3 then 2 else if k = 4 then 4 else 0)
  else if t = 33 then (if k = 1 then (L : Int) else 0)
  else if t = 32 then (if 0 ≤ k ∧ k.toNat < L then (xs k.toNat).toInt else 0)
  else 0
theorem zpos_fr : ∀ i : Nat, i < 78 → zpos 3 i = zpos 2 i + 1 ∧ zpos 4 i = zpos 2 i + 2 ∧ zpos 5 i = zpos 2 i + 3 := by decide +kernel
theorem zpos_im : ∀ i : Nat, i < 86 → zpos 4 i = zpos 3 i + 1 := by decide +kernel
theorem zsh_fr : ∀ i : Nat, i < 78 → zsh.getD (zpos 2 i) (0, 0) = (2, i) ∧ zsh.getD (zpos 2 i + 1) (0, 0) = (3, i) ∧ zsh.getD (zpos 2 i + 2) (0, 0) = (4, i) ∧ zsh.getD (zpos 2 i + 3) (0, 0) = (5, i) := by decide +kernel
/-- the cells of the picture from n on -/
def zseg (b0 : Nat) (ca : Nat → ClassId) (μ : mzM) (n : Nat) : Nat → List va_E
  | 0 => []
  | k + 1 => zcel b0 ca μ (zsh.getD n (0, 0)).1 (zsh.getD n (0, 0)).2 :: zseg b0 ca μ (n + 1) k
theorem zseg_s (b0 : Nat) (ca : Nat → ClassId) (μ : mzM) (n k : Nat) : zseg b0 ca μ n (k + 1) = zcel b0 ca μ (zsh.getD n (0, 0)).1 (zsh.getD n (0, 0)).2 :: zseg b0 ca μ (n + 1) k := rfl
theorem zseg_app (b0 : Nat) (ca : Nat → ClassId) (μ : mzM) : ∀ (k n m : Nat), zseg b0 ca μ n (k + m) = zseg b0 ca μ n k ++ zseg b0 ca μ (n + k) m
  | 0, n, m => by
    rw [Nat.zero_add, Nat.add_zero]
    rfl
  | k + 1, n, m => by
    rw [show k + 1 + m = (k + m) + 1 by omega, zseg_s, zseg_s, zseg_app b0 ca μ k (n + 1) m, show n + 1 + k = n + (k + 1) by omega, List.cons_append]
theorem zseg_at (b0 : Nat) (ca : Nat → ClassId) (μ : mzM) : ∀ (k n i : Nat), i < k → (zseg b0 ca μ n k)[i]? = some (zcel b0 ca μ (zsh.getD (n + i) (0, 0)).1 (zsh.getD (n + i) (0, 0)).2)
  | 0, _, _, h => absurd h (Nat.not_lt_zero _)
  | k + 1, n, i, h => by
    unfold zseg
    cases i with
    | zero => rfl
    | succ i =>
      rw [List.getElem?_cons_succ, zseg_at b0 ca μ k (n + 1) i (by omega), show n + 1 + i = n + (i + 1) by omega]
theorem zseg_len (b0 : Nat) (ca : Nat → ClassId) (μ : mzM) : ∀ (k n : Nat), (zseg b0 ca μ n k).length = k
  | 0, _ => rfl
  | k + 1, n => by
    unfold zseg
    rw [List.length_cons, zseg_len b0 ca μ k]
theorem zws_zaw (b0 : Nat) (ca : Nat → ClassId) (μ : mzM) : zws b0 ca μ = zaw b0 0 (zseg b0 ca μ 0 368) := by
  apply List.ext_getElem?
  intro i
  rw [zaw_at]
  rcases Nat.lt_or_ge i 368 with h | h
  · rw [zws_q b0 ca μ h, zseg_at b0 ca μ 368 0 i h, Nat.zero_add, Nat.add_zero]
    rfl
  · rw [List.getElem?_eq_none (by rw [zws_len]; exact h), List.getElem?_eq_none (by rw [zseg_len]; exact h)]
    rfl
