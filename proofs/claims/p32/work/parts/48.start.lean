/-! ===== the picture behind the constructors is the small machine's ===== -/
/-- the memory at the start -/
def mu0 (L : Nat) (xs : Nat → Int32) : mzM := fun t i k =>
  if t = 3 then (if k = 1 ∨ k = 2 then 8 else 0)
  else if t = 2 then (if k = 2 then -1 else 0)
  else if t = 1 then (if k = 4 then 2 else if k = 5 then 4 else 0)
  else if t = 33 then (if k = 1 then (L : Int) else 0)
  else if t = 32 then (if 0 ≤ k ∧ k.toNat < L then (xs k.toNat).toInt else 0)
  else 0
theorem zpos_fr : ∀ i : Nat, i < 78 → zpos 3 i = zpos 2 i + 1 ∧ zpos 4 i = zpos 2 i + 2 ∧ zpos 5 i = zpos 2 i + 3 := by decide +kernel
theorem zpos_im : ∀ i : Nat, i < 86 → zpos 4 i = zpos 3 i + 1 := by decide +kernel
theorem zsh_fr : ∀ i : Nat, i < 78 → zsh.getD (zpos 2 i) (0, 0) = (2, i) ∧ zsh.getD (zpos 2 i + 1) (0, 0) = (3, i) ∧ zsh.getD (zpos 2 i + 2) (0, 0) = (4, i) ∧ zsh.getD (zpos 2 i + 3) (0, 0) = (5, i) := by decide +kernel
/-- the cells of the picture from n on -/
def zseg (b0 : Nat) (ca : Nat → ClassId) (μ : mzM) (n : Nat) : Nat → List va_E
  | 0 => []
  | k + 1 => zcel b0 ca μ (zsh.getD n (0, 0)).1 (zsh.getD n (0, 0)).2 :: zseg b0 ca μ (n + 1) k
theorem zseg_s (b0 : Nat) (ca : Nat → ClassId) (μ : mzM) (n k : Nat) : zseg b0 ca μ n (k + 1) = zcel b0 ca μ (zsh.getD n (0, 0)).1 (zsh.getD n (0, 0)).2 :: zseg b0 ca μ (n + 1) k := rfl
theorem zseg_app (b0 : Nat) (ca : Nat → ClassId) (μ : mzM) : ∀ (k n m : Nat), zseg b0 ca μ n (k + m) = zseg b0 ca μ n k ++ zseg b0 ca μ (n + k) m
  | 0, n, m => by
    rw [Nat.zero_add, Nat.add_zero]
    rfl
  | k + 1, n, m => by
    rw [show k + 1 + m = (k + m) + 1 by omega, zseg_s, zseg_s, zseg_app b0 ca μ k (n + 1) m, show n + 1 + k = n + (k + 1) by omega, List.cons_append]
theorem zseg_at (b0 : Nat) (ca : Nat → ClassId) (μ : mzM) : ∀ (k n i : Nat), i < k → (zseg b0 ca μ n k)[i]? = some (zcel b0 ca μ (zsh.getD (n + i) (0, 0)).1 (zsh.getD (n + i) (0, 0)).2)
  | 0, _, _, h => absurd h (Nat.not_lt_zero _)
  | k + 1, n, i, h => by
    unfold zseg
    cases i with
    | zero => rfl
    | succ i =>
      rw [List.getElem?_cons_succ, zseg_at b0 ca μ k (n + 1) i (by omega), show n + 1 + i = n + (i + 1) by omega]
theorem zseg_len (b0 : Nat) (ca : Nat → ClassId) (μ : mzM) : ∀ (k n : Nat), (zseg b0 ca μ n k).length = k
  | 0, _ => rfl
  | k + 1, n => by
    unfold zseg
    rw [List.length_cons, zseg_len b0 ca μ k]
theorem zws_zaw (b0 : Nat) (ca : Nat → ClassId) (μ : mzM) : zws b0 ca μ = zaw b0 0 (zseg b0 ca μ 0 358) := by
  apply List.ext_getElem?
  intro i
  rw [zaw_at]
  rcases Nat.lt_or_ge i 358 with h | h
  · rw [zws_q b0 ca μ h, zseg_at b0 ca μ 358 0 i h, Nat.zero_add, Nat.add_zero]
    rfl
  · rw [List.getElem?_eq_none (by rw [zws_len]; exact h), List.getElem?_eq_none (by rw [zseg_len]; exact h)]
    rfl
section Blk
variable {b0 : Nat} {ca : Nat → ClassId} {L : Nat} {xs : Nat → Int32}
theorem blk_im (i n : Nat) (hi : i < 86) (h : zpos 3 i = n) : [zcel b0 ca (mu0 L xs) 3 i, zcel b0 ca (mu0 L xs) 4 i] = kX2_c ca b0 n := by
  have h4 := zpos_im i hi
  have e : zcel b0 ca (mu0 L xs) 3 i = .inr (3, [.ref (b0 + zpos 4 ((i : Int)).toNat), .int 8, .int 8]) := rfl
  rw [e, Int.toNat_natCast, h4, h]
  rfl
theorem blk_fr (i n : Nat) (hi : i < 78) (h : zpos 2 i = n) : [zcel b0 ca (mu0 L xs) 2 i, zcel b0 ca (mu0 L xs) 3 i, zcel b0 ca (mu0 L xs) 4 i, zcel b0 ca (mu0 L xs) 5 i] = kX1_c ca b0 n := by
  obtain ⟨h3, h4, h5⟩ := zpos_fr i hi
  have e2 : zcel b0 ca (mu0 L xs) 2 i = .inr (2, [.ref (b0 + zpos 3 ((i : Int)).toNat), .ref (b0 + zpos 5 ((i : Int)).toNat), .int (-1), .int 0, .int 0]) := rfl
  have e3 : zcel b0 ca (mu0 L xs) 3 i = .inr (3, [.ref (b0 + zpos 4 ((i : Int)).toNat), .int 8, .int 8]) := rfl
  rw [e2, e3, Int.toNat_natCast, h3, h4, h5, h]
  rfl
theorem seg_fr (i n : Nat) (hi : i < 78) (h : zpos 2 i = n) : zseg b0 ca (mu0 L xs) n 4 = kX1_c ca b0 n := by
  obtain ⟨g1, g2, g3, g4⟩ := zsh_fr i hi
  rw [h] at g1 g2 g3 g4
  rw [← blk_fr (b0 := b0) (ca := ca) (L := L) (xs := xs) i n hi h, zseg_s, zseg_s, zseg_s, zseg_s, g1, g2, show n + 1 + 1 = n + 2 by omega, g3, show n + 2 + 1 = n + 3 by omega, g4]
  rfl
end Blk
/-- two pictures that say the same place by place -/
theorem va_P_cg {b0 : Nat} {D : va_G} {H : Heap} {es es' : List va_E} (hP : va_P D zcl (zaw b0 0 es) H) (h : ∀ (i : Nat) (x' : va_E), es'[i]? = some x' → ∃ x, es[i]? = some x ∧ ∀ q, va_at D zcl (q, x) H → va_at D zcl (q, x') H) : va_P D zcl (zaw b0 0 es') H := by
  intro k q hq
  rw [zaw_at] at hq
  obtain ⟨x', hx, rfl⟩ := Option.map_eq_some_iff.mp hq
  obtain ⟨x, g1, g2⟩ := h k x' hx
  refine g2 _ (hP k (b0 + 0 + k, x) ?_)
  rw [zaw_at, g1]
  rfl
/-- an array of references that is full up to its length -/
theorem va_at_q {D : va_G} {H : Heap} {q N : Nat} {cA : ClassId} {f g : Nat → Option Nat} (h : ∀ j, j < N → f j = g j) (ha : va_at D zcl (q, .inl (cA, N, .inr (.inr (.inr (.inr f))))) H) : va_at D zcl (q, .inl (cA, N, .inr (.inr (.inr (.inr g))))) H := by
  have ha : H[q]? = some (vp_cell cA (N, .inr (.inr (.inr (.inr f))))) := ha
  show H[q]? = some (vp_cell cA (N, .inr (.inr (.inr (.inr g)))))
  rw [ha, vp_cell_q, vp_cell_q]
  congr 1
  unfold arrV
  congr 1
  apply Array.ext
  · simp
  · intro i h1 h2
    simp at h1
    simp [h i h1]
