/-! ===== the state as a row of numbers, and what is said of it ===== -/
abbrev isz (w : Int) : Prop := w = 4 ∨ w = 8 ∨ w = 12
def WD (s : Int → Int) : Prop := isz (s 0) ∧ isz (s 1)
/-- a cell of a frame's image, or (below 0) of the canvas -/
def sv (s : Int → Int) (f c : Int) : Int := if f < 0 then s (6 + c) else s (150 + 144 * f + c)
abbrev spl (s : Int → Int) (x y : Int) : Int := y * s 0 + x
def sblocks (s : Int → Int) : Int := s 0 / 4 * (s 1 / 4)
def sleft (s : Int → Int) (b : Int) : Int := 4 * (b % (s 0 / 4))
def stop (s : Int → Int) (b : Int) : Int := 4 * (b / (s 0 / 4))
/-- a row's fold over n places from k on -/
def ifold {α : Type} (g : α → Int → α) : α → Int → Nat → α
  | a, _, 0 => a
  | a, k, n + 1 => ifold g (g a k) (k + 1) n
theorem ifold_congr {α : Type} {g g' : α → Int → α} : ∀ (n : Nat) (a : α) (k : Int), (∀ a j, k ≤ j → j < k + n → g a j = g' a j) → ifold g a k n = ifold g' a k n
  | 0, _, _, _ => rfl
  | n + 1, a, k, h => by
    unfold ifold
    rw [h a k (Int.le_refl k) (by omega)]
    exact ifold_congr n _ _ (fun a j h1 h2 => h a j (by omega) (by omega))
theorem ifold_inv {α : Type} {g : α → Int → α} {I : α → Int → Prop} : ∀ (n : Nat) (a : α) (k : Int), (∀ a j, k ≤ j → j < k + n → I a j → I (g a j) (j + 1)) → I a k → I (ifold g a k n) (k + n)
  | 0, a, k, _, h => by unfold ifold; simpa using h
  | n + 1, a, k, hs, h => by
    unfold ifold
    have := ifold_inv n (g a k) (k + 1) (fun a j h1 h2 => hs a j (by omega) (by omega)) (hs a k (Int.le_refl k) (by omega) h)
    rw [show k + ((n + 1 : Nat) : Int) = k + 1 + n by omega]
    exact this
theorem ifold_last {α : Type} {g : α → Int → α} : ∀ (n : Nat) (a : α) (k : Int), ifold g a k (n + 1) = g (ifold g a k n) (k + n)
  | 0, a, k => by simp [ifold]
  | n + 1, a, k => by
    have h := ifold_last (g := g) n (g a k) (k + 1)
    rw [show k + ((n + 1 : Nat) : Int) = k + 1 + n by omega]
    exact h
theorem iter_down {C : Int → Prop} {lo hi : Int} (step : ∀ k, lo ≤ k → k < hi → C (k + 1) → C k) (done : C hi) {k : Int} (h1 : lo ≤ k) (h2 : k ≤ hi) : C k := by
  have key : ∀ n : Nat, ∀ k, lo ≤ k → k + n = hi → C k := by
    intro n
    induction n with
    | zero => intro k _ h; rw [show k = hi by omega]; exact done
    | succ n ih => intro k h1 h; exact step k h1 (by omega) (ih (k + 1) (by omega) (by omega))
  exact key (hi - k).toNat k h1 (by omega)
/-- a loop that folds -/
theorem ifold_loop {α : Type} {g : α → Int → α} {C : α → Int → Prop} {I : α → Int → Prop} {lo hi : Int} (hI : ∀ a k, lo ≤ k → k < hi → I a k → I (g a k) (k + 1)) (step : ∀ a k, lo ≤ k → k < hi → I a k → C (g a k) (k + 1) → C a k) : ∀ (n : Nat) (a : α) (k : Int), lo ≤ k → k + n = hi → I a k → (I (ifold g a k n) hi → C (ifold g a k n) hi) → C a k
  | 0, a, k, _, h2, h3, h4 => by
    have e : k = hi := by omega
    subst e
    exact h4 h3
  | n + 1, a, k, h1, h2, h3, h4 => step a k h1 (by omega) h3 (ifold_loop hI step n (g a k) (k + 1) (by omega) (by omega) (hI a k h1 (by omega) h3) h4)
/-- sums and counts -/
def isum (g : Int → Int) (k : Int) (n : Nat) : Int := ifold (fun a j => a + g j) 0 k n
theorem ifold_add {g : Int → Int} : ∀ (n : Nat) (a k : Int), ifold (fun a j => a + g j) a k n = a + isum g k n
  | 0, a, k => by simp [isum, ifold]
  | n + 1, a, k => by
    unfold isum ifold
    rw [ifold_add n (a + g k) (k + 1), ifold_add n (0 + g k) (k + 1)]
    omega
theorem isum_zero (g : Int → Int) (k : Int) : isum g k 0 = 0 := rfl
theorem isum_succ (g : Int → Int) (k : Int) (n : Nat) : isum g k (n + 1) = g k + isum g (k + 1) n := by
  show ifold _ (0 + g k) (k + 1) n = _
  rw [ifold_add]
  omega
theorem isum_last (g : Int → Int) (k : Int) (n : Nat) : isum g k (n + 1) = isum g k n + g (k + n) := ifold_last n 0 k
theorem isum_congr {g g' : Int → Int} (n : Nat) (k : Int) (h : ∀ j, k ≤ j → j < k + n → g j = g' j) : isum g k n = isum g' k n := ifold_congr n 0 k (fun a j h1 h2 => by rw [h j h1 h2])
theorem isum_bound {g : Int → Int} {lo hi : Int} : ∀ (n : Nat) (k : Int), (∀ j, k ≤ j → j < k + n → lo ≤ g j ∧ g j ≤ hi) → lo * n ≤ isum g k n ∧ isum g k n ≤ hi * n
  | 0, k, _ => by simp [isum_zero]
  | n + 1, k, h => by
    have h1 := isum_bound n (k + 1) (fun j a b => h j (by omega) (by omega))
    have h2 := h k (Int.le_refl k) (by omega)
    rw [isum_succ]
    have e1 : lo * ((n + 1 : Nat) : Int) = lo * n + lo := by rw [Int.natCast_succ, Int.mul_add, Int.mul_one]
    have e2 : hi * ((n + 1 : Nat) : Int) = hi * n + hi := by rw [Int.natCast_succ, Int.mul_add, Int.mul_one]
    omega
/-! ===== answers ===== -/
theorem zlf {K : Int → mzM → Prop} {v w : Int} {μ : mzM} (h : K v μ) (e : w = v) : ∃ a, some (vI w) = some (vI a) ∧ K a μ := ⟨w, rfl, e ▸ h⟩
theorem zlr {t : Nat} {K : Int → mzM → Prop} {v w : Int} {μ : mzM} (h : K v μ) (e : w = v) : ∃ a, some (vR t w) = some (vR t a) ∧ K a μ := ⟨w, rfl, e ▸ h⟩
theorem zI_mono {f : Nat} {as : List mzV} {μ : mzM} {K K' : Int → mzM → Prop} (h : ZI f as μ K) (hk : ∀ v ν, K v ν → K' v ν) : ZI f as μ K' := mW_mono zcd zml h (fun r ν q => by obtain ⟨a, e, q⟩ := q; exact ⟨a, e, hk _ _ q⟩)
theorem zV_mono {f : Nat} {as : List mzV} {μ : mzM} {K K' : mzM → Prop} (h : ZV f as μ K) (hk : ∀ ν, K ν → K' ν) : ZV f as μ K' := mW_mono zcd zml h (fun r ν q => ⟨q.1, hk _ q.2⟩)
theorem ztd {a : Int} (b : Int) (h : 0 ≤ a) : a.tdiv b = a / b := Int.tdiv_eq_ediv_of_nonneg h
theorem ztm {a : Int} (b : Int) (h : 0 ≤ a) : a.tmod b = a % b := Int.tmod_eq_emod_of_nonneg h
theorem zin_sm {a : Int} (h : -1000000 ≤ a ∧ a ≤ 1000000) : zin a := ⟨by omega, by omega⟩
/-! ===== the JDK's methods ===== -/
theorem s_max {μ : mzM} {K : Int → mzM → Prop} {x y : Int} (h : K (if x < y then y else x) μ) : ZI f_J9_max_7cf53 [vI x, vI y] μ K := by
  refine vc_J9_max_7cf53_0 ?_
  split
  · next q => rw [if_pos q] at h; exact zlf h rfl
  · next q => rw [if_neg q] at h; exact zlf h rfl
theorem s_min {μ : mzM} {K : Int → mzM → Prop} {x y : Int} (h : K (if y < x then y else x) μ) : ZI f_J9_min_7cf53 [vI x, vI y] μ K := by
  refine vc_J9_min_7cf53_0 ?_
  split
  · next q => rw [if_pos q] at h; exact zlf h rfl
  · next q => rw [if_neg q] at h; exact zlf h rfl
theorem s_abs {μ : mzM} {K : Int → mzM → Prop} {x : Int} (hx : -1000000 ≤ x ∧ x ≤ 1000000) (h : K (if x < 0 then -x else x) μ) : ZI f_J9_abs_0f7a4 [vI x] μ K := by
  refine vc_J9_abs_0f7a4_0 ?_
  split
  · next q => rw [if_pos q] at h; exact zlf h (by unfold zw; omega)
  · next q => rw [if_neg q] at h; exact zlf h rfl
