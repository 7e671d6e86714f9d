/-! ===== the model: its tokens ===== -/
theorem v4_5 {ν : mzM} {v : Int} : mup ν 20 0 5 v 20 0 4 = ν 20 0 4 := mup_k (by decide)
theorem v4_6 {ν : mzM} {v : Int} : mup ν 20 0 6 v 20 0 4 = ν 20 0 4 := mup_k (by decide)
theorem v4_7 {ν : mzM} {v : Int} : mup ν 20 0 7 v 20 0 4 = ν 20 0 4 := mup_k (by decide)
theorem v4_9 {ν : mzM} {v : Int} : mup ν 20 0 9 v 20 0 4 = ν 20 0 4 := mup_k (by decide)
theorem v4_10 {ν : mzM} {v : Int} : mup ν 20 0 10 v 20 0 4 = ν 20 0 4 := mup_k (by decide)
theorem v5_4 {ν : mzM} {v : Int} : mup ν 20 0 4 v 20 0 5 = ν 20 0 5 := mup_k (by decide)
theorem v5_6 {ν : mzM} {v : Int} : mup ν 20 0 6 v 20 0 5 = ν 20 0 5 := mup_k (by decide)
theorem v5_7 {ν : mzM} {v : Int} : mup ν 20 0 7 v 20 0 5 = ν 20 0 5 := mup_k (by decide)
theorem v5_9 {ν : mzM} {v : Int} : mup ν 20 0 9 v 20 0 5 = ν 20 0 5 := mup_k (by decide)
theorem v5_10 {ν : mzM} {v : Int} : mup ν 20 0 10 v 20 0 5 = ν 20 0 5 := mup_k (by decide)
theorem v6_4 {ν : mzM} {v : Int} : mup ν 20 0 4 v 20 0 6 = ν 20 0 6 := mup_k (by decide)
theorem v6_5 {ν : mzM} {v : Int} : mup ν 20 0 5 v 20 0 6 = ν 20 0 6 := mup_k (by decide)
theorem v6_7 {ν : mzM} {v : Int} : mup ν 20 0 7 v 20 0 6 = ν 20 0 6 := mup_k (by decide)
theorem v6_9 {ν : mzM} {v : Int} : mup ν 20 0 9 v 20 0 6 = ν 20 0 6 := mup_k (by decide)
theorem v6_10 {ν : mzM} {v : Int} : mup ν 20 0 10 v 20 0 6 = ν 20 0 6 := mup_k (by decide)
theorem v7_4 {ν : mzM} {v : Int} : mup ν 20 0 4 v 20 0 7 = ν 20 0 7 := mup_k (by decide)
theorem v7_5 {ν : mzM} {v : Int} : mup ν 20 0 5 v 20 0 7 = ν 20 0 7 := mup_k (by decide)
theorem v7_6 {ν : mzM} {v : Int} : mup ν 20 0 6 v 20 0 7 = ν 20 0 7 := mup_k (by decide)
theorem v7_9 {ν : mzM} {v : Int} : mup ν 20 0 9 v 20 0 7 = ν 20 0 7 := mup_k (by decide)
theorem v7_10 {ν : mzM} {v : Int} : mup ν 20 0 10 v 20 0 7 = ν 20 0 7 := mup_k (by decide)
theorem v9_4 {ν : mzM} {v : Int} : mup ν 20 0 4 v 20 0 9 = ν 20 0 9 := mup_k (by decide)
theorem v9_5 {ν : mzM} {v : Int} : mup ν 20 0 5 v 20 0 9 = ν 20 0 9 := mup_k (by decide)
theorem v9_6 {ν : mzM} {v : Int} : mup ν 20 0 6 v 20 0 9 = ν 20 0 9 := mup_k (by decide)
theorem v9_7 {ν : mzM} {v : Int} : mup ν 20 0 7 v 20 0 9 = ν 20 0 9 := mup_k (by decide)
theorem v9_10 {ν : mzM} {v : Int} : mup ν 20 0 10 v 20 0 9 = ν 20 0 9 := mup_k (by decide)
theorem v10_4 {ν : mzM} {v : Int} : mup ν 20 0 4 v 20 0 10 = ν 20 0 10 := mup_k (by decide)
theorem v10_5 {ν : mzM} {v : Int} : mup ν 20 0 5 v 20 0 10 = ν 20 0 10 := mup_k (by decide)
theorem v10_6 {ν : mzM} {v : Int} : mup ν 20 0 6 v 20 0 10 = ν 20 0 10 := mup_k (by decide)
theorem v10_7 {ν : mzM} {v : Int} : mup ν 20 0 7 v 20 0 10 = ν 20 0 10 := mup_k (by decide)
theorem v10_9 {ν : mzM} {v : Int} : mup ν 20 0 9 v 20 0 10 = ν 20 0 10 := mup_k (by decide)
theorem vt4 {ν : mzM} {v : Int} : mup ν 33 0 0 v 20 0 4 = ν 20 0 4 := mup_t (by decide)
theorem vn4 {ν : mzM} {v : Int} : mup ν 20 0 4 v 33 0 0 = ν 33 0 0 := mup_t (by decide)
theorem vt5 {ν : mzM} {v : Int} : mup ν 33 0 0 v 20 0 5 = ν 20 0 5 := mup_t (by decide)
theorem vn5 {ν : mzM} {v : Int} : mup ν 20 0 5 v 33 0 0 = ν 33 0 0 := mup_t (by decide)
theorem vt6 {ν : mzM} {v : Int} : mup ν 33 0 0 v 20 0 6 = ν 20 0 6 := mup_t (by decide)
theorem vn6 {ν : mzM} {v : Int} : mup ν 20 0 6 v 33 0 0 = ν 33 0 0 := mup_t (by decide)
theorem vt7 {ν : mzM} {v : Int} : mup ν 33 0 0 v 20 0 7 = ν 20 0 7 := mup_t (by decide)
theorem vn7 {ν : mzM} {v : Int} : mup ν 20 0 7 v 33 0 0 = ν 33 0 0 := mup_t (by decide)
theorem vt9 {ν : mzM} {v : Int} : mup ν 33 0 0 v 20 0 9 = ν 20 0 9 := mup_t (by decide)
theorem vn9 {ν : mzM} {v : Int} : mup ν 20 0 9 v 33 0 0 = ν 33 0 0 := mup_t (by decide)
theorem vt10 {ν : mzM} {v : Int} : mup ν 33 0 0 v 20 0 10 = ν 20 0 10 := mup_t (by decide)
theorem vn10 {ν : mzM} {v : Int} : mup ν 20 0 10 v 33 0 0 = ν 33 0 0 := mup_t (by decide)
theorem zbc_a : ∀ n : Nat, n < 256 → zand (zb (n : Int)) 255 = n ∧ zb (zb (n : Int)) = zb n ∧ (zb (n : Int) = 48 ↔ (n : Int) = 48) := by decide +kernel
theorem zbc {c : Int} (h0 : 0 ≤ c) (h1 : c ≤ 255) : zand (zb c) 255 = c ∧ zb (zb c) = zb c ∧ (zb c = 48 ↔ c = 48) := by
  have := zbc_a c.toNat (by omega)
  rw [show ((c.toNat : Nat) : Int) = c by omega] at this
  exact this
/-- the text of the model -/
def MT (μ : mzM) (T : Int → Int) (L : Int) : Prop := μ 20 0 4 = L ∧ (0 ≤ L ∧ L ≤ 160) ∧ ∀ k, 0 ≤ k → k < L → μ 23 0 k = zb (T k) ∧ 0 ≤ T k ∧ T k ≤ 255
abbrev Prt : Nat → Int → Int → Prop := fun t i k => (t = 20 ∧ i = 0 ∧ (k = 5 ∨ k = 6 ∨ k = 7 ∨ k = 9)) ∨ (t = 33 ∧ i = 0 ∧ k = 0)
abbrev Ptn : Nat → Int → Int → Prop := fun t i k => (t = 20 ∧ i = 0 ∧ (k = 5 ∨ k = 6 ∨ k = 7 ∨ k = 9 ∨ k = 10)) ∨ (t = 33 ∧ i = 0 ∧ k = 0)
/-- a word's number in the model -/
def hsh (T : Int → Int) (b : Int) : Nat → Int
  | 0 => 0
  | n + 1 => 27 * hsh T b n + (T (b + n) - 96)
def whash (T : Int → Int) (L b : Int) : Int := if te T L b - b ≤ 8 then hsh T b (te T L b - b).toNat else -1
/-- the kind of a token in the model -/
noncomputable def mkd (T : Int → Int) (L b : Int) : Int := if kd T L b = 0 then 0 else if kd T L b = 1 then 1 else cif (nok T L b) 2 (if kd T L b = 3 ∧ T b = 59 then 3 else 4)
def MTK (ν : mzM) (T : Int → Int) (L b : Int) : Prop := (ν 20 0 6 = b ∧ ν 20 0 5 = te T L b) ∧ (0 ≤ b ∧ b ≤ L) ∧ (ν 20 0 9 = if b < L ∧ T b = 45 then 1 else 0) ∧ ν 20 0 7 = mkd T L b ∧ (kd T L b = 1 → ν 33 0 0 = whash T L b) ∧ (nok T L b → ν 33 0 0 = nab T L b)
section Mtx
variable {μ : mzM} {T : Int → Int} {L : Int}
theorem MT_fr {P : Nat → Int → Int → Prop} {ν : mzM} (h : MT μ T L) (hF : fr P μ ν) (h1 : ¬ P 20 0 4) (h2 : ∀ k, ¬ P 23 0 k) : MT ν T L := ⟨(hF 20 0 4 h1).trans h.1, h.2.1, fun k k0 k1 => ⟨(hF 23 0 k (h2 k)).trans (h.2.2 k k0 k1).1, (h.2.2 k k0 k1).2⟩⟩
theorem m_here {p : Int} {K : Int → mzM → Prop} (hT : MT μ T L) (hp : μ 20 0 5 = p) (p0 : 0 ≤ p) (h : K (if p < L then T p else -1) μ) : ZI f_X8_here [vR 20 0] μ K := by
  refine vc_X8_here_0 ?_
  rw [hp, hT.1]
  have hL := hT.2.1
  split
  · next q =>
    rw [if_pos q] at h
    have ht := hT.2.2 p p0 q
    exact ⟨by omega, zlf h (by rw [ht.1]; exact (zbc ht.2.1 ht.2.2).1)⟩
  · next q => rw [if_neg q] at h; exact zlf h rfl
theorem hsh_s (T : Int → Int) (b : Int) (n : Nat) : hsh T b (n + 1) = 27 * hsh T b n + (T (b + n) - 96) := rfl
theorem pow27 : ∀ m : Nat, m < 9 → (27 : Int) ^ m ≤ 282429536481 := by decide
theorem hsh_b {b : Int} (n : Nat) (hn : n ≤ 8) (h : ∀ q, b ≤ q → q < b + n → 97 ≤ T q ∧ T q ≤ 122) : 0 ≤ hsh T b n ∧ hsh T b n ≤ 282429536480 := by
  have key : ∀ m : Nat, m ≤ 8 → (∀ q, b ≤ q → q < b + m → 97 ≤ T q ∧ T q ≤ 122) → 0 ≤ hsh T b m ∧ hsh T b m ≤ 27 ^ m - 1 := by
    intro m
    induction m with
    | zero => intro _ _; unfold hsh; decide
    | succ m ih =>
      intro hm h
      have i := ih (by omega) (fun q q0 q1 => h q q0 (by omega))
      have a := h (b + m) (by omega) (by omega)
      have e : (27 : Int) ^ (m + 1) = 27 ^ m * 27 := Int.pow_succ 27 m
      rw [hsh_s, e]
      omega
  have k := key n hn h
  have e := pow27 n (by omega)
  omega
theorem zin6_sm {a : Int} (h : -1000000000000000 ≤ a ∧ a ≤ 1000000000000000) : zin6 a := ⟨by omega, by omega⟩
theorem m_readsToken {p : Int} {K : mzM → Prop} (hT : MT μ T L) (hp : μ 20 0 5 = p) (p0 : 0 ≤ p) (p1 : p ≤ L) (hK : ∀ ν, MTK ν T L (sk T L p) → fr Prt μ ν → K ν) : ZV f_X8_readsToken [vR 20 0] μ K := by
  have hL := hT.2.1
  have tx : ∀ {ν : mzM}, fr Prt μ ν → MT ν T L := fun hF => MT_fr hT hF (by omega) (fun k => by omega)
  -- a word's signs
  have words : ∀ (m : Nat) (b x : Int) (ν : mzM), m = (L - x).toNat → 0 ≤ b → b < L → b ≤ x → x ≤ L → ν 20 0 5 = x → ν 20 0 6 = b → fr Prt μ ν → (∀ q, b ≤ q → q < x → 97 ≤ T q ∧ T q ≤ 122) → (ν 33 0 0 = if x - b ≤ 8 then hsh T b (x - b).toNat else -1) → (∀ ξ, ξ 20 0 5 = sc T L cLt x → ξ 20 0 6 = b → ξ 20 0 7 = ν 20 0 7 → ξ 20 0 9 = ν 20 0 9 → (ξ 33 0 0 = if sc T L cLt x - b ≤ 8 then hsh T b (sc T L cLt x - b).toNat else -1) → fr Prt μ ξ → K ξ) → ZW f_X8_readsToken 50 [vR 20 0, none] [] ν (fun r ν => r = none ∧ K ν) := by
    intro m
    induction m with
    | zero =>
      intro b x ν hm b0 bL bx xL h5 h6 hF hl ht hgo
      refine vc_X8_readsToken_50 (m_here (tx hF) h5 (by omega) (m_in (fun q => ?_) (fun q => ?_)))
      · rw [if_neg (by omega)] at q
        omega
      · rw [if_pos rfl]
        have e : sc T L cLt x = x := sc_n (by omega)
        exact ⟨rfl, hgo ν (by rw [e]; exact h5) h6 rfl rfl (by rw [e]; exact ht) hF⟩
    | succ m ih =>
      intro b x ν hm b0 bL bx xL h5 h6 hF hl ht hgo
      refine vc_X8_readsToken_50 (m_here (tx hF) h5 (by omega) (m_in (fun q => ?_) (fun q => ?_)))
      · rw [if_pos (by omega)] at q
        rw [if_neg (by decide), h5, h6]
        have e : sc T L cLt x = sc T L cLt (x + 1) := sc_y (by omega) (decide_eq_true q)
        have hl2 : ∀ r, b ≤ r → r < x + 1 → 97 ≤ T r ∧ T r ≤ 122 := by
          intro r r0 r1
          by_cases z : r = x
          · rw [z]; exact q
          · exact hl r r0 (by omega)
        refine ⟨zin_sm (by omega), ?_⟩
        by_cases h8 : x - b < 8
        · rw [if_pos h8]
          rw [if_pos (by omega)] at ht
          have hb := hsh_b (T := T) (b := b) (x - b).toNat (by omega) (fun r r0 r1 => hl r r0 (by omega))
          rw [ht]
          refine ⟨zin6_sm (by omega), m_here (tx hF) h5 (by omega) ?_⟩
          rw [if_pos (by omega)]
          have e5 : ∀ v, (mup ν 33 0 0 v) 20 0 5 = x := fun v => by rw [vt5]; exact h5
          rw [e5]
          refine ⟨zin6_sm (by omega), zin6_sm (by omega), zin6_sm (by omega), zin_sm (by omega), ih b (x + 1) _ (by omega) b0 bL (by omega) (by omega) (mup_self _ _ _ _ _) (by rw [v6_5, vt6]; exact h6) (fr_up (fr_up hF (by omega)) (by omega)) hl2 ?_ (fun ξ a1 a2 a3 a4 a5 a6 => hgo ξ (by rw [e]; exact a1) a2 (by rw [a3, v7_5, vt7]) (by rw [a4, v9_5, vt9]) (by rw [e]; exact a5) a6)⟩
          rw [vn5, mup_self, if_pos (by omega), show (x + 1 - b).toNat = (x - b).toNat + 1 by omega]
          rw [hsh_s, show b + (((x - b).toNat : Nat) : Int) = x by omega]
          omega
        · rw [if_neg h8]
          have e5 : ∀ v, (mup ν 33 0 0 v) 20 0 5 = x := fun v => by rw [vt5]; exact h5
          rw [e5]
          refine ⟨zin_sm (by omega), ih b (x + 1) _ (by omega) b0 bL (by omega) (by omega) (mup_self _ _ _ _ _) (by rw [v6_5, vt6]; exact h6) (fr_up (fr_up hF (by omega)) (by omega)) hl2 ?_ (fun ξ a1 a2 a3 a4 a5 a6 => hgo ξ (by rw [e]; exact a1) a2 (by rw [a3, v7_5, vt7]) (by rw [a4, v9_5, vt9]) (by rw [e]; exact a5) a6)⟩
          rw [vn5, mup_self, if_neg (by omega)]
      · rw [if_pos (by omega)] at q
        rw [if_pos rfl]
        have e : sc T L cLt x = x := sc_n (fun z => q (of_decide_eq_true z.2))
        exact ⟨rfl, hgo ν (by rw [e]; exact h5) h6 rfl rfl (by rw [e]; exact ht) hF⟩
  -- a number's signs
  have digits : ∀ (m : Nat) (v x : Int) (ν : mzM), m = (L - x).toNat → 0 ≤ v → v < L → v ≤ x → x ≤ L → ν 20 0 5 = x → fr Prt μ ν → (0 ≤ ν 33 0 0 ∧ ν 33 0 0 ≤ 100000) → (x - v = 0 → ν 33 0 0 = 0) → (x - v = 1 → ν 33 0 0 = T v - 48) → (x - v = 2 → ν 33 0 0 = 10 * (T v - 48) + (T (v + 1) - 48)) → (∀ q, v ≤ q → q < x → 48 ≤ T q ∧ T q ≤ 57) → (∀ ξ, ξ 20 0 5 = sc T L cDg x → ξ 20 0 6 = ν 20 0 6 → ξ 20 0 9 = ν 20 0 9 → (ξ 20 0 7 = if 2 < sc T L cDg x - v ∨ (T v = 48 ∧ 1 < sc T L cDg x - v) then 4 else 2) → (sc T L cDg x - v = 1 → ξ 33 0 0 = T v - 48) → (sc T L cDg x - v = 2 → ξ 33 0 0 = 10 * (T v - 48) + (T (v + 1) - 48)) → fr Prt μ ξ → K ξ) → ZW f_X8_readsToken 95 [vR 20 0, vI v] [] ν (fun r ν => r = none ∧ K ν) := by
    have stopd : ∀ (v x : Int) (ν : mzM), 0 ≤ v → v < L → v ≤ x → x ≤ L → ν 20 0 5 = x → fr Prt μ ν → (x - v = 1 → ν 33 0 0 = T v - 48) → (x - v = 2 → ν 33 0 0 = 10 * (T v - 48) + (T (v + 1) - 48)) → sc T L cDg x = x → (∀ ξ, ξ 20 0 5 = sc T L cDg x → ξ 20 0 6 = ν 20 0 6 → ξ 20 0 9 = ν 20 0 9 → (ξ 20 0 7 = if 2 < sc T L cDg x - v ∨ (T v = 48 ∧ 1 < sc T L cDg x - v) then 4 else 2) → (sc T L cDg x - v = 1 → ξ 33 0 0 = T v - 48) → (sc T L cDg x - v = 2 → ξ 33 0 0 = 10 * (T v - 48) + (T (v + 1) - 48)) → fr Prt μ ξ → K ξ) → (zin (x - v) ∧ (if (2 : Int) < (x - v) then (none : Option mzV) = none ∧ K (mup ν 20 0 7 4) else ((0 ≤ v ∧ v < 160) ∧ (if (ν 23 0 v) = 48 then (zin (x - v) ∧ (if (1 : Int) < (x - v) then (none : Option mzV) = none ∧ K (mup ν 20 0 7 4) else (none : Option mzV) = none ∧ K (mup ν 20 0 7 2))) else (none : Option mzV) = none ∧ K (mup ν 20 0 7 2))))) := by
      intro v x ν v0 vL vx xL h5 hF t1 t2 e hgo
      rw [e] at hgo
      have ht := (tx hF).2.2 v v0 vL
      have fin : ∀ k, (k = if 2 < x - v ∨ (T v = 48 ∧ 1 < x - v) then 4 else 2) → K (mup ν 20 0 7 k) := fun k hk => hgo _ (by rw [v5_7]; exact h5) (by rw [v6_7]) (by rw [v9_7]) (by rw [mup_self]; exact hk) (fun z => by rw [vn7]; exact t1 z) (fun z => by rw [vn7]; exact t2 z) (fr_up hF (by omega))
      have e48 : ν 23 0 v = 48 ↔ T v = 48 := by rw [ht.1]; exact (zbc ht.2.1 ht.2.2).2.2
      refine ⟨zin_sm (by omega), ?_⟩
      split
      · next q => exact ⟨rfl, fin _ (by rw [if_pos (Or.inl q)])⟩
      · next q =>
        refine ⟨by omega, ?_⟩
        split
        · next q2 =>
          refine ⟨zin_sm (by omega), ?_⟩
          split
          · next q3 => exact ⟨rfl, fin _ (by rw [if_pos (Or.inr ⟨e48.mp q2, q3⟩)])⟩
          · next q3 => exact ⟨rfl, fin _ (by rw [if_neg (by rintro (z | z); exact q z; exact q3 z.2)])⟩
        · next q2 => exact ⟨rfl, fin _ (by rw [if_neg (by rintro (z | z); exact q z; exact q2 (e48.mpr z.1))])⟩
    intro m
    induction m with
    | zero =>
      intro v x ν hm v0 vL vx xL h5 hF tb t0 t1 t2 hd hgo
      refine vc_X8_readsToken_95 (m_here (tx hF) h5 (by omega) (m_in (fun q => ?_) (fun q => ?_)))
      · rw [if_neg (by omega)] at q
        omega
      · rw [if_pos rfl, h5]
        exact stopd v x ν v0 vL vx xL h5 hF t1 t2 (sc_n (by omega)) hgo
    | succ m ih =>
      intro v x ν hm v0 vL vx xL h5 hF tb t0 t1 t2 hd hgo
      refine vc_X8_readsToken_95 (m_here (tx hF) h5 (by omega) (m_in (fun q => ?_) (fun q => ?_)))
      · rw [if_pos (by omega)] at q
        rw [if_neg (by decide)]
        have e : sc T L cDg x = sc T L cDg (x + 1) := sc_y (by omega) (decide_eq_true q)
        have hd2 : ∀ r, v ≤ r → r < x + 1 → 48 ≤ T r ∧ T r ≤ 57 := by
          intro r r0 r1
          by_cases z : r = x
          · rw [z]; exact q
          · exact hd r r0 (by omega)
        have e5 : ∀ w, (mup ν 33 0 0 w) 20 0 5 = x := fun w => by rw [vt5]; exact h5
        have go : ∀ w, (0 ≤ w ∧ w ≤ 100000) → (x + 1 - v = 1 → w = T v - 48) → (x + 1 - v = 2 → w = 10 * (T v - 48) + (T (v + 1) - 48)) → ZW f_X8_readsToken 95 [vR 20 0, vI v] [] (mup (mup ν 33 0 0 w) 20 0 5 (x + 1)) (fun r ν => r = none ∧ K ν) := by
          intro w wb w1 w2
          refine ih v (x + 1) _ (by omega) v0 vL (by omega) (by omega) (mup_self _ _ _ _ _) (fr_up (fr_up hF (by omega)) (by omega)) (by rw [vn5, mup_self]; exact wb) (fun z => by omega) (fun z => by rw [vn5, mup_self]; exact w1 z) (fun z => by rw [vn5, mup_self]; exact w2 z) hd2 (fun ξ a1 a2 a3 a4 a5 a6 a7 => hgo ξ (by rw [e]; exact a1) (by rw [a2, v6_5, vt6]) (by rw [a3, v9_5, vt9]) (by rw [e]; exact a4) (by rw [e]; exact a5) (by rw [e]; exact a6) a7)
        have hz : zcmp (ν 33 0 0) 1000 < 0 ↔ ν 33 0 0 < 1000 := by
          unfold zcmp
          split
          · omega
          · split <;> omega
        by_cases hlt : ν 33 0 0 < 1000
        · rw [if_pos (hz.mpr hlt)]
          refine ⟨zin6_sm (by omega), m_here (tx hF) h5 (by omega) ?_⟩
          rw [if_pos (by omega), e5]
          refine ⟨zin6_sm (by omega), zin6_sm (by omega), zin_sm (by omega), go _ (by omega) (fun z => ?_) (fun z => ?_)⟩
          · have := t0 (by omega)
            have hv : x = v := by omega
            rw [this, hv]; omega
          · have := t1 (by omega)
            have hv : x = v + 1 := by omega
            rw [this, hv]; omega
        · rw [if_neg (fun z => hlt (hz.mp z)), e5]
          refine ⟨zin_sm (by omega), go _ tb (fun z => ?_) (fun z => ?_)⟩
          · have := t0 (by omega)
            omega
          · have := t1 (by omega)
            have := hd v (by omega) (by omega)
            omega
      · rw [if_pos (by omega)] at q
        rw [if_pos rfl, h5]
        exact stopd v x ν v0 vL vx xL h5 hF t1 t2 (sc_n (fun z => q (of_decide_eq_true z.2))) hgo
  -- behind a sign that is no letter
  have other : ∀ (b v : Int) (ν : mzM), 0 ≤ b → b ≤ L → ((v = b ∧ ¬ (b < L ∧ T b = 45) ∧ ν 20 0 9 = 0 ∧ ¬ (b < L ∧ cLt (T b) = true)) ∨ (v = b + 1 ∧ (b < L ∧ T b = 45) ∧ ν 20 0 9 = 1)) → ν 20 0 5 = v → ν 20 0 6 = b → ν 33 0 0 = 0 → fr Prt μ ν → (∀ ξ, MTK ξ T L b → fr Prt μ ξ → K ξ) → ZW f_X8_readsToken 87 [vR 20 0, none] [vR 20 0] ν (fun r ν => r = none ∧ K ν) := by
    intro b v ν b0 bL hv h5 h6 h33 hF hgo
    have lt45 : cLt 45 = false := by decide
    have dg45 : cDg 45 = false := by decide
    have vL : v ≤ L := by omega
    refine vc_X8_readsToken_87 (m_here (tx hF) h5 (by omega) (m_in (fun q => ?_) (fun q => ?_)))
    · have hvL : v < L := by
        rcases Int.lt_or_le v L with z | z
        · exact z
        · rw [if_neg (by omega)] at q; omega
      rw [if_pos hvL] at q
      rw [if_neg (by decide), h5]
      refine digits _ v v ν rfl (by omega) hvL (by omega) vL h5 hF (by omega) (fun _ => h33) (fun z => by omega) (fun z => by omega) (fun r r0 r1 => by omega) (fun ξ a1 a2 a3 a4 a5 a6 a7 => hgo ξ ?_ a7)
      have hbL : b < L := by omega
      have hdg : cDg (T v) = true := decide_eq_true q
      have hnl : ¬ cLt (T b) = true := by
        rcases hv with ⟨z, _, _, y⟩ | ⟨_, z, _⟩
        · exact fun w => y ⟨hbL, w⟩
        · rw [z.2, lt45]; decide
      have hyes : T b = 45 ∨ cDg (T b) = true := by
        rcases hv with ⟨z, _, _, y⟩ | ⟨_, z, _⟩
        · rw [← z]; exact Or.inr hdg
        · exact Or.inl z.2
      have hkd : kd T L b = 2 := by unfold kd; rw [if_neg (by omega), if_neg hnl, if_pos hyes]
      have hte : te T L b = sc T L cDg v := by
        unfold te
        rw [if_neg (by omega), if_neg hnl, if_pos hyes]
        rcases hv with ⟨z, _⟩ | ⟨z, _⟩
        · rw [← z]; exact (sc_y hvL hdg).symm
        · rw [z]
      have hnf : nfr T b = v := by
        unfold nfr
        rcases hv with ⟨z, y, _⟩ | ⟨z, y, _⟩
        · rw [if_neg (fun w => y ⟨hbL, w⟩)]; exact z.symm
        · rw [if_pos y.2]; exact z.symm
      have hsc := sc_b (T := T) (P := cDg) _ (v + 1) rfl (show v + 1 ≤ L by omega)
      have hsy : sc T L cDg v = sc T L cDg (v + 1) := sc_y hvL hdg
      refine ⟨⟨a2.trans h6, by rw [hte]; exact a1⟩, ⟨b0, bL⟩, ?_, ?_, fun z => by rw [hkd] at z; omega, fun hn => ?_⟩
      · rw [a3]
        rcases hv with ⟨_, y, w, _⟩ | ⟨_, y, w⟩
        · rw [if_neg y]; exact w
        · rw [if_pos y]; exact w
      · have hm : mkd T L b = cif (nok T L b) 2 4 := by
          unfold mkd
          rw [hkd, if_neg (by decide), if_neg (by decide), if_neg (fun z => absurd z.1 (by decide))]
        rw [a4, hm]
        by_cases hn : nok T L b
        · rw [cif_p hn]
          obtain ⟨_, n1, n2⟩ := hn
          rw [hte, hnf] at n1 n2
          rw [if_neg (by rintro (z | z); omega; exact n2 ⟨by omega, z.1⟩)]
        · rw [cif_n hn]
          by_cases z : 2 < sc T L cDg v - v ∨ (T v = 48 ∧ 1 < sc T L cDg v - v)
          · rw [if_pos z]
          · exact absurd ⟨hkd, by rw [hte, hnf]; omega, by rw [hte, hnf]; omega⟩ hn
      · obtain ⟨_, n1, n2⟩ := hn
        rw [hte, hnf] at n1 n2
        unfold nab
        rw [hte, hnf]
        split
        · next z => exact a6 z
        · next z => exact a5 (by omega)
    · rw [if_pos rfl]
      rcases hv with ⟨z, y, w, nl⟩ | ⟨z, y, w⟩
      · rw [w, if_pos rfl]
        refine m_here (tx hF) h5 (by omega) ?_
        have w7 : ∀ k, (mup ν 20 0 7 k) 20 0 9 = 0 := fun k => by rw [v9_7]; exact w
        have h57 : ∀ k, (mup ν 20 0 7 k) 20 0 5 = v := fun k => by rw [v5_7]; exact h5
        have F7 : ∀ k, fr Prt μ (mup ν 20 0 7 k) := fun k => fr_up hF (by omega)
        by_cases hbL : v < L
        · have hbL2 : b < L := by omega
          rw [if_pos hbL]
          rw [if_pos hbL] at q
          have tv := (tx hF).2.2 v (by omega) hbL
          have hnl : ¬ cLt (T b) = true := fun g => nl ⟨hbL2, g⟩
          have hno : ¬ (T b = 45 ∨ cDg (T b) = true) := by
            rintro (g | g)
            · exact y ⟨hbL2, g⟩
            · rw [← z] at g; exact q (of_decide_eq_true g)
          have hkd : kd T L b = 3 := by unfold kd; rw [if_neg (by omega), if_neg hnl, if_neg hno]
          have hte : te T L b = b + 1 := by unfold te; rw [if_neg (by omega), if_neg hnl, if_neg hno]
          have nn : ¬ nok T L b := fun g => by rw [g.1] at hkd; omega
          have fin : ∀ k, k = mkd T L b → K (mup (mup ν 20 0 7 k) 20 0 5 (v + 1)) := by
            intro k hk
            refine hgo _ ⟨⟨?_, ?_⟩, ⟨b0, bL⟩, ?_, ?_, fun g => by rw [hkd] at g; omega, fun g => absurd g nn⟩ (fr_up (F7 k) (by omega))
            · rw [v6_5, v6_7]; exact h6
            · rw [mup_self, hte, z]
            · rw [v9_5, v9_7, if_neg y]; exact w
            · rw [v7_5, mup_self]; exact hk
          rw [if_neg (by omega)]
          refine m_here (tx hF) h5 (by omega) ?_
          rw [if_pos hbL]
          split
          · next g =>
            rw [w7, if_pos rfl]
            refine m_here (tx (F7 3)) (h57 3) (by omega) ?_
            rw [if_pos hbL, if_neg (by omega), h57]
            refine ⟨zin_sm (by omega), rfl, fin 3 ?_⟩
            unfold mkd
            rw [hkd, if_neg (by decide), if_neg (by decide), cif_n nn, if_pos ⟨rfl, by rw [← z]; exact g⟩]
          · next g =>
            rw [w7, if_pos rfl]
            refine m_here (tx (F7 4)) (h57 4) (by omega) ?_
            rw [if_pos hbL, if_neg (by omega), h57]
            refine ⟨zin_sm (by omega), rfl, fin 4 ?_⟩
            unfold mkd
            rw [hkd, if_neg (by decide), if_neg (by decide), cif_n nn, if_neg (fun f => g (by rw [z]; exact f.2))]
        · rw [if_neg hbL, if_pos (by decide), w7, if_pos rfl]
          refine m_here (tx (F7 0)) (h57 0) (by omega) ?_
          rw [if_neg hbL, if_pos (by decide), h57]
          have hkd : kd T L b = 0 := by unfold kd; rw [if_pos (by omega)]
          refine ⟨zin_sm (by omega), rfl, hgo _ ⟨⟨?_, ?_⟩, ⟨b0, bL⟩, ?_, ?_, fun g => by rw [hkd] at g; omega, fun g => by have := g.1; omega⟩ (fr_up (F7 0) (by omega))⟩
          · rw [v6_5, v6_7]; exact h6
          · rw [mup_self]; unfold te; rw [if_pos (by omega)]; omega
          · rw [v9_5, v9_7, if_neg y]; exact w
          · rw [v7_5, mup_self]; unfold mkd; rw [if_pos hkd]
      · rw [w, if_neg (by decide)]
        have w7 : (mup ν 20 0 7 4) 20 0 9 = 1 := by rw [v9_7]; exact w
        have h57 : (mup ν 20 0 7 4) 20 0 5 = v := by rw [v5_7]; exact h5
        rw [w7, if_neg (by decide), h57]
        have hnl : ¬ cLt (T b) = true := by rw [y.2, lt45]; decide
        have hkd : kd T L b = 2 := by unfold kd; rw [if_neg (by omega), if_neg hnl, if_pos (Or.inl y.2)]
        have hst : sc T L cDg (b + 1) = b + 1 := by
          refine sc_n (fun g => q ?_)
          rw [z, if_pos g.1]
          exact of_decide_eq_true g.2
        have hte : te T L b = b + 1 := by unfold te; rw [if_neg (by omega), if_neg hnl, if_pos (Or.inl y.2)]; exact hst
        have nn : ¬ nok T L b := by
          rintro ⟨_, g, _⟩
          have : nfr T b = b + 1 := by unfold nfr; rw [if_pos y.2]
          omega
        refine ⟨zin_sm (by omega), rfl, hgo _ ⟨⟨?_, ?_⟩, ⟨b0, bL⟩, ?_, ?_, fun g => by rw [hkd] at g; omega, fun g => absurd g nn⟩ (fr_up (fr_up hF (by omega)) (by omega))⟩
        · rw [v6_5, v6_7]; exact h6
        · rw [mup_self, hte, z]; omega
        · rw [v9_5, v9_7, if_pos y]; exact w
        · rw [v7_5, mup_self]; unfold mkd; rw [hkd, if_neg (by decide), if_neg (by decide), cif_n nn, if_neg (fun g => absurd g.1 (by decide))]
  -- the signs before
  have step : ∀ (m : Nat), (∀ m', m = m' + 1 → ∀ (x : Int) (ν : mzM), m' = (L - x).toNat → 0 ≤ x → x ≤ L → ν 20 0 5 = x → fr Prt μ ν → sk T L p = sc T L cSp x → ZW f_X8_readsToken 0 [vR 20 0, none] [] ν (fun r ν => r = none ∧ K ν)) → ∀ (x : Int) (ν : mzM), m = (L - x).toNat → 0 ≤ x → x ≤ L → ν 20 0 5 = x → fr Prt μ ν → sk T L p = sc T L cSp x → ZW f_X8_readsToken 0 [vR 20 0, none] [] ν (fun r ν => r = none ∧ K ν) := by
    intro m skip x ν hm x0 xL h5 hF hs
    -- behind the spaces
    have tail : sk T L p = x → ZI f_X8_here [vR 20 0] (mup (mup ν 20 0 6 x) 33 0 0 0) (fun r4 ν3 =>
      (if r4 = 45 then
      (((1 : Int) = 0 ∨ (1 : Int) = 1) ∧ (if ((mup ν3 20 0 9 1) 20 0 9) = 0 then
        (zin (((mup ν3 20 0 9 1) 20 0 5) + 0) ∧ (if ((mup (mup ν3 20 0 9 1) 20 0 5 (((mup ν3 20 0 9 1) 20 0 5) + 0)) 20 0 9) = 0 then
          ZI f_X8_here [vR 20 0] (mup (mup ν3 20 0 9 1) 20 0 5 (((mup ν3 20 0 9 1) 20 0 5) + 0)) (fun r6 ν5 =>
            ZI f_X8_in [vI r6, vI 97, vI 122] ν5 (fun r8 ν7 =>
            (if r8 = 0 then
            ZW f_X8_readsToken 87 [vR 20 0, none] [vR 20 0] ν7 (fun r ν => r = none ∧ K ν)
            else
            ZW f_X8_readsToken 50 [vR 20 0, none] [] (mup ν7 20 0 7 1) (fun r ν => r = none ∧ K ν))))
          else
          ZW f_X8_readsToken 87 [vR 20 0, none] [vR 20 0] (mup (mup ν3 20 0 9 1) 20 0 5 (((mup ν3 20 0 9 1) 20 0 5) + 0)) (fun r ν => r = none ∧ K ν)))
        else
        (zin (((mup ν3 20 0 9 1) 20 0 5) + 1) ∧ (if ((mup (mup ν3 20 0 9 1) 20 0 5 (((mup ν3 20 0 9 1) 20 0 5) + 1)) 20 0 9) = 0 then
          ZI f_X8_here [vR 20 0] (mup (mup ν3 20 0 9 1) 20 0 5 (((mup ν3 20 0 9 1) 20 0 5) + 1)) (fun r10 ν9 =>
            ZI f_X8_in [vI r10, vI 97, vI 122] ν9 (fun r12 ν11 =>
            (if r12 = 0 then
            ZW f_X8_readsToken 87 [vR 20 0, none] [vR 20 0] ν11 (fun r ν => r = none ∧ K ν)
            else
            ZW f_X8_readsToken 50 [vR 20 0, none] [] (mup ν11 20 0 7 1) (fun r ν => r = none ∧ K ν))))
          else
          ZW f_X8_readsToken 87 [vR 20 0, none] [vR 20 0] (mup (mup ν3 20 0 9 1) 20 0 5 (((mup ν3 20 0 9 1) 20 0 5) + 1)) (fun r ν => r = none ∧ K ν)))))
      else
      (((0 : Int) = 0 ∨ (0 : Int) = 1) ∧ (if ((mup ν3 20 0 9 0) 20 0 9) = 0 then
        (zin (((mup ν3 20 0 9 0) 20 0 5) + 0) ∧ (if ((mup (mup ν3 20 0 9 0) 20 0 5 (((mup ν3 20 0 9 0) 20 0 5) + 0)) 20 0 9) = 0 then
          ZI f_X8_here [vR 20 0] (mup (mup ν3 20 0 9 0) 20 0 5 (((mup ν3 20 0 9 0) 20 0 5) + 0)) (fun r14 ν13 =>
            ZI f_X8_in [vI r14, vI 97, vI 122] ν13 (fun r16 ν15 =>
            (if r16 = 0 then
            ZW f_X8_readsToken 87 [vR 20 0, none] [vR 20 0] ν15 (fun r ν => r = none ∧ K ν)
            else
            ZW f_X8_readsToken 50 [vR 20 0, none] [] (mup ν15 20 0 7 1) (fun r ν => r = none ∧ K ν))))
          else
          ZW f_X8_readsToken 87 [vR 20 0, none] [vR 20 0] (mup (mup ν3 20 0 9 0) 20 0 5 (((mup ν3 20 0 9 0) 20 0 5) + 0)) (fun r ν => r = none ∧ K ν)))
        else
        (zin (((mup ν3 20 0 9 0) 20 0 5) + 1) ∧ (if ((mup (mup ν3 20 0 9 0) 20 0 5 (((mup ν3 20 0 9 0) 20 0 5) + 1)) 20 0 9) = 0 then
          ZI f_X8_here [vR 20 0] (mup (mup ν3 20 0 9 0) 20 0 5 (((mup ν3 20 0 9 0) 20 0 5) + 1)) (fun r18 ν17 =>
            ZI f_X8_in [vI r18, vI 97, vI 122] ν17 (fun r20 ν19 =>
            (if r20 = 0 then
            ZW f_X8_readsToken 87 [vR 20 0, none] [vR 20 0] ν19 (fun r ν => r = none ∧ K ν)
            else
            ZW f_X8_readsToken 50 [vR 20 0, none] [] (mup ν19 20 0 7 1) (fun r ν => r = none ∧ K ν))))
          else
          ZW f_X8_readsToken 87 [vR 20 0, none] [vR 20 0] (mup (mup ν3 20 0 9 0) 20 0 5 (((mup ν3 20 0 9 0) 20 0 5) + 1)) (fun r ν => r = none ∧ K ν))))))) := by
      intro hx
      rw [hx] at hK
      have F1 : fr Prt μ (mup (mup ν 20 0 6 x) 33 0 0 0) := fr_up (fr_up hF (by omega)) (by omega)
      have k5 : (mup (mup ν 20 0 6 x) 33 0 0 0) 20 0 5 = x := by rw [vt5, v5_6]; exact h5
      have k6 : (mup (mup ν 20 0 6 x) 33 0 0 0) 20 0 6 = x := by rw [vt6, mup_self]
      have k33 : (mup (mup ν 20 0 6 x) 33 0 0 0) 33 0 0 = 0 := mup_self _ _ _ _ _
      generalize mup (mup ν 20 0 6 x) 33 0 0 0 = ν1 at *
      refine m_here (tx F1) k5 x0 ?_
      by_cases q : (if x < L then T x else -1) = 45
      · rw [if_pos q]
        have hxL : x < L := by
          rcases Int.lt_or_le x L with z | z
          · exact z
          · rw [if_neg (by omega)] at q; omega
        rw [if_pos hxL] at q
        have e9 : (mup ν1 20 0 9 1) 20 0 9 = 1 := mup_self _ _ _ _ _
        have e5 : (mup ν1 20 0 9 1) 20 0 5 = x := by rw [v5_9]; exact k5
        rw [e9, if_neg (by decide), e5, v9_5, e9, if_neg (by decide)]
        refine ⟨Or.inr rfl, zin_sm (by omega), other x (x + 1) _ x0 xL (Or.inr ⟨rfl, ⟨hxL, q⟩, ?_⟩) (mup_self _ _ _ _ _) ?_ ?_ (fr_up (fr_up F1 (by omega)) (by omega)) hK⟩
        · rw [v9_5]; exact e9
        · rw [v6_5, v6_9]; exact k6
        · rw [vn5, vn9]; exact k33
      · rw [if_neg q]
        have e9 : (mup ν1 20 0 9 0) 20 0 9 = 0 := mup_self _ _ _ _ _
        have e5 : (mup ν1 20 0 9 0) 20 0 5 = x := by rw [v5_9]; exact k5
        rw [e9, if_pos rfl, e5, v9_5, e9, if_pos rfl, Int.add_zero]
        have F2 : fr Prt μ (mup (mup ν1 20 0 9 0) 20 0 5 x) := fr_up (fr_up F1 (by omega)) (by omega)
        have j5 : (mup (mup ν1 20 0 9 0) 20 0 5 x) 20 0 5 = x := mup_self _ _ _ _ _
        have j6 : (mup (mup ν1 20 0 9 0) 20 0 5 x) 20 0 6 = x := by rw [v6_5, v6_9]; exact k6
        have j9 : (mup (mup ν1 20 0 9 0) 20 0 5 x) 20 0 9 = 0 := by rw [v9_5]; exact e9
        have j33 : (mup (mup ν1 20 0 9 0) 20 0 5 x) 33 0 0 = 0 := by rw [vn5, vn9]; exact k33
        generalize mup (mup ν1 20 0 9 0) 20 0 5 x = ν2 at *
        have nm : ¬ (x < L ∧ T x = 45) := fun z => q (by rw [if_pos z.1]; exact z.2)
        refine ⟨Or.inl rfl, zin_sm (by omega), m_here (tx F2) j5 x0 (m_in (fun g => ?_) (fun g => ?_))⟩
        · have hxL : x < L := by
            rcases Int.lt_or_le x L with z | z
            · exact z
            · rw [if_neg (by omega)] at g; omega
          rw [if_pos hxL] at g
          rw [if_neg (by decide)]
          have hlt : cLt (T x) = true := decide_eq_true g
          have hkd : kd T L x = 1 := by unfold kd; rw [if_neg (by omega), if_pos hlt]
          have hte : te T L x = sc T L cLt x := by unfold te; rw [if_neg (by omega), if_pos hlt]; exact (sc_y hxL hlt).symm
          refine words _ x x (mup ν2 20 0 7 1) rfl x0 hxL (Int.le_refl x) xL (by rw [v5_7]; exact j5) (by rw [v6_7]; exact j6) (fr_up F2 (by omega)) (fun r r0 r1 => by omega) ?_ (fun ξ a1 a2 a3 a4 a5 a6 => hK ξ ⟨⟨a2, by rw [hte]; exact a1⟩, ⟨x0, xL⟩, ?_, ?_, fun _ => ?_, fun z => by have := z.1; omega⟩ a6)
          · rw [vn7, j33, if_pos (by omega), show (x - x).toNat = 0 by omega]; rfl
          · rw [a4, v9_7, if_neg nm]; exact j9
          · rw [a3, mup_self]; unfold mkd; rw [hkd, if_neg (by decide), if_pos rfl]
          · rw [a5]; unfold whash; rw [hte]
        · rw [if_pos rfl]
          exact other x x ν2 x0 xL (Or.inl ⟨rfl, nm, j9, fun z => g (by rw [if_pos z.1]; exact of_decide_eq_true z.2)⟩) j5 j6 j33 F2 hK
    refine vc_X8_readsToken_0 (m_here (tx hF) h5 x0 ?_)
    cases m with
    | zero =>
      rw [if_neg (by rw [if_neg (by omega)]; decide), h5]
      exact tail (by rw [hs]; exact sc_n (by omega))
    | succ m =>
      rw [if_pos (show x < L by omega)]
      split
      · next q =>
        rw [h5]
        exact ⟨zin_sm (by omega), skip m rfl (x + 1) _ (by omega) (by omega) (by omega) (mup_self _ _ _ _ _) (fr_up hF (by omega)) (by rw [hs]; exact sc_y (by omega) (decide_eq_true q))⟩
      · next q =>
        rw [h5]
        exact tail (by rw [hs]; exact sc_n (fun z => q (of_decide_eq_true z.2)))
  have skip : ∀ (m : Nat) (x : Int) (ν : mzM), m = (L - x).toNat → 0 ≤ x → x ≤ L → ν 20 0 5 = x → fr Prt μ ν → sk T L p = sc T L cSp x → ZW f_X8_readsToken 0 [vR 20 0, none] [] ν (fun r ν => r = none ∧ K ν) := by
    intro m
    induction m with
    | zero => exact step 0 (fun m' h => absurd h (Nat.zero_ne_add_one m'))
    | succ m ih => exact step (m + 1) (fun m' h => by cases h; exact ih)
  exact skip _ p μ rfl p0 p1 hp fr_rf rfl
end Mtx
