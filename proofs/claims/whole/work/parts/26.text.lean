/-! ===== the text: what is read ===== -/
def scn (T : Int → Int) (L : Int) (P : Int → Bool) : Nat → Int → Int
  | 0, p => p
  | n + 1, p => if p < L ∧ P (T p) = true then scn T L P n (p + 1) else p
/-- the first place from p on that isn't P, or the end -/
def sc (T : Int → Int) (L : Int) (P : Int → Bool) (p : Int) : Int := scn T L P (L - p).toNat p
def cSp (c : Int) : Bool := decide (c = 32)
def cLt (c : Int) : Bool := decide (97 ≤ c ∧ c ≤ 122)
def cDg (c : Int) : Bool := decide (48 ≤ c ∧ c ≤ 57)
theorem sc_y {T : Int → Int} {L : Int} {P : Int → Bool} {p : Int} (h : p < L) (hp : P (T p) = true) : sc T L P p = sc T L P (p + 1) := by
  unfold sc
  rw [show (L - p).toNat = (L - (p + 1)).toNat + 1 by omega]
  show (if p < L ∧ P (T p) = true then _ else _) = _
  rw [if_pos ⟨h, hp⟩]
theorem sc_n {T : Int → Int} {L : Int} {P : Int → Bool} {p : Int} (h : ¬ (p < L ∧ P (T p) = true)) : sc T L P p = p := by
  unfold sc
  cases (L - p).toNat with
  | zero => rfl
  | succ n =>
    show (if p < L ∧ P (T p) = true then _ else _) = _
    rw [if_neg h]
theorem sc_b {T : Int → Int} {L : Int} {P : Int → Bool} : ∀ (n : Nat) (p : Int), n = (L - p).toNat → p ≤ L → p ≤ sc T L P p ∧ sc T L P p ≤ L ∧ (∀ q, p ≤ q → q < sc T L P p → P (T q) = true) ∧ ¬ (sc T L P p < L ∧ P (T (sc T L P p)) = true)
  | 0, p, hn, hp => by
    rw [sc_n (by omega)]
    exact ⟨by omega, hp, fun q _ _ => by omega, fun z => by omega⟩
  | n + 1, p, hn, hp => by
    by_cases h : p < L ∧ P (T p) = true
    · rw [sc_y h.1 h.2]
      obtain ⟨h1, h2, h3, h4⟩ := sc_b (T := T) (L := L) (P := P) n (p + 1) (by omega) (by omega)
      refine ⟨by omega, h2, fun q q0 q1 => ?_, h4⟩
      by_cases z : q = p
      · rw [z]; exact h.2
      · exact h3 q (by omega) q1
    · rw [sc_n h]
      exact ⟨by omega, hp, fun q _ _ => by omega, h⟩
/-- a token: where it begins, its kind (0 end, 1 word, 2 number, 3 else), where it ends -/
def sk (T : Int → Int) (L p : Int) : Int := sc T L cSp p
def kd (T : Int → Int) (L b : Int) : Int := if L ≤ b then 0 else if cLt (T b) = true then 1 else if T b = 45 ∨ cDg (T b) = true then 2 else 3
def te (T : Int → Int) (L b : Int) : Int := if L ≤ b then b else if cLt (T b) = true then sc T L cLt (b + 1) else if T b = 45 ∨ cDg (T b) = true then sc T L cDg (b + 1) else b + 1
theorem sk_b {T : Int → Int} {L p : Int} (h : p ≤ L) : p ≤ sk T L p ∧ sk T L p ≤ L := by
  have := sc_b (T := T) (P := cSp) _ p rfl h
  exact ⟨this.1, this.2.1⟩
theorem te_b {T : Int → Int} {L b : Int} (h : b < L) : b + 1 ≤ te T L b ∧ te T L b ≤ L := by
  have h1 := sc_b (T := T) (P := cLt) _ (b + 1) rfl (show b + 1 ≤ L by omega)
  have h2 := sc_b (T := T) (P := cDg) _ (b + 1) rfl (show b + 1 ≤ L by omega)
  unfold te
  rw [if_neg (by omega)]
  split
  · exact ⟨h1.1, h1.2.1⟩
  · split
    · exact ⟨h2.1, h2.2.1⟩
    · omega
theorem kd_lt {T : Int → Int} {L b : Int} (h : kd T L b ≠ 0) : b < L := by
  unfold kd at h
  rcases Int.lt_or_le b L with q | q
  · exact q
  · rw [if_pos q] at h; exact absurd rfl h
/-- where a number's digits begin -/
def nfr (T : Int → Int) (b : Int) : Int := if T b = 45 then b + 1 else b
def nok (T : Int → Int) (L b : Int) : Prop := kd T L b = 2 ∧ (1 ≤ te T L b - nfr T b ∧ te T L b - nfr T b ≤ 2) ∧ ¬ (te T L b - nfr T b = 2 ∧ T (nfr T b) = 48)
def nab (T : Int → Int) (L b : Int) : Int := if te T L b - nfr T b = 2 then 10 * (T (nfr T b) - 48) + (T (nfr T b + 1) - 48) else T (nfr T b) - 48
def nvl (T : Int → Int) (L b : Int) : Int := if T b = 45 then -(nab T L b) else nab T L b
/-- an argument of sort a (119 way, 102 frame, 118 value, else length) -/
def aok (s : Int → Int) (T : Int → Int) (L b a : Int) : Prop := nok T L b ∧ (if a = 119 then -12 ≤ nvl T L b ∧ nvl T L b ≤ 12 else T b ≠ 45 ∧ (if a = 102 then isF s (nvl T L b) ∧ sgood s (nvl T L b) else if a = 118 then nvl T L b ≤ 15 else nvl T L b ≤ 12))
/-- whether the token at b is a text -/
def istk (T : Int → Int) (L b : Int) (w : List Int) : Prop := te T L b - b = (w.length : Int) ∧ ∀ i : Nat, i < w.length → T (b + i) = w.getD i 0
noncomputable def cmdf (T : Int → Int) (L b : Int) : Nat → Int → Int
  | 0, _ => -1
  | n + 1, c => cif (istk T L b (ztext c.toNat)) c (cmdf T L b n (c + 1))
noncomputable def cmdof (T : Int → Int) (L b : Int) : Int := if kd T L b = 1 then cmdf T L b 5 0 else -1
def cargs (c : Int) : List Int := ztext (5 + c.toNat)
noncomputable def pargs (s : Int → Int) (T : Int → Int) (L : Int) : List Int → Int → Int ⊕ (Int × List Int)
  | [], p => if kd T L (sk T L p) = 3 ∧ T (sk T L p) = 59 then .inr (sk T L p + 1, []) else .inl (sk T L p)
  | a :: as, p => cif (aok s T L (sk T L p) a) (match pargs s T L as (te T L (sk T L p)) with | .inl e => .inl e | .inr (q, vs) => .inr (q, nvl T L (sk T L p) :: vs)) (.inl (sk T L p))
noncomputable def pcmd (s : Int → Int) (T : Int → Int) (L b : Int) : Int ⊕ (Int × List Int) := if cmdof T L b < 0 then .inl b else (match pargs s T L (cargs (cmdof T L b)) (te T L b) with | .inl e => .inl e | .inr (q, vs) => .inr (q, cmdof T L b :: vs))
noncomputable def pall (s : Int → Int) (T : Int → Int) (L : Int) : Nat → Int → Int ⊕ List (List Int)
  | 0, p => .inl p
  | n + 1, p => if kd T L (sk T L p) = 0 then .inr [] else (match pcmd s T L (sk T L p) with | .inl e => .inl e | .inr (q, c) => (match pall s T L n q with | .inl e => .inl e | .inr l => .inr (c :: l)))
theorem cmdf_b (T : Int → Int) (L b : Int) : ∀ (n : Nat) (c : Int), 0 ≤ c → c + n = 5 → -1 ≤ cmdf T L b n c ∧ cmdf T L b n c ≤ 4
  | 0, c, _, _ => by unfold cmdf; omega
  | n + 1, c, h0, h1 => by
    unfold cmdf cif
    split
    · omega
    · exact cmdf_b T L b n (c + 1) (by omega) (by omega)
theorem cmdof_b (T : Int → Int) (L b : Int) : -1 ≤ cmdof T L b ∧ cmdof T L b ≤ 4 := by
  unfold cmdof
  split
  · exact cmdf_b T L b 5 0 (by omega) (by omega)
  · omega
theorem nok_b {T : Int → Int} {L b : Int} (hT : ∀ k, 0 ≤ k → k < L → 0 ≤ T k ∧ T k ≤ 255) (b0 : 0 ≤ b) (h : nok T L b) : (b ≤ nfr T b ∧ nfr T b ≤ b + 1) ∧ b < L ∧ te T L b ≤ L ∧ (∀ q, nfr T b ≤ q → q < te T L b → 48 ≤ T q ∧ T q ≤ 57) ∧ 0 ≤ nab T L b ∧ nab T L b ≤ 99 := by
  obtain ⟨h1, h2, h3⟩ := h
  have hlt : b < L := kd_lt (T := T) (by rw [h1]; decide)
  have ht := te_b (T := T) hlt
  have hf : nfr T b = b + 1 ∨ (nfr T b = b ∧ T b ≠ 45) := by
    unfold nfr
    split
    · exact Or.inl rfl
    · next q => exact Or.inr ⟨rfl, q⟩
  have hsc := sc_b (T := T) (P := cDg) _ (b + 1) rfl (show b + 1 ≤ L by omega)
  have hk : ¬ cLt (T b) = true ∧ (T b = 45 ∨ cDg (T b) = true) := by
    unfold kd at h1
    rw [if_neg (by omega)] at h1
    by_cases q : cLt (T b) = true
    · rw [if_pos q] at h1; omega
    · rw [if_neg q] at h1
      by_cases q2 : T b = 45 ∨ cDg (T b) = true
      · exact ⟨q, q2⟩
      · rw [if_neg q2] at h1; omega
  have hte : te T L b = sc T L cDg (b + 1) := by
    unfold te
    rw [if_neg (by omega), if_neg hk.1, if_pos hk.2]
  have hd : ∀ q, nfr T b ≤ q → q < te T L b → 48 ≤ T q ∧ T q ≤ 57 := by
    intro q q0 q1
    by_cases z : q = b
    · rcases hf with hf | hf
      · omega
      · rcases hk.2 with y | y
        · exact absurd y hf.2
        · rw [z]; exact of_decide_eq_true y
    · exact of_decide_eq_true (hsc.2.2.1 q (by omega) (by omega))
  refine ⟨by omega, hlt, ht.2, hd, ?_⟩
  have d1 := hd (nfr T b) (by omega) (by omega)
  unfold nab
  split
  · have d2 := hd (nfr T b + 1) (by omega) (by omega)
    omega
  · omega
/-! ===== the JDK's texts ===== -/
theorem zsh0 : ∀ n : Nat, n < 10 → zshr (n : Int) 0 = n := by decide +kernel
theorem ztext_len : ∀ i : Nat, i < 10 → (ztext i).length < 10 ∧ 1 ≤ (ztext i).length := by decide +kernel
theorem zand255_a : ∀ n : Nat, n < 256 → zand (n : Int) 255 = n := by decide +kernel
theorem zand255 {x : Int} (h0 : 0 ≤ x) (h1 : x ≤ 255) : zand x 255 = x := by
  have := zand255_a x.toNat (by omega)
  rw [show ((x.toNat : Nat) : Int) = x by omega] at this
  exact this
theorem ztext_b : ∀ i : Nat, i < 10 → ∀ j : Nat, j < (ztext i).length → 97 ≤ (ztext i).getD j 0 ∧ (ztext i).getD j 0 ≤ 122 := by decide +kernel
section Txt
variable {μ : mzM} {s : Int → Int} {T : Int → Int} {L : Int}
theorem s_length {i : Int} {K : Int → mzM → Prop} (i0 : 0 ≤ i) (i1 : i < 10) (h : K ((ztext i.toNat).length : Int) μ) : ZI f_J0_length_8abf5 [vR 30 i] μ K := by
  refine vc_J0_length_8abf5_0 (vc_J0_coder_7d493_0 ⟨_, rfl, ?_⟩)
  have hl := (ztext_len i.toNat (by omega)).1
  exact zlf h (zsh0 _ hl)
theorem s_charAt {i j : Int} {K : Int → mzM → Prop} (i0 : 0 ≤ i) (i1 : i < 10) (j0 : 0 ≤ j) (j1 : j < ((ztext i.toNat).length : Int)) (h : K ((ztext i.toNat).getD j.toNat 0) μ) : ZI f_J0_charAt_5068e [vR 30 i, vI j] μ K := by
  have hb := ztext_b i.toNat (by omega) j.toNat (by omega)
  refine vc_J0_charAt_5068e_0 (vc_J0_isLatin1_aae02_0 ⟨1, rfl, ?_⟩)
  dsimp only
  rw [if_neg (by omega)]
  refine vc_J1_charAt_3b067_0 (vc_J0_checkIndex_df160_0 (vc_J3_checkIndex_8e157_0 ?_))
  rw [if_neg (by omega), if_pos (show j < zlen 31 i μ from j1)]
  refine ⟨j, rfl, rfl, ⟨j0, j1⟩, _, rfl, zlf h ?_⟩
  show zand ((ztext i.toNat).getD j.toNat 0) 255 % 65536 % 65536 % 65536 = _
  rw [zand255 (by omega) (by omega)]
  omega
/-- the text of the class -/
def TX (μ : mzM) (T : Int → Int) (L : Int) : Prop := μ 8 0 1 = L ∧ (0 ≤ L ∧ L ≤ 160) ∧ ∀ k, 0 ≤ k → k < L → μ 9 0 k = T k ∧ 0 ≤ T k ∧ T k ≤ 255
abbrev Ptk : Nat → Int → Int → Prop := fun t _ k => t = 8 ∧ (k = 2 ∨ k = 3 ∨ k = 4)
/-- what reading touches -/
abbrev Psp : Nat → Int → Int → Prop := fun t _ k => (t = 8 ∧ k ≠ 1) ∨ t = 10
theorem TX_fr {P : Nat → Int → Int → Prop} {ν : mzM} (h : TX μ T L) (hF : fr P μ ν) (h1 : ¬ P 8 0 1) (h2 : ∀ k, ¬ P 9 0 k) : TX ν T L := ⟨(hF 8 0 1 h1).trans h.1, h.2.1, fun k k0 k1 => ⟨(hF 9 0 k (h2 k)).trans (h.2.2 k k0 k1).1, (h.2.2 k k0 k1).2⟩⟩
theorem s_sign {k : Int} {K : Int → mzM → Prop} (hT : TX μ T L) (h : K (if 0 ≤ k ∧ k < L then T k else 32) μ) : ZI f_X5_signAt [vR 8 0, vI k] μ K := by
  refine vc_X5_signAt_0 ?_
  rw [hT.1]
  split
  · rw [if_neg (by omega)] at h; exact zlf h rfl
  split
  · next q1 q2 =>
    have ht := hT.2.2 k (by omega) q2
    have hl := hT.2.1
    rw [if_pos (by omega)] at h
    rw [if_pos (by omega)]
    exact ⟨by omega, zlf h (by rw [ht.1]; omega)⟩
  · rw [if_neg (by omega)] at h; exact zlf h rfl
theorem s_signIn {k : Int} {K : Int → mzM → Prop} (hT : TX μ T L) (k0 : 0 ≤ k) (k1 : k < L) (h : K (T k) μ) : ZI f_X5_signAt [vR 8 0, vI k] μ K := s_sign hT (by rw [if_pos ⟨k0, k1⟩]; exact h)
theorem s_isLetter {c : Int} {K : Int → mzM → Prop} (h1 : cLt c = true → K 1 μ) (h0 : ¬ cLt c = true → K 0 μ) : ZI f_X5_isLetter [vI c] μ K := by
  unfold cLt at h1 h0
  simp only [decide_eq_true_eq] at h1 h0
  refine vc_X5_isLetter_0 ?_
  split
  · exact zlf (h0 (by omega)) rfl
  split
  · exact zlf (h0 (by omega)) rfl
  · exact zlf (h1 (by omega)) rfl
theorem s_isDigit {c : Int} {K : Int → mzM → Prop} (h1 : cDg c = true → K 1 μ) (h0 : ¬ cDg c = true → K 0 μ) : ZI f_X5_isDigit [vI c] μ K := by
  unfold cDg at h1 h0
  simp only [decide_eq_true_eq] at h1 h0
  refine vc_X5_isDigit_0 ?_
  split
  · exact zlf (h0 (by omega)) rfl
  split
  · exact zlf (h0 (by omega)) rfl
  · exact zlf (h1 (by omega)) rfl
theorem w8_1_2 {ν : mzM} {v : Int} : mup ν 8 0 2 v 8 0 1 = ν 8 0 1 := mup_k (by decide)
theorem w8_1_3 {ν : mzM} {v : Int} : mup ν 8 0 3 v 8 0 1 = ν 8 0 1 := mup_k (by decide)
theorem w8_1_4 {ν : mzM} {v : Int} : mup ν 8 0 4 v 8 0 1 = ν 8 0 1 := mup_k (by decide)
theorem w8_1_5 {ν : mzM} {v : Int} : mup ν 8 0 5 v 8 0 1 = ν 8 0 1 := mup_k (by decide)
theorem w8_1_7 {ν : mzM} {v : Int} : mup ν 8 0 7 v 8 0 1 = ν 8 0 1 := mup_k (by decide)
theorem w8_2_3 {ν : mzM} {v : Int} : mup ν 8 0 3 v 8 0 2 = ν 8 0 2 := mup_k (by decide)
theorem w8_2_4 {ν : mzM} {v : Int} : mup ν 8 0 4 v 8 0 2 = ν 8 0 2 := mup_k (by decide)
theorem w8_2_5 {ν : mzM} {v : Int} : mup ν 8 0 5 v 8 0 2 = ν 8 0 2 := mup_k (by decide)
theorem w8_2_7 {ν : mzM} {v : Int} : mup ν 8 0 7 v 8 0 2 = ν 8 0 2 := mup_k (by decide)
theorem w8_3_2 {ν : mzM} {v : Int} : mup ν 8 0 2 v 8 0 3 = ν 8 0 3 := mup_k (by decide)
theorem w8_3_4 {ν : mzM} {v : Int} : mup ν 8 0 4 v 8 0 3 = ν 8 0 3 := mup_k (by decide)
theorem w8_3_5 {ν : mzM} {v : Int} : mup ν 8 0 5 v 8 0 3 = ν 8 0 3 := mup_k (by decide)
theorem w8_3_7 {ν : mzM} {v : Int} : mup ν 8 0 7 v 8 0 3 = ν 8 0 3 := mup_k (by decide)
theorem w8_4_2 {ν : mzM} {v : Int} : mup ν 8 0 2 v 8 0 4 = ν 8 0 4 := mup_k (by decide)
theorem w8_4_3 {ν : mzM} {v : Int} : mup ν 8 0 3 v 8 0 4 = ν 8 0 4 := mup_k (by decide)
theorem w8_4_5 {ν : mzM} {v : Int} : mup ν 8 0 5 v 8 0 4 = ν 8 0 4 := mup_k (by decide)
theorem w8_4_7 {ν : mzM} {v : Int} : mup ν 8 0 7 v 8 0 4 = ν 8 0 4 := mup_k (by decide)
theorem w8_5_2 {ν : mzM} {v : Int} : mup ν 8 0 2 v 8 0 5 = ν 8 0 5 := mup_k (by decide)
theorem w8_5_3 {ν : mzM} {v : Int} : mup ν 8 0 3 v 8 0 5 = ν 8 0 5 := mup_k (by decide)
theorem w8_5_4 {ν : mzM} {v : Int} : mup ν 8 0 4 v 8 0 5 = ν 8 0 5 := mup_k (by decide)
theorem w8_5_7 {ν : mzM} {v : Int} : mup ν 8 0 7 v 8 0 5 = ν 8 0 5 := mup_k (by decide)
theorem w8_7_2 {ν : mzM} {v : Int} : mup ν 8 0 2 v 8 0 7 = ν 8 0 7 := mup_k (by decide)
theorem w8_7_3 {ν : mzM} {v : Int} : mup ν 8 0 3 v 8 0 7 = ν 8 0 7 := mup_k (by decide)
theorem w8_7_4 {ν : mzM} {v : Int} : mup ν 8 0 4 v 8 0 7 = ν 8 0 7 := mup_k (by decide)
theorem w8_7_5 {ν : mzM} {v : Int} : mup ν 8 0 5 v 8 0 7 = ν 8 0 7 := mup_k (by decide)
theorem s_nextToken {p : Int} {K : mzM → Prop} (hT : TX μ T L) (hp : μ 8 0 4 = p) (p0 : 0 ≤ p) (p1 : p ≤ L) (hK : ∀ ν, (ν 8 0 3 = sk T L p ∧ ν 8 0 4 = te T L (sk T L p) ∧ ν 8 0 2 = kd T L (sk T L p)) → fr Ptk μ ν → K ν) : ZV f_X5_nextToken [vR 8 0] μ K := by
  have hL := hT.2.1
  have hsk := sk_b (T := T) p1
  refine vc_X5_nextToken_0 ?_
  rw [hp]
  -- the loops behind the first sign
  have words : ∀ (m : Nat) (x : Int) (ν : mzM), m = (L - x).toNat → 0 ≤ x → x ≤ L → ν 8 0 4 = x → fr Ptk μ ν → ∀ v : Int, (∀ ξ, ξ 8 0 4 = sc T L cLt x → ξ 8 0 3 = ν 8 0 3 → ξ 8 0 2 = ν 8 0 2 → fr Ptk μ ξ → K ξ) → ZW f_X5_nextToken 52 [vR 8 0, vI v] [] ν (fun r ν => r = none ∧ K ν) := by
    intro m
    induction m with
    | zero =>
      intro x ν hm x0 x1 hx hF v hgo
      refine vc_X5_nextToken_52 ?_
      rw [hx, (TX_fr hT hF (by omega) (fun k => by omega)).1, if_neg (by omega)]
      exact ⟨rfl, hgo ν (by rw [sc_n (by omega)]; exact hx) rfl rfl hF⟩
    | succ m ih =>
      intro x ν hm x0 x1 hx hF v hgo
      have hT2 := TX_fr hT hF (by omega) (fun k => by omega)
      refine vc_X5_nextToken_52 ?_
      rw [hx, hT2.1, if_pos (by omega)]
      refine s_signIn hT2 x0 (by omega) (s_isLetter (fun g => ?_) (fun g => ?_))
      · rw [if_neg (by omega), hx]
        refine ⟨zin_sm (by omega), ih (x + 1) _ (by omega) (by omega) (by omega) (mup_self _ _ _ _ _) (fr_up hF ⟨rfl, by omega⟩) v (fun ξ h1 h2 h3 h4 => hgo ξ ?_ ?_ ?_ h4)⟩
        · rw [h1, sc_y (by omega) g]
        · rw [h2, w8_3_4]
        · rw [h3, w8_2_4]
      · rw [if_pos rfl]
        exact ⟨rfl, hgo ν (by rw [sc_n (fun z => g z.2)]; exact hx) rfl rfl hF⟩
  have digits : ∀ (m : Nat) (x : Int) (ν : mzM), m = (L - x).toNat → 0 ≤ x → x ≤ L → ν 8 0 4 = x → fr Ptk μ ν → ∀ v : Int, (∀ ξ, ξ 8 0 4 = sc T L cDg x → ξ 8 0 3 = ν 8 0 3 → ξ 8 0 2 = ν 8 0 2 → fr Ptk μ ξ → K ξ) → ZW f_X5_nextToken 79 [vR 8 0, vI v] [] ν (fun r ν => r = none ∧ K ν) := by
    intro m
    induction m with
    | zero =>
      intro x ν hm x0 x1 hx hF v hgo
      refine vc_X5_nextToken_79 ?_
      rw [hx, (TX_fr hT hF (by omega) (fun k => by omega)).1, if_neg (by omega)]
      exact ⟨rfl, hgo ν (by rw [sc_n (by omega)]; exact hx) rfl rfl hF⟩
    | succ m ih =>
      intro x ν hm x0 x1 hx hF v hgo
      have hT2 := TX_fr hT hF (by omega) (fun k => by omega)
      refine vc_X5_nextToken_79 ?_
      rw [hx, hT2.1, if_pos (by omega)]
      refine s_signIn hT2 x0 (by omega) (s_isDigit (fun g => ?_) (fun g => ?_))
      · rw [if_neg (by omega), hx]
        refine ⟨zin_sm (by omega), ih (x + 1) _ (by omega) (by omega) (by omega) (mup_self _ _ _ _ _) (fr_up hF ⟨rfl, by omega⟩) v (fun ξ h1 h2 h3 h4 => hgo ξ ?_ ?_ ?_ h4)⟩
        · rw [h1, sc_y (by omega) g]
        · rw [h2, w8_3_4]
        · rw [h3, w8_2_4]
      · rw [if_pos rfl]
        exact ⟨rfl, hgo ν (by rw [sc_n (fun z => g z.2)]; exact hx) rfl rfl hF⟩
  have skip : ∀ (m : Nat) (x : Int) (ν : mzM), m = (L - x).toNat → 0 ≤ x → x ≤ L → ν 8 0 3 = x → fr Ptk μ ν → sk T L p = sc T L cSp x → ZW f_X5_nextToken 4 [vR 8 0, none] [] ν (fun r ν => r = none ∧ K ν) := by
    intro m
    induction m with
    | zero =>
      intro x ν hm x0 x1 hx hF hs
      have hT2 := TX_fr hT hF (by omega) (fun k => by omega)
      refine vc_X5_nextToken_4 ?_
      simp only [w8_1_2, w8_1_3, w8_1_4, w8_1_5, w8_1_7, w8_2_3, w8_2_4, w8_2_5, w8_2_7, w8_3_2, w8_3_4, w8_3_5, w8_3_7, w8_4_2, w8_4_3, w8_4_5, w8_4_7, w8_5_2, w8_5_3, w8_5_4, w8_5_7, w8_7_2, w8_7_3, w8_7_4, w8_7_5, mup_self]
      rw [hx, hT2.1, if_neg (by omega), if_neg (by omega)]
      rw [sc_n (by omega)] at hs
      refine ⟨trivial, hK _ ⟨?_, ?_, ?_⟩ (fr_up (fr_up hF ⟨rfl, by omega⟩) ⟨rfl, by omega⟩)⟩
      · rw [w8_3_2, w8_3_4, hx, hs]
      · rw [w8_4_2, mup_self, hs]
        unfold te
        rw [if_pos (by omega)]
      · rw [mup_self, hs]
        unfold kd
        rw [if_pos (by omega)]
    | succ m ih =>
      intro x ν hm x0 x1 hx hF hs
      have hT2 := TX_fr hT hF (by omega) (fun k => by omega)
      refine vc_X5_nextToken_4 ?_
      simp only [w8_1_2, w8_1_3, w8_1_4, w8_1_5, w8_1_7, w8_2_3, w8_2_4, w8_2_5, w8_2_7, w8_3_2, w8_3_4, w8_3_5, w8_3_7, w8_4_2, w8_4_3, w8_4_5, w8_4_7, w8_5_2, w8_5_3, w8_5_4, w8_5_7, w8_7_2, w8_7_3, w8_7_4, w8_7_5, mup_self]
      rw [hx, hT2.1, if_pos (by omega)]
      refine s_signIn hT2 x0 (by omega) ?_
      split
      · next g =>
        rw [hx]
        exact ⟨zin_sm (by omega), ih (x + 1) _ (by omega) (by omega) (by omega) (mup_self _ _ _ _ _) (fr_up hF ⟨rfl, by omega⟩) (by rw [hs, sc_y (by omega) (decide_eq_true g)])⟩
      · next g =>
        rw [sc_n (fun z => g (of_decide_eq_true z.2))] at hs
        rw [hx, hT2.1, if_pos (by omega)]
        refine ⟨zin_sm (by omega), ?_⟩
        have hF3 : fr Ptk μ (mup (mup ν 8 0 4 x) 8 0 4 (x + 1)) := fr_up (fr_up hF ⟨rfl, by omega⟩) ⟨rfl, by omega⟩
        have h33 : (mup (mup ν 8 0 4 x) 8 0 4 (x + 1)) 8 0 3 = x := by rw [w8_3_4, w8_3_4, hx]
        have h34 : (mup (mup ν 8 0 4 x) 8 0 4 (x + 1)) 8 0 4 = x + 1 := mup_self _ _ _ _ _
        generalize mup (mup ν 8 0 4 x) 8 0 4 (x + 1) = ν3 at *
        have hT3 := TX_fr hT hF3 (by omega) (fun k => by omega)
        have hkd : ¬ L ≤ x := by omega
        refine s_signIn hT3 x0 (by omega) (s_isLetter (fun g1 => ?_) (fun g1 => ?_))
        · rw [if_neg (by omega)]
          refine words _ (x + 1) _ rfl (by omega) (by omega) (by rw [w8_4_2]; exact h34) (fr_up hF3 ⟨rfl, by omega⟩) _ (fun ξ e1 e2 e3 e4 => hK ξ ⟨?_, ?_, ?_⟩ e4)
          · rw [e2, w8_3_2, h33, hs]
          · rw [e1, hs]; unfold te; rw [if_neg hkd, if_pos g1]
          · rw [e3, mup_self, hs]; unfold kd; rw [if_neg hkd, if_pos g1]
        · rw [if_pos rfl]
          split
          · next g2 =>
            refine digits _ (x + 1) _ rfl (by omega) (by omega) (by rw [w8_4_2]; exact h34) (fr_up hF3 ⟨rfl, by omega⟩) _ (fun ξ e1 e2 e3 e4 => hK ξ ⟨?_, ?_, ?_⟩ e4)
            · rw [e2, w8_3_2, h33, hs]
            · rw [e1, hs]; unfold te; rw [if_neg hkd, if_neg g1, if_pos (Or.inl g2)]
            · rw [e3, mup_self, hs]; unfold kd; rw [if_neg hkd, if_neg g1, if_pos (Or.inl g2)]
          · next g2 =>
            refine s_isDigit (fun g3 => ?_) (fun g3 => ?_)
            · rw [if_neg (by omega)]
              refine digits _ (x + 1) _ rfl (by omega) (by omega) (by rw [w8_4_2]; exact h34) (fr_up hF3 ⟨rfl, by omega⟩) _ (fun ξ e1 e2 e3 e4 => hK ξ ⟨?_, ?_, ?_⟩ e4)
              · rw [e2, w8_3_2, h33, hs]
              · rw [e1, hs]; unfold te; rw [if_neg hkd, if_neg g1, if_pos (Or.inr g3)]
              · rw [e3, mup_self, hs]; unfold kd; rw [if_neg hkd, if_neg g1, if_pos (Or.inr g3)]
            · rw [if_pos rfl]
              have hno : ¬ (T x = 45 ∨ cDg (T x) = true) := by rintro (z | z); exact g2 z; exact g3 z
              refine ⟨trivial, hK _ ⟨?_, ?_, ?_⟩ (fr_up hF3 ⟨rfl, by omega⟩)⟩
              · rw [w8_3_2, h33, hs]
              · rw [w8_4_2, h34, hs]; unfold te; rw [if_neg hkd, if_neg g1, if_neg hno]
              · rw [mup_self, hs]; unfold kd; rw [if_neg hkd, if_neg g1, if_neg hno]
  exact skip _ p _ rfl p0 p1 (mup_self _ _ _ _ _) (fr_up fr_rf ⟨rfl, by omega⟩) rfl
end Txt
