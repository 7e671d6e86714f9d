section Rd
variable {μ : mzM} {s : Int → Int} {T : Int → Int} {L : Int} {K : Int → mzM → Prop}
/-- the reader stands at the token that begins at b -/
def TK (μ : mzM) (T : Int → Int) (L b : Int) : Prop := (μ 8 0 3 = b ∧ μ 8 0 4 = te T L b ∧ μ 8 0 2 = kd T L b) ∧ 0 ≤ b ∧ b ≤ L
theorem s_readNumber {b : Int} (hT : TX μ T L) (hk : TK μ T L b) (h1 : nok T L b → ∀ ν, ν 8 0 5 = nvl T L b → fr (fun t _ k => t = 8 ∧ k = 5) μ ν → K 1 ν) (h0 : ¬ nok T L b → K 0 μ) : ZI f_X5_readNumber [vR 8 0] μ K := by
  obtain ⟨⟨k1, k2, k3⟩, b0, bL⟩ := hk
  have hL := hT.2.1
  refine vc_X5_readNumber_0 ?_
  rw [k3]
  split
  · next q1 =>
    have hlt : b < L := kd_lt (T := T) (by rw [q1]; decide)
    have hte := te_b (T := T) hlt
    rw [k1]
    -- the number is read
    have rd : ∀ (v : Int), v = nfr T b → (1 ≤ te T L b - v ∧ te T L b - v ≤ 2) → ¬ (te T L b - v = 2 ∧ T v = 48) → ZW f_X5_readNumber 44 [vR 8 0, vI v, vI (te T L b - v)] [vI v, vR 8 0, vR 8 0] μ (fun r ν => ∃ a, r = some (vI a) ∧ K a ν) := by
      intro v hv hd hz
      have hn : nok T L b := ⟨q1, by rw [← hv]; exact hd, by rw [← hv]; exact hz⟩
      obtain ⟨g1, g2, g3, g4, g5⟩ := nok_b (fun k k0 k1 => (hT.2.2 k k0 k1).2) b0 hn
      have d1 := g4 v (by omega) (by omega)
      have hvb : (v = b ∧ T b ≠ 45) ∨ (v = b + 1 ∧ T b = 45) := by
        rw [hv]
        unfold nfr
        split
        · next y => exact Or.inr ⟨rfl, y⟩
        · next y => exact Or.inl ⟨rfl, y⟩
      refine vc_X5_readNumber_44 (s_signIn hT (by omega) (by omega) ⟨zin_sm (by omega), ?_⟩)
      have F1 : fr (fun t _ k => t = 8 ∧ k = 5) μ (mup μ 8 0 5 (T v - 48)) := fr_up fr_rf ⟨rfl, rfl⟩
      split
      · next q2 =>
        have d2 := g4 (v + 1) (by omega) (by omega)
        simp only [w8_1_2, w8_1_3, w8_1_4, w8_1_5, w8_1_7, w8_2_3, w8_2_4, w8_2_5, w8_2_7, w8_3_2, w8_3_4, w8_3_5, w8_3_7, w8_4_2, w8_4_3, w8_4_5, w8_4_7, w8_5_2, w8_5_3, w8_5_4, w8_5_7, w8_7_2, w8_7_3, w8_7_4, w8_7_5, mup_self]
        refine ⟨zin_sm (by omega), zin_sm (by omega), s_signIn (TX_fr hT F1 (by omega) (fun k => by omega)) (by omega) (by omega) ⟨zin_sm (by omega), zin_sm (by omega), ?_⟩⟩
        simp only [w8_1_2, w8_1_3, w8_1_4, w8_1_5, w8_1_7, w8_2_3, w8_2_4, w8_2_5, w8_2_7, w8_3_2, w8_3_4, w8_3_5, w8_3_7, w8_4_2, w8_4_3, w8_4_5, w8_4_7, w8_5_2, w8_5_3, w8_5_4, w8_5_7, w8_7_2, w8_7_3, w8_7_4, w8_7_5, mup_self]
        rw [k1]
        have hab : nab T L b = 10 * (T v - 48) + (T (v + 1) - 48) := by unfold nab; rw [← hv, if_pos q2]
        split
        · next q3 =>
          refine zlf (h1 hn _ ?_ (fr_up (fr_up F1 ⟨rfl, rfl⟩) ⟨rfl, rfl⟩)) rfl
          rw [mup_self]
          unfold nvl
          rw [if_pos (by omega), hab]
          unfold zw
          omega
        · next q3 =>
          refine zlf (h1 hn _ ?_ (fr_up F1 ⟨rfl, rfl⟩)) rfl
          rw [mup_self]
          unfold nvl
          rw [if_neg (by omega), hab]
      · next q2 =>
        simp only [w8_1_2, w8_1_3, w8_1_4, w8_1_5, w8_1_7, w8_2_3, w8_2_4, w8_2_5, w8_2_7, w8_3_2, w8_3_4, w8_3_5, w8_3_7, w8_4_2, w8_4_3, w8_4_5, w8_4_7, w8_5_2, w8_5_3, w8_5_4, w8_5_7, w8_7_2, w8_7_3, w8_7_4, w8_7_5, mup_self]
        rw [k1]
        have hab : nab T L b = T v - 48 := by unfold nab; rw [← hv, if_neg q2]
        split
        · next q3 =>
          refine zlf (h1 hn _ ?_ (fr_up F1 ⟨rfl, rfl⟩)) rfl
          rw [mup_self]
          unfold nvl
          rw [if_pos (by omega), hab]
          unfold zw
          omega
        · next q3 =>
          refine zlf (h1 hn _ ?_ F1) rfl
          rw [mup_self]
          unfold nvl
          rw [if_neg (by omega), hab]
    refine s_signIn hT b0 hlt ?_
    rw [k1, k2]
    split
    · next q2 =>
      have hv : b + 1 = nfr T b := by unfold nfr; rw [if_pos q2]
      refine ⟨zin_sm (by omega), zin_sm (by omega), ?_⟩
      split
      · exact zlf (h0 (fun z => by have := z.2.1; omega)) rfl
      split
      · exact zlf (h0 (fun z => by have := z.2.1; omega)) rfl
      split
      · next q3 q4 q5 =>
        refine s_signIn hT (by omega) (by omega) ?_
        split
        · next q6 => exact zlf (h0 (fun z => z.2.2 (by rw [← hv]; exact ⟨q5, q6⟩))) rfl
        · next q6 => exact rd (b + 1) hv (by omega) (fun z => q6 z.2)
      · next q3 q4 q5 => exact rd (b + 1) hv (by omega) (fun z => q5 z.1)
    · next q2 =>
      have hv : b = nfr T b := by unfold nfr; rw [if_neg q2]
      refine ⟨zin_sm (by omega), ?_⟩
      split
      · exact zlf (h0 (fun z => by have := z.2.1; omega)) rfl
      split
      · exact zlf (h0 (fun z => by have := z.2.1; omega)) rfl
      split
      · next q3 q4 q5 =>
        refine s_signIn hT (by omega) (by omega) ?_
        split
        · next q6 => exact zlf (h0 (fun z => z.2.2 (by rw [← hv]; exact ⟨q5, q6⟩))) rfl
        · next q6 => exact rd b hv (by omega) (fun z => q6 z.2)
      · next q3 q4 q5 => exact rd b hv (by omega) (fun z => q5 z.1)
  · next q1 => exact zlf (h0 (fun z => q1 z.1)) rfl
theorem s_isAllowed {b a : Int} (hW : WF s) (hS : ST μ 0 s) (hT : TX μ T L) (hk : TK μ T L b) (hn : nok T L b) (h5 : μ 8 0 5 = nvl T L b) (h1 : aok s T L b a → K 1 μ) (h0 : ¬ aok s T L b a → K 0 μ) : ZI f_X5_isAllowed [vR 8 0, vI a, vR 1 0] μ K := by
  obtain ⟨⟨k1, k2, k3⟩, b0, bL⟩ := hk
  have hlt := (nok_b (fun k k0 k1 => (hT.2.2 k k0 k1).2) b0 hn).2.1
  unfold aok at h1 h0
  refine vc_X5_isAllowed_0 ?_
  rw [h5]
  split
  · next q1 =>
    rw [if_pos q1] at h1 h0
    split
    · exact zlf (h0 (by omega)) rfl
    split
    · exact zlf (h0 (by omega)) rfl
    · exact zlf (h1 ⟨hn, by omega, by omega⟩) rfl
  · next q1 =>
    rw [if_neg q1] at h1 h0
    rw [k1]
    refine s_signIn hT b0 hlt ?_
    split
    · next q2 => exact zlf (h0 (fun z => z.2.1 q2)) rfl
    · next q2 =>
      split
      · next q3 =>
        rw [if_pos q3] at h1 h0
        rw [h5]
        refine s_X6_isFrame hS ?_
        by_cases hf : isF s (nvl T L b)
        · rw [if_pos hf, if_neg (by omega), h5]
          refine s_X6_isReadable hW hS (Or.inr hf) (fun g => ?_) (fun g => ?_)
          · rw [if_neg (by omega)]; exact zlf (h1 ⟨hn, q2, hf, g⟩) rfl
          · rw [if_pos rfl]; exact zlf (h0 (fun z => g z.2.2.2)) rfl
        · rw [if_neg hf, if_pos rfl]; exact zlf (h0 (fun z => hf z.2.2.1)) rfl
      · next q3 =>
        rw [if_neg q3] at h1 h0
        rw [h5]
        split
        · next q4 =>
          rw [if_pos q4] at h1 h0
          split
          · exact zlf (h0 (fun z => by have := z.2.2; omega)) rfl
          · exact zlf (h1 ⟨hn, q2, by omega⟩) rfl
        · next q4 =>
          rw [if_neg q4] at h1 h0
          split
          · exact zlf (h0 (fun z => by have := z.2.2; omega)) rfl
          · exact zlf (h1 ⟨hn, q2, by omega⟩) rfl
theorem s_isToken {b i : Int} (hT : TX μ T L) (hk : TK μ T L b) (i0 : 0 ≤ i) (i1 : i < 10) (h1 : istk T L b (ztext i.toNat) → K 1 μ) (h0 : ¬ istk T L b (ztext i.toNat) → K 0 μ) : ZI f_X5_isToken [vR 8 0, vR 30 i] μ K := by
  obtain ⟨⟨k1, k2, k3⟩, b0, bL⟩ := hk
  have hL := hT.2.1
  have htl := ztext_len i.toNat (by omega)
  refine vc_X5_isToken_0 ?_
  rw [k1, k2]
  have hte : b ≤ te T L b ∧ te T L b ≤ L := by
    rcases Int.lt_or_le b L with q | q
    · have := te_b (T := T) q; omega
    · unfold te; rw [if_pos q]; omega
  refine ⟨zin_sm (by omega), s_length i0 i1 ?_⟩
  split
  · next q1 =>
    have key : ∀ (m j : Nat), j + m = (ztext i.toNat).length → (∀ a : Nat, a < j → T (b + a) = (ztext i.toNat).getD a 0) → ZW f_X5_isToken 12 [vR 8 0, vR 30 i, vI (j : Int)] [] μ (fun r ν => ∃ a, r = some (vI a) ∧ K a ν) := by
      intro m
      induction m with
      | zero =>
        intro j hj hp
        refine vc_X5_isToken_12 (s_length i0 i1 ?_)
        rw [if_neg (by omega)]
        exact zlf (h1 ⟨q1, fun a ha => hp a (by omega)⟩) rfl
      | succ m ih =>
        intro j hj hp
        refine vc_X5_isToken_12 (s_length i0 i1 ?_)
        rw [if_pos (by omega), k1]
        refine ⟨zin_sm (by omega), s_signIn hT (by omega) (by omega) (s_charAt i0 i1 (by omega) (by omega) ?_)⟩
        split
        · next q2 =>
          refine ⟨zin_sm (by omega), ?_⟩
          rw [show (j : Int) + 1 = ((j + 1 : Nat) : Int) by omega]
          refine ih (j + 1) (by omega) (fun a ha => ?_)
          by_cases z : a = j
          · rw [z, q2]; congr 1
          · exact hp a (by omega)
        · next q2 => exact zlf (h0 (fun z => q2 (by rw [z.2 j (by omega)]; congr 1))) rfl
    exact key (ztext i.toNat).length 0 (by omega) (fun a ha => absurd ha (Nat.not_lt_zero a))
  · next q1 => exact zlf (h0 (fun z => q1 z.1)) rfl
theorem s_wordOf {c : Int} (c0 : 0 ≤ c) (c1 : c ≤ 4) (h : K c μ) : ZR f_X5_wordOf 30 [vI c] μ K := by
  refine vc_X5_wordOf_0 ?_
  split
  · exact zlr h (by omega)
  split
  · exact zlr h (by omega)
  split
  · exact zlr h (by omega)
  split
  · exact zlr h (by omega)
  · exact zlr h (by omega)
theorem s_argumentsOf {c : Int} (c0 : 0 ≤ c) (c1 : c ≤ 4) (h : K (5 + c) μ) : ZR f_X5_argumentsOf 30 [vI c] μ K := by
  refine vc_X5_argumentsOf_0 ?_
  split
  · exact zlr h (by omega)
  split
  · exact zlr h (by omega)
  split
  · exact zlr h (by omega)
  split
  · exact zlr h (by omega)
  · exact zlr h (by omega)
theorem s_commandOfToken {b : Int} (hT : TX μ T L) (hk : TK μ T L b) (h : K (cmdof T L b) μ) : ZI f_X5_commandOfToken [vR 8 0] μ K := by
  have k3 := hk.1.2.2
  refine vc_X5_commandOfToken_0 ?_
  unfold cmdof at h
  by_cases q : kd T L b = 1
  · rw [if_pos q] at h
    have key : ∀ (n : Nat) (c : Int), 0 ≤ c → c + n = 5 → K (cmdf T L b n c) μ → ZW f_X5_commandOfToken 2 [vR 8 0, vI c] [] μ (fun r ν => ∃ a, r = some (vI a) ∧ K a ν) := by
      intro n
      induction n with
      | zero =>
        intro c c0 c1 h
        refine vc_X5_commandOfToken_2 ?_
        rw [if_neg (by omega)]
        exact zlf h rfl
      | succ n ih =>
        intro c c0 c1 h
        refine vc_X5_commandOfToken_2 ?_
        rw [if_pos (by omega), k3, if_pos q]
        unfold cmdf at h
        refine s_wordOf c0 (by omega) (s_isToken hT hk c0 (by omega) (fun g => ?_) (fun g => ?_))
        · rw [cif_p g] at h
          rw [if_neg (by omega)]
          exact zlf h rfl
        · rw [cif_n g] at h
          rw [if_pos rfl]
          exact ⟨zin_sm (by omega), ih (c + 1) (by omega) (by omega) h⟩
    exact key 5 0 (by omega) (by omega) h
  · rw [if_neg q] at h
    refine vc_X5_commandOfToken_2 ?_
    rw [if_pos (by omega), k3, if_neg q]
    exact zlf h rfl
/-- the program that was read so far -/
def PG (μ : mzM) (pr : List Int) : Prop := μ 8 0 7 = (pr.length : Int) ∧ ∀ i : Nat, i < pr.length → μ 10 0 (i : Int) = pr.getD i 0
theorem PG_fr {P : Nat → Int → Int → Prop} {ν : mzM} {pr : List Int} (h : PG μ pr) (hF : fr P μ ν) (h1 : ¬ P 8 0 7) (h2 : ∀ k, ¬ P 10 0 k) : PG ν pr := ⟨(hF 8 0 7 h1).trans h.1, fun i hi => (hF 10 0 _ (h2 _)).trans (h.2 i hi)⟩
theorem s_addTo {pr : List Int} {v : Int} {K : mzM → Prop} (hP : PG μ pr) (hl : pr.length < 160) (hK : ∀ ν, PG ν (pr ++ [v]) → fr (fun t _ k => (t = 8 ∧ k = 7) ∨ t = 10) μ ν → K ν) : ZV f_X5_addToProgram [vR 8 0, vI v] μ K := by
  refine vc_X5_addToProgram_0 ?_
  rw [hP.1, if_neg (by omega), if_pos (by omega)]
  have e : (mup μ 10 0 (pr.length : Int) v) 8 0 7 = (pr.length : Int) := (mup_t (by decide)).trans hP.1
  rw [e]
  refine ⟨by omega, zin_sm (by omega), rfl, hK _ ⟨?_, fun i hi => ?_⟩ (fr_up (fr_up fr_rf (Or.inr rfl)) (Or.inl ⟨rfl, rfl⟩))⟩
  · rw [mup_self, List.length_append]; rfl
  · rw [List.length_append] at hi
    have hi : i < pr.length + 1 := hi
    rw [mup_t (by decide)]
    by_cases z : i = pr.length
    · rw [z, mup_self]; simp
    · rw [mup_k (by omega), hP.2 i (by omega)]
      simp [List.getD_eq_getElem?_getD, List.getElem?_append_left (show i < pr.length by omega)]
theorem TK_at {p : Int} {ν : mzM} (h : ν 8 0 3 = sk T L p ∧ ν 8 0 4 = te T L (sk T L p) ∧ ν 8 0 2 = kd T L (sk T L p)) (p0 : 0 ≤ p) (p1 : p ≤ L) : TK ν T L (sk T L p) := by
  have := sk_b (T := T) p1
  exact ⟨h, by omega, by omega⟩
theorem ST_sp {ν : mzM} {P : Nat → Int → Int → Prop} (hW : WF s) (hS : ST μ 0 s) (h : fr P μ ν) (hP : ∀ t i k, P t i k → Psp t i k) : ST ν 0 s := by
  have h10 := hW.2.1
  have h := fr_mono h hP
  exact ST_fr hS h (fun k => by omega) (fun k => ⟨by omega, by omega⟩) (fun f f0 f1 k => ⟨by omega, by omega, by omega, by omega⟩)
theorem cargs_len {c : Int} (c0 : 0 ≤ c) (c1 : c ≤ 4) : (cargs c).length < 10 := (ztext_len (5 + c.toNat) (by omega)).1
theorem s_readCommand {b : Int} {pr : List Int} (hW : WF s) (hS : ST μ 0 s) (hT : TX μ T L) (hk : TK μ T L b) (hb : b < L) (hP : PG μ pr) (hl : (pr.length : Int) ≤ b)
    (h0 : ∀ e, pcmd s T L b = .inl e → ∀ ν, ν 8 0 3 = e → 0 ≤ e → fr Psp μ ν → K 0 ν) (h1 : ∀ q vs, pcmd s T L b = .inr (q, vs) → ∀ ν, ν 8 0 4 = q → PG ν (pr ++ vs) → ((pr ++ vs).length : Int) ≤ q → b < q → q ≤ L → fr Psp μ ν → K 1 ν) : ZI f_X5_readCommand [vR 8 0, vR 1 0] μ K := by
  have hL := hT.2.1
  have hc := cmdof_b T L b
  have hte := te_b (T := T) hb
  unfold pcmd at h0 h1
  refine vc_X5_readCommand_0 (s_commandOfToken hT hk ?_)
  split
  · next q =>
    rw [if_pos q] at h0
    exact zlf (h0 b rfl μ hk.1.1 hk.2.1 fr_rf) rfl
  · next q =>
    rw [if_neg q] at h0 h1
    refine s_addTo hP (by omega) (fun ν hP2 hF2 => s_argumentsOf (by omega) hc.2 ?_)
    obtain ⟨c, hcc⟩ : ∃ c, c = cmdof T L b := ⟨_, rfl⟩
    rw [← hcc] at h0 h1 hP2 hc q ⊢
    have hcl := cargs_len (c := c) (by omega) hc.2
    have ect : ztext (5 + c).toNat = cargs c := by unfold cargs; congr 1; omega
    have key : ∀ (as : List Int) (i : Nat) (p : Int) (ξ : mzM) (pr2 : List Int), as = (cargs c).drop i → i ≤ (cargs c).length → ξ 8 0 4 = p → b < p → p ≤ L → PG ξ pr2 → (pr2.length : Int) ≤ p → fr Psp μ ξ →
        (∀ e, pargs s T L as p = .inl e → ∀ ω, ω 8 0 3 = e → 0 ≤ e → fr Psp μ ω → K 0 ω) → (∀ q vs, pargs s T L as p = .inr (q, vs) → ∀ ω, ω 8 0 4 = q → PG ω (pr2 ++ vs) → ((pr2 ++ vs).length : Int) ≤ q → b < q → q ≤ L → fr Psp μ ω → K 1 ω) →
        ZW f_X5_readCommand 15 [vR 8 0, vR 1 0, vI c, vR 30 (5 + c), vI (i : Int)] [] ξ (fun r ν => ∃ a, r = some (vI a) ∧ K a ν) := by
      intro as
      induction as with
      | nil =>
        intro i p ξ pr2 has hi hp p0 p1 hP3 hl3 hF3 g0 g1
        have hil : (cargs c).length ≤ i := List.drop_eq_nil_iff.mp has.symm
        have hT3 := TX_fr hT hF3 (by omega) (fun k => by omega)
        have hsk := sk_b (T := T) p1
        refine vc_X5_readCommand_15 (s_length (by omega) (by omega) ?_)
        rw [ect, if_neg (by omega)]
        refine s_nextToken hT3 hp (by omega) p1 (fun ω hω hF4 => ?_)
        have hF5 : fr Psp μ ω := fr_tr hF3 (fr_mono hF4 (fun t i k z => Or.inl ⟨z.1, by omega⟩))
        have hT4 := TX_fr hT hF5 (by omega) (fun k => by omega)
        unfold pargs at g0 g1
        rw [hω.2.2]
        split
        · next q1 =>
          have hlt : sk T L p < L := kd_lt (T := T) (by rw [q1]; decide)
          rw [hω.1]
          refine s_signIn hT4 (by omega) hlt ?_
          split
          · next q2 =>
            rw [if_pos ⟨q1, q2⟩] at g1
            refine zlf (g1 _ _ rfl ω ?_ ?_ ?_ ?_ ?_ hF5) rfl
            · rw [hω.2.1]
              have hk3 := q1
              unfold kd at hk3
              unfold te
              rw [if_neg (by omega)] at hk3 ⊢
              by_cases z1 : cLt (T (sk T L p)) = true
              · rw [if_pos z1] at hk3; omega
              · rw [if_neg z1] at hk3 ⊢
                by_cases z2 : T (sk T L p) = 45 ∨ cDg (T (sk T L p)) = true
                · rw [if_pos z2] at hk3; omega
                · rw [if_neg z2]
            · rw [List.append_nil]; exact PG_fr hP3 hF4 (by omega) (fun k => by omega)
            · rw [List.append_nil]; omega
            · omega
            · omega
          · next q2 =>
            rw [if_neg (fun z => q2 z.2)] at g0
            exact zlf (g0 _ rfl ω hω.1 (by omega) hF5) rfl
        · next q1 =>
          rw [if_neg (fun z => q1 z.1)] at g0
          exact zlf (g0 _ rfl ω hω.1 (by omega) hF5) rfl
      | cons a as ih =>
        intro i p ξ pr2 has hi hp p0 p1 hP3 hl3 hF3 g0 g1
        have hil : i < (cargs c).length := by
          rcases Nat.lt_or_ge i (cargs c).length with z | z
          · exact z
          · rw [List.drop_eq_nil_of_le z] at has; cases has
        have hai : (cargs c).getD i 0 = a := by
          have h9 : ((cargs c).drop i).head? = some a := by rw [← has]; rfl
          rw [List.head?_drop] at h9
          rw [List.getD_eq_getElem?_getD, h9]; rfl
        have has2 : as = (cargs c).drop (i + 1) := by rw [← List.tail_drop, ← has]; rfl
        have hT3 := TX_fr hT hF3 (by omega) (fun k => by omega)
        have hsk := sk_b (T := T) p1
        refine vc_X5_readCommand_15 (s_length (by omega) (by omega) ?_)
        rw [ect, if_pos (by omega)]
        refine s_nextToken hT3 hp (by omega) p1 (fun ω hω hF4 => ?_)
        have hF5 : fr Psp μ ω := fr_tr hF3 (fr_mono hF4 (fun t i k z => Or.inl ⟨z.1, by omega⟩))
        have hT4 := TX_fr hT hF5 (by omega) (fun k => by omega)
        have hk4 := TK_at hω (by omega) p1
        have hP4 := PG_fr hP3 hF4 (by omega) (fun k => by omega)
        unfold pargs at g0 g1
        refine s_readNumber hT4 hk4 (fun hn ζ hζ hF6 => ?_) (fun hn => ?_)
        · rw [if_neg (by omega)]
          refine s_charAt (by omega) (by omega) (by omega) (by rw [ect]; omega) ?_
          rw [ect, show (i : Int).toNat = i by omega, hai]
          have hF7 : fr Psp μ ζ := fr_tr hF5 (fr_mono hF6 (fun t i k z => Or.inl ⟨z.1, by omega⟩))
          have hT5 := TX_fr hT hF7 (by omega) (fun k => by omega)
          have hk5 : TK ζ T L (sk T L p) := ⟨⟨(hF6 8 0 3 (by omega)).trans hk4.1.1, (hF6 8 0 4 (by omega)).trans hk4.1.2.1, (hF6 8 0 2 (by omega)).trans hk4.1.2.2⟩, hk4.2⟩
          have hP5 := PG_fr hP4 hF6 (by omega) (fun k => by omega)
          obtain ⟨n1, n2, n3, -⟩ := nok_b (fun k k0 k1 => (hT.2.2 k k0 k1).2) hk4.2.1 hn
          have hte2 := te_b (T := T) n2
          refine s_isAllowed hW (ST_sp hW hS hF7 (fun t i k z => z)) hT5 hk5 hn hζ (fun ha => ?_) (fun ha => ?_)
          · rw [if_neg (by omega), hζ]
            rw [cif_p ha] at g0 g1
            refine s_addTo hP5 (by omega) (fun η hP6 hF8 => ⟨zin_sm (by omega), ?_⟩)
            rw [show (i : Int) + 1 = ((i + 1 : Nat) : Int) by omega]
            have hF9 : fr Psp μ η := fr_tr hF7 (fr_mono hF8 (fun t i k z => by omega))
            refine ih (i + 1) (te T L (sk T L p)) η (pr2 ++ [nvl T L (sk T L p)]) has2 (by omega) ((hF8 8 0 4 (by omega)).trans hk5.1.2.1) (by omega) (by omega) hP6 (by rw [List.length_append]; simp; omega) hF9 (fun e he ω2 w1 w2 w3 => ?_) (fun q vs hq ω2 w1 w2 w3 w4 w5 w6 => ?_)
            · rw [he] at g0
              exact g0 e rfl ω2 w1 w2 w3
            · rw [hq] at g1
              refine g1 q _ rfl ω2 w1 ?_ ?_ w4 w5 w6
              · rw [List.append_assoc] at w2; exact w2
              · rw [List.append_assoc] at w3; exact w3
          · rw [if_pos rfl]
            rw [cif_n ha] at g0
            exact zlf (g0 _ rfl ζ hk5.1.1 (by omega) hF7) rfl
        · rw [if_pos rfl]
          rw [cif_n (fun z => hn z.1)] at g0
          exact zlf (g0 _ rfl ω hω.1 (by omega) hF5) rfl
    have hF20 : fr Psp μ ν := fr_mono hF2 (fun t i k z => by omega)
    refine key (cargs c) 0 (te T L b) ν (pr ++ [c]) rfl (by omega) ((hF2 8 0 4 (by omega)).trans hk.1.2.1) (by omega) hte.2 hP2 (by rw [List.length_append]; simp; omega) hF20 (fun e he ω w1 w2 w3 => ?_) (fun q vs hq ω w1 w2 w3 w4 w5 w6 => ?_)
    · rw [he] at h0
      exact h0 e rfl ω w1 w2 w3
    · rw [hq] at h1
      refine h1 q _ rfl ω w1 ?_ ?_ w4 w5 w6
      · rw [List.append_assoc] at w2; exact w2
      · rw [List.append_assoc] at w3; exact w3
theorem s_errorPosition (hW : WF s) (hS : ST μ 0 s) (hT : TX μ T L) (h0 : ∀ e, pall s T L 161 0 = .inl e → 0 ≤ e → ∀ ν, fr Psp μ ν → K e ν) (h1 : ∀ l, pall s T L 161 0 = .inr l → ∀ ν, PG ν l.flatten → l.flatten.length ≤ 160 → fr Psp μ ν → K (-1) ν) : ZI f_X5_errorPosition [vR 8 0, vR 1 0] μ K := by
  have hL := hT.2.1
  refine vc_X5_errorPosition_0 ?_
  have key : ∀ (n : Nat) (x p : Int) (ν : mzM) (pr : List Int), x + n = 161 → x ≤ p → 0 ≤ x → p ≤ L → ν 8 0 4 = p → PG ν pr → (pr.length : Int) ≤ p → fr Psp μ ν →
      (∀ e, pall s T L n p = .inl e → 0 ≤ e → ∀ ξ, fr Psp μ ξ → K e ξ) → (∀ l, pall s T L n p = .inr l → ∀ ξ, PG ξ (pr ++ l.flatten) → (pr ++ l.flatten).length ≤ 160 → fr Psp μ ξ → K (-1) ξ) → ZW f_X5_errorPosition 8 [vR 8 0, vR 1 0, vI x] [] ν (fun r ν => ∃ a, r = some (vI a) ∧ K a ν) := by
    intro n
    induction n with
    | zero => intro x p ν pr hx hxp x0 pL; omega
    | succ n ih =>
      intro x p ν pr hx hxp x0 pL hp hP hl hF g0 g1
      have hT2 := TX_fr hT hF (by omega) (fun k => by omega)
      have hsk := sk_b (T := T) pL
      refine vc_X5_errorPosition_8 ?_
      rw [if_neg (by omega)]
      refine s_nextToken hT2 hp (by omega) pL (fun ξ hξ hF2 => ?_)
      have hF3 : fr Psp μ ξ := fr_tr hF (fr_mono hF2 (fun t i k z => Or.inl ⟨z.1, by omega⟩))
      have hT3 := TX_fr hT hF3 (by omega) (fun k => by omega)
      have hP3 := PG_fr hP hF2 (by omega) (fun k => by omega)
      rw [hξ.2.2]
      unfold pall at g0 g1
      split
      · next q1 =>
        rw [if_pos q1] at g1
        exact zlf (g1 [] rfl ξ (by simpa using hP3) (by simp; omega) hF3) rfl
      · next q1 =>
        rw [if_neg q1] at g0 g1
        have hlt : sk T L p < L := kd_lt q1
        refine s_readCommand hW (ST_sp hW hS hF3 (fun t i k z => z)) hT3 (TK_at hξ (by omega) pL) hlt hP3 (by omega) (fun e he ω w1 w2 w3 => ?_) (fun q vs hq ω w1 w2 w3 w4 w5 w6 => ?_)
        · rw [if_pos rfl, w1]
          rw [he] at g0
          exact zlf (g0 e rfl w2 ω (fr_tr hF3 w3)) rfl
        · rw [if_neg (by omega)]
          rw [hq] at g0 g1
          dsimp only at g0 g1
          refine ⟨zin_sm (by omega), ih (x + 1) q ω (pr ++ vs) (by omega) (by omega) (by omega) w5 w1 w2 w3 (fr_tr hF3 w6) (fun e he e0 η hη => ?_) (fun l hl2 η hη hη2 hη3 => ?_)⟩
          · rw [he] at g0
            exact g0 e rfl e0 η hη
          · rw [hl2] at g1
            refine g1 (vs :: l) rfl η ?_ ?_ hη3
            · rw [List.flatten_cons, ← List.append_assoc]; exact hη
            · rw [List.flatten_cons, ← List.append_assoc]; exact hη2
  refine key 161 0 0 _ [] (by omega) (by omega) (by omega) (by omega) ?_ ⟨?_, fun i hi => absurd hi (Nat.not_lt_zero i)⟩ (by simp) (fr_up (fr_up fr_rf (Or.inl ⟨rfl, by decide⟩)) (Or.inl ⟨rfl, by decide⟩)) h0 (fun l hl ξ hP hl2 hF => h1 l hl ξ (by simpa using hP) (by simpa using hl2) hF)
  · rw [w8_4_7, mup_self]
  · rw [mup_self]; rfl
end Rd
