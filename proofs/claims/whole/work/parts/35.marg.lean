/-! ===== the model: arguments and words ===== -/
theorem mkd_2 {T : Int → Int} {L b : Int} : mkd T L b = 2 ↔ nok T L b := by
  unfold mkd
  split
  · next q => exact ⟨fun z => absurd z (by decide), fun z => by have := z.1; omega⟩
  · split
    · next q => exact ⟨fun z => absurd z (by decide), fun z => by have := z.1; omega⟩
    · by_cases h : nok T L b
      · rw [cif_p h]; exact ⟨fun _ => h, fun _ => rfl⟩
      · rw [cif_n h]
        refine ⟨fun z => ?_, fun z => absurd z h⟩
        split at z <;> exact absurd z (by decide)
theorem mkd_0 {T : Int → Int} {L b : Int} : mkd T L b = 0 ↔ kd T L b = 0 := by
  unfold mkd
  split
  · next q => exact ⟨fun _ => q, fun _ => rfl⟩
  · next q =>
    refine ⟨fun z => ?_, fun z => absurd z q⟩
    split at z
    · exact absurd z (by decide)
    · unfold cif at z
      split at z
      · exact absurd z (by decide)
      · split at z <;> exact absurd z (by decide)
theorem mkd_1 {T : Int → Int} {L b : Int} : mkd T L b = 1 ↔ kd T L b = 1 := by
  unfold mkd
  split
  · next q => exact ⟨fun z => absurd z (by decide), fun z => by omega⟩
  · split
    · next q => exact ⟨fun _ => q, fun _ => rfl⟩
    · next q =>
      refine ⟨fun z => ?_, fun z => absurd z q⟩
      unfold cif at z
      split at z
      · exact absurd z (by decide)
      · split at z <;> exact absurd z (by decide)
theorem mkd_3 {T : Int → Int} {L b : Int} : mkd T L b = 3 ↔ (kd T L b = 3 ∧ T b = 59) := by
  unfold mkd
  split
  · next q => exact ⟨fun z => absurd z (by decide), fun z => by have := z.1; omega⟩
  · split
    · next q => exact ⟨fun z => absurd z (by decide), fun z => by have := z.1; omega⟩
    · by_cases h : nok T L b
      · rw [cif_p h]
        exact ⟨fun z => absurd z (by decide), fun z => by have := z.1; have := h.1; omega⟩
      · rw [cif_n h]
        split
        · next q => exact ⟨fun _ => q, fun _ => rfl⟩
        · next q => exact ⟨fun z => absurd z (by decide), fun z => absurd z q⟩
abbrev P10 : Nat → Int → Int → Prop := fun t i k => t = 20 ∧ i = 0 ∧ k = 10
section Mar
variable {μ : mzM} {s : Int → Int} {T : Int → Int} {L : Int}
theorem m_takes_ok {b x : Int} {K : mzM → Prop} (hT : MT μ T L) (hk : MTK μ T L b) (hw : μ 20 0 10 = 0) (hx : x ≠ 0) (hK : ∀ ν, MTK ν T L (sk T L (te T L b)) → ν 20 0 10 = 0 → fr Ptn μ ν → K ν) : ZV f_X8_takes [vR 20 0, vI x] μ K := by
  have hte : 0 ≤ te T L b ∧ te T L b ≤ L := by
    obtain ⟨_, ⟨b0, bL⟩, _⟩ := hk
    by_cases q : b < L
    · have := te_b (T := T) q; omega
    · unfold te; rw [if_pos (by omega)]; omega
  refine vc_X8_takes_0 ?_
  rw [if_pos hw, if_neg hx]
  refine ⟨Or.inl rfl, ?_⟩
  rw [mup_self, if_pos rfl]
  have F : fr Ptn μ (mup μ 20 0 10 0) := fr_up fr_rf (by omega)
  refine m_readsToken (MT_fr hT F (by omega) (fun k => by omega)) (p := te T L b) (by rw [v5_10]; exact hk.1.2) hte.1 hte.2 (fun ν hM hF => ⟨rfl, hK ν hM ?_ (fr_tr F (fr_mono hF (fun t i k q => by omega)))⟩)
  rw [hF 20 0 10 (by omega), mup_self]
theorem m_takes_no {K : mzM → Prop} (hw : μ 20 0 10 = 0) (hK : ∀ ν, ν 20 0 10 = 1 → fr P10 μ ν → K ν) : ZV f_X8_takes [vR 20 0, vI 0] μ K := by
  refine vc_X8_takes_0 ?_
  rw [if_pos hw, if_pos rfl]
  refine ⟨Or.inr rfl, ?_⟩
  rw [mup_self, if_neg (by decide)]
  exact ⟨rfl, hK _ (mup_self _ _ _ _ _) (fr_up fr_rf ⟨rfl, rfl, rfl⟩)⟩
theorem m_takes_w {x : Int} {K : mzM → Prop} (hw : μ 20 0 10 = 1) (hK : ∀ ν, ν 20 0 10 = 1 → fr P10 μ ν → K ν) : ZV f_X8_takes [vR 20 0, vI x] μ K := by
  refine vc_X8_takes_0 ?_
  rw [if_neg (by omega)]
  refine ⟨Or.inr rfl, ?_⟩
  rw [mup_self, if_neg (by decide)]
  exact ⟨rfl, hK _ (mup_self _ _ _ _ _) (fr_up fr_rf ⟨rfl, rfl, rfl⟩)⟩
theorem m_tn_w {lo hi : Int} {K : Int → mzM → Prop} (hw : μ 20 0 10 = 1) (hK : ∀ r ν, ν 20 0 10 = 1 → fr P10 μ ν → K r ν) : ZI f_X8_takesNumber [vR 20 0, vI lo, vI hi] μ K := by
  have tk : ∀ (x r : Int), ZV f_X8_takes [vR 20 0, vI x] μ (fun ν => ∃ a, some (vI r) = some (vI a) ∧ K a ν) := fun x r => m_takes_w hw (fun ν e hF => zlf (hK r ν e hF) rfl)
  refine vc_X8_takesNumber_0 ?_
  split
  · split
    · refine m_in (fun _ => ?_) (fun _ => ?_)
      · rw [if_neg (by decide)]
        first
          | exact tk _ _
          | (split <;> first
              | exact tk _ _
              | (split <;> exact tk _ _))
      · rw [if_pos rfl]; exact tk _ _
    · exact tk _ _
  · split
    · refine m_in (fun _ => ?_) (fun _ => ?_)
      · rw [if_neg (by decide)]
        first
          | exact tk _ _
          | (split <;> first
              | exact tk _ _
              | (split <;> exact tk _ _))
      · rw [if_pos rfl]; exact tk _ _
    · exact tk _ _
theorem m_tn {b lo hi : Int} {K : Int → mzM → Prop} (hT : MT μ T L) (hk : MTK μ T L b) (hw : μ 20 0 10 = 0) (h1 : (nok T L b ∧ (lo ≤ nvl T L b ∧ nvl T L b ≤ hi) ∧ (T b = 45 → lo < 0)) → ∀ ν, MTK ν T L (sk T L (te T L b)) → ν 20 0 10 = 0 → fr Ptn μ ν → K (nvl T L b) ν) (h0 : ¬ (nok T L b ∧ (lo ≤ nvl T L b ∧ nvl T L b ≤ hi) ∧ (T b = 45 → lo < 0)) → ∀ ν, ν 20 0 10 = 1 → fr P10 μ ν → K 0 ν) : ZI f_X8_takesNumber [vR 20 0, vI lo, vI hi] μ K := by
  obtain ⟨k1, ⟨b0, bL⟩, k9, k7, k33, k2⟩ := id hk
  have hT' : ∀ k, 0 ≤ k → k < L → 0 ≤ T k ∧ T k ≤ 255 := fun k k0 k1 => (hT.2.2 k k0 k1).2
  have no : ¬ (nok T L b ∧ (lo ≤ nvl T L b ∧ nvl T L b ≤ hi) ∧ (T b = 45 → lo < 0)) → ZV f_X8_takes [vR 20 0, vI 0] μ (fun ν => ∃ a, some (vI 0) = some (vI a) ∧ K a ν) := fun h => m_takes_no hw (fun ν e hF => zlf (h0 h ν e hF) rfl)
  have ok : ∀ v, v = nvl T L b → (nok T L b ∧ (lo ≤ nvl T L b ∧ nvl T L b ≤ hi) ∧ (T b = 45 → lo < 0)) → ZV f_X8_takes [vR 20 0, vI 1] μ (fun ν => ∃ a, some (vI v) = some (vI a) ∧ K a ν) := fun v hv h => m_takes_ok hT hk hw (by decide) (fun ν a c hF => zlf (h1 h ν a c hF) hv)
  refine vc_X8_takesNumber_0 ?_
  rw [k9, k7]
  by_cases hm : b < L ∧ T b = 45
  · rw [if_pos hm, if_neg (by decide)]
    split
    · next q =>
      have hn := mkd_2.mp q
      obtain ⟨_, _, _, _, g1, g2⟩ := nok_b hT' b0 hn
      have e : zw (-(zw (μ 33 0 0))) = nvl T L b := by
        rw [k2 hn]
        unfold nvl zw
        rw [if_pos hm.2]
        omega
      rw [e]
      refine m_in (fun r => ?_) (fun r => ?_)
      · rw [if_neg (by decide), k9, if_pos hm, if_neg (by decide)]
        split
        · next z => exact ok _ rfl ⟨hn, r, fun _ => z⟩
        · next z => exact no (fun y => z (y.2.2 hm.2))
      · rw [if_pos rfl]; exact no (fun y => r y.2.1)
    · next q => exact no (fun y => q (mkd_2.mpr y.1))
  · rw [if_neg hm, if_pos rfl]
    split
    · next q =>
      have hn := mkd_2.mp q
      obtain ⟨_, hbL, _, _, g1, g2⟩ := nok_b hT' b0 hn
      have h45 : T b ≠ 45 := fun z => hm ⟨hbL, z⟩
      have e : zw (μ 33 0 0) = nvl T L b := by
        rw [k2 hn]
        unfold nvl zw
        rw [if_neg h45]
        omega
      rw [e]
      refine m_in (fun r => ?_) (fun r => ?_)
      · rw [if_neg (by decide), k9, if_neg hm, if_pos rfl]
        exact ok _ rfl ⟨hn, r, fun z => absurd z h45⟩
      · rw [if_pos rfl]; exact no (fun y => r y.2.1)
    · next q => exact no (fun y => q (mkd_2.mpr y.1))
theorem aok_i {b a lo hi : Int} (hT' : ∀ k, 0 ≤ k → k < L → 0 ≤ T k ∧ T k ≤ 255) (b0 : 0 ≤ b) (ha : (a = 118 ∧ lo = 0 ∧ hi = 15) ∨ (a = 108 ∧ lo = 0 ∧ hi = 12) ∨ (a = 119 ∧ lo = -12 ∧ hi = 12)) : aok s T L b a ↔ (nok T L b ∧ (lo ≤ nvl T L b ∧ nvl T L b ≤ hi) ∧ (T b = 45 → lo < 0)) := by
  have hv : nok T L b → T b ≠ 45 → nvl T L b = nab T L b ∧ 0 ≤ nab T L b := fun h q => ⟨by unfold nvl; rw [if_neg q], (nok_b hT' b0 h).2.2.2.2.1⟩
  unfold aok
  rcases ha with ⟨h1, h2, h3⟩ | ⟨h1, h2, h3⟩ | ⟨h1, h2, h3⟩
  · subst h1; subst h2; subst h3
    rw [if_neg (by decide), if_neg (by decide), if_pos rfl]
    exact ⟨fun h => ⟨h.1, ⟨by have := hv h.1 h.2.1; omega, h.2.2⟩, fun z => absurd z h.2.1⟩, fun h => ⟨h.1, fun z => absurd (h.2.2 z) (by decide), h.2.1.2⟩⟩
  · subst h1; subst h2; subst h3
    rw [if_neg (by decide), if_neg (by decide), if_neg (by decide)]
    exact ⟨fun h => ⟨h.1, ⟨by have := hv h.1 h.2.1; omega, h.2.2⟩, fun z => absurd z h.2.1⟩, fun h => ⟨h.1, fun z => absurd (h.2.2 z) (by decide), h.2.1.2⟩⟩
  · subst h1; subst h2; subst h3
    rw [if_pos rfl]
    exact ⟨fun h => ⟨h.1, h.2, fun _ => by decide⟩, fun h => ⟨h.1, h.2.1⟩⟩
theorem m_arg {b a lo hi : Int} {K : Int → mzM → Prop} (hT : MT μ T L) (hk : MTK μ T L b) (hw : μ 20 0 10 = 0) (ha : (a = 118 ∧ lo = 0 ∧ hi = 15) ∨ (a = 108 ∧ lo = 0 ∧ hi = 12) ∨ (a = 119 ∧ lo = -12 ∧ hi = 12)) (h1 : aok s T L b a → ∀ ν, MTK ν T L (sk T L (te T L b)) → ν 20 0 10 = 0 → fr Ptn μ ν → K (nvl T L b) ν) (h0 : ¬ aok s T L b a → ∀ ν, ν 20 0 10 = 1 → fr P10 μ ν → K 0 ν) : ZI f_X8_takesNumber [vR 20 0, vI lo, vI hi] μ K := by
  have e := aok_i (s := s) (T := T) (L := L) (fun k k0 k1 => (hT.2.2 k k0 k1).2) hk.2.1.1 ha
  exact m_tn hT hk hw (fun h => h1 (e.mpr h)) (fun h => h0 (fun z => h (e.mp z)))
/-- the end of a command -/
theorem m_end {b : Int} {K : mzM → Prop} (hT : MT μ T L) (hk : MTK μ T L b) (hw : μ 20 0 10 = 0) (h1 : (kd T L b = 3 ∧ T b = 59) → ∀ ν, MTK ν T L (sk T L (b + 1)) → ν 20 0 10 = 0 → fr Ptn μ ν → K ν) (h0 : ¬ (kd T L b = 3 ∧ T b = 59) → ∀ ν, ν 20 0 10 = 1 → fr P10 μ ν → K ν) : if μ 20 0 7 = 3 then ZV f_X8_takes [vR 20 0, vI 1] μ (fun ν => (none : Option mzV) = none ∧ K ν) else ZV f_X8_takes [vR 20 0, vI 0] μ (fun ν => (none : Option mzV) = none ∧ K ν) := by
  rw [hk.2.2.2.1]
  split
  · next q =>
    have h3 := mkd_3.mp q
    have hte : te T L b = b + 1 := by
      have h := h3.1
      unfold kd at h
      unfold te
      by_cases c1 : L ≤ b
      · rw [if_pos c1] at h; omega
      · rw [if_neg c1] at h
        rw [if_neg c1]
        by_cases c2 : cLt (T b) = true
        · rw [if_pos c2] at h; omega
        · rw [if_neg c2] at h
          rw [if_neg c2]
          by_cases c3 : T b = 45 ∨ cDg (T b) = true
          · rw [if_pos c3] at h; omega
          · rw [if_neg c3]
    exact m_takes_ok hT hk hw (by decide) (fun ν a c hF => ⟨rfl, h1 h3 ν (by rw [← hte]; exact a) c hF⟩)
  · next q => exact m_takes_no hw (fun ν e hF => ⟨rfl, h0 (fun z => q (mkd_3.mpr z)) ν e hF⟩)
theorem m_end_w {K : mzM → Prop} (hw : μ 20 0 10 = 1) (h0 : ∀ ν, ν 20 0 10 = 1 → fr P10 μ ν → K ν) : if μ 20 0 7 = 3 then ZV f_X8_takes [vR 20 0, vI 1] μ (fun ν => (none : Option mzV) = none ∧ K ν) else ZV f_X8_takes [vR 20 0, vI 0] μ (fun ν => (none : Option mzV) = none ∧ K ν) := by
  split
  · exact m_takes_w hw (fun ν e hF => ⟨rfl, h0 ν e hF⟩)
  · exact m_takes_w hw (fun ν e hF => ⟨rfl, h0 ν e hF⟩)
end Mar
/-! words -/
theorem hsh_inj {T T' : Int → Int} {b b' : Int} : ∀ (n m : Nat), (∀ i : Nat, i < n → 97 ≤ T (b + i) ∧ T (b + i) ≤ 122) → (∀ i : Nat, i < m → 97 ≤ T' (b' + i) ∧ T' (b' + i) ≤ 122) → (hsh T b n = hsh T' b' m ↔ (n = m ∧ ∀ i : Nat, i < n → T (b + i) = T' (b' + i))) := by
  have pos : ∀ (T : Int → Int) (b : Int) (n : Nat), (∀ i : Nat, i < n → 97 ≤ T (b + i) ∧ T (b + i) ≤ 122) → 0 ≤ hsh T b n := by
    intro T b n
    induction n with
    | zero => intro _; exact Int.le_refl 0
    | succ n ih =>
      intro h
      have := ih (fun i hi => h i (by omega))
      have := h n (by omega)
      rw [hsh_s]
      omega
  intro n
  induction n with
  | zero =>
    intro m h1 h2
    cases m with
    | zero => exact ⟨fun _ => ⟨rfl, fun i hi => absurd hi (Nat.not_lt_zero i)⟩, fun _ => rfl⟩
    | succ m =>
      have := pos T' b' m (fun i hi => h2 i (by omega))
      have := h2 m (by omega)
      refine ⟨fun z => ?_, fun z => by have := z.1; omega⟩
      have e : hsh T b 0 = 0 := rfl
      rw [e, hsh_s] at z
      omega
  | succ n ih =>
    intro m h1 h2
    have p1 := pos T b n (fun i hi => h1 i (by omega))
    have q1 := h1 n (by omega)
    cases m with
    | zero =>
      refine ⟨fun z => ?_, fun z => by have := z.1; omega⟩
      have e : hsh T' b' 0 = 0 := rfl
      rw [e, hsh_s] at z
      omega
    | succ m =>
      have p2 := pos T' b' m (fun i hi => h2 i (by omega))
      have q2 := h2 m (by omega)
      have i1 := ih m (fun i hi => h1 i (by omega)) (fun i hi => h2 i (by omega))
      rw [hsh_s, hsh_s]
      constructor
      · intro z
        have e1 : hsh T b n = hsh T' b' m := by omega
        have e2 : T (b + n) = T' (b' + m) := by omega
        obtain ⟨f1, f2⟩ := i1.mp e1
        refine ⟨by omega, fun i hi => ?_⟩
        by_cases g : i = n
        · rw [g, e2, f1]
        · exact f2 i (by omega)
      · rintro ⟨f1, f2⟩
        have f3 : n = m := by omega
        have e1 := i1.mpr ⟨f3, fun i hi => f2 i (by omega)⟩
        have e2 := f2 n (by omega)
        rw [e1, e2, f3]
def Wd (w : List Int) : Int → Int := fun j => w.getD j.toNat 0
theorem kd1_lt {T : Int → Int} {L b : Int} (h : kd T L b = 1) : b < L ∧ cLt (T b) = true ∧ te T L b = sc T L cLt (b + 1) ∧ b + 1 ≤ te T L b ∧ ∀ q, b ≤ q → q < te T L b → 97 ≤ T q ∧ T q ≤ 122 := by
  have hb : b < L := kd_lt (T := T) (by rw [h]; decide)
  have hc : cLt (T b) = true := by
    unfold kd at h
    rw [if_neg (by omega)] at h
    by_cases q : cLt (T b) = true
    · exact q
    · rw [if_neg q] at h
      split at h <;> omega
  have hte : te T L b = sc T L cLt (b + 1) := by unfold te; rw [if_neg (by omega), if_pos hc]
  have hs := sc_b (T := T) (P := cLt) _ (b + 1) rfl (show b + 1 ≤ L by omega)
  refine ⟨hb, hc, hte, by omega, fun q q0 q1 => ?_⟩
  by_cases z : q = b
  · rw [z]; exact of_decide_eq_true hc
  · exact of_decide_eq_true (hs.2.2.1 q (by omega) (by omega))
theorem whash_w {T : Int → Int} {L b : Int} {w : List Int} (h : kd T L b = 1) (h8 : w.length ≤ 8) (hw : ∀ i : Nat, i < w.length → 97 ≤ w.getD i 0 ∧ w.getD i 0 ≤ 122) : whash T L b = hsh (Wd w) 0 w.length ↔ istk T L b w := by
  obtain ⟨h1, h2, h3, h4, h5⟩ := kd1_lt h
  have hW : ∀ i : Nat, Wd w (0 + (i : Int)) = w.getD i 0 := fun i => by unfold Wd; rw [show (0 + (i : Int)).toNat = i by omega]
  unfold whash istk
  by_cases q : te T L b - b ≤ 8
  · rw [if_pos q, hsh_inj (T := T) (T' := Wd w) (te T L b - b).toNat w.length (fun i hi => h5 _ (by omega) (by omega)) (fun i hi => by rw [hW]; exact hw i hi)]
    constructor
    · rintro ⟨e1, e2⟩
      refine ⟨by omega, fun i hi => ?_⟩
      rw [e2 i (by omega), hW]
    · rintro ⟨e1, e2⟩
      refine ⟨by omega, fun i hi => ?_⟩
      rw [hW]
      exact e2 i (by omega)
  · rw [if_neg q]
    refine ⟨fun z => ?_, fun z => by have := z.1; omega⟩
    have : 0 ≤ hsh (Wd w) 0 w.length := (hsh_b (T := Wd w) (b := 0) w.length h8 (fun r r0 r1 => by
      have := hw r.toNat (by omega)
      unfold Wd
      exact this)).1
    omega
theorem hsh_c : hsh (Wd (ztext 0)) 0 (ztext 0).length = 124995 ∧ hsh (Wd (ztext 1)) 0 (ztext 1).length = 1887 ∧ hsh (Wd (ztext 2)) 0 (ztext 2).length = 10261586 ∧ hsh (Wd (ztext 3)) 0 (ztext 3).length = 390787 ∧ hsh (Wd (ztext 4)) 0 (ztext 4).length = 3544025 := by decide
theorem ztext_8 : ∀ i : Nat, i < 5 → (ztext i).length ≤ 8 := by decide
theorem cmd_h {T : Int → Int} {L b : Int} (h : kd T L b = 1) : (whash T L b = 124995 ∧ cmdof T L b = 0) ∨ (whash T L b = 1887 ∧ cmdof T L b = 1) ∨ (whash T L b = 10261586 ∧ cmdof T L b = 2) ∨ (whash T L b = 390787 ∧ cmdof T L b = 3) ∨ (whash T L b = 3544025 ∧ cmdof T L b = 4) ∨ ((whash T L b ≠ 124995 ∧ whash T L b ≠ 1887 ∧ whash T L b ≠ 10261586 ∧ whash T L b ≠ 390787 ∧ whash T L b ≠ 3544025) ∧ cmdof T L b = -1) := by
  have key : ∀ i : Nat, i < 5 → (whash T L b = hsh (Wd (ztext i)) 0 (ztext i).length ↔ istk T L b (ztext i)) := fun i hi => whash_w h (ztext_8 i hi) (fun j hj => ztext_b i (by omega) j hj)
  obtain ⟨c0, c1, c2, c3, c4⟩ := hsh_c
  have k0 := key 0 (by decide)
  have k1 := key 1 (by decide)
  have k2 := key 2 (by decide)
  have k3 := key 3 (by decide)
  have k4 := key 4 (by decide)
  rw [c0] at k0
  rw [c1] at k1
  rw [c2] at k2
  rw [c3] at k3
  rw [c4] at k4
  have e : cmdof T L b = cif (istk T L b (ztext 0)) 0 (cif (istk T L b (ztext 1)) 1 (cif (istk T L b (ztext 2)) 2 (cif (istk T L b (ztext 3)) 3 (cif (istk T L b (ztext 4)) 4 (-1))))) := by
    unfold cmdof
    rw [if_pos h]
    rfl
  rw [e]
  by_cases q0 : whash T L b = 124995
  · exact Or.inl ⟨q0, cif_p (k0.mp q0)⟩
  rw [cif_n (fun z => q0 (k0.mpr z))]
  by_cases q1 : whash T L b = 1887
  · exact Or.inr (Or.inl ⟨q1, cif_p (k1.mp q1)⟩)
  rw [cif_n (fun z => q1 (k1.mpr z))]
  by_cases q2 : whash T L b = 10261586
  · exact Or.inr (Or.inr (Or.inl ⟨q2, cif_p (k2.mp q2)⟩))
  rw [cif_n (fun z => q2 (k2.mpr z))]
  by_cases q3 : whash T L b = 390787
  · exact Or.inr (Or.inr (Or.inr (Or.inl ⟨q3, cif_p (k3.mp q3)⟩)))
  rw [cif_n (fun z => q3 (k3.mpr z))]
  by_cases q4 : whash T L b = 3544025
  · exact Or.inr (Or.inr (Or.inr (Or.inr (Or.inl ⟨q4, cif_p (k4.mp q4)⟩))))
  rw [cif_n (fun z => q4 (k4.mpr z))]
  exact Or.inr (Or.inr (Or.inr (Or.inr (Or.inr ⟨⟨q0, q1, q2, q3, q4⟩, rfl⟩))))
