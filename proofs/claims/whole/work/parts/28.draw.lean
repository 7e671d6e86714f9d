/-! ===== what a command does, and the class's draw ===== -/
def excmd (s : Int → Int) (cv : Int → Int) (c : List Int) : Int → Int := fun k =>
  if c.getD 0 0 = 0 then c.getD 1 0
  else if c.getD 0 0 = 1 then (if (c.getD 1 0 ≤ k % s 0 ∧ k % s 0 < c.getD 1 0 + c.getD 3 0) ∧ (c.getD 2 0 ≤ k / s 0 ∧ k / s 0 < c.getD 2 0 + c.getD 4 0) then c.getD 5 0 else cv k)
  else if c.getD 0 0 = 2 then (if (0 ≤ k % s 0 - c.getD 1 0 ∧ k % s 0 - c.getD 1 0 < s 0) ∧ (0 ≤ k / s 0 - c.getD 2 0 ∧ k / s 0 - c.getD 2 0 < s 1) then cv ((k / s 0 - c.getD 2 0) * s 0 + (k % s 0 - c.getD 1 0)) else 0)
  else if c.getD 0 0 = 3 then (if cv k = c.getD 1 0 then c.getD 2 0 else if cv k = c.getD 2 0 then c.getD 1 0 else cv k)
  else sv s (c.getD 1 0) k
/-- what an argument of sort a may be -/
def avl (s : Int → Int) (a v : Int) : Prop := if a = 119 then -12 ≤ v ∧ v ≤ 12 else 0 ≤ v ∧ (if a = 102 then isF s v ∧ sgood s v else if a = 118 then v ≤ 15 else v ≤ 12)
def cmdok (s : Int → Int) (c : List Int) : Prop := (0 ≤ c.getD 0 0 ∧ c.getD 0 0 ≤ 4) ∧ c.length = (cargs (c.getD 0 0)).length + 1 ∧ ∀ i : Nat, i < (cargs (c.getD 0 0)).length → avl s ((cargs (c.getD 0 0)).getD i 0) (c.getD (i + 1) 0)
theorem aok_v {s : Int → Int} {T : Int → Int} {L b a : Int} (hT : ∀ k, 0 ≤ k → k < L → 0 ≤ T k ∧ T k ≤ 255) (b0 : 0 ≤ b) (h : aok s T L b a) : avl s a (nvl T L b) := by
  obtain ⟨h1, h2⟩ := h
  obtain ⟨-, -, -, -, g1, g2⟩ := nok_b hT b0 h1
  unfold avl
  by_cases q : a = 119
  · rw [if_pos q] at h2 ⊢; exact h2
  · rw [if_neg q] at h2 ⊢
    have e : nvl T L b = nab T L b := by unfold nvl; rw [if_neg h2.1]
    rw [e] at h2 ⊢
    exact ⟨g1, h2.2⟩
theorem pargs_ok {s : Int → Int} {T : Int → Int} {L : Int} (hT : ∀ k, 0 ≤ k → k < L → 0 ≤ T k ∧ T k ≤ 255) : ∀ (as : List Int) (p q : Int) (vs : List Int), 0 ≤ p → p ≤ L → pargs s T L as p = .inr (q, vs) → vs.length = as.length ∧ (∀ i : Nat, i < as.length → avl s (as.getD i 0) (vs.getD i 0)) ∧ p < q ∧ q ≤ L
  | [], p, q, vs, p0, pL, h => by
    have hsk := sk_b (T := T) pL
    unfold pargs at h
    split at h
    · next y =>
      have hlt : sk T L p < L := kd_lt (T := T) (by rw [y.1]; decide)
      cases h
      exact ⟨rfl, fun i hi => absurd hi (Nat.not_lt_zero i), by omega, by omega⟩
    · cases h
  | a :: as, p, q, vs, p0, pL, h => by
    have hsk := sk_b (T := T) pL
    unfold pargs at h
    by_cases ha : aok s T L (sk T L p) a
    · rw [cif_p ha] at h
      have hn := (nok_b hT (by omega) ha.1)
      have hte := te_b (T := T) hn.2.1
      cases hr : pargs s T L as (te T L (sk T L p)) with
      | inl e => rw [hr] at h; cases h
      | inr r =>
        obtain ⟨q2, vs2⟩ := r
        rw [hr] at h
        cases h
        obtain ⟨i1, i2, i3, i4⟩ := pargs_ok hT as _ _ _ (by omega) (by omega) hr
        refine ⟨by simp [i1], fun i hi => ?_, by omega, i4⟩
        cases i with
        | zero => exact aok_v hT (by omega) ha
        | succ i => exact i2 i (by simpa using hi)
    · rw [cif_n ha] at h; cases h
theorem pcmd_ok {s : Int → Int} {T : Int → Int} {L b q : Int} {c : List Int} (hT : ∀ k, 0 ≤ k → k < L → 0 ≤ T k ∧ T k ≤ 255) (b0 : 0 ≤ b) (bL : b < L) (h : pcmd s T L b = .inr (q, c)) : cmdok s c ∧ b < q ∧ q ≤ L := by
  have hc := cmdof_b T L b
  have hte := te_b (T := T) bL
  unfold pcmd at h
  split at h
  · cases h
  · next y =>
    cases hr : pargs s T L (cargs (cmdof T L b)) (te T L b) with
    | inl e => rw [hr] at h; cases h
    | inr r =>
      obtain ⟨q2, vs2⟩ := r
      rw [hr] at h
      cases h
      obtain ⟨i1, i2, i3, i4⟩ := pargs_ok hT _ _ _ _ (by omega) (by omega) hr
      refine ⟨⟨⟨?_, ?_⟩, ?_, fun i hi => ?_⟩, by omega, i4⟩
      · show 0 ≤ cmdof T L b; omega
      · exact hc.2
      · simp [i1]
      · exact i2 i hi
theorem pall_ok {s : Int → Int} {T : Int → Int} {L : Int} (hT : ∀ k, 0 ≤ k → k < L → 0 ≤ T k ∧ T k ≤ 255) : ∀ (n : Nat) (p : Int) (l : List (List Int)), 0 ≤ p → p ≤ L → pall s T L n p = .inr l → ∀ c ∈ l, cmdok s c
  | 0, p, l, _, _, h => by cases h
  | n + 1, p, l, p0, pL, h => by
    have hsk := sk_b (T := T) pL
    unfold pall at h
    split at h
    · cases h
      exact fun c hc => by cases hc
    · next y =>
      have hlt : sk T L p < L := kd_lt y
      cases hr : pcmd s T L (sk T L p) with
      | inl e => rw [hr] at h; cases h
      | inr r =>
        obtain ⟨q2, c2⟩ := r
        rw [hr] at h
        dsimp only at h
        obtain ⟨k1, k2, k3⟩ := pcmd_ok hT (by omega) hlt hr
        cases hr2 : pall s T L n q2 with
        | inl e => rw [hr2] at h; cases h
        | inr l2 =>
          rw [hr2] at h
          cases h
          intro c hc
          rcases List.mem_cons.mp hc with z | z
          · rw [z]; exact k1
          · exact pall_ok hT n q2 l2 (by omega) k3 hr2 c z
theorem cargs_c : cargs 0 = [118] ∧ cargs 1 = [108, 108, 108, 108, 118] ∧ cargs 2 = [119, 119] ∧ cargs 3 = [118, 118] ∧ cargs 4 = [102] := by decide
/-- a command's numbers -/
theorem cmdok_c {s : Int → Int} {c : List Int} (h : cmdok s c) :
    (c.getD 0 0 = 0 ∧ c.length = 2 ∧ 0 ≤ c.getD 1 0 ∧ c.getD 1 0 ≤ 15) ∨
    (c.getD 0 0 = 1 ∧ c.length = 6 ∧ (0 ≤ c.getD 1 0 ∧ c.getD 1 0 ≤ 12) ∧ (0 ≤ c.getD 2 0 ∧ c.getD 2 0 ≤ 12) ∧ (0 ≤ c.getD 3 0 ∧ c.getD 3 0 ≤ 12) ∧ (0 ≤ c.getD 4 0 ∧ c.getD 4 0 ≤ 12) ∧ 0 ≤ c.getD 5 0 ∧ c.getD 5 0 ≤ 15) ∨
    (c.getD 0 0 = 2 ∧ c.length = 3 ∧ (-12 ≤ c.getD 1 0 ∧ c.getD 1 0 ≤ 12) ∧ -12 ≤ c.getD 2 0 ∧ c.getD 2 0 ≤ 12) ∨
    (c.getD 0 0 = 3 ∧ c.length = 3 ∧ (0 ≤ c.getD 1 0 ∧ c.getD 1 0 ≤ 15) ∧ 0 ≤ c.getD 2 0 ∧ c.getD 2 0 ≤ 15) ∨
    (c.getD 0 0 = 4 ∧ c.length = 2 ∧ isF s (c.getD 1 0) ∧ sgood s (c.getD 1 0)) := by
  obtain ⟨h1, h2, h3⟩ := h
  obtain ⟨c0, c1, c2, c3, c4⟩ := cargs_c
  have h5 : c.getD 0 0 = 0 ∨ c.getD 0 0 = 1 ∨ c.getD 0 0 = 2 ∨ c.getD 0 0 = 3 ∨ c.getD 0 0 = 4 := by omega
  rcases h5 with e | e | e | e | e
  · rw [e, c0] at h2 h3
    have a := h3 0 (by decide)
    exact Or.inl ⟨e, h2, a.1, a.2⟩
  · rw [e, c1] at h2 h3
    have a0 := h3 0 (by decide)
    have a1 := h3 1 (by decide)
    have a2 := h3 2 (by decide)
    have a3 := h3 3 (by decide)
    have a4 := h3 4 (by decide)
    exact Or.inr (Or.inl ⟨e, h2, a0, a1, a2, a3, a4.1, a4.2⟩)
  · rw [e, c2] at h2 h3
    have a0 := h3 0 (by decide)
    have a1 := h3 1 (by decide)
    exact Or.inr (Or.inr (Or.inl ⟨e, h2, a0, a1.1, a1.2⟩))
  · rw [e, c3] at h2 h3
    have a0 := h3 0 (by decide)
    have a1 := h3 1 (by decide)
    exact Or.inr (Or.inr (Or.inr (Or.inl ⟨e, h2, a0, a1.1, a1.2⟩)))
  · rw [e, c4] at h2 h3
    have a0 := h3 0 (by decide)
    exact Or.inr (Or.inr (Or.inr (Or.inr ⟨e, h2, a0.2.1, a0.2.2⟩)))
/-- the state with another canvas -/
def scv (s : Int → Int) (cv : Int → Int) : Int → Int := fun k => if 6 ≤ k ∧ k < 150 then cv (k - 6) else s k
theorem scv_hd (s cv : Int → Int) {k : Int} (h : k < 6) : scv s cv k = s k := by unfold scv; rw [if_neg (by omega)]
theorem scv_sv (s cv : Int → Int) {c : Int} (h0 : 0 ≤ c) (h1 : c < 144) : sv (scv s cv) (-1) c = cv c := by
  unfold sv scv
  rw [if_pos (by decide), if_pos (by omega)]
  congr 1
  omega
theorem dmod {s : Int → Int} (hD : WD s) {k : Int} (k0 : 0 ≤ k) (k1 : k < s 0 * s 1) : (0 ≤ k % s 0 ∧ k % s 0 < s 0) ∧ (0 ≤ k / s 0 ∧ k / s 0 < s 1) := by
  obtain ⟨h1, h2⟩ := hD
  rcases h1 with h1 | h1 | h1 <;> rcases h2 with h2 | h2 | h2 <;> rw [h1, h2] <;> rw [h1, h2] at k1 <;> omega
theorem didx {s : Int → Int} (hD : WD s) {k r c : Int} (c0 : 0 ≤ c) (c1 : c < s 0) : k = r * s 0 + c ↔ k / s 0 = r ∧ k % s 0 = c := by
  obtain ⟨h1, -⟩ := hD
  rcases h1 with h1 | h1 | h1 <;> rw [h1] <;> rw [h1] at c1 <;> omega
section Drw
variable {μ : mzM} {s : Int → Int}
/-- the canvas of the class shows cv -/
def CV (μ : mzM) (s cv : Int → Int) : Prop := μ 3 78 1 = s 0 ∧ μ 3 78 2 = s 1 ∧ ∀ k, 0 ≤ k → k < s 0 * s 1 → μ 4 78 k = cv k
theorem CV_c {cv cv' : Int → Int} (h : CV μ s cv) (he : ∀ k, 0 ≤ k → k < s 0 * s 1 → cv k = cv' k) : CV μ s cv' := ⟨h.1, h.2.1, fun k k0 k1 => (h.2.2 k k0 k1).trans (he k k0 k1)⟩
theorem CV_im {cv : Int → Int} (hD : WD s) (h : CV μ s cv) : IM μ 78 (scv s cv) (-1) := by
  have hm := WD_mul hD
  refine ⟨by rw [scv_hd s cv (by omega)]; exact h.1, by rw [scv_hd s cv (by omega)]; exact h.2.1, fun c c0 c1 => ?_⟩
  rw [scv_hd s cv (by omega), scv_hd s cv (by omega)] at c1
  rw [scv_sv s cv c0 (by omega)]
  exact h.2.2 c c0 c1
theorem s_fillBox {cv : Int → Int} {x y w h v : Int} {K : mzM → Prop} (hD : WD s) (hC : CV μ s cv) (x0 : 0 ≤ x ∧ x ≤ 12) (y0 : 0 ≤ y ∧ y ≤ 12) (w0 : 0 ≤ w ∧ w ≤ 12) (h0 : 0 ≤ h ∧ h ≤ 12) (hK : ∀ ν, CV ν s (fun k => if (x ≤ k % s 0 ∧ k % s 0 < x + w) ∧ (y ≤ k / s 0 ∧ k / s 0 < y + h) then v else cv k) → fr (Pim 78) μ ν → K ν) : ZV f_X2_fillBox [vR 3 78, vI x, vI y, vI w, vI h, vI v] μ K := by
  have hw := WD_w hD
  have hm := WD_mul hD
  refine vc_X2_fillBox_0 ?_
  have hd : ∀ ν, fr (Pim 78) μ ν → True := fun _ _ => trivial
  have rows : ∀ (m : Nat) (r : Int) (ν : mzM) (v7 : mzV), m = (s 1 - r).toNat → y ≤ r → (ν 3 78 1 = s 0 ∧ ν 3 78 2 = s 1 ∧ ∀ k, 0 ≤ k → k < s 0 * s 1 → ν 4 78 k = if (x ≤ k % s 0 ∧ k % s 0 < x + w) ∧ ((y ≤ k / s 0 ∧ k / s 0 < y + h) ∧ k / s 0 < r) then v else cv k) → fr (Pim 78) μ ν → ZW f_X2_fillBox 2 [vR 3 78, vI x, vI y, vI w, vI h, vI v, vI r, v7] [] ν (fun r ν => r = none ∧ K ν) := by
    intro m
    induction m with
    | zero =>
      intro r ν v7 hr ry hν hF
      refine vc_X2_fillBox_2 ⟨zin_sm (by omega), s_min ?_⟩
      rw [hν.2.1, if_neg (by split <;> omega)]
      refine ⟨rfl, hK ν ⟨hν.1, hν.2.1, fun k k0 k1 => ?_⟩ hF⟩
      have dm := dmod hD k0 k1
      rw [hν.2.2 k k0 k1]
      dsimp only
      by_cases q : (x ≤ k % s 0 ∧ k % s 0 < x + w) ∧ (y ≤ k / s 0 ∧ k / s 0 < y + h)
      · rw [if_pos q, if_pos ⟨q.1, q.2, by omega⟩]
      · rw [if_neg q, if_neg (fun z => q ⟨z.1, z.2.1⟩)]
    | succ m ih =>
      intro r ν v7 hr ry hν hF
      refine vc_X2_fillBox_2 ⟨zin_sm (by omega), s_min ?_⟩
      rw [hν.2.1]
      by_cases hlt : r < (if y + h < s 1 then y + h else s 1)
      · rw [if_pos hlt]
        have r1 : r < s 1 ∧ r < y + h := by split at hlt <;> omega
        have cols : ∀ (m2 : Nat) (c : Int) (ξ : mzM), m2 = (s 0 - c).toNat → x ≤ c → (ξ 3 78 1 = s 0 ∧ ξ 3 78 2 = s 1 ∧ ∀ k, 0 ≤ k → k < s 0 * s 1 → ξ 4 78 k = if (x ≤ k % s 0 ∧ k % s 0 < x + w) ∧ ((y ≤ k / s 0 ∧ k / s 0 < y + h) ∧ (k / s 0 < r ∨ (k / s 0 = r ∧ k % s 0 < c))) then v else cv k) → fr (Pim 78) μ ξ → ZW f_X2_fillBox 12 [vR 3 78, vI x, vI y, vI w, vI h, vI v, vI r, vI c] [] ξ (fun r ν => r = none ∧ K ν) := by
          intro m2
          induction m2 with
          | zero =>
            intro c ξ hc cx hξ hF2
            refine vc_X2_fillBox_12 ⟨zin_sm (by omega), s_min ?_⟩
            rw [hξ.1, if_neg (by split <;> omega)]
            refine ⟨zin_sm (by omega), ih (r + 1) ξ _ (by omega) (by omega) ⟨hξ.1, hξ.2.1, fun k k0 k1 => ?_⟩ hF2⟩
            have dm := dmod hD k0 k1
            rw [hξ.2.2 k k0 k1]
            by_cases q : (x ≤ k % s 0 ∧ k % s 0 < x + w) ∧ ((y ≤ k / s 0 ∧ k / s 0 < y + h) ∧ k / s 0 < r + 1)
            · rw [if_pos q, if_pos ⟨q.1, q.2.1, by omega⟩]
            · rw [if_neg q, if_neg (fun z => q ⟨z.1, z.2.1, by omega⟩)]
          | succ m2 ih2 =>
            intro c ξ hc cx hξ hF2
            refine vc_X2_fillBox_12 ⟨zin_sm (by omega), s_min ?_⟩
            rw [hξ.1]
            by_cases hlc : c < (if x + w < s 0 then x + w else s 0)
            · rw [if_pos hlc]
              have c1 : c < s 0 ∧ c < x + w := by split at hlc <;> omega
              obtain ⟨p1, p2, p3⟩ := WD_pl hD (x := c) (y := r) (by omega) c1.1 (by omega) r1.1
              unfold spl at p1 p2 p3
              refine ⟨zin_sm (by omega), zin_sm (by omega), s_X2_putNumbered ?_⟩
              rw [if_pos ⟨p1, p3⟩]
              refine ⟨zin_sm (by omega), ih2 (c + 1) _ (by omega) (by omega) ⟨?_, ?_, fun k k0 k1 => ?_⟩ (fr_up hF2 ⟨Or.inr rfl, rfl⟩)⟩
              · rw [mup_t (by decide)]; exact hξ.1
              · rw [mup_t (by decide)]; exact hξ.2.1
              · have di := didx hD (k := k) (r := r) (c := c) (by omega) c1.1
                by_cases q : k = r * s 0 + c
                · obtain ⟨q1, q2⟩ := di.mp q
                  rw [q, mup_self, ← q, if_pos ⟨by omega, by omega, by omega⟩]
                · rw [mup_k q, hξ.2.2 k k0 k1]
                  have qn : ¬ (k / s 0 = r ∧ k % s 0 = c) := fun z => q (di.mpr z)
                  by_cases q2 : (x ≤ k % s 0 ∧ k % s 0 < x + w) ∧ ((y ≤ k / s 0 ∧ k / s 0 < y + h) ∧ (k / s 0 < r ∨ (k / s 0 = r ∧ k % s 0 < c)))
                  · rw [if_pos q2, if_pos ⟨q2.1, q2.2.1, by omega⟩]
                  · rw [if_neg q2, if_neg (fun z => q2 ⟨z.1, z.2.1, by omega⟩)]
            · rw [if_neg hlc]
              have c1 : s 0 ≤ c ∨ x + w ≤ c := by split at hlc <;> omega
              refine ⟨zin_sm (by omega), ih (r + 1) ξ _ (by omega) (by omega) ⟨hξ.1, hξ.2.1, fun k k0 k1 => ?_⟩ hF2⟩
              have dm := dmod hD k0 k1
              rw [hξ.2.2 k k0 k1]
              by_cases q : (x ≤ k % s 0 ∧ k % s 0 < x + w) ∧ ((y ≤ k / s 0 ∧ k / s 0 < y + h) ∧ k / s 0 < r + 1)
              · rw [if_pos q, if_pos ⟨q.1, q.2.1, by omega⟩]
              · rw [if_neg q, if_neg (fun z => q ⟨z.1, z.2.1, by omega⟩)]
        refine cols (s 0 - x).toNat x ν rfl (by omega) ⟨hν.1, hν.2.1, fun k k0 k1 => ?_⟩ hF
        rw [hν.2.2 k k0 k1]
        by_cases q : (x ≤ k % s 0 ∧ k % s 0 < x + w) ∧ ((y ≤ k / s 0 ∧ k / s 0 < y + h) ∧ k / s 0 < r)
        · rw [if_pos q, if_pos ⟨q.1, q.2.1, Or.inl q.2.2⟩]
        · rw [if_neg q, if_neg (fun z => q ⟨z.1, z.2.1, by omega⟩)]
      · rw [if_neg hlt]
        have r1 : s 1 ≤ r ∨ y + h ≤ r := by split at hlt <;> omega
        refine ⟨rfl, hK ν ⟨hν.1, hν.2.1, fun k k0 k1 => ?_⟩ hF⟩
        have dm := dmod hD k0 k1
        rw [hν.2.2 k k0 k1]
        dsimp only
        by_cases q : (x ≤ k % s 0 ∧ k % s 0 < x + w) ∧ (y ≤ k / s 0 ∧ k / s 0 < y + h)
        · rw [if_pos q, if_pos ⟨q.1, q.2, by omega⟩]
        · rw [if_neg q, if_neg (fun z => q ⟨z.1, z.2.1⟩)]
  refine rows (s 1 - y).toNat y μ none rfl (by omega) ⟨hC.1, hC.2.1, fun k k0 k1 => ?_⟩ fr_rf
  rw [if_neg (by omega)]
  exact hC.2.2 k k0 k1
theorem s_takeShifted {cv : Int → Int} {dx dy : Int} {K : mzM → Prop} (hD : WD s) (hC : CV μ s cv) (hI : IM μ 85 (scv s cv) (-1)) (dx0 : -12 ≤ dx ∧ dx ≤ 12) (dy0 : -12 ≤ dy ∧ dy ≤ 12) (hK : ∀ ν, CV ν s (fun k => if (0 ≤ k % s 0 - dx ∧ k % s 0 - dx < s 0) ∧ (0 ≤ k / s 0 - dy ∧ k / s 0 - dy < s 1) then cv ((k / s 0 - dy) * s 0 + (k % s 0 - dx)) else 0) → fr (Pim 78) μ ν → K ν) : ZV f_X2_takeShifted [vR 3 78, vR 3 85, vI dx, vI dy] μ K := by
  have hw := WD_w hD
  have hm := WD_mul hD
  have hD2 : WD (scv s cv) := WD_same hD (scv_hd s cv (by omega)) (scv_hd s cv (by omega))
  obtain ⟨f, ef⟩ : ∃ f : Int → Int, f = (fun k => if (0 ≤ k % s 0 - dx ∧ k % s 0 - dx < s 0) ∧ (0 ≤ k / s 0 - dy ∧ k / s 0 - dy < s 1) then cv ((k / s 0 - dy) * s 0 + (k % s 0 - dx)) else 0) := ⟨_, rfl⟩
  rw [← ef] at hK
  refine vc_X2_takeShifted_0 ?_
  have rows : ∀ (m : Nat) (r : Int) (ν : mzM) (v7 : mzV), m = (s 1 - r).toNat → 0 ≤ r → r ≤ s 1 → (ν 3 78 1 = s 0 ∧ ν 3 78 2 = s 1 ∧ ∀ k, 0 ≤ k → k < s 0 * s 1 → ν 4 78 k = if k / s 0 < r then f k else cv k) → fr (Pim 78) μ ν → ZW f_X2_takeShifted 2 [vR 3 78, vR 3 85, vI dx, vI dy, vI r, v7] [] ν (fun r ν => r = none ∧ K ν) := by
    intro m
    induction m with
    | zero =>
      intro r ν v7 hr r0 r1 hν hF
      refine vc_X2_takeShifted_2 ?_
      rw [hν.2.1, if_neg (by omega)]
      refine ⟨rfl, hK ν ⟨hν.1, hν.2.1, fun k k0 k1 => ?_⟩ hF⟩
      have dm := dmod hD k0 k1
      rw [hν.2.2 k k0 k1, if_pos (by omega)]
    | succ m ih =>
      intro r ν v7 hr r0 r1 hν hF
      refine vc_X2_takeShifted_2 ?_
      rw [hν.2.1, if_pos (by omega)]
      have cols : ∀ (m2 : Nat) (c : Int) (ξ : mzM), m2 = (s 0 - c).toNat → 0 ≤ c → c ≤ s 0 → (ξ 3 78 1 = s 0 ∧ ξ 3 78 2 = s 1 ∧ ∀ k, 0 ≤ k → k < s 0 * s 1 → ξ 4 78 k = if k / s 0 < r ∨ (k / s 0 = r ∧ k % s 0 < c) then f k else cv k) → fr (Pim 78) μ ξ → ZW f_X2_takeShifted 8 [vR 3 78, vR 3 85, vI dx, vI dy, vI r, vI c] [] ξ (fun r ν => r = none ∧ K ν) := by
        intro m2
        induction m2 with
        | zero =>
          intro c ξ hc c0 c1 hξ hF2
          refine vc_X2_takeShifted_8 ?_
          rw [hξ.1, if_neg (by omega)]
          refine ⟨zin_sm (by omega), ih (r + 1) ξ _ (by omega) (by omega) (by omega) ⟨hξ.1, hξ.2.1, fun k k0 k1 => ?_⟩ hF2⟩
          have dm := dmod hD k0 k1
          rw [hξ.2.2 k k0 k1]
          by_cases q : k / s 0 < r + 1
          · rw [if_pos q, if_pos (by omega)]
          · rw [if_neg q, if_neg (by omega)]
        | succ m2 ih2 =>
          intro c ξ hc c0 c1 hξ hF2
          have hI2 : IM ξ 85 (scv s cv) (-1) := IM_fr hI hF2 (fun k => by omega) (fun k => by omega)
          refine vc_X2_takeShifted_8 ?_
          rw [hξ.1, if_pos (by omega)]
          obtain ⟨p1, p2, p3⟩ := WD_pl hD (x := c) (y := r) (by omega) (by omega) (by omega) (by omega)
          unfold spl at p1 p2 p3
          refine ⟨zin_sm (by omega), zin_sm (by omega), zin_sm (by omega), zin_sm (by omega), s_X2_at hD2 hI2 (s_X2_putNumbered ?_)⟩
          rw [if_pos ⟨p1, p3⟩, scv_hd s cv (show (0 : Int) < 6 by omega), scv_hd s cv (show (1 : Int) < 6 by omega)]
          refine ⟨zin_sm (by omega), ih2 (c + 1) _ (by omega) (by omega) (by omega) ⟨?_, ?_, fun k k0 k1 => ?_⟩ (fr_up hF2 ⟨Or.inr rfl, rfl⟩)⟩
          · rw [mup_t (by decide)]; exact hξ.1
          · rw [mup_t (by decide)]; exact hξ.2.1
          · have di := didx hD (k := k) (r := r) (c := c) (by omega) (by omega)
            by_cases q : k = r * s 0 + c
            · obtain ⟨q1, q2⟩ := di.mp q
              rw [q, mup_self, ← q, if_pos (show k / s 0 < r ∨ (k / s 0 = r ∧ k % s 0 < c + 1) from Or.inr ⟨q1, by omega⟩), ef]
              dsimp only
              rw [q1, q2]
              by_cases z : (0 ≤ c - dx ∧ c - dx < s 0) ∧ (0 ≤ r - dy ∧ r - dy < s 1)
              · rw [if_pos z, if_pos z]
                obtain ⟨y1, y2, y3⟩ := WD_pl hD (x := c - dx) (y := r - dy) (by omega) (by omega) (by omega) (by omega)
                have e0 : scv s cv 0 = s 0 := scv_hd s cv (by omega)
                unfold spl at y1 y2 y3 ⊢
                rw [e0, scv_sv s cv y1 y3]
              · rw [if_neg z, if_neg z]
            · rw [mup_k q, hξ.2.2 k k0 k1]
              have qn : ¬ (k / s 0 = r ∧ k % s 0 = c) := fun z => q (di.mpr z)
              by_cases q2 : k / s 0 < r ∨ (k / s 0 = r ∧ k % s 0 < c)
              · rw [if_pos q2, if_pos (by omega)]
              · rw [if_neg q2, if_neg (by omega)]
      refine cols (s 0).toNat 0 ν (by omega) (by omega) (by omega) ⟨hν.1, hν.2.1, fun k k0 k1 => ?_⟩ hF
      have dm := dmod hD k0 k1
      rw [hν.2.2 k k0 k1]
      by_cases q : k / s 0 < r
      · rw [if_pos q, if_pos (by omega)]
      · rw [if_neg q, if_neg (by omega)]
  refine rows (s 1).toNat 0 μ none (by omega) (by omega) (by omega) ⟨hC.1, hC.2.1, fun k k0 k1 => ?_⟩ fr_rf
  have dm := dmod hD k0 k1
  rw [if_neg (by omega)]
  exact hC.2.2 k k0 k1
theorem s_swapValues {cv : Int → Int} {a b : Int} {K : mzM → Prop} (hD : WD s) (hC : CV μ s cv) (hK : ∀ ν, CV ν s (fun k => if cv k = a then b else if cv k = b then a else cv k) → fr (Pim 78) μ ν → K ν) : ZV f_X2_swapValues [vR 3 78, vI a, vI b] μ K := by
  have hm := WD_mul hD
  refine vc_X2_swapValues_0 ?_
  have key : ∀ x, 0 ≤ x → x ≤ 144 → ∀ ν : mzM, (ν 3 78 1 = s 0 ∧ ν 3 78 2 = s 1 ∧ ∀ k, 0 ≤ k → k < s 0 * s 1 → ν 4 78 k = if k < x then (if cv k = a then b else if cv k = b then a else cv k) else cv k) → fr (Pim 78) μ ν → ZW f_X2_swapValues 2 [vR 3 78, vI a, vI b, vI x] [] ν (fun r ν => r = none ∧ K ν) := by
    intro x x0 x1
    refine iter_down (C := fun x => ∀ ν : mzM, (ν 3 78 1 = s 0 ∧ ν 3 78 2 = s 1 ∧ ∀ k, 0 ≤ k → k < s 0 * s 1 → ν 4 78 k = if k < x then (if cv k = a then b else if cv k = b then a else cv k) else cv k) → fr (Pim 78) μ ν → ZW f_X2_swapValues 2 [vR 3 78, vI a, vI b, vI x] [] ν (fun r ν => r = none ∧ K ν)) (lo := 0) (hi := 144) ?_ ?_ x0 x1
    · intro x x0 x1 ih ν hν hF
      have upd : ∀ v, (x < s 0 * s 1 → v = if cv x = a then b else if cv x = b then a else cv x) → ZW f_X2_swapValues 2 [vR 3 78, vI a, vI b, vI (x + 1)] [] (mup ν 4 78 x v) (fun r ν => r = none ∧ K ν) := by
        intro v hv
        refine ih _ ⟨?_, ?_, fun k k0 k1 => ?_⟩ (fr_up hF ⟨Or.inr rfl, rfl⟩)
        · rw [mup_t (by decide)]; exact hν.1
        · rw [mup_t (by decide)]; exact hν.2.1
        · by_cases q : k = x
          · rw [q, mup_self, if_pos (by omega)]; exact hv (by omega)
          · rw [mup_k q, hν.2.2 k k0 k1]
            by_cases q2 : k < x
            · rw [if_pos q2, if_pos (show k < x + 1 by omega)]
            · rw [if_neg q2, if_neg (show ¬ k < x + 1 by omega)]
      have hx : x < s 0 * s 1 → ν 4 78 x = cv x := fun h => by rw [hν.2.2 x x0 h, if_neg (by omega)]
      refine vc_X2_swapValues_2 ?_
      rw [if_pos x1]
      refine ⟨⟨x0, x1⟩, ?_⟩
      split
      · next q => exact ⟨⟨x0, x1⟩, zin_sm (by omega), upd b (fun h => by rw [hx h] at q; rw [if_pos q])⟩
      · next q =>
        refine ⟨⟨x0, x1⟩, ?_⟩
        split
        · next q2 => exact ⟨⟨x0, x1⟩, zin_sm (by omega), upd a (fun h => by rw [hx h] at q q2; rw [if_neg q, if_pos q2])⟩
        · next q2 =>
          refine ⟨zin_sm (by omega), ih ν ⟨hν.1, hν.2.1, fun k k0 k1 => ?_⟩ hF⟩
          rw [hν.2.2 k k0 k1]
          by_cases z : k = x
          · rw [hx (by omega)] at q q2
            rw [z, if_neg (by omega), if_pos (by omega), if_neg q, if_neg q2]
          · by_cases q2 : k < x
            · rw [if_pos q2, if_pos (show k < x + 1 by omega)]
            · rw [if_neg q2, if_neg (show ¬ k < x + 1 by omega)]
    · intro ν hν hF
      refine vc_X2_swapValues_2 ?_
      rw [if_neg (by omega)]
      refine ⟨rfl, hK ν ⟨hν.1, hν.2.1, fun k k0 k1 => ?_⟩ hF⟩
      rw [hν.2.2 k k0 k1, if_pos (by omega)]
  refine key 0 (by omega) (by omega) μ ⟨hC.1, hC.2.1, fun k k0 k1 => ?_⟩ fr_rf
  rw [if_neg (by omega)]
  exact hC.2.2 k k0 k1
abbrev Pdr : Nat → Int → Int → Prop := fun t i _ => (t = 3 ∨ t = 4) ∧ (i = 78 ∨ i = 85)
theorem s_programAt {x : Int} {K : Int → mzM → Prop} (h : K (if 0 ≤ x ∧ x < 160 then μ 10 0 x else 0) μ) : ZI f_X5_programAt [vR 8 0, vI x] μ K := by
  refine vc_X5_programAt_0 ?_
  split
  · rw [if_neg (by omega)] at h; exact zlf h rfl
  split
  · rw [if_pos (by omega)] at h; exact ⟨by omega, zlf h rfl⟩
  · rw [if_neg (by omega)] at h; exact zlf h rfl
/-- the images of the frames -/
def IMS (μ : mzM) (s : Int → Int) : Prop := ∀ f, isF s f → IM μ (11 * 0 + f) s f
theorem s_apply {cv : Int → Int} {c : List Int} {x : Int} {K : mzM → Prop} (hW : WF s) (hC : CV μ s cv) (hM : IMS μ s) (hok : cmdok s c) (x0 : 0 ≤ x) (x1 : x + c.length ≤ 160) (hp : ∀ i : Nat, i < c.length → μ 10 0 (x + i) = c.getD i 0) (hK : ∀ ν, CV ν s (excmd s cv c) → fr Pdr μ ν → K ν) : ZV f_X5_apply [vR 8 0, vI (c.getD 0 0), vI (x + 1), vR 1 0, vR 3 85] μ K := by
  have hw := WD_w hW.1
  have h10 := hW.2.1
  refine vc_X5_apply_0 (s_programAt ⟨zin_sm (by omega), s_programAt ?_⟩)
  have ga : ∀ i : Nat, 0 < i → i < c.length → (if 0 ≤ x + (i : Int) ∧ x + (i : Int) < 160 then μ 10 0 (x + i) else 0) = c.getD i 0 := fun i i0 i1 => by rw [if_pos (by omega)]; exact hp i i1
  have g1 : 1 < c.length → (if 0 ≤ x + 1 ∧ x + 1 < 160 then μ 10 0 (x + 1) else 0) = c.getD 1 0 := fun h => ga 1 (by omega) h
  have g2 : 2 < c.length → (if 0 ≤ x + 1 + 1 ∧ x + 1 + 1 < 160 then μ 10 0 (x + 1 + 1) else 0) = c.getD 2 0 := fun h => by rw [show x + 1 + 1 = x + ((2 : Nat) : Int) by omega]; exact ga 2 (by omega) h
  have g3 : 3 < c.length → (if 0 ≤ x + 1 + 2 ∧ x + 1 + 2 < 160 then μ 10 0 (x + 1 + 2) else 0) = c.getD 3 0 := fun h => by rw [show x + 1 + 2 = x + ((3 : Nat) : Int) by omega]; exact ga 3 (by omega) h
  have g4 : 4 < c.length → (if 0 ≤ x + 1 + 3 ∧ x + 1 + 3 < 160 then μ 10 0 (x + 1 + 3) else 0) = c.getD 4 0 := fun h => by rw [show x + 1 + 3 = x + ((4 : Nat) : Int) by omega]; exact ga 4 (by omega) h
  have g5 : 5 < c.length → (if 0 ≤ x + 1 + 4 ∧ x + 1 + 4 < 160 then μ 10 0 (x + 1 + 4) else 0) = c.getD 5 0 := fun h => by rw [show x + 1 + 4 = x + ((5 : Nat) : Int) by omega]; exact ga 5 (by omega) h
  have e1 : μ 3 (78 + 0) 1 = s 0 := hC.1
  have e2 : μ 3 (78 + 0) 2 = s 1 := hC.2.1
  have toP : ∀ {ν}, fr (Pim 78) μ ν → fr Pdr μ ν := fun h => fr_mono h (fun t i k q => ⟨q.1, Or.inl q.2⟩)
  unfold excmd at hK
  rcases cmdok_c hok with ⟨e, hl, a1, a2⟩ | ⟨e, hl, a1, a2, a3, a4, a5, a6⟩ | ⟨e, hl, a1, a2, a3⟩ | ⟨e, hl, a1, a2, a3⟩ | ⟨e, hl, a1, a2⟩
  · rw [e, if_pos rfl, g1 (by omega), e1, e2]
    refine s_fillBox hW.1 hC (by omega) (by omega) (by omega) (by omega) (fun ν hν hF => ⟨rfl, hK ν (CV_c hν (fun k k0 k1 => ?_)) (toP hF)⟩)
    have dm := dmod hW.1 k0 k1
    rw [if_pos (by omega), if_pos e]
  · rw [e, if_neg (by decide), if_pos rfl, g1 (by omega), g2 (by omega)]
    refine ⟨zin_sm (by omega), s_programAt ⟨zin_sm (by omega), s_programAt ⟨zin_sm (by omega), s_programAt ?_⟩⟩⟩
    rw [g3 (by omega), g4 (by omega), g5 (by omega)]
    refine s_fillBox hW.1 hC a1 a2 a3 a4 (fun ν hν hF => ⟨rfl, hK ν (CV_c hν (fun k k0 k1 => ?_)) (toP hF)⟩)
    rw [if_neg (show ¬ c.getD 0 0 = 0 by omega), if_pos e]
  · rw [e, if_neg (by decide), if_neg (by decide), if_pos rfl, g1 (by omega), g2 (by omega)]
    have hI := CV_im hW.1 hC
    have hD2 : WD (scv s cv) := WD_same hW.1 (scv_hd s cv (by omega)) (scv_hd s cv (by omega))
    refine s_takeI hD2 hI (fun ξ hI2 hF2 => ?_)
    have hC2 : CV ξ s cv := ⟨(hF2 3 78 1 (by omega)).trans hC.1, (hF2 3 78 2 (by omega)).trans hC.2.1, fun k k0 k1 => (hF2 4 78 k (by omega)).trans (hC.2.2 k k0 k1)⟩
    refine s_takeShifted hW.1 hC2 hI2 a1 ⟨a2, a3⟩ (fun ν hν hF => ⟨rfl, hK ν (CV_c hν (fun k k0 k1 => ?_)) (fr_tr (fr_mono hF2 (fun t i k q => ⟨q.1, Or.inr q.2⟩)) (fr_mono hF (fun t i k q => ⟨q.1, Or.inl q.2⟩)))⟩)
    rw [if_neg (show ¬ c.getD 0 0 = 0 by omega), if_neg (show ¬ c.getD 0 0 = 1 by omega), if_pos e]
  · rw [e, if_neg (by decide), if_neg (by decide), if_neg (by decide), if_pos rfl, g1 (by omega), g2 (by omega)]
    refine s_swapValues hW.1 hC (fun ν hν hF => ⟨rfl, hK ν (CV_c hν (fun k k0 k1 => ?_)) (toP hF)⟩)
    rw [if_neg (show ¬ c.getD 0 0 = 0 by omega), if_neg (show ¬ c.getD 0 0 = 1 by omega), if_neg (show ¬ c.getD 0 0 = 2 by omega), if_pos e]
  · rw [e, if_neg (by decide), if_neg (by decide), if_neg (by decide), if_neg (by decide), g1 (by omega)]
    refine s_X6_imageOf hW (Or.inr a1) ?_
    have hI : IM μ (imo 0 (c.getD 1 0)) s (c.getD 1 0) := by unfold imo; rw [if_neg (by omega)]; exact hM _ a1
    refine s_takeI hW.1 hI (fun ν hν hF => ⟨rfl, hK ν ⟨hν.1, hν.2.1, fun k k0 k1 => ?_⟩ (toP hF)⟩)
    dsimp only
    rw [if_neg (show ¬ c.getD 0 0 = 0 by omega), if_neg (show ¬ c.getD 0 0 = 1 by omega), if_neg (show ¬ c.getD 0 0 = 2 by omega), if_neg (show ¬ c.getD 0 0 = 3 by omega)]
    exact hν.2.2 k k0 k1
theorem s_carryOut {cv0 : Int → Int} {l : List (List Int)} {K : Int → mzM → Prop} (hW : WF s) (hC : CV μ s cv0) (hM : IMS μ s) (hok : ∀ c ∈ l, cmdok s c) (hP : PG μ l.flatten) (hl : l.flatten.length ≤ 160) (hK : ∀ ν, CV ν s (l.foldl (excmd s) cv0) → fr Pdr μ ν → K (l.length : Int) ν) : ZI f_X5_carryOut [vR 8 0, vR 1 0, vR 3 85] μ K := by
  refine vc_X5_carryOut_0 ?_
  have h10 := hW.2.1
  have key : ∀ (r : List (List Int)) (d : List (List Int)) (cv : Int → Int) (ν : mzM) (v5 : mzV), d ++ r = l → d.length ≤ d.flatten.length → CV ν s cv → cv = d.foldl (excmd s) cv0 → fr Pdr μ ν → ZW f_X5_carryOut 4 [vR 8 0, vR 1 0, vR 3 85, vI (d.length : Int), vI (d.flatten.length : Int), v5] [] ν (fun r ν => ∃ a, r = some (vI a) ∧ K a ν) := by
    intro r
    induction r with
    | nil =>
      intro d cv ν v5 hd hdl hcv hf hF
      rw [List.append_nil] at hd
      refine vc_X5_carryOut_4 ?_
      have e7 : ν 8 0 7 = (l.flatten.length : Int) := (hF 8 0 7 (by omega)).trans hP.1
      rw [e7, hd, if_neg (by omega)]
      refine zlf (hK ν ?_ hF) rfl
      rw [← hd, ← hf]
      exact hcv
    | cons c r ih =>
      intro d cv ν v5 hd hdl hcv hf hF
      have hcm : c ∈ l := by rw [← hd]; exact List.mem_append_right _ List.mem_cons_self
      have hck := hok c hcm
      obtain ⟨c1, c2, -⟩ := id hck
      have hfl : l.flatten = d.flatten ++ (c ++ r.flatten) := by rw [← hd, List.flatten_append, List.flatten_cons]
      have hlen : d.flatten.length + c.length ≤ l.flatten.length := by rw [hfl, List.length_append, List.length_append]; omega
      have hat : ∀ i : Nat, i < c.length → ν 10 0 ((d.flatten.length : Int) + i) = c.getD i 0 := by
        intro i hi
        have h1 := hP.2 (d.flatten.length + i) (by omega)
        rw [show (d.flatten.length : Int) + (i : Int) = ((d.flatten.length + i : Nat) : Int) by omega, hF 10 0 _ (by omega), h1, hfl]
        simp [List.getD_eq_getElem?_getD, List.getElem?_append_right, List.getElem?_append_left hi]
      refine vc_X5_carryOut_4 ?_
      have e7 : ν 8 0 7 = (l.flatten.length : Int) := (hF 8 0 7 (by omega)).trans hP.1
      rw [e7, if_pos (by omega)]
      refine s_programAt ⟨zin_sm (by omega), ?_⟩
      have h0 := hat 0 (by omega)
      rw [show (d.flatten.length : Int) + ((0 : Nat) : Int) = (d.flatten.length : Int) by omega] at h0
      rw [if_pos (by omega), h0]
      have hM2 : IMS ν s := fun f hf => IM_fr (hM f hf) hF (fun k => by omega) (fun k => by omega)
      refine s_apply hW hcv hM2 hck (by omega) (by omega) hat (fun ξ hcv2 hF2 => ?_)
      refine s_argumentsOf c1.1 c1.2 (s_length (by omega) (by omega) ?_)
      have ect : ztext (5 + c.getD 0 0).toNat = cargs (c.getD 0 0) := by unfold cargs; congr 1; omega
      rw [ect]
      refine ⟨zin_sm (by omega), zin_sm (by omega), zin_sm (by omega), ?_⟩
      have h9 : [c].flatten.length = c.length := by simp
      have hstep := ih (d ++ [c]) (excmd s cv c) ξ (vI (c.getD 0 0)) (by rw [List.append_assoc]; exact hd) (by rw [List.flatten_append, List.length_append, List.length_append, h9]; show d.length + 1 ≤ _; omega) hcv2 (by rw [List.foldl_append, ← hf]; rfl) (fr_tr hF hF2)
      rw [show ((d ++ [c]).length : Int) = (d.length : Int) + 1 by rw [List.length_append]; rfl, show ((d ++ [c]).flatten.length : Int) = (d.flatten.length : Int) + (1 + ((cargs (c.getD 0 0)).length : Int)) by rw [List.flatten_append, List.length_append, h9]; omega] at hstep
      exact hstep
  exact key l [] cv0 μ none rfl (Nat.le_refl _) hC rfl fr_rf
/-- the commands of the text carried out on the canvas -/
def OPdraw (s : Int → Int) (l : List (List Int)) (s' : Int → Int) : Prop := OPcv s s' ∧ ∀ c, 0 ≤ c → c < s 0 * s 1 → sv s' (-1) c = l.foldl (excmd s) (fun k => sv s (-1) k) c
theorem excmd_b {cv : Int → Int} {c : List Int} (hW : WF s) (hok : cmdok s c) (h : ∀ k, 0 ≤ k → k < s 0 * s 1 → 0 ≤ cv k ∧ cv k ≤ 15) : ∀ k, 0 ≤ k → k < s 0 * s 1 → 0 ≤ excmd s cv c k ∧ excmd s cv c k ≤ 15 := by
  intro k k0 k1
  have hw := WD_w hW.1
  have dm := dmod hW.1 k0 k1
  have hk := h k k0 k1
  unfold excmd
  rcases cmdok_c hok with ⟨e, hl, a1, a2⟩ | ⟨e, hl, a1, a2, a3, a4, a5, a6⟩ | ⟨e, hl, a1, a2, a3⟩ | ⟨e, hl, a1, a2, a3⟩ | ⟨e, hl, a1, a2⟩
  · rw [if_pos e]; exact ⟨a1, a2⟩
  · rw [if_neg (by omega), if_pos e]
    split
    · exact ⟨a5, a6⟩
    · exact hk
  · rw [if_neg (by omega), if_neg (by omega), if_pos e]
    split
    · next q =>
      obtain ⟨p1, p2, p3⟩ := WD_pl hW.1 (x := k % s 0 - c.getD 1 0) (y := k / s 0 - c.getD 2 0) q.1.1 q.1.2 q.2.1 q.2.2
      exact h _ p1 p2
    · omega
  · rw [if_neg (by omega), if_neg (by omega), if_neg (by omega), if_pos e]
    split
    · omega
    · split
      · omega
      · exact hk
  · rw [if_neg (by omega), if_neg (by omega), if_neg (by omega), if_neg (by omega)]
    exact (hW.2.2.2.2.2.2 _ a1.1 a1.2).1 k k0 k1
theorem fold_b {l : List (List Int)} (hW : WF s) : ∀ (cv : Int → Int), (∀ c ∈ l, cmdok s c) → (∀ k, 0 ≤ k → k < s 0 * s 1 → 0 ≤ cv k ∧ cv k ≤ 15) → ∀ k, 0 ≤ k → k < s 0 * s 1 → 0 ≤ l.foldl (excmd s) cv k ∧ l.foldl (excmd s) cv k ≤ 15 := by
  induction l with
  | nil => intro cv _ h; exact h
  | cons c l ih =>
    intro cv hok h
    exact ih (excmd s cv c) (fun c hc => hok c (List.mem_cons_of_mem _ hc)) (excmd_b hW (hok c List.mem_cons_self) h)
theorem OPdraw_wf {s' : Int → Int} {l : List (List Int)} (hW : WF s) (hok : ∀ c ∈ l, cmdok s c) (h : OPdraw s l s') : WF s' := by
  refine OPcv_wf hW h.1 (fun c c0 c1 => ?_)
  rw [h.1.1.1, h.1.1.2.1] at c1
  rw [h.2 c c0 c1]
  exact fold_b hW _ hok (fun k k0 k1 => hW.2.2.2.2.2.1 k k0 k1) c c0 c1
theorem s_draw {T : Int → Int} {L n : Int} {p : Int → Int → Int} {K : Int → mzM → Prop} (hW : WF s) (hp : ∀ j, 0 ≤ j → j < n → WF (p j)) (hC : CI μ s n p) (hT : TX μ T L) (h0 : ∀ e, pall s T L 161 0 = .inl e → ∀ ν, CI ν s n p → fr Psp μ ν → e ≤ 200 → K (-10 - e) ν) (h1 : ∀ l, pall s T L 161 0 = .inr l → ∀ ν, (∀ s', OPdraw s l s' → CI ν s' (pushn n) (pushp p n s)) → ν 8 0 1 = 0 → fr (fun t _ _ => t ≤ 18) μ ν → K (l.length : Int) ν) (hb : ∀ e, pall s T L 161 0 = .inl e → e ≤ 200) : ZI f_X7_draw [vR 0 0] μ K := by
  have hp' := push_wf hW hp hC.2.2.1.2
  have h10 := hW.2.1
  have hL := hT.2.1
  have Pq : ∀ {ν ξ : mzM}, fr Psp ν ξ → fr Psc ν ξ := fun h => fr_mono h (fun t i k q => by omega)
  refine vc_X7_draw_0 (s_errorPosition hW hC.1 hT (fun e he e0 ν hF => ?_) (fun l hl ν hP hl2 hF => ?_))
  · rw [if_neg (by omega)]
    have := hb e he
    exact ⟨zin_sm (by omega), zlf (h0 e he ν (CI_sc hW hp hC (Pq hF)) hF this) rfl⟩
  · rw [if_pos (by omega)]
    have hok := pall_ok (fun k k0 k1 => (hT.2.2 k k0 k1).2) 161 0 l (by omega) hL.1 hl
    refine s_save hW hp (CI_sc hW hp hC (Pq hF)) (fun ξ hC2 hF2 => ?_)
    have hI : IM ξ 78 s (-1) := hC2.1.2.1
    have hcv : CV ξ s (fun k => sv s (-1) k) := hI
    have hM : IMS ξ s := fun f hf => (hC2.1.2.2 f hf.1 hf.2).1
    refine s_carryOut hW hcv hM hok (PG_fr hP hF2 (by omega) (fun k => by omega)) hl2 (fun ζ hcv2 hF3 => zlf (h1 l hl _ (fun s' hO => ?_) (mup_self _ _ _ _ _) ?_) rfl)
    · have hF4 : fr (fun t i k => t = 8 ∨ ((t = 3 ∨ t = 4) ∧ (i = 78 ∨ i = 85))) ξ (mup ζ 8 0 1 0) := fr_up (fr_mono hF3 (fun t i k q => Or.inr q)) (Or.inl rfl)
      refine CI_st hp' hC2 hF4 (fun t i k q => by omega) ?_
      obtain ⟨⟨⟨o0, o1, o2, o3, o4, o5⟩, o6⟩, o7⟩ := hO
      have hh := hC2.1.1
      refine ST_ag hW hC2.1 o0 o1 (by omega) (fun f f0 f1 => o6 f f0 (by omega)) ⟨?_, ?_, ?_, ?_⟩ ⟨?_, ?_, fun c c0 c1 => ?_⟩ (fun f f0 f1 => FR_fr (hC2.1.2.2 f f0 f1) hF4 (fun k => ⟨by omega, by omega, by omega, by omega⟩))
      · rw [hF4 1 0 3 (by omega), o2]; exact hh.1
      · rw [hF4 1 0 4 (by omega), o3]; exact hh.2.1
      · rw [hF4 1 0 5 (by omega), o4]; exact hh.2.2.1
      · rw [hF4 1 0 6 (by omega), o5]; exact hh.2.2.2
      · rw [mup_t (by decide), o0]; exact hcv2.1
      · rw [mup_t (by decide), o1]; exact hcv2.2.1
      · rw [o0, o1] at c1
        rw [mup_t (by decide), o7 c c0 c1]
        exact hcv2.2.2 c c0 c1
    · exact fr_up (fr_tr (fr_mono hF (fun t i k q => by omega)) (fr_tr (fr_mono hF2 (fun t i k q => by omega)) (fr_mono hF3 (fun t i k q => by omega)))) (by decide)
theorem s_append {T : Int → Int} {L c : Int} {K : Int → mzM → Prop} (hT : TX μ T L) (hK0 : ¬ (0 ≤ c ∧ c ≤ 255) → K (-1) μ) (hK1 : (0 ≤ c ∧ c ≤ 255) → L = 160 → K (-3) μ) (hK : (0 ≤ c ∧ c ≤ 255) → L < 160 → ∀ ν, TX ν (fun k => if k = L then c else T k) (L + 1) → fr (fun t _ k => (t = 8 ∧ k = 1) ∨ t = 9) μ ν → K (L + 1) ν) : ZI f_X7_appendCharacter [vR 0 0, vI c] μ K := by
  have hL := hT.2.1
  refine vc_X7_appendCharacter_0 ?_
  split
  · exact zlf (hK0 (by omega)) rfl
  split
  · exact zlf (hK0 (by omega)) rfl
  rw [hT.1]
  split
  · next q1 q2 q3 =>
    refine vc_X5_append_0 ?_
    have e1 : ∀ v, (mup μ 9 0 L v) 8 0 1 = L := fun v => (mup_t (by decide)).trans hT.1
    rw [hT.1, if_neg (by omega), if_pos q3, e1, show c % 65536 % 65536 = c by omega, mup_self]
    refine ⟨by omega, zin_sm (by omega), L + 1, rfl, zlf (hK (by omega) q3 _ ⟨mup_self _ _ _ _ _, by omega, fun k k0 k1 => ?_⟩ (fr_up (fr_up fr_rf (Or.inr rfl)) (Or.inl ⟨rfl, rfl⟩))) rfl⟩
    dsimp only
    rw [mup_t (by decide)]
    by_cases q : k = L
    · rw [if_pos q, q, mup_self]; omega
    · rw [if_neg q, mup_k q]; exact hT.2.2 k k0 (by omega)
  · exact zlf (hK1 (by omega) (by omega)) rfl
theorem s_clearText {T : Int → Int} {L : Int} {K : Int → mzM → Prop} (hT : TX μ T L) (hK : ∀ ν, TX ν T 0 → fr (fun t _ k => t = 8 ∧ k = 1) μ ν → K L ν) : ZI f_X7_clearText [vR 0 0] μ K :=
  vc_X7_clearText_0 (zlf (hK _ ⟨mup_self _ _ _ _ _, by decide, fun k k0 k1 => by omega⟩ (fr_up fr_rf ⟨rfl, rfl⟩)) hT.1)
/-- the place of an error is in the text -/
theorem pargs_e {T : Int → Int} {L : Int} : ∀ (as : List Int) (p e : Int), 0 ≤ p → p ≤ L → pargs s T L as p = .inl e → 0 ≤ e ∧ e ≤ L
  | [], p, e, p0, pL, h => by
    have hsk := sk_b (T := T) pL
    unfold pargs at h
    split at h
    · cases h
    · cases h; omega
  | a :: as, p, e, p0, pL, h => by
    have hsk := sk_b (T := T) pL
    unfold pargs at h
    by_cases ha : aok s T L (sk T L p) a
    · rw [cif_p ha] at h
      have hlt : sk T L p < L := kd_lt (T := T) (by rw [ha.1.1]; decide)
      have hte := te_b (T := T) hlt
      cases hr : pargs s T L as (te T L (sk T L p)) with
      | inl e2 =>
        rw [hr] at h
        cases h
        exact pargs_e as _ e (by omega) (by omega) hr
      | inr r => obtain ⟨q2, vs2⟩ := r; rw [hr] at h; cases h
    · rw [cif_n ha] at h; cases h; omega
theorem pcmd_e {T : Int → Int} {L b e : Int} (b0 : 0 ≤ b) (bL : b < L) (h : pcmd s T L b = .inl e) : 0 ≤ e ∧ e ≤ L := by
  have hte := te_b (T := T) bL
  unfold pcmd at h
  split at h
  · cases h; omega
  · cases hr : pargs s T L (cargs (cmdof T L b)) (te T L b) with
    | inl e2 =>
      rw [hr] at h
      cases h
      exact pargs_e _ _ e (by omega) (by omega) hr
    | inr r => obtain ⟨q2, vs2⟩ := r; rw [hr] at h; cases h
end Drw
