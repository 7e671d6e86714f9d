/-! ===== plans ===== -/
abbrev ksel (set f : Int) : Prop := zand (zshr set f) 1 = 1
def pstep (kc nc : Int → Int) (set : Int) (a : Int × Int × Int) (f : Int) : Int × Int × Int := if ksel set f then (a.1 + kc f, kc f, if a.2.2 < kc f then kc f else a.2.2) else (a.1 + nc f, a.2.1 + nc f, if a.2.2 < a.2.1 + nc f then a.2.1 + nc f else a.2.2)
def plof (kc nc : Int → Int) (set n rate : Int) : Int := (ifold (pstep kc nc set) (0, 0, 0) 0 n.toNat).1 + rate * (ifold (pstep kc nc set) (0, 0, 0) 0 n.toNat).2.2
noncomputable def kcs (s : Int → Int) (f : Int) : Int := call s f (-1)
noncomputable def ncs (s : Int → Int) (f : Int) : Int := call s f (f - 1)
noncomputable def spof (s : Int → Int) (set : Int) : Int := plof (kcs s) (ncs s) set (s 2) (s 5)
def sbits (x : Int) : Int := isum (fun k => zand (zshr x k) 1) 0 10
def bc1 (x : Int) : Int := x - zand (zushr x 1) 1431655765
def bc2 (x : Int) : Int := zand (bc1 x) 858993459 + zand (zushr (bc1 x) 2) 858993459
def bc3 (x : Int) : Int := bc2 x + zushr (bc2 x) 4
def bc4 (x : Int) : Int := zand (bc3 x) 252645135
def bc5 (x : Int) : Int := bc4 x + zushr (bc4 x) 8
def bc6 (x : Int) : Int := bc5 x + zushr (bc5 x) 16
abbrev bcP (x : Int) : Prop := (zin (bc1 x) ∧ zin (bc2 x)) ∧ (zin (bc3 x) ∧ zin (bc5 x)) ∧ zin (bc6 x) ∧ zand (bc6 x) 63 = sbits x
theorem bcok : ∀ a : Nat, a < 32 → ∀ b : Nat, b < 32 → bcP ((32 * a + b : Nat) : Int) := by decide +kernel
theorem s_bitCount {μ : mzM} {x : Int} {K : Int → mzM → Prop} (h0 : 0 ≤ x) (h1 : x < 1024) (h : K (sbits x) μ) : ZI f_J6_bitCount_0f7a4 [vI x] μ K := by
  have hb := bcok (x.toNat / 32) (by omega) (x.toNat % 32) (by omega)
  rw [show ((32 * (x.toNat / 32) + x.toNat % 32 : Nat) : Int) = x by omega] at hb
  obtain ⟨⟨b1, b2⟩, ⟨b3, b5⟩, b6, b7⟩ := hb
  exact vc_J6_bitCount_0f7a4_0 ⟨b1, b2, b3, b5, b6, zlf h b7⟩
theorem zshl1 : ∀ m : Nat, m < 11 → zshl 1 (m : Int) = ((2 ^ m : Nat) : Int) := by decide +kernel
theorem ksel0_a : ∀ m : Nat, m < 512 → ksel ((2 * m + 1 : Nat) : Int) 0 := by decide +kernel
theorem ksel0 {x : Int} (h0 : 0 ≤ x) (h1 : x < 1024) (h2 : x % 2 = 1) : ksel x 0 := by
  have h := ksel0_a (x.toNat / 2) (by omega)
  rw [show ((2 * (x.toNat / 2) + 1 : Nat) : Int) = x by omega] at h
  exact h
/-- how many sets of key frames there are beside the first -/
def pcnt (n : Int) : Nat := 2 ^ (n.toNat - 1) - 1
theorem pcnt_a : ∀ m : Nat, m < 10 → 2 * (2 ^ m - 1) + 2 = 2 ^ (m + 1) ∧ 2 ^ (m + 1) ≤ 1024 := by decide +kernel
theorem pcnt_ok {n : Int} (h0 : 1 ≤ n) (h1 : n ≤ 10) : zshl 1 n = 2 * (pcnt n : Int) + 2 ∧ (pcnt n : Int) ≤ 511 := by
  have h := zshl1 n.toNat (by omega)
  obtain ⟨g1, g2⟩ := pcnt_a (n.toNat - 1) (by omega)
  rw [show ((n.toNat : Nat) : Int) = n by omega] at h
  rw [show n.toNat - 1 + 1 = n.toNat by omega] at g1 g2
  unfold pcnt
  omega
noncomputable def bstep (c : Int → Int) (a : Int × Int) (j : Int) : Int × Int := if c (3 + 2 * j) < a.1 ∨ (c (3 + 2 * j) = a.1 ∧ sbits (3 + 2 * j) < sbits a.2) then (c (3 + 2 * j), 3 + 2 * j) else a
noncomputable def pbest (s : Int → Int) : Int × Int := ifold (bstep (spof s)) (spof s 1, 1) 0 (pcnt (s 2))
theorem bstep_inv {c : Int → Int} {n : Nat} (hn : n ≤ 511) {a : Int × Int} {j : Int} (j0 : 0 ≤ j) (j1 : j < n) (h : 0 ≤ a.2 ∧ a.2 < 1024 ∧ a.2 % 2 = 1) : 0 ≤ (bstep c a j).2 ∧ (bstep c a j).2 < 1024 ∧ (bstep c a j).2 % 2 = 1 := by
  unfold bstep
  split
  · show 0 ≤ 3 + 2 * j ∧ 3 + 2 * j < 1024 ∧ (3 + 2 * j) % 2 = 1
    omega
  · exact h
theorem pbest_ok {s : Int → Int} (h0 : 1 ≤ s 2) (h1 : s 2 ≤ 10) : 0 ≤ (pbest s).2 ∧ (pbest s).2 < 1024 ∧ (pbest s).2 % 2 = 1 := by
  have hp := (pcnt_ok h0 h1).2
  unfold pbest
  exact ifold_inv (I := fun a _ => 0 ≤ a.2 ∧ a.2 < 1024 ∧ a.2 % 2 = 1) (pcnt (s 2)) (spof s 1, 1) 0 (fun a j j0 j1 h => bstep_inv (n := pcnt (s 2)) (by omega) j0 (by omega) h) (show (0 : Int) ≤ 1 ∧ (1 : Int) < 1024 ∧ (1 : Int) % 2 = 1 by decide)
/-- the reference of a frame by the best plan -/
noncomputable def prf (s : Int → Int) (f : Int) : Int := if ksel (pbest s).2 f then -1 else f - 1
theorem prf_ok {s : Int → Int} (h0 : 1 ≤ s 2) (h1 : s 2 ≤ 10) {f : Int} (f0 : 0 ≤ f) : prf s f = -1 ∨ (0 ≤ prf s f ∧ prf s f < f) := by
  unfold prf
  split
  · exact Or.inl rfl
  · next q =>
    by_cases hf : f = 0
    · obtain ⟨g1, g2, g3⟩ := pbest_ok h0 h1
      rw [hf] at q
      exact absurd (ksel0 g1 g2 g3) q
    · exact Or.inr ⟨by omega, by omega⟩
theorem pstep_inv {s : Int → Int} (hD : WD s) {set : Int} {a : Int × Int × Int} {f : Int} (h : (0 ≤ a.1 ∧ a.1 ≤ 308 * f) ∧ (0 ≤ a.2.1 ∧ a.2.1 ≤ 308 * f) ∧ (0 ≤ a.2.2 ∧ a.2.2 ≤ 308 * f)) : (0 ≤ (pstep (kcs s) (ncs s) set a f).1 ∧ (pstep (kcs s) (ncs s) set a f).1 ≤ 308 * (f + 1)) ∧ (0 ≤ (pstep (kcs s) (ncs s) set a f).2.1 ∧ (pstep (kcs s) (ncs s) set a f).2.1 ≤ 308 * (f + 1)) ∧ (0 ≤ (pstep (kcs s) (ncs s) set a f).2.2 ∧ (pstep (kcs s) (ncs s) set a f).2.2 ≤ 308 * (f + 1)) := by
  have h1 : 2 ≤ kcs s f ∧ kcs s f ≤ 308 := call_b hD f (-1)
  have h2 : 2 ≤ ncs s f ∧ ncs s f ≤ 308 := call_b hD f (f - 1)
  unfold pstep
  split
  · dsimp only
    refine ⟨by omega, by omega, ?_⟩
    split <;> omega
  · dsimp only
    refine ⟨by omega, by omega, ?_⟩
    split <;> omega
theorem rate_b {r g : Int} (r0 : 0 ≤ r) (r1 : r ≤ 9) (g0 : 0 ≤ g) (g1 : g ≤ 3080) : 0 ≤ r * g ∧ r * g ≤ 27720 := by
  have h1 : r * g ≤ 9 * 3080 := Int.mul_le_mul r1 g1 g0 (by omega)
  exact ⟨Int.mul_nonneg r0 g0, by omega⟩
section Pln
variable {μ : mzM} {s : Int → Int}
theorem s_costOfSet {set : Int} {K : Int → mzM → Prop} (hW : WF s) (h0 : ksel set 0) (hk : ∀ f, 0 ≤ f → f < s 2 → μ 16 0 f = kcs s f) (hc : ∀ f, 1 ≤ f → f < s 2 → μ 17 0 f = ncs s f) (h : K (spof s set) μ) : ZI f_X3_costOf [vR 15 0, vI set, vI (s 2), vI (s 5)] μ K := by
  have h10 := hW.2.1
  have h5 := hW.2.2.2.2.1
  refine vc_X3_costOf_0 ?_
  refine ifold_loop (g := pstep (kcs s) (ncs s) set) (C := fun a k => ∀ v8 v9 : mzV, ZW f_X3_costOf 8 [vR 15 0, vI set, vI (s 2), vI (s 5), vI a.1, vI a.2.1, vI a.2.2, vI k, v8, v9] [] μ (fun r ν => ∃ a, r = some (vI a) ∧ K a ν)) (I := fun a k => (0 ≤ a.1 ∧ a.1 ≤ 308 * k) ∧ (0 ≤ a.2.1 ∧ a.2.1 ≤ 308 * k) ∧ (0 ≤ a.2.2 ∧ a.2.2 ≤ 308 * k)) (lo := 0) (hi := s 2) ?_ ?_ (s 2).toNat (0, 0, 0) 0 (by omega) (by omega) (by decide) ?_ none none
  · intro a k k0 k1 ha
    exact pstep_inv hW.1 ha
  · intro a k k0 k1 ha hC v8 v9
    refine vc_X3_costOf_8 ?_
    rw [if_pos k1, if_pos (by omega), if_pos (by omega)]
    have h1 : 2 ≤ kcs s k ∧ kcs s k ≤ 308 := call_b hW.1 k (-1)
    have h2 : 2 ≤ ncs s k ∧ ncs s k ≤ 308 := call_b hW.1 k (k - 1)
    unfold pstep at hC
    split
    · next q =>
      rw [if_pos q] at hC
      rw [hk k k0 k1]
      exact ⟨⟨k0, by omega⟩, zin_sm (by omega), s_max ⟨zin_sm (by omega), hC _ _⟩⟩
    · next q =>
      have k2 : 1 ≤ k := by
        rcases Int.lt_or_le k 1 with z | z
        · have : k = 0 := by omega
          rw [this] at q
          exact absurd h0 q
        · exact z
      rw [if_neg q] at hC
      rw [hc k k2 k1]
      exact ⟨⟨k0, by omega⟩, zin_sm (by omega), zin_sm (by omega), s_max ⟨zin_sm (by omega), hC _ _⟩⟩
  · intro ha v8 v9
    refine vc_X3_costOf_8 ?_
    rw [if_neg (by omega)]
    have hr := rate_b h5.1 h5.2 ha.2.2.1 (by omega)
    exact ⟨zin_sm (by omega), zin_sm (by omega), zlf h rfl⟩
abbrev Pms : Nat → Int → Int → Prop := fun t i _ => ((t = 2 ∨ t = 3 ∨ t = 4 ∨ t = 5) ∧ i = 77) ∨ (11 ≤ t ∧ t ≤ 14) ∨ t = 16 ∨ t = 17
theorem ST_ms {ν : mzM} (hW : WF s) (hS : ST μ 0 s) {P : Nat → Int → Int → Prop} (h : fr P μ ν) (hP : ∀ t i k, P t i k → Pms t i k) : ST ν 0 s := by
  have h10 := hW.2.1
  have h := fr_mono h hP
  exact ST_fr hS h (fun k => by omega) (fun k => ⟨by omega, by omega⟩) (fun f f0 f1 k => ⟨by omega, by omega, by omega, by omega⟩)
theorem s_measure {K : mzM → Prop} (hW : WF s) (hS : ST μ 0 s) (hK : ∀ ν, ST ν 0 s → fr Pms μ ν → (∀ f, 0 ≤ f → f < s 2 → ν 16 0 f = kcs s f) → (∀ f, 1 ≤ f → f < s 2 → ν 17 0 f = ncs s f) → K ν) : ZV f_X3_measure [vR 15 0, vR 1 0, vR 11 0, vR 2 77, vI (s 2)] μ K := by
  have h10 := hW.2.1
  have h3 := hW.2.2.1
  refine vc_X3_measure_0 ?_
  have key : ∀ f, 0 ≤ f → f ≤ s 2 → ∀ ν : mzM, ST ν 0 s → fr Pms μ ν → (∀ g, 0 ≤ g → g < f → ν 16 0 g = kcs s g) → (∀ g, 1 ≤ g → g < f → ν 17 0 g = ncs s g) → ZW f_X3_measure 2 [vR 15 0, vR 1 0, vR 11 0, vR 2 77, vI (s 2), vI f] [] ν (fun r ν => r = none ∧ K ν) := by
    intro f f0 f1
    refine iter_down (C := fun f => ∀ ν : mzM, ST ν 0 s → fr Pms μ ν → (∀ g, 0 ≤ g → g < f → ν 16 0 g = kcs s g) → (∀ g, 1 ≤ g → g < f → ν 17 0 g = ncs s g) → ZW f_X3_measure 2 [vR 15 0, vR 1 0, vR 11 0, vR 2 77, vI (s 2), vI f] [] ν (fun r ν => r = none ∧ K ν)) (lo := 0) (hi := s 2) ?_ ?_ f0 f1
    · intro f f0 f1 ih ν hS hF hk hc
      refine vc_X3_measure_2 ?_
      rw [if_pos f1, if_pos (by omega), if_pos (by omega)]
      refine s_X6_imageOf hW (Or.inr ⟨f0, f1⟩) (s_takeI hW.1 (ST_im hS (Or.inr ⟨f0, f1⟩)) (fun ξ hI hF2 => ?_))
      have hS2 := ST_ms hW hS hF2 (fun t i k q => by omega)
      have hV : SV s f := (hW.2.2.2.2.2.2 f f0 f1).1
      refine s_encode hW.1 hI (fun q => absurd rfl q) hV h3 hS2.1.2.1 (fun ζ hE hF3 => ?_)
      have hS3 := ST_ms hW hS2 hF3 (fun t i k q => by omega)
      have hI3 : IM ζ 77 s f := IM_fr hI hF3 (fun k => by omega) (fun k => by omega)
      have e1 : ζ 2 77 3 = kcs s f := hE.2.2.1
      have hF23 : fr Pms ν ζ := fr_tr (fr_mono hF2 (fun t i k q => by omega)) (fr_mono hF3 (fun t i k q => by omega))
      have hFz : fr Pms μ (mup ζ 16 0 f (ζ 2 77 3)) := fr_up (fr_tr hF hF23) (Or.inr (Or.inr (Or.inl rfl)))
      have up : ∀ (t : Nat) (k v : Int), t = 16 ∨ t = 17 → ∀ ω : mzM, ST ω 0 s → ST (mup ω t 0 k v) 0 s := fun t k v ht ω h => ST_ms hW h (P := fun t' _ _ => t' = t) (fr_up fr_rf rfl) (fun t' i k q => by omega)
      have hk2 : ∀ g, 0 ≤ g → g < f + 1 → (mup ζ 16 0 f (ζ 2 77 3)) 16 0 g = kcs s g := by
        intro g g0 g1
        by_cases q : g = f
        · rw [q, mup_self, e1]
        · rw [mup_k q, hF3 16 0 g (by omega), hF2 16 0 g (by omega)]
          exact hk g g0 (by omega)
      have hc2 : ∀ g, 1 ≤ g → g < f → (mup ζ 16 0 f (ζ 2 77 3)) 17 0 g = ncs s g := by
        intro g g0 g1
        rw [mup_t (by decide), hF3 17 0 g (by omega), hF2 17 0 g (by omega)]
        exact hc g g0 g1
      refine ⟨⟨f0, by omega⟩, ?_⟩
      split
      · next q =>
        have hS4 := up 16 f (ζ 2 77 3) (Or.inl rfl) ζ hS3
        have hI4 : IM (mup ζ 16 0 f (ζ 2 77 3)) 77 s f := IM_fr (P := fun t _ _ => t = 16) hI3 (fr_up fr_rf rfl) (fun k => by omega) (fun k => by omega)
        refine ⟨zin_sm (by omega), s_encode hW.1 hI4 (fun z => ⟨⟨by omega, by omega⟩, by omega, (hS4.2.2 (f - 1) (by omega) (by omega)).1, (hW.2.2.2.2.2.2 (f - 1) (by omega) (by omega)).1⟩) hV h3 hS4.1.2.1 (fun ω hE2 hF5 => ?_)⟩
        have hS5 := ST_ms hW hS4 hF5 (fun t i k q => by omega)
        have e2 : ω 2 77 3 = ncs s f := hE2.2.2.1
        refine ⟨⟨f0, by omega⟩, zin_sm (by omega), ih _ (up 17 f _ (Or.inr rfl) ω hS5) (fr_up (fr_tr hFz (fr_mono hF5 (fun t i k q => by omega))) (Or.inr (Or.inr (Or.inr rfl)))) (fun g g0 g1 => ?_) (fun g g0 g1 => ?_)⟩
        · rw [mup_t (by decide), hF5 16 0 g (by omega)]
          exact hk2 g g0 g1
        · by_cases z : g = f
          · rw [z, mup_self, e2]
          · rw [mup_k z, hF5 17 0 g (by omega)]
            exact hc2 g g0 (by omega)
      · next q => exact ⟨zin_sm (by omega), ih _ (up 16 f _ (Or.inl rfl) ζ hS3) hFz hk2 (fun g g0 g1 => hc2 g g0 (by omega))⟩
    · intro ν hS hF hk hc
      refine vc_X3_measure_2 ?_
      rw [if_neg (by omega)]
      exact ⟨rfl, hK ν hS hF hk hc⟩
  exact key 0 (by omega) (by omega) μ hS fr_rf (fun g g0 g1 => by omega) (fun g g0 g1 => by omega)
theorem s_plan {K : mzM → Prop} (hW : WF s) (hS : ST μ 0 s) (hn : 1 ≤ s 2) (hK : ∀ ν, ST ν 0 s → fr Psc μ ν → ν 15 0 2 = (pbest s).1 → ν 15 0 3 = (pbest s).2 → K ν) : ZV f_X3_plan [vR 15 0, vR 1 0, vR 11 0, vR 2 77] μ K := by
  have h10 := hW.2.1
  have h5 := hW.2.2.2.2.1
  obtain ⟨hcnt, h511⟩ := pcnt_ok hn h10.2
  refine vc_X3_plan_0 (s_min ?_)
  rw [hS.1.1]
  have e : (if (10 : Int) < s 2 then 10 else s 2) = s 2 := by split <;> omega
  rw [e]
  refine s_measure hW hS (fun ν hS1 hF hk hc => ?_)
  rw [hS1.1.2.2.2]
  refine s_costOfSet hW (by decide +kernel) hk hc ?_
  have st15 : ∀ (ω : mzM) (k v : Int), ST ω 0 s → ST (mup ω 15 0 k v) 0 s := fun ω k v h => ST_fr (P := fun t _ _ => t = 15) h (fr_up fr_rf rfl) (fun k => by omega) (fun k => ⟨by omega, by omega⟩) (fun f f0 f1 k => ⟨by omega, by omega, by omega, by omega⟩)
  have Pq : fr Psc μ ν := fr_mono hF (fun t i k q => by omega)
  have key : ∀ (a : Int × Int) (ω : mzM) (v6 v7 : mzV), ω 15 0 2 = a.1 → ω 15 0 3 = a.2 → ST ω 0 s → fr Psc μ ω → (∀ f, 0 ≤ f → f < s 2 → ω 16 0 f = kcs s f) → (∀ f, 1 ≤ f → f < s 2 → ω 17 0 f = ncs s f) → (a = (spof s 1, 1)) → ZW f_X3_plan 24 [vR 15 0, vR 1 0, vR 11 0, vR 2 77, vI (s 2), vI 3, v6, v7] [] ω (fun r ν => r = none ∧ K ν) := by
    intro a ω v6 v7 e1 e2 hS2 hF2 hk2 hc2 ea
    have lp := ifold_loop (g := bstep (spof s)) (C := fun a j => ∀ (ω : mzM) (v6 v7 : mzV), ω 15 0 2 = a.1 → ω 15 0 3 = a.2 → ST ω 0 s → fr Psc μ ω → (∀ f, 0 ≤ f → f < s 2 → ω 16 0 f = kcs s f) → (∀ f, 1 ≤ f → f < s 2 → ω 17 0 f = ncs s f) → ZW f_X3_plan 24 [vR 15 0, vR 1 0, vR 11 0, vR 2 77, vI (s 2), vI (3 + 2 * j), v6, v7] [] ω (fun r ν => r = none ∧ K ν)) (I := fun a _ => 0 ≤ a.2 ∧ a.2 < 1024 ∧ a.2 % 2 = 1) (lo := 0) (hi := (pcnt (s 2) : Int)) (fun a j j0 j1 h => bstep_inv (n := pcnt (s 2)) (by omega) j0 j1 h) ?_ (pcnt (s 2)) a 0 (by omega) (by omega) (by rw [ea]; exact (show (0 : Int) ≤ 1 ∧ (1 : Int) < 1024 ∧ (1 : Int) % 2 = 1 by decide)) ?_ ω v6 v7 e1 e2 hS2 hF2 hk2 hc2
    · exact lp
    · intro a j j0 j1 ha hC ω v6 v7 e1 e2 hS2 hF2 hk2 hc2
      refine vc_X3_plan_24 ?_
      rw [if_pos (by rw [hcnt]; omega), hS2.1.2.2.2]
      refine s_costOfSet hW (ksel0 (by omega) (by omega) (by omega)) hk2 hc2 ?_
      refine s_bitCount (by omega) (by omega) ?_
      rw [e2]
      refine s_bitCount ha.1 ha.2.1 ?_
      rw [e1]
      have upd : ∀ (v x : Int), bstep (spof s) a j = (v, x) → ∀ v6 v7 : mzV, ZW f_X3_plan 24 [vR 15 0, vR 1 0, vR 11 0, vR 2 77, vI (s 2), vI (3 + 2 * j + 2), v6, v7] [] (mup (mup ω 15 0 2 v) 15 0 3 x) (fun r ν => r = none ∧ K ν) := by
        intro v x hb v6 v7
        rw [show 3 + 2 * j + 2 = 3 + 2 * (j + 1) by omega]
        refine hC _ v6 v7 ?_ ?_ (st15 _ _ _ (st15 _ _ _ hS2)) (fr_up (fr_up hF2 (by omega)) (by omega)) (fun f f0 f1 => ?_) (fun f f0 f1 => ?_)
        · rw [mup_k (by decide), mup_self, hb]
        · rw [mup_self, hb]
        · rw [mup_t (by decide), mup_t (by decide)]; exact hk2 f f0 f1
        · rw [mup_t (by decide), mup_t (by decide)]; exact hc2 f f0 f1
      have keep : bstep (spof s) a j = a → ∀ v6 v7 : mzV, ZW f_X3_plan 24 [vR 15 0, vR 1 0, vR 11 0, vR 2 77, vI (s 2), vI (3 + 2 * j + 2), v6, v7] [] ω (fun r ν => r = none ∧ K ν) := by
        intro hb v6 v7
        rw [show 3 + 2 * j + 2 = 3 + 2 * (j + 1) by omega]
        exact hC ω v6 v7 (by rw [hb]; exact e1) (by rw [hb]; exact e2) hS2 hF2 hk2 hc2
      unfold bstep at upd keep
      split
      · next q1 =>
        split
        · next q2 => exact ⟨zin_sm (by omega), upd _ _ (by rw [if_pos (Or.inl q2)]) _ _⟩
        · next q2 =>
          split
          · next q3 => exact ⟨zin_sm (by omega), upd _ _ (by rw [if_pos (Or.inr ⟨q3, q1⟩)]) _ _⟩
          · next q3 => exact ⟨zin_sm (by omega), keep (by rw [if_neg (by rintro (z | z); exact q2 z; exact q3 z.1)]) _ _⟩
      · next q1 =>
        split
        · next q2 => exact ⟨zin_sm (by omega), upd _ _ (by rw [if_pos (Or.inl q2)]) _ _⟩
        · next q2 =>
          have hk : ¬ (spof s (3 + 2 * j) < a.1 ∨ (spof s (3 + 2 * j) = a.1 ∧ sbits (3 + 2 * j) < sbits a.2)) := by
            rintro (z | z)
            · exact q2 z
            · exact q1 z.2
          split
          · exact ⟨zin_sm (by omega), keep (by rw [if_neg hk]) _ _⟩
          · exact ⟨zin_sm (by omega), keep (by rw [if_neg hk]) _ _⟩
    · intro _ ω v6 v7 e1 e2 hS2 hF2 hk2 hc2
      refine vc_X3_plan_24 ?_
      rw [if_neg (by rw [hcnt]; omega)]
      refine ⟨rfl, hK ω hS2 hF2 ?_ ?_⟩
      · rw [e1, ea]; rfl
      · rw [e2, ea]; rfl
  refine key (spof s 1, 1) _ none none ?_ ?_ (st15 _ _ _ (st15 _ _ _ hS1)) (fr_up (fr_up Pq (by omega)) (by omega)) (fun f f0 f1 => ?_) (fun f f0 f1 => ?_) rfl
  · rw [mup_k (by decide), mup_self]
  · rw [mup_self]
  · rw [mup_t (by decide), mup_t (by decide)]; exact hk f f0 f1
  · rw [mup_t (by decide), mup_t (by decide)]; exact hc f f0 f1
theorem s_referenceOf {f : Int} {K : Int → mzM → Prop} (f0 : 0 ≤ f) (f1 : f < 10) (hk : μ 15 0 3 = (pbest s).2) (h : K (prf s f) μ) : ZI f_X3_referenceOf [vR 15 0, vI f] μ K := by
  refine vc_X3_referenceOf_0 ?_
  rw [hk]
  unfold prf at h
  split
  · next q => rw [if_pos q] at h; exact zlf h rfl
  · next q => rw [if_neg q] at h; exact ⟨zin_sm (by omega), zlf h rfl⟩
end Pln
