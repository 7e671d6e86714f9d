/-! ===== copies, the saved states ===== -/
section Sav
variable {μ : mzM} {s : Int → Int}
abbrev Pim (o : Int) : Nat → Int → Int → Prop := fun t i _ => (t = 3 ∨ t = 4) ∧ i = o
abbrev Prc (o : Int) : Nat → Int → Int → Prop := fun t i _ => (t = 2 ∨ t = 3 ∨ t = 4 ∨ t = 5) ∧ i = o
abbrev Pst (i : Int) : Nat → Int → Int → Prop := fun t j _ => (t = 1 ∧ j = i) ∨ ((t = 3 ∨ t = 4) ∧ j = 78 + i) ∨ ((t = 2 ∨ t = 3 ∨ t = 4 ∨ t = 5) ∧ 11 * i ≤ j ∧ j < 11 * i + 10)
theorem mcp_fr {P : Nat → Int → Int → Prop} {μ ν : mzM} {ts td : Nat} {is sp id dp n : Int} (h : fr P μ ν) (hp : ∀ k, P td id k) : fr P μ (mcp ν ts is sp td id dp n) := fun t i k q => by
  unfold mcp
  rw [if_neg (fun z => q (by rw [z.1, z.2.1]; exact hp k))]
  exact h t i k q
theorem mcp_at {ν : mzM} {ts td : Nat} {is id n k : Int} (h0 : 0 ≤ k) (h1 : k < n) : mcp ν ts is 0 td id 0 n td id k = ν ts is k := by
  unfold mcp
  rw [if_pos ⟨rfl, rfl, h0, by omega⟩]
  congr 1
  omega
theorem mcp_t {ν : mzM} {ts td t : Nat} {is sp id dp n i k : Int} (h : t ≠ td) : mcp ν ts is sp td id dp n t i k = ν t i k := by
  unfold mcp
  rw [if_neg (fun z => h z.1)]
theorem s_X2_take {o o' : Int} {K : mzM → Prop} (hK : ∀ ν, (ν 3 o 1 = μ 3 o' 1 ∧ ν 3 o 2 = μ 3 o' 2 ∧ ∀ c, 0 ≤ c → c < 144 → ν 4 o c = μ 4 o' c) → fr (Pim o) μ ν → K ν) : ZV f_X2_take [vR 3 o, vR 3 o'] μ K := by
  refine vc_X2_take_0 ⟨by decide, rfl, hK _ ⟨?_, ?_, fun c c0 c1 => ?_⟩ ?_⟩
  · rw [mcp_t (by decide), mup_k (by decide), mup_self]
  · rw [mcp_t (by decide), mup_self, mup_k (by decide)]
  · rw [mcp_at c0 c1, mup_t (by decide), mup_t (by decide)]
  · exact mcp_fr (fr_up (fr_up fr_rf ⟨Or.inl rfl, rfl⟩) ⟨Or.inl rfl, rfl⟩) (fun k => ⟨Or.inr rfl, rfl⟩)
theorem IM_cp {ν : mzM} {o o' f : Int} (hD : WD s) (hI : IM μ o' s f) (h : ν 3 o 1 = μ 3 o' 1 ∧ ν 3 o 2 = μ 3 o' 2 ∧ ∀ c, 0 ≤ c → c < 144 → ν 4 o c = μ 4 o' c) : IM ν o s f := by
  have hm := WD_mul hD
  exact ⟨h.1.trans hI.1, h.2.1.trans hI.2.1, fun c c0 c1 => (h.2.2 c c0 (by omega)).trans (hI.2.2 c c0 c1)⟩
theorem s_takeI {o o' f : Int} {K : mzM → Prop} (hD : WD s) (hI : IM μ o' s f) (hK : ∀ ν, IM ν o s f → fr (Pim o) μ ν → K ν) : ZV f_X2_take [vR 3 o, vR 3 o'] μ K := s_X2_take (fun ν h hF => hK ν (IM_cp hD hI h) hF)
theorem s_takeF {o o' f : Int} {K : mzM → Prop} (hD : WD s) (hR : FR μ o' s f) (hl : slost s f = 0 ∨ slost s f = 1) (ho : o ≠ o') (hK : ∀ ν, FR ν o s f → fr (Prc o) μ ν → K ν) : ZV f_X1_take [vR 2 o, vR 2 o'] μ K := by
  obtain ⟨r1, r2, r3, r4, r5⟩ := hR
  refine vc_X1_take_0 (s_takeI hD r1 (fun ν hI hF => ?_))
  have e2 : ∀ k, ν 2 o' k = μ 2 o' k := fun k => hF 2 o' k (by rintro ⟨q, _⟩; omega)
  have e5 : ∀ k, ν 5 o' k = μ 5 o' k := fun k => hF 5 o' k (by rintro ⟨q, _⟩; omega)
  have ho' : o' ≠ o := fun q => ho q.symm
  have hb := WD_blocks hD
  refine ⟨by decide, ?_⟩
  simp only [mup_i ho', mcp_t (show (2 : Nat) ≠ 5 by decide), e2, r2, r3, r4]
  refine ⟨hl, trivial, hK _ ⟨?_, ?_, ?_, ?_, fun b b0 b1 => ?_⟩ ?_⟩
  · exact IM_fr hI (P := fun t i _ => (t = 2 ∨ t = 5) ∧ i = o) (fr_up (fr_up (fr_up (mcp_fr fr_rf (fun k => ⟨Or.inr rfl, rfl⟩)) ⟨Or.inl rfl, rfl⟩) ⟨Or.inl rfl, rfl⟩) ⟨Or.inl rfl, rfl⟩) (fun k q => by omega) (fun k q => by omega)
  · rw [mup_k (by decide), mup_k (by decide), mup_self]
  · rw [mup_self]
  · rw [mup_k (by decide), mup_self]
  · simp only [mup_t (show (5 : Nat) ≠ 2 by decide)]
    rw [mcp_at (by omega) (by omega), mcp_at (by omega) (by omega), mcp_at (by omega) (by omega), mcp_at (by omega) (by omega), e5, e5, e5, e5]
    exact r5 b b0 b1
  · refine fr_up (fr_up (fr_up (mcp_fr (fr_mono hF (fun t i k q => ⟨?_, q.2⟩)) (fun k => ⟨Or.inr (Or.inr (Or.inr rfl)), rfl⟩)) ⟨Or.inl rfl, rfl⟩) ⟨Or.inl rfl, rfl⟩) ⟨Or.inl rfl, rfl⟩
    rcases q.1 with q | q
    · exact Or.inr (Or.inl q)
    · exact Or.inr (Or.inr (Or.inl q))
theorem FR_fr {P : Nat → Int → Int → Prop} {ν : mzM} {o f : Int} (hR : FR μ o s f) (h : fr P μ ν) (hp : ∀ k, ¬ P 2 o k ∧ ¬ P 3 o k ∧ ¬ P 4 o k ∧ ¬ P 5 o k) : FR ν o s f := by
  obtain ⟨r1, r2, r3, r4, r5⟩ := hR
  refine ⟨IM_fr r1 h (fun k => (hp k).2.1) (fun k => (hp k).2.2.1), (h 2 o 2 (hp 2).1).trans r2, (h 2 o 4 (hp 4).1).trans r3, (h 2 o 3 (hp 3).1).trans r4, fun b b0 b1 => ?_⟩
  rw [h 5 o _ (hp _).2.2.2, h 5 o _ (hp _).2.2.2, h 5 o _ (hp _).2.2.2, h 5 o _ (hp _).2.2.2]
  exact r5 b b0 b1
theorem ST_fr {P : Nat → Int → Int → Prop} {ν : mzM} {i : Int} (hS : ST μ i s) (h : fr P μ ν) (h1 : ∀ k, ¬ P 1 i k) (h2 : ∀ k, ¬ P 3 (78 + i) k ∧ ¬ P 4 (78 + i) k) (h3 : ∀ f, 0 ≤ f → f < s 2 → ∀ k, ¬ P 2 (11 * i + f) k ∧ ¬ P 3 (11 * i + f) k ∧ ¬ P 4 (11 * i + f) k ∧ ¬ P 5 (11 * i + f) k) : ST ν i s := by
  obtain ⟨⟨a1, a2, a3, a4⟩, a5, a6⟩ := hS
  exact ⟨⟨(h 1 i 3 (h1 3)).trans a1, (h 1 i 4 (h1 4)).trans a2, (h 1 i 5 (h1 5)).trans a3, (h 1 i 6 (h1 6)).trans a4⟩, IM_fr a5 h (fun k => (h2 k).1) (fun k => (h2 k).2), fun f f0 f1 => FR_fr (a6 f f0 f1) h (h3 f f0 f1)⟩
/-- a state is copied -/
theorem s_takeS {i j : Int} {K : mzM → Prop} (hW : WF s) (hS : ST μ j s) (hij : i ≠ j) (i0 : 0 ≤ i) (i1 : i ≤ 6) (j0 : 0 ≤ j) (j1 : j ≤ 6) (hK : ∀ ν, ST ν i s → fr (Pst i) μ ν → K ν) : ZV f_X6_take [vR 1 i, vR 1 j] μ K := by
  have h10 := hW.2.1
  refine vc_X6_take_0 (s_takeI hW.1 hS.2.1 (fun ν hI hF => ?_))
  have e1 : ∀ k, ν 1 j k = μ 1 j k := fun k => hF 1 j k (by rintro ⟨q, _⟩; omega)
  have hji : j ≠ i := fun q => hij q.symm
  obtain ⟨⟨a1, a2, a3, a4⟩, -, a6⟩ := hS
  simp only [mup_i hji, e1, a1, a2, a3, a4]
  have hF0 : fr (Pst i) μ (mup (mup (mup (mup ν 1 i 3 (s 2)) 1 i 4 (s 3)) 1 i 5 (s 4)) 1 i 6 (s 5)) := fr_up (fr_up (fr_up (fr_up (fr_mono hF (fun t o k q => Or.inr (Or.inl q))) (Or.inl ⟨rfl, rfl⟩)) (Or.inl ⟨rfl, rfl⟩)) (Or.inl ⟨rfl, rfl⟩)) (Or.inl ⟨rfl, rfl⟩)
  have hb : ∀ ξ : mzM, ξ = mup (mup (mup (mup ν 1 i 3 (s 2)) 1 i 4 (s 3)) 1 i 5 (s 4)) 1 i 6 (s 5) → (ξ 1 i 3 = s 2 ∧ ξ 1 i 4 = s 3 ∧ ξ 1 i 5 = s 4 ∧ ξ 1 i 6 = s 5) ∧ IM ξ (78 + i) s (-1) := by
    intro ξ e
    subst e
    refine ⟨⟨?_, ?_, ?_, mup_self _ _ _ _ _⟩, IM_fr hI (P := fun t _ _ => t = 1) (fr_up (fr_up (fr_up (fr_up fr_rf rfl) rfl) rfl) rfl) (fun k q => by omega) (fun k q => by omega)⟩
    · rw [mup_k (by decide), mup_k (by decide), mup_k (by decide), mup_self]
    · rw [mup_k (by decide), mup_k (by decide), mup_self]
    · rw [mup_k (by decide), mup_self]
  have hb := hb _ rfl
  generalize mup (mup (mup (mup ν 1 i 3 (s 2)) 1 i 4 (s 3)) 1 i 5 (s 4)) 1 i 6 (s 5) = ξ0 at *
  have key : ∀ f, 0 ≤ f → f ≤ s 2 → ∀ ξ : mzM, ((ξ 1 i 3 = s 2 ∧ ξ 1 i 4 = s 3 ∧ ξ 1 i 5 = s 4 ∧ ξ 1 i 6 = s 5) ∧ IM ξ (78 + i) s (-1)) → fr (Pst i) μ ξ → (∀ g, 0 ≤ g → g < f → FR ξ (11 * i + g) s g) → ZW f_X6_take 23 [vR 1 i, vR 1 j, vI f] [] ξ (fun r ν => r = none ∧ K ν) := by
    intro f f0 f1
    refine iter_down (C := fun f => ∀ ξ : mzM, ((ξ 1 i 3 = s 2 ∧ ξ 1 i 4 = s 3 ∧ ξ 1 i 5 = s 4 ∧ ξ 1 i 6 = s 5) ∧ IM ξ (78 + i) s (-1)) → fr (Pst i) μ ξ → (∀ g, 0 ≤ g → g < f → FR ξ (11 * i + g) s g) → ZW f_X6_take 23 [vR 1 i, vR 1 j, vI f] [] ξ (fun r ν => r = none ∧ K ν)) (lo := 0) (hi := s 2) ?_ ?_ f0 f1
    · intro f f0 f1 ih ξ hb hF hg
      refine vc_X6_take_23 ?_
      rw [hb.1.1, if_pos f1]
      refine s_fa hW ⟨f0, f1⟩ (s_fa hW ⟨f0, f1⟩ ?_)
      have hR : FR ξ (11 * j + f) s f := FR_fr (a6 f f0 f1) hF (fun k => ⟨by omega, by omega, by omega, by omega⟩)
      refine s_takeF hW.1 hR (hW.2.2.2.2.2.2 f f0 f1).2.2.1 (by omega) (fun ζ hR2 hF2 => ⟨zin_sm (by omega), ih ζ ?_ ?_ (fun g g0 g1 => ?_)⟩)
      · refine ⟨⟨?_, ?_, ?_, ?_⟩, IM_fr hb.2 hF2 (fun k q => by omega) (fun k q => by omega)⟩
        · rw [hF2 1 i 3 (by rintro ⟨q, _⟩; omega)]; exact hb.1.1
        · rw [hF2 1 i 4 (by rintro ⟨q, _⟩; omega)]; exact hb.1.2.1
        · rw [hF2 1 i 5 (by rintro ⟨q, _⟩; omega)]; exact hb.1.2.2.1
        · rw [hF2 1 i 6 (by rintro ⟨q, _⟩; omega)]; exact hb.1.2.2.2
      · exact fr_tr hF (fr_mono hF2 (fun t o k q => Or.inr (Or.inr ⟨q.1, by omega, by omega⟩)))
      · by_cases q : g = f
        · rw [q]; exact hR2
        · exact FR_fr (hg g g0 (by omega)) hF2 (fun k => ⟨by omega, by omega, by omega, by omega⟩)
    · intro ξ hb hF hg
      refine vc_X6_take_23 ?_
      rw [hb.1.1, if_neg (by omega)]
      exact ⟨rfl, hK ξ ⟨hb.1, hb.2, hg⟩ hF⟩
  exact key 0 (by omega) (by omega) ξ0 hb hF0 (fun g g0 g1 => by omega)
/-! ===== the class as a whole: its state, and the n saved ones, oldest first ===== -/
def CI (μ : mzM) (s : Int → Int) (n : Int) (p : Int → Int → Int) : Prop := ST μ 0 s ∧ (0 ≤ μ 0 0 2 ∧ μ 0 0 2 ≤ 5) ∧ (μ 0 0 3 = n ∧ 0 ≤ n ∧ n ≤ 6) ∧ ∀ j, 0 ≤ j → j < n → ST μ (1 + (μ 0 0 2 + j) % 6) (p j)
def pushn (n : Int) : Int := if n < 6 then n + 1 else 6
def pushp (p : Int → Int → Int) (n : Int) (s : Int → Int) : Int → Int → Int := fun j => if n < 6 then (if j = n then s else p j) else (if j = 5 then s else p (j + 1))
/-- the class's own memory that isn't the state -/
abbrev Psc : Nat → Int → Int → Prop := fun t i k => ((t = 2 ∨ t = 3 ∨ t = 4 ∨ t = 5) ∧ i = 77) ∨ ((t = 3 ∨ t = 4) ∧ i = 85) ∨ (10 ≤ t ∧ t ≤ 18) ∨ (t = 8 ∧ k ≠ 1)
/-- the class's memory but the text -/
abbrev Pcl : Nat → Int → Int → Prop := fun t _ k => t ≤ 18 ∧ t ≠ 9 ∧ (t = 8 → k ≠ 1)
/-- of the saved states -/
abbrev Psv : Nat → Int → Int → Prop := fun t i _ => t = 0 ∨ (t = 1 ∧ 1 ≤ i) ∨ ((t = 3 ∨ t = 4) ∧ 79 ≤ i ∧ i ≤ 84) ∨ ((t = 2 ∨ t = 3 ∨ t = 4 ∨ t = 5) ∧ 11 ≤ i ∧ i ≤ 76)
theorem Psc_cl {t : Nat} {i k : Int} (h : Psc t i k) : Pcl t i k := by
  rcases h with h | h | h | h
  · exact ⟨by omega, by omega, fun q => by omega⟩
  · exact ⟨by omega, by omega, fun q => by omega⟩
  · exact ⟨by omega, by omega, fun q => by omega⟩
  · exact ⟨by omega, by omega, fun _ => h.2⟩
theorem CI_sc {n : Int} {p : Int → Int → Int} {ν : mzM} (hW : WF s) (hp : ∀ j, 0 ≤ j → j < n → WF (p j)) (hC : CI μ s n p) (h : fr Psc μ ν) : CI ν s n p := by
  obtain ⟨c1, c2, c3, c4⟩ := hC
  have e2 : ν 0 0 2 = μ 0 0 2 := h 0 0 2 (by omega)
  have e3 : ν 0 0 3 = μ 0 0 3 := h 0 0 3 (by omega)
  have h10 := hW.2.1
  refine ⟨ST_fr c1 h (fun k => by omega) (fun k => ⟨by omega, by omega⟩) (fun f f0 f1 k => ⟨by omega, by omega, by omega, by omega⟩), by rw [e2]; exact c2, by rw [e3]; exact c3, fun j j0 j1 => ?_⟩
  rw [e2]
  have h10 := (hp j j0 j1).2.1
  exact ST_fr (c4 j j0 j1) h (fun k => by omega) (fun k => ⟨by omega, by omega⟩) (fun f f0 f1 k => ⟨by omega, by omega, by omega, by omega⟩)
/-- another state in the place of the first -/
theorem CI_st {n : Int} {p : Int → Int → Int} {ν : mzM} {P : Nat → Int → Int → Prop} {s' : Int → Int} (hp : ∀ j, 0 ≤ j → j < n → WF (p j)) (hC : CI μ s n p) (h : fr P μ ν) (hP : ∀ t i k, P t i k → ¬ Psv t i k) (hS : ST ν 0 s') : CI ν s' n p := by
  obtain ⟨c1, c2, c3, c4⟩ := hC
  have e2 : ν 0 0 2 = μ 0 0 2 := h 0 0 2 (fun q => hP _ _ _ q (Or.inl rfl))
  have e3 : ν 0 0 3 = μ 0 0 3 := h 0 0 3 (fun q => hP _ _ _ q (Or.inl rfl))
  refine ⟨hS, by rw [e2]; exact c2, by rw [e3]; exact c3, fun j j0 j1 => ?_⟩
  rw [e2]
  have h10 := (hp j j0 j1).2.1
  refine ST_fr (c4 j j0 j1) h (fun k q => hP _ _ _ q ?_) (fun k => ⟨fun q => hP _ _ _ q ?_, fun q => hP _ _ _ q ?_⟩) (fun f f0 f1 k => ⟨fun q => hP _ _ _ q ?_, fun q => hP _ _ _ q ?_, fun q => hP _ _ _ q ?_, fun q => hP _ _ _ q ?_⟩) <;> omega
theorem s_savedSlot {x : Int} {K : Int → mzM → Prop} (h0 : 0 ≤ μ 0 0 2 + x) (h1 : μ 0 0 2 + x < 12) (h : K (1 + (μ 0 0 2 + x) % 6) μ) : ZR f_X7_savedSlot 1 [vR 0 0, vI x] μ K := by
  refine vc_X7_savedSlot_0 ⟨zin_sm (by omega), by decide, ?_⟩
  rw [ztm 6 h0, if_neg (by omega), if_pos (by omega)]
  exact ⟨⟨by omega, by omega⟩, zlr h rfl⟩
theorem s_save {n : Int} {p : Int → Int → Int} {K : mzM → Prop} (hW : WF s) (hp : ∀ j, 0 ≤ j → j < n → WF (p j)) (hC : CI μ s n p) (hK : ∀ ν, CI ν s (pushn n) (pushp p n s) → fr Psv μ ν → K ν) : ZV f_X7_save [vR 0 0] μ K := by
  obtain ⟨c1, c2, ⟨c3, n0, n6⟩, c4⟩ := id hC
  have h10 := hW.2.1
  refine vc_X7_save_0 ?_
  rw [c3]
  refine s_savedSlot (by omega) (by omega) ?_
  refine s_takeS hW c1 (by omega) (by omega) (by omega) (by omega) (by omega) (fun ν hS hF => ?_)
  have e2 : ν 0 0 2 = μ 0 0 2 := hF 0 0 2 (by omega)
  have e3 : ν 0 0 3 = n := (hF 0 0 3 (by omega)).trans c3
  have hF2 : fr Psv μ ν := fr_mono hF (fun t o k q => by omega)
  have hS0 : ST ν 0 s := ST_fr c1 hF (fun k => by omega) (fun k => ⟨by omega, by omega⟩) (fun f f0 f1 k => ⟨by omega, by omega, by omega, by omega⟩)
  have hSj : ∀ j, 0 ≤ j → j < n → (μ 0 0 2 + j) % 6 ≠ (μ 0 0 2 + n) % 6 → ST ν (1 + (μ 0 0 2 + j) % 6) (p j) := by
    intro j j0 j1 hne
    have h10 := (hp j j0 j1).2.1
    exact ST_fr (c4 j j0 j1) hF (fun k => by omega) (fun k => ⟨by omega, by omega⟩) (fun f f0 f1 k => ⟨by omega, by omega, by omega, by omega⟩)
  have mv : ∀ (k v i : Int) (q : Int → Int), ST ν i q → ST (mup ν 0 0 k v) i q := fun k v i q h => ST_fr (P := fun t _ _ => t = 0) h (fr_up fr_rf rfl) (fun k => by omega) (fun k => ⟨by omega, by omega⟩) (fun f f0 f1 k => ⟨by omega, by omega, by omega, by omega⟩)
  rw [e3, e2]
  split
  · next q =>
    refine ⟨zin_sm (by omega), rfl, hK _ ⟨mv _ _ _ _ hS0, ?_, ?_, fun j j0 j1 => mv _ _ _ _ ?_⟩ (fr_up hF2 (Or.inl rfl))⟩
    · rw [mup_k (by decide), e2]; exact c2
    · unfold pushn
      rw [mup_self, if_pos q]
      exact ⟨rfl, by omega, by omega⟩
    · unfold pushn at j1
      rw [if_pos q] at j1
      unfold pushp
      rw [mup_k (by decide), e2, if_pos q]
      by_cases hj : j = n
      · rw [if_pos hj, hj]; exact hS
      · rw [if_neg hj]; exact hSj j j0 (by omega) (by omega)
  · next q =>
    have hn : n = 6 := by omega
    refine ⟨zin_sm (by omega), by omega, rfl, hK _ ⟨mv _ _ _ _ hS0, ?_, ?_, fun j j0 j1 => mv _ _ _ _ ?_⟩ (fr_up hF2 (Or.inl rfl))⟩
    · rw [mup_self, ztm 6 (by omega)]
      omega
    · unfold pushn
      rw [mup_k (by decide), if_neg q, e3]
      exact ⟨hn, by omega, by omega⟩
    · unfold pushn at j1
      rw [if_neg q] at j1
      unfold pushp
      rw [mup_self, ztm 6 (by omega), if_neg q]
      by_cases hj : j = 5
      · rw [if_pos hj, show 1 + ((μ 0 0 2 + 1) % 6 + j) % 6 = 1 + (μ 0 0 2 + n) % 6 by omega]; exact hS
      · rw [if_neg hj, show 1 + ((μ 0 0 2 + 1) % 6 + j) % 6 = 1 + (μ 0 0 2 + (j + 1)) % 6 by omega]
        exact hSj (j + 1) (by omega) (by omega) (by omega)
theorem s_undo {n : Int} {p : Int → Int → Int} {K : Int → mzM → Prop} (hp : ∀ j, 0 ≤ j → j < n → WF (p j)) (hC : CI μ s n p) (h0 : n = 0 → K (-2) μ) (hK : 0 < n → ∀ ν, CI ν (p (n - 1)) (n - 1) p → fr Pcl μ ν → K (n - 1) ν) : ZI f_X7_undo [vR 0 0] μ K := by
  obtain ⟨c1, c2, ⟨c3, n0, n6⟩, c4⟩ := id hC
  refine vc_X7_undo_0 ?_
  rw [c3]
  split
  · exact zlf (h0 (by omega)) rfl
  · next q =>
    refine ⟨zin_sm (by omega), ?_⟩
    have e2 : (mup μ 0 0 3 (n - 1)) 0 0 2 = μ 0 0 2 := mup_k (by decide)
    rw [mup_self]
    refine s_savedSlot (by rw [e2]; omega) (by rw [e2]; omega) ?_
    rw [e2]
    have mv : ∀ (i : Int) (q : Int → Int), ST μ i q → ST (mup μ 0 0 3 (n - 1)) i q := fun i q h => ST_fr (P := fun t _ _ => t = 0) h (fr_up fr_rf rfl) (fun k => by omega) (fun k => ⟨by omega, by omega⟩) (fun f f0 f1 k => ⟨by omega, by omega, by omega, by omega⟩)
    refine s_takeS (hp (n - 1) (by omega) (by omega)) (mv _ _ (c4 (n - 1) (by omega) (by omega))) (by omega) (by omega) (by omega) (by omega) (by omega) (fun ν hS hF => ?_)
    have f2 : ν 0 0 2 = μ 0 0 2 := (hF 0 0 2 (by omega)).trans e2
    have f3 : ν 0 0 3 = n - 1 := (hF 0 0 3 (by omega)).trans (mup_self _ _ _ _ _)
    refine zlf (hK (by omega) ν ⟨hS, by rw [f2]; exact c2, ⟨f3, by omega, by omega⟩, fun j j0 j1 => ?_⟩ ?_) f3
    · rw [f2]
      have h10 := (hp j j0 (by omega)).2.1
      exact ST_fr (mv _ _ (c4 j j0 (by omega))) hF (fun k => by omega) (fun k => ⟨by omega, by omega⟩) (fun f f0 f1 k => ⟨by omega, by omega, by omega, by omega⟩)
    · exact fr_tr (fr_up fr_rf ⟨by omega, by omega, fun q => by omega⟩) (fr_mono hF (fun t o k q => ⟨by omega, by omega, fun q => by omega⟩))
end Sav
