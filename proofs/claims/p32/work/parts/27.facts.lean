/-! ===== what holds of states, and of states behind the calls ===== -/
theorem isum_ge {g : Int → Int} (h0 : ∀ j, 0 ≤ g j) : ∀ (n : Nat) (k j : Int), k ≤ j → j < k + n → g j ≤ isum g k n
  | 0, k, j, h1, h2 => absurd h1 (by omega)
  | n + 1, k, j, h1, h2 => by
    rw [isum_succ]
    have hb := (isum_bound (g := fun j => if 0 ≤ g j then 0 else 0) (lo := 0) (hi := 0) n (k + 1) (fun j _ _ => by simp)).1
    by_cases q : j = k
    · have h3 : 0 ≤ isum g (k + 1) n := by
        have : ∀ (n : Nat) (k : Int), 0 ≤ isum g k n := by
          intro n
          induction n with
          | zero => intro k; exact Int.le_refl 0
          | succ n ih => intro k; rw [isum_succ]; have := ih (k + 1); have := h0 k; omega
        exact this n (k + 1)
      rw [q]
      omega
    · have h3 := isum_ge h0 n (k + 1) j (by omega) (by omega)
      have := h0 k
      omega
theorem isum_add {g h : Int → Int} : ∀ (n : Nat) (k : Int), isum (fun j => g j + h j) k n = isum g k n + isum h k n
  | 0, k => rfl
  | n + 1, k => by rw [isum_succ, isum_succ, isum_succ, isum_add n (k + 1)]; omega
theorem isum_one : ∀ (n : Nat) (k : Int), isum (fun _ => 1) k n = n
  | 0, k => rfl
  | n + 1, k => by rw [isum_succ, isum_one n (k + 1)]; omega
/-- every code is of one of the four kinds -/
theorem kinds_sum {s : Int → Int} (hW : WF s) {f : Int} (hf : 0 ≤ f ∧ f < s 2) : skinds s f 0 + skinds s f 1 + skinds s f 2 + skinds s f 3 = sblocks s := by
  have hb := WD_blocks hW.1
  have e : isum (fun b => (((if sits s f b = 0 then (1 : Int) else 0) + (if sits s f b = 1 then 1 else 0)) + (if sits s f b = 2 then 1 else 0)) + (if sits s f b = 3 then 1 else 0)) 0 (sblocks s).toNat = isum (fun _ => 1) 0 (sblocks s).toNat := isum_congr _ _ (fun b b0 b1 => by
    have h := ((hW.2.2.2.2.2.2 f hf.1 hf.2).2.2.2 b b0 (by omega)).1
    by_cases q0 : sits s f b = 0
    · rw [if_pos q0, if_neg (by omega), if_neg (by omega), if_neg (by omega)]; rfl
    · by_cases q1 : sits s f b = 1
      · rw [if_neg q0, if_pos q1, if_neg (by omega), if_neg (by omega)]; rfl
      · by_cases q2 : sits s f b = 2
        · rw [if_neg q0, if_neg q1, if_pos q2, if_neg (by omega)]; rfl
        · rw [if_neg q0, if_neg q1, if_neg q2, if_pos (by omega)]; rfl)
  rw [isum_add (g := fun b => ((if sits s f b = 0 then (1 : Int) else 0) + (if sits s f b = 1 then 1 else 0)) + (if sits s f b = 2 then 1 else 0)) (h := fun b => if sits s f b = 3 then 1 else 0),
    isum_add (g := fun b => (if sits s f b = 0 then (1 : Int) else 0) + (if sits s f b = 1 then 1 else 0)) (h := fun b => if sits s f b = 2 then 1 else 0),
    isum_add (g := fun b => if sits s f b = 0 then (1 : Int) else 0) (h := fun b => if sits s f b = 1 then 1 else 0), isum_one] at e
  unfold skinds
  omega
theorem blocks_div {s : Int → Int} (hD : WD s) : (s 0 * s 1).tdiv 16 = sblocks s ∧ zin (s 0 * s 1) ∧ zin ((s 0 * s 1).tdiv 16) := by
  obtain ⟨h1, h2⟩ := hD
  unfold sblocks
  rcases h1 with h1 | h1 | h1 <;> rcases h2 with h2 | h2 | h2 <;> rw [h1, h2] <;> decide
theorem chn_in {s : Int → Int} (hW : WF s) : ∀ (n : Nat) (f : Int), fok s f → ∀ g ∈ chn s n f, 0 ≤ g ∧ g < s 2
  | 0, f, _, g, h => by cases h
  | n + 1, f, hf, g, h => by
    rcases hf with hf | hf
    · rw [chn_neg s _ (by omega)] at h; cases h
    · rw [chn_pos s n hf.1] at h
      rcases List.mem_cons.mp h with h | h
      · rw [h]; exact hf
      · exact chn_in hW n (sref s f) (fok_ref hW hf) g h
theorem chn_ag {s s' : Int → Int} (hW : WF s) (h : ∀ f, 0 ≤ f → f < s 2 → sref s' f = sref s f) : ∀ (n : Nat) (f : Int), fok s f → chn s' n f = chn s n f
  | 0, f, _ => rfl
  | n + 1, f, hf => by
    rcases hf with hf | hf
    · rw [chn_neg s _ (by omega), chn_neg s' _ (by omega)]
    · rw [chn_pos s n hf.1, chn_pos s' n hf.1, h f hf.1 hf.2, chn_ag hW h n (sref s f) (fok_ref hW hf)]
theorem good_m1 (s : Int → Int) : sgood s (-1) := fun g h => by rw [chn_neg s 10 (by decide)] at h; cases h
/-- a new frame can be decoded where its reference can -/
theorem good_new {s s' : Int → Int} {r : Int} (hW : WF s) (hn : s 2 < 10) (hr : fok s r) (hg : sgood s r) (hO : OPadd s r s') : sgood s' (s 2) := by
  have h10 := hW.2.1
  intro g h
  rw [chn_pos s' 9 h10.1, hO.2.2.2.2.1, chn_ag hW (fun f f0 f1 => (hO.2.2.1 f f0 f1).1.2.1) 9 r hr] at h
  rcases List.mem_cons.mp h with h | h
  · rw [h]; exact hO.2.2.2.2.2.1
  · have hi := chn_in hW 9 r hr g h
    rw [(hO.2.2.1 g hi.1 hi.2).2]
    refine hg g ?_
    rw [chn_stab hW 10 9 r hr (by rcases hr with hr | hr <;> omega) (by rcases hr with hr | hr <;> omega)]
    exact h
theorem cost_new {s s' : Int → Int} {r : Int} (hW : WF s) (hr : fok s r) (hO : OPadd s r s') : scost s' (s 2) = call s (-1) r :=
  scost_rec hW.1 hO.1.1 hO.1.2.1 hO.2.2.2 (fun q => by
    rcases hr with hr | hr
    · exact absurd hr q
    · exact (hO.2.2.1 r hr.1 hr.2).1.1)
theorem diff_new {s s' : Int → Int} {r : Int} (hW : WF s) (hO : OPadd s r s') : sdiff s' (s 2) (-1) = 0 := by
  have hm := WD_mul hW.1
  unfold sdiff
  rw [hO.1.1, hO.1.2.1]
  have e := isum_congr (g := fun c => if sv s' (s 2) c = sv s' (-1) c then 0 else 1) (g' := fun _ => 0) (s 0 * s 1).toNat 0 (fun c c0 c1 => by
    show (if _ then _ else _) = _
    rw [if_pos ((hO.2.2.2.1 c c0 (by omega)).trans (hO.2.1 c c0 (by omega)).symm)])
  rw [e]
  have := isum_bound (g := fun _ => 0) (lo := 0) (hi := 0) (s 0 * s 1).toNat 0 (fun j _ _ => by simp)
  omega
theorem seek_ge {s : Int → Int} (hW : WF s) {f : Int} (hf : 0 ≤ f ∧ f < s 2) : scost s f ≤ sseek s f := by
  unfold sseek
  rw [chn_pos s 9 hf.1]
  show scost s f ≤ scost s f + lsum (scost s) _
  have := (lsum_b (g := scost s) (hi := 308) (fun x => by have := scost_b hW.1 x; omega) (chn s 9 (sref s f))).1
  omega
theorem dep_ge {s : Int → Int} {f : Int} (hf : 0 ≤ f ∧ f < s 2) : 1 ≤ qdep s f := by
  have h := isum_ge (g := fun g => cif (f ∈ chn s 10 g) 1 0) (fun j => by unfold cif; split <;> omega) (s 2).toNat 0 f hf.1 (by omega)
  unfold qdep cif
  rw [if_pos hf]
  have e : cif (f ∈ chn s 10 f) (1 : Int) 0 = 1 := by
    unfold cif
    rw [chn_pos s 9 hf.1, if_pos List.mem_cons_self]
  have h2 : (1 : Int) ≤ isum (fun g => cif (f ∈ chn s 10 g) 1 0) 0 (s 2).toNat := by
    have h3 : cif (f ∈ chn s 10 f) (1 : Int) 0 ≤ isum (fun g => cif (f ∈ chn s 10 g) 1 0) 0 (s 2).toNat := h
    omega
  exact h2
/-- what is chosen may be chosen, and costs no more than a key frame -/
theorem chosen_ok {s : Int → Int} (hW : WF s) : (schosen s = -1 ∨ (isF s (schosen s) ∧ sgood s (schosen s))) ∧ call s (-1) (schosen s) ≤ call s (-1) (-1) := by
  have h10 := hW.2.1
  have h := ifold_inv (g := chstep s) (I := fun a _ => ((a.1 = -1 ∨ (isF s a.1 ∧ sgood s a.1)) ∧ a.2.1 = call s (-1) a.1) ∧ a.2.1 ≤ call s (-1) (-1)) (s 2).toNat (-1, call s (-1) (-1), 0) 0 (fun a j j0 j1 ha => by
    unfold chstep cif
    split
    · next q =>
      refine ⟨⟨Or.inr ⟨⟨j0, by omega⟩, q.1.1⟩, rfl⟩, ?_⟩
      show call s (-1) j ≤ _
      have := ha.2
      omega
    · exact ha) ⟨⟨Or.inl rfl, rfl⟩, Int.le_refl _⟩
  refine ⟨h.1.1, ?_⟩
  have h1 := h.1.2
  have h2 := h.2
  unfold schosen
  omega
/-! ===== what a record costs hangs on the images alone ===== -/
theorem like_same {s s' : Int → Int} {f g x y a b : Int} (hD : WD s) (h0 : s' 0 = s 0) (hf : SAME s f s' f) (hg : SAME s g s' g) (hx : 0 ≤ x ∧ x ≤ s 0 - 4) (hy : 0 ≤ y ∧ y ≤ s 1 - 4) (ha : 0 ≤ a ∧ a ≤ s 0 - 4) (hb : 0 ≤ b ∧ b ≤ s 1 - 4) : slike s' f x y g a b ↔ slike s f x y g a b := by
  have e : ∀ x y, spl s' x y = spl s x y := fun x y => by unfold spl; rw [h0]
  constructor
  · intro h k k0 k1
    obtain ⟨p1, p2, p3, p4⟩ := part_pl hD hx hy k0 k1
    obtain ⟨q1, q2, q3, q4⟩ := part_pl hD ha hb k0 k1
    rw [← hf _ p2 p3, ← hg _ q2 q3, ← e, ← e]
    exact h k k0 k1
  · intro h k k0 k1
    obtain ⟨p1, p2, p3, p4⟩ := part_pl hD hx hy k0 k1
    obtain ⟨q1, q2, q3, q4⟩ := part_pl hD ha hb k0 k1
    rw [e, e, hf _ p2 p3, hg _ q2 q3]
    exact h k k0 k1
theorem ccost_same {s s' : Int → Int} {f r b : Int} (hD : WD s) (h0 : s' 0 = s 0) (h1 : s' 1 = s 1) (h3 : s' 3 = s 3) (hf : SAME s f s' f) (hg : r ≠ -1 → SAME s r s' r) (b0 : 0 ≤ b) (b1 : b < sblocks s) : ccost s' f r b = ccost s f r b := by
  obtain ⟨hx, hy⟩ := WD_blk hD b0 b1
  have e1 : sleft s' b = sleft s b := by unfold sleft; rw [h0]
  have e2 : stop s' b = stop s b := by unfold stop; rw [h0]
  have r1 : sruns s' f r b = sruns s f r b := sruns_same hD h0 h1 hf Iff.rfl hg b0 b1
  have r2 : sruns s' f (-1) b = sruns s f (-1) b := sruns_same hD h0 h1 hf Iff.rfl (fun q => absurd rfl q) b0 b1
  unfold ccost
  rw [r1, r2]
  by_cases q : r = -1
  · rw [if_pos q, if_pos q]
  · rw [if_neg q, if_neg q]
    have hg := hg q
    have a1 : slk s' f r b ↔ slk s f r b := by
      unfold slk
      rw [e1, e2]
      exact like_same hD h0 hf hg hx hy hx hy
    have a2 : (∃ x y, smv s' f r b x y) ↔ (∃ x y, smv s f r b x y) := by
      have key : ∀ x y, smv s' f r b x y ↔ smv s f r b x y := by
        intro x y
        unfold smv
        rw [e1, e2, h0, h1, h3]
        constructor
        · rintro ⟨g1, g2, g3, g4, g5⟩
          exact ⟨g1, g2, g3, g4, (like_same hD h0 hf hg hx hy g4.1 g4.2).mp g5⟩
        · rintro ⟨g1, g2, g3, g4, g5⟩
          exact ⟨g1, g2, g3, g4, (like_same hD h0 hf hg hx hy g4.1 g4.2).mpr g5⟩
      constructor
      · rintro ⟨x, y, h⟩; exact ⟨x, y, (key x y).mp h⟩
      · rintro ⟨x, y, h⟩; exact ⟨x, y, (key x y).mpr h⟩
    by_cases c1 : slk s f r b
    · rw [if_pos c1, if_pos (a1.mpr c1)]
    · rw [if_neg c1, if_neg (fun z => c1 (a1.mp z))]
      by_cases c2 : ∃ x y, smv s f r b x y
      · rw [if_pos c2, if_pos (a2.mpr c2)]
      · rw [if_neg c2, if_neg (fun z => c2 (a2.mp z))]
theorem call_same {s s' : Int → Int} {f r : Int} (hD : WD s) (h0 : s' 0 = s 0) (h1 : s' 1 = s 1) (h3 : s' 3 = s 3) (hf : SAME s f s' f) (hg : r ≠ -1 → SAME s r s' r) : call s' f r = call s f r := by
  have hb := WD_blocks hD
  unfold call
  rw [sblocks_same h0 h1, isum_congr (sblocks s).toNat 0 (fun b b0 b1 => ccost_same hD h0 h1 h3 hf hg b0 (by omega))]
/-! ===== plans ===== -/
theorem plof_congr {kc nc kc' nc' : Int → Int} {set n rate : Int} (h : ∀ f, 0 ≤ f → f < n → kc f = kc' f ∧ nc f = nc' f) : plof kc nc set n rate = plof kc' nc' set n rate := by
  unfold plof
  rw [ifold_congr n.toNat (0, 0, 0) 0 (fun a j j0 j1 => by
    obtain ⟨e1, e2⟩ := h j j0 (by omega)
    show pstep kc nc set a j = pstep kc' nc' set a j
    unfold pstep
    rw [e1, e2])]
theorem best_same {s s' : Int → Int} (hW : WF s) (hO : OPrec s s') : pbest s' = pbest s := by
  obtain ⟨⟨h0, h1, h2, h3, h4, h5⟩, h6, h7⟩ := hO
  have e : spof s' = spof s := by
    funext set
    unfold spof
    rw [h2, h5]
    refine plof_congr (fun f f0 f1 => ⟨?_, ?_⟩)
    · exact call_same hW.1 h0 h1 h3 (h7 f f0 f1).1 (fun q => absurd rfl q)
    · exact call_same hW.1 h0 h1 h3 (h7 f f0 f1).1 (fun q => (h7 (f - 1) (by omega) (by omega)).1)
  unfold pbest
  rw [e, h2]
theorem best_cost (s : Int → Int) : (pbest s).1 = spof s (pbest s).2 := by
  have h := ifold_inv (g := bstep (spof s)) (I := fun a _ => a.1 = spof s a.2) (pcnt (s 2)) (spof s 1, 1) 0 (fun a j _ _ ha => by
    unfold bstep
    split
    · rfl
    · exact ha) rfl
  exact h
/-- the costs of the records that a plan makes -/
theorem rec_costs {s s' : Int → Int} (hW : WF s) (hn : 1 ≤ s 2) (hO : OPrec s s') (hW' : WF s') : ∀ m : Nat, (m : Int) ≤ s 2 →
    (ifold (pstep (kcs s) (ncs s) (pbest s).2) (0, 0, 0) 0 m).1 = isum (scost s') 0 m ∧ (1 ≤ m → (ifold (pstep (kcs s) (ncs s) (pbest s).2) (0, 0, 0) 0 m).2.1 = sseek s' ((m : Int) - 1)) ∧
    (ifold (pstep (kcs s) (ncs s) (pbest s).2) (0, 0, 0) 0 m).2.2 = ifold (fun a f => if a < sseek s' f then sseek s' f else a) 0 0 m := by
  have h10 := hW.2.1
  obtain ⟨g1, g2, g3⟩ := pbest_ok hn h10.2
  intro m
  induction m with
  | zero => intro _; exact ⟨rfl, fun q => absurd q (by omega), rfl⟩
  | succ m ih =>
    intro hm
    obtain ⟨i1, i2, i3⟩ := ih (by omega)
    have m0 : (0 : Int) ≤ (m : Int) := Int.natCast_nonneg m
    have hR := hO.2.2 (m : Int) m0 (by omega)
    have hc := scost_rec hW.1 hO.1.1 hO.1.2.1 hR (fun q => by
      rcases prf_ok hn h10.2 m0 with z | z
      · exact absurd z q
      · exact (hO.2.2 _ z.1 (by omega)).1)
    have hs : sseek s' (m : Int) = scost s' (m : Int) + lsum (scost s') (chn s' 9 (prf s (m : Int))) := by
      unfold sseek
      rw [chn_pos s' 9 m0, hR.2.1]
      rfl
    rw [ifold_last, ifold_last, isum_last, Int.zero_add, ← i1, ← i3]
    generalize ifold (pstep (kcs s) (ncs s) (pbest s).2) (0, 0, 0) 0 m = a at *
    have e1 : ((m + 1 : Nat) : Int) - 1 = (m : Int) := by omega
    rw [e1]
    by_cases q : ksel (pbest s).2 (m : Int)
    · have hp : prf s (m : Int) = -1 := by unfold prf; rw [if_pos q]
      rw [hp] at hc hs
      rw [chn_neg s' 9 (by decide)] at hs
      have hs2 : sseek s' (m : Int) = scost s' (m : Int) := by rw [hs]; exact Int.add_zero _
      have hk : kcs s (m : Int) = scost s' (m : Int) := hc.symm
      unfold pstep
      rw [if_pos q, hk, hs2]
      exact ⟨rfl, fun _ => rfl, rfl⟩
    · have hm0 : 1 ≤ m := by
        rcases Nat.eq_zero_or_pos m with z | z
        · exfalso
          subst z
          exact q (ksel0 g1 g2 g3)
        · exact z
      have hp : prf s (m : Int) = (m : Int) - 1 := by unfold prf; rw [if_neg q]
      rw [hp] at hc hs
      have i2 := i2 hm0
      have hst : chn s' 9 ((m : Int) - 1) = chn s' 10 ((m : Int) - 1) := chn_stab hW' 9 10 _ (Or.inr ⟨by omega, by rw [hO.1.2.2.1]; omega⟩) (by omega) (by omega)
      rw [hst] at hs
      have hs2 : sseek s' (m : Int) = scost s' (m : Int) + sseek s' ((m : Int) - 1) := hs
      have hk : ncs s (m : Int) = scost s' (m : Int) := hc.symm
      unfold pstep
      rw [if_neg q, hk]
      have hs3 : a.2.1 + scost s' (m : Int) = sseek s' (m : Int) := by rw [hs2, i2]; omega
      refine ⟨rfl, fun _ => hs3, ?_⟩
      show (if a.2.2 < a.2.1 + scost s' (m : Int) then a.2.1 + scost s' (m : Int) else a.2.2) = _
      rw [hs3]
theorem rec_cost {s s' : Int → Int} (hW : WF s) (hn : 1 ≤ s 2) (hO : OPrec s s') (hW' : WF s') : scosts s' + s' 5 * qgreat s' = (pbest s).1 := by
  have h10 := hW.2.1
  obtain ⟨e1, -, e3⟩ := rec_costs hW hn hO hW' (s 2).toNat (by omega)
  rw [best_cost]
  unfold spof plof scosts qgreat
  rw [e1, e3, hO.1.2.2.1, hO.1.2.2.2.2.2, if_neg (by omega)]
