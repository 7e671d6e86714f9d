/-! ===== the constructors' cells say what the small machine's picture says ===== -/
/-- place by place, what is said follows -/
def zle (D : va_G) (H : Heap) : List va_E → List va_E → Prop
  | [], [] => True
  | x :: es, y :: fs => (∀ q, va_at D zcl (q, x) H → va_at D zcl (q, y) H) ∧ zle D H es fs
  | [], _ :: _ => False
  | _ :: _, [] => False
section Zle
variable {D : va_G} {H : Heap}
theorem zle_rf : ∀ es, zle D H es es
  | [] => trivial
  | _ :: es => ⟨fun _ h => h, zle_rf es⟩
theorem zle_eq {es fs : List va_E} (h : es = fs) : zle D H es fs := by
  subst h
  exact zle_rf es
theorem zle_app : ∀ {es fs es' fs' : List va_E}, zle D H es fs → zle D H es' fs' → zle D H (es ++ es') (fs ++ fs')
  | [], [], _, _, _, h => h
  | _ :: _, _ :: _, _, _, h, h' => ⟨h.1, zle_app h.2 h'⟩
  | [], _ :: _, _, _, h, _ => absurd h id
  | _ :: _, [], _, _, h, _ => absurd h id
theorem zle_at : ∀ {es fs : List va_E}, zle D H es fs → ∀ (i : Nat) (y : va_E), fs[i]? = some y → ∃ x, es[i]? = some x ∧ ∀ q, va_at D zcl (q, x) H → va_at D zcl (q, y) H
  | [], [], _, i, y, hy => by simp at hy
  | x :: es, z :: fs, h, 0, y, hy => by
    cases hy
    exact ⟨x, rfl, h.1⟩
  | x :: es, z :: fs, h, i + 1, y, hy => by
    rw [List.getElem?_cons_succ] at hy ⊢
    exact zle_at h.2 i y hy
  | [], _ :: _, h, _, _, _ => absurd h id
  | _ :: _, [], h, _, _, _ => absurd h id
end Zle
theorem zsh_st : ∀ i : Nat, i < 7 → zsh.getD (zpos 1 i) (0, 0) = (1, i) ∧ zsh.getD (zpos 1 i + 1) (0, 0) = (3, 78 + i) ∧ zsh.getD (zpos 1 i + 1 + 1) (0, 0) = (4, 78 + i) ∧ zsh.getD (zpos 1 i + 1 + 1 + 1) (0, 0) = (6, i) := by decide +kernel
theorem zpos_st : ∀ i : Nat, i < 7 → zpos 3 (78 + i) = zpos 1 i + 1 ∧ zpos 4 (78 + i) = zpos 1 i + 2 ∧ zpos 6 i = zpos 1 i + 3 ∧ zpos 2 (11 * i + 10) = zpos 1 i + 4 + 4 * 10 := by decide +kernel
theorem zpos_sf : ∀ i : Nat, i < 7 → ∀ k : Nat, k < 11 → zpos 2 (11 * i + k) = zpos 1 i + 4 + 4 * k := by decide +kernel
section Blk2
variable {b0 : Nat} {ca : Nat → ClassId} {L : Nat} {xs : Nat → Int32} {D : va_G} {H : Heap}
theorem seg_frs (i n : Nat) (hi : i < 7) (h : zpos 1 i = n) : ∀ k, k ≤ 11 → zseg b0 ca (mu0 L xs) (n + 4) (4 * k) = kbl (kX1_c ca b0) (n + 4) 4 k
  | 0, _ => rfl
  | k + 1, hk => by
    rw [show 4 * (k + 1) = 4 * k + 4 by omega, zseg_app, seg_frs i n hi h k (by omega)]
    unfold kbl
    rw [seg_fr (11 * i + k) (n + 4 + 4 * k) (by omega) (by rw [zpos_sf i hi k (by omega), h])]
    cases k <;> rfl
theorem cel_st (i n : Nat) (hi : i < 7) (h : zpos 1 i = n) : zcel b0 ca (mu0 L xs) 1 i = .inr (1, [.ref (b0 + (n + 1)), .ref (b0 + (n + 3)), .ref (b0 + (n + 4 + 4 * 10)), .int 0, .int 2, .int 4, .int 0]) := by
  obtain ⟨h3, h4, h6, h2⟩ := zpos_st i hi
  rw [h] at h3 h4 h6 h2
  have e : zcel b0 ca (mu0 L xs) 1 i = .inr (1, [.ref (b0 + zpos 3 ((78 : Int) + (i : Int)).toNat), .ref (b0 + zpos 6 ((i : Int)).toNat), .ref (b0 + zpos 2 (11 * (i : Int) + 10).toNat), .int 0, .int 2, .int 4, .int 0]) := rfl
  rw [e, show ((78 : Int) + (i : Int)).toNat = 78 + i by omega, show ((i : Int)).toNat = i by omega, show (11 * (i : Int) + 10).toNat = 11 * i + 10 by omega, h3, h6, h2]
theorem cel_sa (i n : Nat) (hi : i < 7) (h : zpos 1 i = n) : ∀ q, va_at D zcl (q, .inl (ca 4, 10, .inr (.inr (.inr (.inr (krf b0 (n + 4) 4 10)))))) H → va_at D zcl (q, zcel b0 ca (mu0 L xs) 6 i) H := by
  intro q hq
  have e : zcel b0 ca (mu0 L xs) 6 i = .inl (ca 4, 10, .inr (.inr (.inr (.inr (fun j => some (b0 + zpos 2 (11 * i + j))))))) := rfl
  rw [e]
  refine va_at_q (fun j hj => ?_) hq
  unfold krf
  rw [if_pos hj, zpos_sf i hi j (by omega), h]
theorem zle_st (i n : Nat) (hi : i < 7) (h : zpos 1 i = n) : zle D H (kX6_c ca b0 n) (zseg b0 ca (mu0 L xs) n 48) := by
  obtain ⟨g1, g2, g3, g4⟩ := zsh_st i hi
  rw [h] at g1 g2 g3 g4
  have e : zseg b0 ca (mu0 L xs) n 48 = zcel b0 ca (mu0 L xs) 1 i :: ([zcel b0 ca (mu0 L xs) 3 (78 + i), zcel b0 ca (mu0 L xs) 4 (78 + i)] ++ (zcel b0 ca (mu0 L xs) 6 i :: kbl (kX1_c ca b0) (n + 4) 4 11)) := by
    rw [← seg_frs i n hi h 11 (Nat.le_refl _), zseg_s _ _ _ n 47, zseg_s _ _ _ _ 46, zseg_s _ _ _ _ 45, zseg_s _ _ _ _ 44, g1, g2, g3, g4]
    rfl
  rw [e, cel_st i n hi h, blk_im (78 + i) (n + 1) (by omega) (by rw [(zpos_st i hi).1, h])]
  unfold kX6_c
  exact ⟨fun _ hq => hq, zle_app (zle_rf _) ⟨cel_sa i n hi h, zle_rf _⟩⟩
theorem zle_sts : ∀ k, k ≤ 6 → zle D H (kbl (kX6_c ca b0) 50 48 k) (zseg b0 ca (mu0 L xs) 50 (48 * k))
  | 0, _ => trivial
  | k + 1, hk => by
    rw [show 48 * (k + 1) = 48 * k + 48 by omega, zseg_app]
    unfold kbl
    refine zle_app (zle_sts k (by omega)) (zle_st (1 + k) (50 + 48 * k) (by omega) ?_)
    rcases (show k = 0 ∨ k = 1 ∨ k = 2 ∨ k = 3 ∨ k = 4 ∨ k = 5 by omega) with rfl | rfl | rfl | rfl | rfl | rfl <;> rfl
theorem cel_ca : ∀ q, va_at D zcl (q, .inl (ca 3, 6, .inr (.inr (.inr (.inr (krf b0 50 48 6)))))) H → va_at D zcl (q, zcel b0 ca (mu0 L xs) 7 0) H := by
  intro q hq
  have e : zcel b0 ca (mu0 L xs) 7 0 = .inl (ca 3, 6, .inr (.inr (.inr (.inr (fun j => some (b0 + zpos 1 (1 + j))))))) := rfl
  rw [e]
  refine va_at_q (fun j hj => ?_) hq
  unfold krf
  rw [if_pos hj]
  rcases (show j = 0 ∨ j = 1 ∨ j = 2 ∨ j = 3 ∨ j = 4 ∨ j = 5 by omega) with rfl | rfl | rfl | rfl | rfl | rfl <;> rfl
theorem zsh_mid : (zsh.getD 0 (0, 0) = (0, 0) ∧ zsh.getD 49 (0, 0) = (7, 0)) ∧ (zsh.getD 338 (0, 0) = (8, 0) ∧ zsh.getD 339 (0, 0) = (9, 0) ∧ zsh.getD 340 (0, 0) = (10, 0)) ∧ (zsh.getD 341 (0, 0) = (11, 0) ∧ zsh.getD 342 (0, 0) = (12, 0) ∧ zsh.getD 343 (0, 0) = (13, 0) ∧ zsh.getD 344 (0, 0) = (14, 0) ∧ zsh.getD 345 (0, 0) = (12, 1) ∧ zsh.getD 346 (0, 0) = (13, 1) ∧ zsh.getD 347 (0, 0) = (14, 1)) ∧ (zsh.getD 348 (0, 0) = (15, 0) ∧ zsh.getD 349 (0, 0) = (16, 0) ∧ zsh.getD 350 (0, 0) = (17, 0)) ∧ (zsh.getD 355 (0, 0) = (3, 85) ∧ zsh.getD 356 (0, 0) = (4, 85) ∧ zsh.getD 357 (0, 0) = (18, 0)) := by decide +kernel
theorem seg_1 : zseg b0 ca (mu0 L xs) 338 3 = kX5_c ca b0 338 := by
  obtain ⟨-, ⟨g1, g2, g3⟩, -⟩ := zsh_mid
  have e : zseg b0 ca (mu0 L xs) 338 3 = [zcel b0 ca (mu0 L xs) (zsh.getD 338 (0, 0)).1 (zsh.getD 338 (0, 0)).2, zcel b0 ca (mu0 L xs) (zsh.getD 339 (0, 0)).1 (zsh.getD 339 (0, 0)).2, zcel b0 ca (mu0 L xs) (zsh.getD 340 (0, 0)).1 (zsh.getD 340 (0, 0)).2] := rfl
  rw [e, g1, g2, g3]
  rfl
theorem seg_2 : zseg b0 ca (mu0 L xs) 341 7 = kX0_c ca b0 341 := by
  obtain ⟨-, -, ⟨g1, g2, g3, g4, g5, g6, g7⟩, -⟩ := zsh_mid
  have e : zseg b0 ca (mu0 L xs) 341 7 = [zcel b0 ca (mu0 L xs) (zsh.getD 341 (0, 0)).1 (zsh.getD 341 (0, 0)).2, zcel b0 ca (mu0 L xs) (zsh.getD 342 (0, 0)).1 (zsh.getD 342 (0, 0)).2, zcel b0 ca (mu0 L xs) (zsh.getD 343 (0, 0)).1 (zsh.getD 343 (0, 0)).2, zcel b0 ca (mu0 L xs) (zsh.getD 344 (0, 0)).1 (zsh.getD 344 (0, 0)).2, zcel b0 ca (mu0 L xs) (zsh.getD 345 (0, 0)).1 (zsh.getD 345 (0, 0)).2, zcel b0 ca (mu0 L xs) (zsh.getD 346 (0, 0)).1 (zsh.getD 346 (0, 0)).2, zcel b0 ca (mu0 L xs) (zsh.getD 347 (0, 0)).1 (zsh.getD 347 (0, 0)).2] := rfl
  rw [e, g1, g2, g3, g4, g5, g6, g7]
  rfl
theorem seg_3 : zseg b0 ca (mu0 L xs) 348 3 = kX3_c ca b0 348 := by
  obtain ⟨-, -, -, ⟨g1, g2, g3⟩, -⟩ := zsh_mid
  have e : zseg b0 ca (mu0 L xs) 348 3 = [zcel b0 ca (mu0 L xs) (zsh.getD 348 (0, 0)).1 (zsh.getD 348 (0, 0)).2, zcel b0 ca (mu0 L xs) (zsh.getD 349 (0, 0)).1 (zsh.getD 349 (0, 0)).2, zcel b0 ca (mu0 L xs) (zsh.getD 350 (0, 0)).1 (zsh.getD 350 (0, 0)).2] := rfl
  rw [e, g1, g2, g3]
  rfl
theorem seg_4 : zseg b0 ca (mu0 L xs) 355 2 = kX2_c ca b0 355 := by
  obtain ⟨-, -, -, -, g1, g2, -⟩ := zsh_mid
  have e : zseg b0 ca (mu0 L xs) 355 2 = [zcel b0 ca (mu0 L xs) (zsh.getD 355 (0, 0)).1 (zsh.getD 355 (0, 0)).2, zcel b0 ca (mu0 L xs) (zsh.getD 356 (0, 0)).1 (zsh.getD 356 (0, 0)).2] := rfl
  rw [e, g1, g2]
  rfl
theorem seg_5 : zseg b0 ca (mu0 L xs) 357 1 = [.inl (ca 0, 81, .inl (fun _ => 0))] := by
  obtain ⟨-, -, -, -, -, -, g1⟩ := zsh_mid
  have e : zseg b0 ca (mu0 L xs) 357 1 = [zcel b0 ca (mu0 L xs) (zsh.getD 357 (0, 0)).1 (zsh.getD 357 (0, 0)).2] := rfl
  rw [e, g1]
  rfl
theorem cel_0 : zcel b0 ca (mu0 L xs) 0 0 = .inr (0, [.ref (b0 + (0 + 1)), .ref (b0 + (0 + 49)), .int 0, .int 0, .ref (b0 + (0 + 338)), .ref (b0 + (0 + 341)), .ref (b0 + (0 + 348)), .ref (b0 + (0 + 351)), .ref (b0 + (0 + 355)), .ref (b0 + (0 + 357))]) := rfl
theorem zle_all : zle D H (kX7_c ca b0 0) (zseg b0 ca (mu0 L xs) 0 358) := by
  obtain ⟨⟨g1, g2⟩, -⟩ := zsh_mid
  have e : zseg b0 ca (mu0 L xs) 0 358 = zcel b0 ca (mu0 L xs) 0 0 :: (zseg b0 ca (mu0 L xs) 1 48 ++ (zcel b0 ca (mu0 L xs) 7 0 :: (((((((zseg b0 ca (mu0 L xs) 50 (48 * 6) ++ zseg b0 ca (mu0 L xs) 338 3) ++ zseg b0 ca (mu0 L xs) 341 7) ++ zseg b0 ca (mu0 L xs) 348 3) ++ zseg b0 ca (mu0 L xs) 351 4) ++ zseg b0 ca (mu0 L xs) 355 2) ++ zseg b0 ca (mu0 L xs) 357 1)))) := by
    rw [← zseg_app b0 ca (mu0 L xs) (48 * 6) 50 3, ← zseg_app b0 ca (mu0 L xs) (48 * 6 + 3) 50 7, ← zseg_app b0 ca (mu0 L xs) (48 * 6 + 3 + 7) 50 3, ← zseg_app b0 ca (mu0 L xs) (48 * 6 + 3 + 7 + 3) 50 4, ← zseg_app b0 ca (mu0 L xs) (48 * 6 + 3 + 7 + 3 + 4) 50 2, ← zseg_app b0 ca (mu0 L xs) (48 * 6 + 3 + 7 + 3 + 4 + 2) 50 1]
    have h7 : zcel b0 ca (mu0 L xs) 7 0 :: zseg b0 ca (mu0 L xs) 50 (48 * 6 + 3 + 7 + 3 + 4 + 2 + 1) = zseg b0 ca (mu0 L xs) 49 (48 * 6 + 3 + 7 + 3 + 4 + 2 + 1 + 1) := by
      rw [zseg_s b0 ca (mu0 L xs) 49 (48 * 6 + 3 + 7 + 3 + 4 + 2 + 1), g2]
    rw [h7, ← zseg_app b0 ca (mu0 L xs) 48 1 309]
    have h0 : zcel b0 ca (mu0 L xs) 0 0 :: zseg b0 ca (mu0 L xs) 1 (48 + 309) = zseg b0 ca (mu0 L xs) 0 358 := by
      rw [show 358 = (48 + 309) + 1 from rfl, zseg_s b0 ca (mu0 L xs) 0 (48 + 309), g1]
    rw [h0]
  rw [e, seg_1, seg_2, seg_3, seg_4, seg_5, seg_fr 77 351 (by omega) rfl, cel_0]
  unfold kX7_c
  refine ⟨fun _ hq => hq, zle_app (zle_st 0 1 (by omega) rfl) ⟨cel_ca, ?_⟩⟩
  refine zle_app (zle_app (zle_app (zle_app (zle_app (zle_app (zle_sts 6 (Nat.le_refl _)) (zle_rf _)) (zle_rf _)) (zle_rf _)) (zle_rf _)) (zle_rf _)) (zle_rf _)
/-- the world behind the constructor is the small machine's at its start -/
theorem zws_start (h : va_P D zcl (zaw b0 0 (kX7_c ca b0 0)) H) : va_P D zcl (zws b0 ca (mu0 L xs)) H := by
  rw [zws_zaw]
  exact va_P_cg h (zle_at zle_all)
end Blk2
