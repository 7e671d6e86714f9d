/-- what the cell at place p is: its kind and number -/
def zsh : List (Nat × Nat) := [(0, 0), (1, 0), (3, 78), (4, 78), (6, 0), (2, 0), (3, 0), (4, 0), (5, 0), (2, 1), (3, 1), (4, 1), (5, 1), (2, 2), (3, 2), (4, 2), (5, 2), (2, 3), (3, 3), (4, 3), (5, 3), (2, 4), (3, 4), (4, 4), (5, 4), (2, 5), (3, 5), (4, 5), (5, 5), (2, 6), (3, 6), (4, 6), (5, 6), (2, 7), (3, 7), (4, 7), (5, 7), (2, 8), (3, 8), (4, 8), (5, 8), (2, 9), (3, 9), (4, 9), (5, 9), (2, 10), (3, 10), (4, 10), (5, 10), (7, 0), (1, 1), (3, 79), (4, 79), (6, 1), (2, 11), (3, 11), (4, 11), (5, 11), (2, 12), (3, 12), (4, 12), (5, 12), (2, 13), (3, 13), (4, 13), (5, 13), (2, 14), (3, 14), (4, 14), (5, 14), (2, 15), (3, 15), (4, 15), (5, 15), (2, 16), (3, 16), (4, 16), (5, 16), (2, 17), (3, 17), (4, 17), (5, 17), (2, 18), (3, 18), (4, 18), (5, 18), (2, 19), (3, 19), (4, 19), (5, 19), (2, 20), (3, 20), (4, 20), (5, 20), (2, 21), (3, 21), (4, 21), (5, 21), (1, 2), (3, 80), (4, 80), (6, 2), (2, 22), (3, 22), (4, 22), (5, 22), (2, 23), (3, 23), (4, 23), (5, 23), (2, 24), (3, 24), (4, 24), (5, 24), (2, 25), (3, 25), (4, 25), (5, 25), (2, 26), (3, 26), (4, 26), (5, 26), (2, 27), (3, 27), (4, 27), (5, 27), (2, 28), (3, 28), (4, 28), (5, 28), (2, 29), (3, 29), (4, 29), (5, 29), (2, 30), (3, 30), (4, 30), (5, 30), (2, 31), (3, 31), (4, 31), (5, 31), (2, 32), (3, 32), (4, 32), (5, 32), (1, 3), (3, 81), (4, 81), (6, 3), (2, 33), (3, 33), (4, 33), (5, 33), (2, 34), (3, 34), (4, 34), (5, 34), (2, 35), (3, 35), (4, 35), (5, 35), (2, 36), (3, 36), (4, 36), (5, 36), (2, 37), (3, 37), (4, 37), (5, 37), (2, 38), (3, 38), (4, 38), (5, 38), (2, 39), (3, 39), (4, 39), (5, 39), (2, 40), (3, 40), (4, 40), (5, 40), (2, 41), (3, 41), (4, 41), (5, 41), (2, 42), (3, 42), (4, 42), (5, 42), (2, 43), (3, 43), (4, 43), (5, 43), (1, 4), (3, 82), (4, 82), (6, 4), (2, 44), (3, 44), (4, 44), (5, 44), (2, 45), (3, 45), (4, 45), (5, 45), (2, 46), (3, 46), (4, 46), (5, 46), (2, 47), (3, 47), (4, 47), (5, 47), (2, 48), (3, 48), (4, 48), (5, 48), (2, 49), (3, 49), (4, 49), (5, 49), (2, 50), (3, 50), (4, 50), (5, 50), (2, 51), (3, 51), (4, 51), (5, 51), (2, 52), (3, 52), (4, 52), (5, 52), (2, 53), (3, 53), (4, 53), (5, 53), (2, 54), (3, 54), (4, 54), (5, 54), (1, 5), (3, 83), (4, 83), (6, 5), (2, 55), (3, 55), (4, 55), (5, 55), (2, 56), (3, 56), (4, 56), (5, 56), (2, 57), (3, 57), (4, 57), (5, 57), (2, 58), (3, 58), (4, 58), (5, 58), (2, 59), (3, 59), (4, 59), (5, 59), (2, 60), (3, 60), (4, 60), (5, 60), (2, 61), (3, 61), (4, 61), (5, 61), (2, 62), (3, 62), (4, 62), (5, 62), (2, 63), (3, 63), (4, 63), (5, 63), (2, 64), (3, 64), (4, 64), (5, 64), (2, 65), (3, 65), (4, 65), (5, 65), (1, 6), (3, 84), (4, 84), (6, 6), (2, 66), (3, 66), (4, 66), (5, 66), (2, 67), (3, 67), (4, 67), (5, 67), (2, 68), (3, 68), (4, 68), (5, 68), (2, 69), (3, 69), (4, 69), (5, 69), (2, 70), (3, 70), (4, 70), (5, 70), (2, 71), (3, 71), (4, 71), (5, 71), (2, 72), (3, 72), (4, 72), (5, 72), (2, 73), (3, 73), (4, 73), (5, 73), (2, 74), (3, 74), (4, 74), (5, 74), (2, 75), (3, 75), (4, 75), (5, 75), (2, 76), (3, 76), (4, 76), (5, 76), (8, 0), (9, 0), (10, 0), (11, 0), (12, 0), (13, 0), (14, 0), (12, 1), (13, 1), (14, 1), (15, 0), (16, 0), (17, 0), (2, 77), (3, 77), (4, 77), (5, 77), (3, 85), (4, 85), (18, 0)]
def zcnt : Nat → Nat
  | 0 => 1
  | 1 => 7
  | 2 => 78
  | 3 => 86
  | 4 => 86
  | 5 => 78
  | 6 => 7
  | 7 => 1
  | 8 => 1
  | 9 => 1
  | 10 => 1
  | 11 => 1
  | 12 => 2
  | 13 => 2
  | 14 => 2
  | 15 => 1
  | 16 => 1
  | 17 => 1
  | 18 => 1
  | _ => 0
def zstp (k : Nat) : Nat := match k with | 0 => 1 | k + 1 => 50 + 48 * k
def zfrp (k : Nat) : Nat := match Nat.beq k 77 with | true => 351 | false => zstp (k / 11) + 4 + 4 * (k % 11)
def zimp (i : Nat) : Nat := match Nat.beq i 85 with | true => 355 | false => (match Nat.ble i 77 with | true => zfrp i + 1 | false => zstp (i - 78) + 1)
/-- the place of a cell -/
def zpos (t i : Nat) : Nat := match t with
  | 0 => 0 | 1 => zstp i | 2 => zfrp i | 3 => zimp i | 4 => zimp i + 1 | 5 => zfrp i + 3 | 6 => zstp i + 3 | 7 => 49 | 8 => 338 | 9 => 339 | 10 => 340 | 11 => 341
  | 12 => 342 + 3 * i | 13 => 343 + 3 * i | 14 => 344 + 3 * i | 15 => 348 | 16 => 349 | 17 => 350 | 18 => 357 | _ => 0
def zR_0 : String := "FrameDeltas"
def zF_0 : u_T := fun k => match k with
  | 0 => ("FrameDeltas", "state", "LFrameDeltas$State;", true)
  | 1 => ("FrameDeltas", "saved", "[LFrameDeltas$State;", true)
  | 2 => ("FrameDeltas", "oldestSaved", "I", false)
  | 3 => ("FrameDeltas", "savedStates", "I", false)
  | 4 => ("FrameDeltas", "script", "LFrameDeltas$Script;", true)
  | 5 => ("FrameDeltas", "coder", "LFrameDeltas$Coder;", true)
  | 6 => ("FrameDeltas", "planner", "LFrameDeltas$Planner;", true)
  | 7 => ("FrameDeltas", "trial", "LFrameDeltas$Frame;", true)
  | 8 => ("FrameDeltas", "spare", "LFrameDeltas$Image;", true)
  | _ => ("FrameDeltas", "digests", "[I", true)
def zty_0 : Nat → FieldType := fun k => match k with
  | 0 => .object "FrameDeltas$State"
  | 1 => .array (.object "FrameDeltas$State")
  | 2 => .int
  | 3 => .int
  | 4 => .object "FrameDeltas$Script"
  | 5 => .object "FrameDeltas$Coder"
  | 6 => .object "FrameDeltas$Planner"
  | 7 => .object "FrameDeltas$Frame"
  | 8 => .object "FrameDeltas$Image"
  | _ => .array .int
theorem znm_0 : ∀ a, a < 10 → ∀ b, b < 10 → a ≠ b → (zF_0 a).2.1 ≠ (zF_0 b).2.1 := by decide +kernel
theorem zty_0_ok : ∀ k, k < 10 → parseFieldDescriptor (zF_0 k).2.2.1 = some (zty_0 k) := by decide +kernel
theorem zin_0 : ∀ w ∈ u_ws zR_0 zF_0 10, w ∈ lw_tbl := by decide +kernel
theorem zgd_0 : (u_ws zR_0 zF_0 10).all goodWord = true := by decide +kernel
def zR_1 : String := "FrameDeltas$State"
def zF_1 : u_T := fun k => match k with
  | 0 => ("FrameDeltas$State", "canvas", "LFrameDeltas$Image;", true)
  | 1 => ("FrameDeltas$State", "frames", "[LFrameDeltas$Frame;", true)
  | 2 => ("FrameDeltas$State", "nowhere", "LFrameDeltas$Frame;", true)
  | 3 => ("FrameDeltas$State", "frameCount", "I", false)
  | 4 => ("FrameDeltas$State", "range", "I", false)
  | 5 => ("FrameDeltas$State", "depthLimit", "I", false)
  | _ => ("FrameDeltas$State", "rate", "I", false)
def zty_1 : Nat → FieldType := fun k => match k with
  | 0 => .object "FrameDeltas$Image"
  | 1 => .array (.object "FrameDeltas$Frame")
  | 2 => .object "FrameDeltas$Frame"
  | 3 => .int
  | 4 => .int
  | 5 => .int
  | _ => .int
theorem znm_1 : ∀ a, a < 7 → ∀ b, b < 7 → a ≠ b → (zF_1 a).2.1 ≠ (zF_1 b).2.1 := by decide +kernel
theorem zty_1_ok : ∀ k, k < 7 → parseFieldDescriptor (zF_1 k).2.2.1 = some (zty_1 k) := by decide +kernel
theorem zin_1 : ∀ w ∈ u_ws zR_1 zF_1 7, w ∈ lw_tbl := by decide +kernel
theorem zgd_1 : (u_ws zR_1 zF_1 7).all goodWord = true := by decide +kernel
def zR_2 : String := "FrameDeltas$Frame"
def zF_2 : u_T := fun k => match k with
  | 0 => ("FrameDeltas$Frame", "image", "LFrameDeltas$Image;", true)
  | 1 => ("FrameDeltas$Frame", "codes", "[I", true)
  | 2 => ("FrameDeltas$Frame", "reference", "I", false)
  | 3 => ("FrameDeltas$Frame", "cost", "I", false)
  | _ => ("FrameDeltas$Frame", "lost", "Z", false)
def zty_2 : Nat → FieldType := fun k => match k with
  | 0 => .object "FrameDeltas$Image"
  | 1 => .array .int
  | 2 => .int
  | 3 => .int
  | _ => .boolean
theorem znm_2 : ∀ a, a < 5 → ∀ b, b < 5 → a ≠ b → (zF_2 a).2.1 ≠ (zF_2 b).2.1 := by decide +kernel
theorem zty_2_ok : ∀ k, k < 5 → parseFieldDescriptor (zF_2 k).2.2.1 = some (zty_2 k) := by decide +kernel
theorem zin_2 : ∀ w ∈ u_ws zR_2 zF_2 5, w ∈ lw_tbl := by decide +kernel
theorem zgd_2 : (u_ws zR_2 zF_2 5).all goodWord = true := by decide +kernel
def zR_3 : String := "FrameDeltas$Image"
def zF_3 : u_T := fun k => match k with
  | 0 => ("FrameDeltas$Image", "cells", "[I", true)
  | 1 => ("FrameDeltas$Image", "width", "I", false)
  | _ => ("FrameDeltas$Image", "height", "I", false)
def zty_3 : Nat → FieldType := fun k => match k with
  | 0 => .array .int
  | 1 => .int
  | _ => .int
theorem znm_3 : ∀ a, a < 3 → ∀ b, b < 3 → a ≠ b → (zF_3 a).2.1 ≠ (zF_3 b).2.1 := by decide +kernel
theorem zty_3_ok : ∀ k, k < 3 → parseFieldDescriptor (zF_3 k).2.2.1 = some (zty_3 k) := by decide +kernel
theorem zin_3 : ∀ w ∈ u_ws zR_3 zF_3 3, w ∈ lw_tbl := by decide +kernel
theorem zgd_3 : (u_ws zR_3 zF_3 3).all goodWord = true := by decide +kernel
def zR_8 : String := "FrameDeltas$Script"
def zF_8 : u_T := fun k => match k with
  | 0 => ("FrameDeltas$Script", "text", "[C", true)
  | 1 => ("FrameDeltas$Script", "length", "I", false)
  | 2 => ("FrameDeltas$Script", "kind", "I", false)
  | 3 => ("FrameDeltas$Script", "start", "I", false)
  | 4 => ("FrameDeltas$Script", "behind", "I", false)
  | 5 => ("FrameDeltas$Script", "number", "I", false)
  | 6 => ("FrameDeltas$Script", "program", "[I", true)
  | _ => ("FrameDeltas$Script", "programLength", "I", false)
def zty_8 : Nat → FieldType := fun k => match k with
  | 0 => .array .char
  | 1 => .int
  | 2 => .int
  | 3 => .int
  | 4 => .int
  | 5 => .int
  | 6 => .array .int
  | _ => .int
theorem znm_8 : ∀ a, a < 8 → ∀ b, b < 8 → a ≠ b → (zF_8 a).2.1 ≠ (zF_8 b).2.1 := by decide +kernel
theorem zty_8_ok : ∀ k, k < 8 → parseFieldDescriptor (zF_8 k).2.2.1 = some (zty_8 k) := by decide +kernel
theorem zin_8 : ∀ w ∈ u_ws zR_8 zF_8 8, w ∈ lw_tbl := by decide +kernel
theorem zgd_8 : (u_ws zR_8 zF_8 8).all goodWord = true := by decide +kernel
def zR_11 : String := "FrameDeltas$Coder"
def zF_11 : u_T := fun k => match k with
  | 0 => ("FrameDeltas$Coder", "raw", "LFrameDeltas$RunList;", true)
  | 1 => ("FrameDeltas$Coder", "delta", "LFrameDeltas$RunList;", true)
  | 2 => ("FrameDeltas$Coder", "dx", "I", false)
  | _ => ("FrameDeltas$Coder", "dy", "I", false)
def zty_11 : Nat → FieldType := fun k => match k with
  | 0 => .object "FrameDeltas$RunList"
  | 1 => .object "FrameDeltas$RunList"
  | 2 => .int
  | _ => .int
theorem znm_11 : ∀ a, a < 4 → ∀ b, b < 4 → a ≠ b → (zF_11 a).2.1 ≠ (zF_11 b).2.1 := by decide +kernel
theorem zty_11_ok : ∀ k, k < 4 → parseFieldDescriptor (zF_11 k).2.2.1 = some (zty_11 k) := by decide +kernel
theorem zin_11 : ∀ w ∈ u_ws zR_11 zF_11 4, w ∈ lw_tbl := by decide +kernel
theorem zgd_11 : (u_ws zR_11 zF_11 4).all goodWord = true := by decide +kernel
def zR_12 : String := "FrameDeltas$RunList"
def zF_12 : u_T := fun k => match k with
  | 0 => ("FrameDeltas$RunList", "lengths", "[I", true)
  | 1 => ("FrameDeltas$RunList", "values", "[I", true)
  | _ => ("FrameDeltas$RunList", "size", "I", false)
def zty_12 : Nat → FieldType := fun k => match k with
  | 0 => .array .int
  | 1 => .array .int
  | _ => .int
theorem znm_12 : ∀ a, a < 3 → ∀ b, b < 3 → a ≠ b → (zF_12 a).2.1 ≠ (zF_12 b).2.1 := by decide +kernel
theorem zty_12_ok : ∀ k, k < 3 → parseFieldDescriptor (zF_12 k).2.2.1 = some (zty_12 k) := by decide +kernel
theorem zin_12 : ∀ w ∈ u_ws zR_12 zF_12 3, w ∈ lw_tbl := by decide +kernel
theorem zgd_12 : (u_ws zR_12 zF_12 3).all goodWord = true := by decide +kernel
def zR_15 : String := "FrameDeltas$Planner"
def zF_15 : u_T := fun k => match k with
  | 0 => ("FrameDeltas$Planner", "keyCosts", "[I", true)
  | 1 => ("FrameDeltas$Planner", "deltaCosts", "[I", true)
  | 2 => ("FrameDeltas$Planner", "cost", "I", false)
  | _ => ("FrameDeltas$Planner", "keys", "I", false)
def zty_15 : Nat → FieldType := fun k => match k with
  | 0 => .array .int
  | 1 => .array .int
  | 2 => .int
  | _ => .int
theorem znm_15 : ∀ a, a < 4 → ∀ b, b < 4 → a ≠ b → (zF_15 a).2.1 ≠ (zF_15 b).2.1 := by decide +kernel
theorem zty_15_ok : ∀ k, k < 4 → parseFieldDescriptor (zF_15 k).2.2.1 = some (zty_15 k) := by decide +kernel
theorem zin_15 : ∀ w ∈ u_ws zR_15 zF_15 4, w ∈ lw_tbl := by decide +kernel
theorem zgd_15 : (u_ws zR_15 zF_15 4).all goodWord = true := by decide +kernel
def zcl : List vw_C := [(zR_0, zF_0, 10), (zR_1, zF_1, 7), (zR_2, zF_2, 5), (zR_3, zF_3, 3), (zR_8, zF_8, 8), (zR_11, zF_11, 4), (zR_12, zF_12, 3), (zR_15, zF_15, 4)]
/-- the number of an object kind among the classes; 99: no object -/
def zci : Nat → Nat
  | 0 => 0
  | 1 => 1
  | 2 => 2
  | 3 => 3
  | 8 => 4
  | 11 => 5
  | 12 => 6
  | 15 => 7
  | _ => 99
/-- the fields of a kind: (sort, where kept or whither, mode, place) -/
def zfl : Nat → List (Nat × Nat × Nat × Int)
  | 0 => [(3, 1, 0, 0), (3, 7, 0, 0), (0, 0, 0, 2), (0, 0, 0, 3), (3, 8, 0, 0), (3, 11, 0, 0), (3, 15, 0, 0), (3, 2, 0, 77), (3, 3, 0, 85), (3, 18, 0, 0)]
  | 1 => [(3, 3, 2, 78), (3, 6, 1, 0), (3, 2, 3, 0), (0, 1, 0, 3), (0, 1, 0, 4), (0, 1, 0, 5), (0, 1, 0, 6)]
  | 2 => [(3, 3, 1, 0), (3, 5, 1, 0), (0, 2, 0, 2), (0, 2, 0, 3), (1, 2, 0, 4)]
  | 3 => [(3, 4, 1, 0), (0, 3, 0, 1), (0, 3, 0, 2)]
  | 8 => [(3, 9, 0, 0), (0, 8, 0, 1), (0, 8, 0, 2), (0, 8, 0, 3), (0, 8, 0, 4), (0, 8, 0, 5), (3, 10, 0, 0), (0, 8, 0, 7)]
  | 11 => [(3, 12, 0, 0), (3, 12, 0, 1), (0, 11, 0, 2), (0, 11, 0, 3)]
  | 12 => [(3, 13, 1, 0), (3, 14, 1, 0), (0, 12, 0, 2)]
  | 15 => [(3, 16, 0, 0), (3, 17, 0, 0), (0, 15, 0, 2), (0, 15, 0, 3)]
  | _ => []
theorem zpos_ok : ∀ t, t < 30 → ∀ i, i < zcnt t → zpos t i < 358 ∧ zsh.getD (zpos t i) (0, 0) = (t, i) := by decide +kernel
theorem zsh_ok : ∀ q, q < 358 → (zsh.getD q (0, 0)).1 < 30 ∧ (zsh.getD q (0, 0)).2 < zcnt (zsh.getD q (0, 0)).1 ∧ zpos (zsh.getD q (0, 0)).1 (zsh.getD q (0, 0)).2 = q := by decide +kernel
theorem zcnt_lt {t i : Nat} (h : i < zcnt t) : t < 30 := by
  rcases Nat.lt_or_ge t 30 with q | q
  · exact q
  · exfalso
    have h0 : zcnt t = 0 := by
      obtain ⟨k, rfl⟩ := Nat.exists_eq_add_of_le q
      rw [Nat.add_comm]
      rfl
    omega
/-- which class of rows -/
def zac (t : Nat) : Nat := match t with | 6 => 4 | 7 => 3 | _ => (match zrow t with | 2 => 1 | 3 => 2 | _ => 0)
def zln (t : Nat) : Nat := (zlen t 0 (fun _ _ _ => 0)).toNat
/-- whose field is kept under a kind of memory -/
def zow (t : Nat) : Nat := t
def zsee (t i j : Nat) : Nat := match t with | 6 => zpos 2 (11 * i + j) | _ => zpos 1 (1 + j)
def zval (b0 : Nat) (μ : mzM) (i : Int) (q : Nat × Nat × Nat × Int) : Value := match q.1 with
  | 3 => .ref (b0 + zpos q.2.1 (zlead q.2.2.1 q.2.2.2 i).toNat)
  | 2 => .long (Int64.ofInt (μ q.2.1 i q.2.2.2))
  | _ => .int (Int32.ofInt (μ q.2.1 i q.2.2.2))
def zcel (b0 : Nat) (ca : Nat → ClassId) (μ : mzM) (t i : Nat) : va_E := match zrow t with
  | 0 => .inr (zci t, (zfl t).map (zval b0 μ (i : Int)))
  | 4 => .inl (ca (zac t), zln t, .inr (.inr (.inr (.inr (fun j => some (b0 + zsee t i j))))))
  | _ => .inl (ca (zac t), zln t, .inl (fun j => Int32.ofInt (μ t (i : Int) (j : Int))))
def zws (b0 : Nat) (ca : Nat → ClassId) (μ : mzM) : va_W := (List.range 358).map fun q => (b0 + q, zcel b0 ca μ (zsh.getD q (0, 0)).1 (zsh.getD q (0, 0)).2)
theorem zws_q (b0 : Nat) (ca : Nat → ClassId) (μ : mzM) {q : Nat} (h : q < 358) : (zws b0 ca μ)[q]? = some (b0 + q, zcel b0 ca μ (zsh.getD q (0, 0)).1 (zsh.getD q (0, 0)).2) := by
  simp [zws, h]
theorem zws_at (b0 : Nat) (ca : Nat → ClassId) (μ : mzM) {t i : Nat} (h : i < zcnt t) : (zws b0 ca μ)[zpos t i]? = some (b0 + zpos t i, zcel b0 ca μ t i) := by
  obtain ⟨h1, h2⟩ := zpos_ok t (zcnt_lt h) i h
  rw [zws_q b0 ca μ h1, h2]
theorem zws_len (b0 : Nat) (ca : Nat → ClassId) (μ : mzM) : (zws b0 ca μ).length = 358 := by simp [zws]
theorem zws_set {b0 : Nat} {ca : Nat → ClassId} {μ μ' : mzM} {t i : Nat} (h : i < zcnt t) {x : va_E} (hx : zcel b0 ca μ' t i = x) (ho : ∀ t' i', i' < zcnt t' → (t' ≠ t ∨ i' ≠ i) → zcel b0 ca μ' t' i' = zcel b0 ca μ t' i') : (zws b0 ca μ).set (zpos t i) (b0 + zpos t i, x) = zws b0 ca μ' := by
  obtain ⟨h1, h2⟩ := zpos_ok t (zcnt_lt h) i h
  apply List.ext_getElem?
  intro q
  by_cases hq : q = zpos t i
  · rw [hq, List.getElem?_set_self (by rw [zws_len]; exact h1), zws_at b0 ca μ' h, hx]
  · rw [List.getElem?_set_ne (Ne.symm hq)]
    rcases Nat.lt_or_ge q 358 with hl | hl
    · obtain ⟨g1, g2, g3⟩ := zsh_ok q hl
      rw [zws_q b0 ca μ hl, zws_q b0 ca μ' hl, ho _ _ g2]
      by_cases ht : (zsh.getD q (0, 0)).1 = t
      · right
        intro hi
        rw [ht, hi] at g3
        exact hq g3.symm
      · exact Or.inl ht
    · rw [List.getElem?_eq_none (by rw [zws_len]; exact hl), List.getElem?_eq_none (by rw [zws_len]; exact hl)]
theorem zws_D (b0 : Nat) (ca : Nat → ClassId) (μ : mzM) : va_D (fun q => b0 ≤ q) (zws b0 ca μ) := by
  refine ⟨fun i j a b hi hj hab => ?_, fun k a hk => ?_⟩
  · have li : i < 358 := by have := (List.getElem?_eq_some_iff.mp hi).1; rwa [zws_len] at this
    have lj : j < 358 := by have := (List.getElem?_eq_some_iff.mp hj).1; rwa [zws_len] at this
    rw [zws_q b0 ca μ li] at hi
    rw [zws_q b0 ca μ lj] at hj
    cases hi
    cases hj
    exact Nat.add_left_cancel hab
  · have li : k < 358 := by have := (List.getElem?_eq_some_iff.mp hk).1; rwa [zws_len] at this
    rw [zws_q b0 ca μ li] at hk
    cases hk
    exact Nat.le_add_right _ _
theorem zfl_ow : ∀ t, t < 30 → ∀ q ∈ zfl t, q.1 ≠ 3 → zow q.2.1 = t := by decide +kernel
theorem zow_row : ∀ t, t < 30 → zow t = t := by decide +kernel
theorem mup_ne {μ : mzM} {t : Nat} {i k v : Int} {t' : Nat} {i' k' : Int} (h : ¬ (t' = t ∧ i' = i ∧ k' = k)) : mup μ t i k v t' i' k' = μ t' i' k' := by unfold mup; rw [if_neg h]
theorem mup_self (μ : mzM) (t : Nat) (i k v : Int) : mup μ t i k v t i k = v := by unfold mup; rw [if_pos ⟨rfl, rfl, rfl⟩]
/-- a cell that a store does not reach -/
theorem zcel_off {b0 : Nat} {ca : Nat → ClassId} {μ μ' : mzM} {x1 : Nat} {i : Nat} (hμ : ∀ t' i' k', ¬ (t' = x1 ∧ i' = (i : Int)) → μ' t' i' k' = μ t' i' k') {t' i' : Nat} (h : i' < zcnt t') (hne : t' ≠ zow x1 ∨ i' ≠ i) : zcel b0 ca μ' t' i' = zcel b0 ca μ t' i' := by
  have ht := zcnt_lt h
  unfold zcel
  split
  · congr 2
    apply List.map_congr_left
    intro q hq
    unfold zval
    have hm : q.1 ≠ 3 → μ' q.2.1 (i' : Int) q.2.2.2 = μ q.2.1 (i' : Int) q.2.2.2 := by
      intro h3
      apply hμ
      rintro ⟨h1, h2⟩
      have h4 := zfl_ow t' ht q hq h3
      rw [h1] at h4
      rcases hne with h5 | h5
      · exact h5 h4.symm
      · exact h5 (by omega)
    split
    · rfl
    · next h2 => rw [hm (by rw [h2]; decide)]
    · next h2 h3 => rw [hm h2]
  · rfl
  · congr 5
    funext j
    rw [hμ]
    rintro ⟨h1, h2⟩
    rcases hne with h5 | h5
    · apply h5; rw [← h1]; exact (zow_row t' ht).symm
    · exact h5 (by omega)
def zfa (t a : Nat) : Nat × Nat × Nat × Int := (zfl t).getD a (3, 0, 0, 0)
theorem zfl_apart0 : ∀ t, t < 30 → ∀ a, a < (zfl t).length → ∀ b, b < (zfl t).length → a = b ∨ (zfa t a).1 = 3 ∨ (zfa t b).1 = 3 ∨ (zfa t a).2.1 ≠ (zfa t b).2.1 ∨ (zfa t a).2.2.2 ≠ (zfa t b).2.2.2 := by decide +kernel
/-- the cell of an object behind a store into one of its fields -/
theorem zcel_put {b0 : Nat} {ca : Nat → ClassId} {μ : mzM} {t i k kd x1 md : Nat} {x2 v : Int} (h : i < zcnt t) (ho : zrow t = 0) (hk : (zfl t)[k]? = some (kd, x1, md, x2)) (h3 : kd ≠ 3) : zcel b0 ca (mup μ x1 (i : Int) x2 v) t i = .inr (zci t, ((zfl t).map (zval b0 μ (i : Int))).set k (zval b0 (fun _ _ _ => v) (i : Int) (kd, x1, md, x2))) := by
  have ht := zcnt_lt h
  have hl := (List.getElem?_eq_some_iff.mp hk).1
  unfold zcel
  rw [ho]
  show Sum.inr _ = Sum.inr _
  congr 2
  apply List.ext_getElem?
  intro j
  by_cases hj : j = k
  · rw [hj, List.getElem?_set_self (by simpa using hl), List.getElem?_map, hk]
    simp only [Option.map_some, zval]
    congr 1
    split <;> simp_all [mup_self]
  · rw [List.getElem?_set_ne (Ne.symm hj), List.getElem?_map, List.getElem?_map]
    cases hq : (zfl t)[j]? with
    | none => rfl
    | some q =>
      have hlj := (List.getElem?_eq_some_iff.mp hq).1
      simp only [Option.map_some]
      congr 1
      have hap := zfl_apart0 t ht j hlj k hl
      unfold zfa at hap
      rw [List.getD_eq_getElem?_getD, List.getD_eq_getElem?_getD, hq, hk] at hap
      simp only [Option.getD_some] at hap
      have hap2 : q.1 ≠ 3 → ¬ (q.2.1 = x1 ∧ q.2.2.2 = x2) := by
        rintro h5 ⟨g1, g2⟩
        rcases hap with h6 | h6 | h6 | h6 | h6
        · exact hj h6
        · exact h5 h6
        · exact h3 h6
        · exact h6 g1
        · exact h6 g2
      unfold zval
      split
      · rfl
      · next h2 => rw [mup_ne]; rintro ⟨g1, -, g2⟩; exact hap2 (by rw [h2]; decide) ⟨g1, g2⟩
      · next h2 h4 => rw [mup_ne]; rintro ⟨g1, -, g2⟩; exact hap2 h2 ⟨g1, g2⟩
