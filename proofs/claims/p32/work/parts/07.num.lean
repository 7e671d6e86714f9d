/-! ===== numbers ===== -/
theorem zi_of {a : Int32} {n : Int} (h : a.toInt = n) : a = Int32.ofInt n := by rw [← h, Int32.ofInt_toInt]
theorem zl_of {a : Int64} {n : Int} (h : a.toInt = n) : a = Int64.ofInt n := by rw [← h, Int64.ofInt_toInt]
theorem zi_to {n : Int} (h : zin n) : (Int32.ofInt n).toInt = n := Int32.toInt_ofInt_of_le (by have := h.1; omega) (by have := h.2; omega)
theorem zl_to {n : Int} (h : zin6 n) : (Int64.ofInt n).toInt = n := Int64.toInt_ofInt_of_le (by have := h.1; omega) (by have := h.2; omega)
theorem zin_32 (a : Int32) : zin a.toInt := ⟨by have := Int32.le_toInt a; omega, by have := Int32.toInt_lt a; omega⟩
theorem zbm {n : Int} (h : zin n) : n.bmod (2 ^ 32) = n := by
  have h1 := h.1
  have h2 := h.2
  rw [Int.bmod_def]
  split <;> omega
theorem zbm6 {n : Int} (h : zin6 n) : n.bmod (2 ^ 64) = n := by
  have h1 := h.1
  have h2 := h.2
  rw [Int.bmod_def]
  split <;> omega
theorem zw_bm (n : Int) : zw n = n.bmod (2 ^ 32) := by
  unfold zw
  rw [Int.bmod_def]
  split <;> omega
theorem zw_in (n : Int) : zin (zw n) := by unfold zw; constructor <;> omega
theorem zb_bm (n : Int) : zb n = n.bmod (2 ^ 8) := by
  unfold zb
  rw [Int.bmod_def]
  split <;> omega
theorem zb_in (n : Int) : zin (zb n) := by unfold zb; constructor <;> omega
theorem zn_add {a b : Int} (ha : zin a) (hb : zin b) (h : zin (a + b)) : Int32.ofInt a + Int32.ofInt b = Int32.ofInt (a + b) := zi_of (by rw [Int32.toInt_add, zi_to ha, zi_to hb, zbm h])
theorem zn_sub {a b : Int} (ha : zin a) (hb : zin b) (h : zin (a - b)) : Int32.ofInt a - Int32.ofInt b = Int32.ofInt (a - b) := zi_of (by rw [Int32.toInt_sub, zi_to ha, zi_to hb, zbm h])
theorem zn_mul {a b : Int} (ha : zin a) (hb : zin b) (h : zin (a * b)) : Int32.ofInt a * Int32.ofInt b = Int32.ofInt (a * b) := zi_of (by rw [Int32.toInt_mul, zi_to ha, zi_to hb, zbm h])
theorem zn_div {a b : Int} (ha : zin a) (hb : zin b) (h : zin (a.tdiv b)) : Int32.ofInt a / Int32.ofInt b = Int32.ofInt (a.tdiv b) := zi_of (by rw [Int32.toInt_div, zi_to ha, zi_to hb, zbm h])
theorem zin_tmod {a b : Int} (ha : zin a) (hb : zin b) (h : b ≠ 0) : zin (a.tmod b) := by
  have h1 : (a.tmod b).natAbs ≤ a.natAbs := by
    rw [Int.natAbs_tmod]
    exact Nat.mod_le _ _
  have h2 : (a.tmod b).natAbs < b.natAbs := by
    rw [Int.natAbs_tmod]
    exact Nat.mod_lt _ (by omega)
  have h3 := ha.1; have h4 := ha.2; have h5 := hb.1; have h6 := hb.2
  constructor <;> omega
theorem zn_rem {a b : Int} (ha : zin a) (hb : zin b) (h : b ≠ 0) : Int32.ofInt a - Int32.ofInt a / Int32.ofInt b * Int32.ofInt b = Int32.ofInt (a.tmod b) := zi_of (by
  have h1 := zbm (zin_tmod ha hb h)
  rw [Int32.toInt_sub, Int32.toInt_mul, Int32.toInt_div, zi_to ha, zi_to hb]
  rw [Int.bmod_mul_bmod, Int.sub_bmod_bmod, Int.mul_comm, ← Int.tmod_def, h1])
theorem zn_neg {a : Int} (ha : zin a) : -(Int32.ofInt a) = Int32.ofInt (zw (-a)) := zi_of (by rw [Int32.toInt_neg, zi_to ha, zw_bm])
theorem zw6_bm (n : Int) : zw6 n = n.bmod (2 ^ 64) := Int64.toInt_ofInt
theorem zw6_in (n : Int) : zin6 (zw6 n) := by
  unfold zw6
  have h1 := Int64.le_toInt (Int64.ofInt n)
  have h2 := Int64.toInt_lt (Int64.ofInt n)
  constructor <;> omega
theorem zl_add {a b : Int} (ha : zin6 a) (hb : zin6 b) : Int64.ofInt a + Int64.ofInt b = Int64.ofInt (zw6 (a + b)) := zl_of (by rw [Int64.toInt_add, zl_to ha, zl_to hb, zw6_bm])
theorem zl_mul {a b : Int} (ha : zin6 a) (hb : zin6 b) : Int64.ofInt a * Int64.ofInt b = Int64.ofInt (zw6 (a * b)) := zl_of (by rw [Int64.toInt_mul, zl_to ha, zl_to hb, zw6_bm])
theorem zl_cmp {a b : Int} (ha : zin6 a) (hb : zin6 b) : lg_cmp (Int64.ofInt a) (Int64.ofInt b) = Int32.ofInt (zcmp a b) := by
  unfold lg_cmp zcmp
  simp only [gt_iff_lt, Int64.lt_iff_toInt_lt, ← Int64.toInt_inj, zl_to ha, zl_to hb]
  by_cases h1 : a < b
  · rw [if_pos h1, if_neg (by omega), if_neg (by omega)]; rfl
  · rw [if_neg h1]
    by_cases h2 : a = b
    · rw [if_pos h2, if_neg (by omega), if_pos h2]; rfl
    · rw [if_pos (by omega), if_neg h2]; rfl
theorem zn_i2l {a : Int} (ha : zin a) : (Int32.ofInt a).toInt64 = Int64.ofInt a := zl_of (by rw [Int32.toInt_toInt64, zi_to ha])
theorem zn_l2i {a : Int} (ha : zin6 a) : (Int64.ofInt a).toInt32 = Int32.ofInt (zw a) := zi_of (by rw [Int64.toInt_toInt32, zl_to ha, zw_bm])
theorem zn_i2b {a : Int} (ha : zin a) : (Int32.ofInt a).toInt8.toInt32 = Int32.ofInt (zb a) := zi_of (by rw [Int8.toInt_toInt32, Int32.toInt_toInt8, zi_to ha, zb_bm])
theorem zn_u16 (x : Int32) : (x.toUInt32 % 65536).toInt32.toInt = x.toInt % 65536 := by
  have h1 : (x.toUInt32 % 65536).toInt32.toInt = ((x.toUInt32 % 65536).toInt32.toBitVec).toInt := rfl
  have h2 : (x.toUInt32 % 65536).toInt32.toBitVec = x.toBitVec % 65536#32 := rfl
  have h3 : x.toInt = x.toBitVec.toInt := rfl
  rw [h1, h2, h3, BitVec.toInt_eq_toNat_cond, BitVec.toInt_eq_toNat_cond, BitVec.toNat_umod]
  have h4 := x.toBitVec.isLt
  have h5 : (65536#32).toNat = 65536 := rfl
  rw [h5]
  split <;> split <;> omega
theorem zn_i2c {a : Int} (ha : zin a) : ((Int32.ofInt a).toUInt32 % 65536).toInt32 = Int32.ofInt (a % 65536) := zi_of (by rw [zn_u16, zi_to ha])
theorem zn_char (x : Int32) : x.toUInt32.toUInt16.toUInt32.toInt32 = (x.toUInt32 % 65536).toInt32 := by
  congr 1
theorem zn_bool (x : Int32) : (x &&& 1).toInt = x.toInt % 2 := by
  have h1 : (x &&& 1).toInt = (x.toBitVec &&& 1#32).toInt := rfl
  have h3 : x.toInt = x.toBitVec.toInt := rfl
  have h6 : (x.toBitVec &&& 1#32).toNat = x.toBitVec.toNat % 2 := by
    rw [BitVec.toNat_and]
    exact Nat.and_one_is_mod _
  rw [h1, h3, BitVec.toInt_eq_toNat_cond, BitVec.toInt_eq_toNat_cond, h6]
  have h4 := x.toBitVec.isLt
  split <;> split <;> omega
theorem zn_lt {a b : Int} (ha : zin a) (hb : zin b) : Int32.ofInt a < Int32.ofInt b ↔ a < b := by rw [Int32.lt_iff_toInt_lt, zi_to ha, zi_to hb]
theorem zn_le {a b : Int} (ha : zin a) (hb : zin b) : Int32.ofInt a ≤ Int32.ofInt b ↔ a ≤ b := by rw [Int32.le_iff_toInt_le, zi_to ha, zi_to hb]
theorem zn_eq {a b : Int} (ha : zin a) (hb : zin b) : Int32.ofInt a = Int32.ofInt b ↔ a = b := by rw [← Int32.toInt_inj, zi_to ha, zi_to hb]
theorem zn_nat {a : Int} (ha : zin a) : (Int32.ofInt a).toNatClampNeg = a.toNat := by
  show (Int32.ofInt a).toInt.toNat = a.toNat
  rw [zi_to ha]
theorem zn_vin {a : Int} {n : Nat} (ha : zin a) (h0 : 0 ≤ a) (h1 : a < n) : vp_in (Int32.ofInt a) n := vp_in_iff.mpr (by rw [zi_to ha]; exact ⟨h0, h1⟩)
theorem zin_z : zin 0 := ⟨by decide, by decide⟩
