/-! THE SMALL MACHINE: instructions as decoded, locals and stack of tagged whole numbers and places, a memory of whole numbers by (kind of cell, number of the cell, place in it); the references between cells are fixed once all is made, so they are computed and not kept. -/
abbrev mzV : Type := Option (Int ⊕ (Int ⊕ (Nat × Int)))
abbrev mzM : Type := Nat → Int → Int → Int
abbrev vI (n : Int) : mzV := some (.inl n)
abbrev vL (n : Int) : mzV := some (.inr (.inl n))
abbrev vR (t : Nat) (i : Int) : mzV := some (.inr (.inr (t, i)))
def mup (μ : mzM) (t : Nat) (i k v : Int) : mzM := fun t' i' k' => if t' = t ∧ i' = i ∧ k' = k then v else μ t' i' k'
/-- a copy of n places of one cell into another -/
def mcp (μ : mzM) (ts : Nat) (is sp : Int) (td : Nat) (id dp n : Int) : mzM := fun t i k => if t = td ∧ i = id ∧ dp ≤ k ∧ k < dp + n then μ ts is (sp + (k - dp)) else μ t i k
abbrev zin (a : Int) : Prop := -2147483648 ≤ a ∧ a ≤ 2147483647
abbrev zin6 (a : Int) : Prop := -9223372036854775808 ≤ a ∧ a ≤ 9223372036854775807
/-- wrap-around, for the few places where it may happen -/
def zw (a : Int) : Int := (a + 2147483648) % 4294967296 - 2147483648
/-- wrap-around of longs -/
def zw6 (a : Int) : Int := (Int64.ofInt a).toInt
def zb (a : Int) : Int := (a + 128) % 256 - 128
def zand (a b : Int) : Int := (Int32.ofInt a &&& Int32.ofInt b).toInt
def zxor (a b : Int) : Int := (Int32.ofInt a ^^^ Int32.ofInt b).toInt
def zor (a b : Int) : Int := (Int32.ofInt a ||| Int32.ofInt b).toInt
def zshl (a b : Int) : Int := (Int32.ofInt a <<< (Int32.ofInt b &&& 31)).toInt
def zshr (a b : Int) : Int := (Int32.ofInt a >>> (Int32.ofInt b &&& 31)).toInt
def zushr (a b : Int) : Int := ((Int32.ofInt a).toUInt32 >>> ((Int32.ofInt b).toUInt32 &&& Int32.toUInt32 31)).toInt32.toInt
def zcmp (a b : Int) : Int := if a < b then -1 else if a = b then 0 else 1
/-- an instruction of a method: its byte, itself, an operand that is resolved, further operands, and whether a loop begins there -/
abbrev mzN : Type := Nat × Instr × Nat × List (Int × Nat) × Bool
abbrev mzC : Type := Nat × List mzV × List mzV × mzM
abbrev mzQ : Type := (p : Prop) ×' Decidable p
/-- what a step is: on; a branch; on under a condition; a call (which, its arguments, what its answer is, where it goes on); a switch; an end -/
abbrev mzS : Type := Option (mzC ⊕ ((mzQ × mzC × mzC) ⊕ ((mzQ × mzC) ⊕ ((Nat × List mzV × Nat × mzC) ⊕ ((Int × List (Int × Nat) × mzC) ⊕ (Option mzV × mzM))))))
abbrev sN (c : mzC) : mzS := some (.inl c)
abbrev sB (p : Prop) (h : Decidable p) (c d : mzC) : mzS := some (.inr (.inl (⟨p, h⟩, c, d)))
abbrev sG (p : Prop) (h : Decidable p) (c : mzC) : mzS := some (.inr (.inr (.inl (⟨p, h⟩, c))))
abbrev sC (f : Nat) (as : List mzV) (r : Nat) (c : mzC) : mzS := some (.inr (.inr (.inr (.inl (f, as, r, c)))))
abbrev sW (a : Int) (cs : List (Int × Nat)) (c : mzC) : mzS := some (.inr (.inr (.inr (.inr (.inl (a, cs, c))))))
abbrev sE (r : Option mzV) (μ : mzM) : mzS := some (.inr (.inr (.inr (.inr (.inr (r, μ))))))
def zi1 (st : List mzV) (f : Int → List mzV → mzS) : mzS := match st with | some (.inl a) :: r => f a r | _ => none
def zi2 (st : List mzV) (f : Int → Int → List mzV → mzS) : mzS := match st with | some (.inl b) :: some (.inl a) :: r => f a b r | _ => none
def zl1 (st : List mzV) (f : Int → List mzV → mzS) : mzS := match st with | some (.inr (.inl a)) :: r => f a r | _ => none
def zl2 (st : List mzV) (f : Int → Int → List mzV → mzS) : mzS := match st with | some (.inr (.inl b)) :: some (.inr (.inl a)) :: r => f a b r | _ => none
def zr1 (st : List mzV) (f : Nat → Int → List mzV → mzS) : mzS := match st with | some (.inr (.inr (t, i))) :: r => f t i r | _ => none
/-- an index and a row beneath it -/
def zir (st : List mzV) (f : Int → Nat → Int → List mzV → mzS) : mzS := match st with | some (.inl j) :: some (.inr (.inr (t, i))) :: r => f j t i r | _ => none
/-- a value, an index, a row -/
def zvir (st : List mzV) (f : Int → Int → Nat → Int → List mzV → mzS) : mzS := match st with | some (.inl v) :: some (.inl j) :: some (.inr (.inr (t, i))) :: r => f v j t i r | _ => none
def zld (ls : List mzV) (i : Nat) (f : mzV → mzS) : mzS := match ls[i]? with | some (some v) => f (some v) | _ => none
def zisI (v : mzV) : Bool := match v with | some (.inl _) => true | _ => false
def zisL (v : mzV) : Bool := match v with | some (.inr (.inl _)) => true | _ => false
def zisR (v : mzV) : Bool := match v with | some (.inr (.inr _)) => true | _ => false
def zst (ls : List mzV) (i : Nat) (v : mzV) (f : List mzV → mzS) : mzS := match Nat.blt i ls.length with | true => f (ls.set i v) | false => none
/-- whither a reference leads, by its field's mode -/
def zlead (mode : Nat) (c i : Int) : Int := match mode with | 0 => c | 1 => i | 2 => c + i | _ => 11 * i + 10
/-- how many places a row has -/
def zlen (t : Nat) (i : Int) (μ : mzM) : Int := match t with
  | 4 => 144 | 5 => 36 | 6 => 10 | 7 => 6 | 9 => 160 | 10 => 160 | 13 => 16 | 14 => 16 | 16 => 10 | 17 => 10 | 18 => 81
  | 32 => μ 33 0 1 | _ => 0
/-- what a row holds: 0 nothing, 1 int, 2 char, 3 byte, 4 references, 5 a text's bytes, 6 the script -/
def zrow (t : Nat) : Nat := match t with
  | 4 => 1 | 5 => 1 | 6 => 4 | 7 => 4 | 9 => 2 | 10 => 1 | 13 => 1 | 14 => 1 | 16 => 1 | 17 => 1 | 18 => 1
  | 32 => 6 | _ => 0
def zcond (c : Jvm.ClassFile.Cond) (a b : Int) (x1 x2 : mzC) : mzS := match c with
  | .eq => sB (a = b) inferInstance x1 x2
  | .ne => sB (a = b) inferInstance x2 x1
  | .lt => sB (a < b) inferInstance x1 x2
  | .ge => sB (a < b) inferInstance x2 x1
  | .gt => sB (b < a) inferInstance x1 x2
  | .le => sB (b < a) inferInstance x2 x1
def zret (a : Nat) (v : Int) : Int := match a with | 0 => v | 1 => v % 2 | 2 => v % 65536 | _ => zb v
/-- a field: (place, kind), (-, the kind of cell that has it), (-, where it is kept or whither it leads), (-, mode); kinds: 0 number, 1 truth value, 2 long, 3 a reference, 4 a fixed number -/
def zgetf (cs : List (Int × Nat)) (t : Nat) (i : Int) (μ : mzM) (k : Nat) (ls r : List mzV) : mzS := match cs with
  | (x2, kd) :: (_, o) :: (_, x1) :: (_, md) :: _ => (match Nat.beq t o with
    | false => none
    | true => match kd with
      | 0 => sN (k, ls, vI (μ x1 i x2) :: r, μ)
      | 1 => sN (k, ls, vI (μ x1 i x2) :: r, μ)
      | 2 => sN (k, ls, vL (μ x1 i x2) :: r, μ)
      | 3 => sN (k, ls, vR x1 (zlead md x2 i) :: r, μ)
      | 4 => sN (k, ls, vI x2 :: r, μ)
      | _ => none)
  | _ => none
def zputf (cs : List (Int × Nat)) (st : List mzV) (μ : mzM) (k : Nat) (ls : List mzV) : mzS := match st, cs with
  | v :: some (.inr (.inr (t, i))) :: r, (x2, kd) :: (_, o) :: (_, x1) :: _ => (match Nat.beq t o with
      | false => none
      | true => match kd, v with
        | 0, some (.inl n) => sN (k, ls, r, mup μ x1 i x2 n)
        | 1, some (.inl n) => sG (n = 0 ∨ n = 1) inferInstance (k, ls, r, mup μ x1 i x2 n)
        | 2, some (.inr (.inl n)) => sN (k, ls, r, mup μ x1 i x2 n)
        | _, _ => none)
  | _, _ => none
def zaload (w : Nat) (st : List mzV) (μ : mzM) (k : Nat) (ls : List mzV) : mzS := zir st fun j t i r => match Nat.beq w (zrow t) with
  | true => match w with
    | 4 => sG (0 ≤ j ∧ j < zlen t i μ) inferInstance (k, ls, (match t with | 6 => vR 2 (11 * i + j) | _ => vR 1 (1 + j)) :: r, μ)
    | _ => sG (0 ≤ j ∧ j < zlen t i μ) inferInstance (k, ls, vI (μ t i j) :: r, μ)
  | false => none
def zastore (w : Nat) (st : List mzV) (μ : mzM) (k : Nat) (ls : List mzV) : mzS := zvir st fun v j t i r => match Nat.beq w (zrow t) with
  | true => sG (0 ≤ j ∧ j < zlen t i μ) inferInstance (k, ls, r, mup μ t i j (match w with | 2 => v % 65536 | 3 => zb v | _ => v))
  | false => none
def zwords : List mzV → Nat
  | [] => 0
  | v :: l => (match zisL v with | true => 2 | false => 1) + zwords l
/-- a call: (number of arguments, kind of answer), (-, the receiver's kind and one, or 0) -/
def zcall (a : Nat) (cs : List (Int × Nat)) (st : List mzV) (μ : mzM) (k : Nat) (ls : List mzV) : mzS := match cs with
  | (n, r) :: (_, tg) :: _ => (match Nat.ble (zwords (st.drop n.toNat)) 8, Nat.ble n.toNat st.length && Nat.beq (zwords (st.take n.toNat)) n.toNat with
    | true, true => (match tg with
      | 0 => sC a ((st.take n.toNat).reverse) r (k, ls, st.drop n.toNat, μ)
      | g + 1 => (match (st.take n.toNat).reverse with
        | some (.inr (.inr (t, _))) :: _ => (match Nat.beq t g with
          | true => sC a ((st.take n.toNat).reverse) r (k, ls, st.drop n.toNat, μ)
          | false => none)
        | _ => none))
    | _, _ => none)
  | _ => none
/-- a native copy between two rows of ints -/
def zcopy (st : List mzV) (μ : mzM) (k : Nat) (ls : List mzV) : mzS := match st with
  | some (.inl n) :: some (.inl dp) :: some (.inr (.inr (td, id))) :: some (.inl sp) :: some (.inr (.inr (ts, is))) :: r =>
    match zrow td, zrow ts, Nat.ble (zwords r) 8 with
    | 1, 1, true => sG ((0 ≤ n ∧ 0 ≤ dp ∧ 0 ≤ sp) ∧ (sp + n ≤ zlen ts is μ ∧ dp + n ≤ zlen td id μ)) inferInstance (k, ls, r, mcp μ ts is sp td id dp n)
    | _, _, _ => none
  | _ => none
def zstep (I : Instr) (a : Nat) (cs : List (Int × Nat)) (k : Nat) (ls st : List mzV) (μ : mzM) : mzS := match I with
  | .iconst n => sN (k + 1, ls, vI n :: st, μ)
  | .bipush n => sN (k + 1, ls, vI n :: st, μ)
  | .sipush n => sN (k + 1, ls, vI n :: st, μ)
  | .ldc_w _ => match cs with | (n, _) :: _ => sN (k + 1, ls, vI n :: st, μ) | _ => none
  | .lconst n => sN (k + 1, ls, vL ((n.val : Nat) : Int) :: st, μ)
  | .ldc2_w _ => match cs with | (n, _) :: _ => sN (k + 1, ls, vL n :: st, μ) | _ => none
  | .ldc _ => match cs with | (n, _) :: _ => sN (k + 1, ls, vI n :: st, μ) | _ => none
  | .aconst_null => sN (k + 1, ls, vR 99 0 :: st, μ)
  | .iload i => zld ls i fun v => match zisI v with | true => sN (k + 1, ls, v :: st, μ) | false => none
  | .iload_n i => zld ls i.val fun v => match zisI v with | true => sN (k + 1, ls, v :: st, μ) | false => none
  | .lload_n i => zld ls i.val fun v => match zisL v with | true => sN (k + 1, ls, v :: st, μ) | false => none
  | .lload i => zld ls i fun v => match zisL v with | true => sN (k + 1, ls, v :: st, μ) | false => none
  | .aload i => zld ls i fun v => match zisR v with | true => sN (k + 1, ls, v :: st, μ) | false => none
  | .aload_n i => zld ls i.val fun v => match zisR v with | true => sN (k + 1, ls, v :: st, μ) | false => none
  | .istore i => zi1 st fun v r => zst ls i (vI v) fun l => sN (k + 1, l, r, μ)
  | .istore_n i => zi1 st fun v r => zst ls i.val (vI v) fun l => sN (k + 1, l, r, μ)
  | .astore i => zr1 st fun t j r => zst ls i (vR t j) fun l => sN (k + 1, l, r, μ)
  | .astore_n i => zr1 st fun t j r => zst ls i.val (vR t j) fun l => sN (k + 1, l, r, μ)
  | .lstore_n i => zl1 st fun v r => match Nat.blt (i.val + 1) ls.length with | true => zst ls i.val (vL v) fun l => sN (k + 1, l.set (i.val + 1) none, r, μ) | false => none
  | .lstore i => zl1 st fun v r => match Nat.blt (i + 1) ls.length with | true => zst ls i (vL v) fun l => sN (k + 1, l.set (i + 1) none, r, μ) | false => none
  | .iinc i n => zld ls i fun v => match v with | some (.inl v) => zst ls i (vI (v + n)) fun l => sG (zin (v + n)) inferInstance (k + 1, l, st, μ) | _ => none
  | .iadd => zi2 st fun v w r => sG (zin (v + w)) inferInstance (k + 1, ls, vI (v + w) :: r, μ)
  | .isub => zi2 st fun v w r => sG (zin (v - w)) inferInstance (k + 1, ls, vI (v - w) :: r, μ)
  | .imul => zi2 st fun v w r => sG (zin (v * w)) inferInstance (k + 1, ls, vI (v * w) :: r, μ)
  | .idiv => zi2 st fun v w r => sG (w ≠ 0 ∧ zin (v.tdiv w)) inferInstance (k + 1, ls, vI (v.tdiv w) :: r, μ)
  | .irem => zi2 st fun v w r => sG (w ≠ 0) inferInstance (k + 1, ls, vI (v.tmod w) :: r, μ)
  | .ineg => zi1 st fun v r => sN (k + 1, ls, vI (zw (-v)) :: r, μ)
  | .iand => zi2 st fun v w r => sN (k + 1, ls, vI (zand v w) :: r, μ)
  | .ixor => zi2 st fun v w r => sN (k + 1, ls, vI (zxor v w) :: r, μ)
  | .ishl => zi2 st fun v w r => sN (k + 1, ls, vI (zshl v w) :: r, μ)
  | .ishr => zi2 st fun v w r => sN (k + 1, ls, vI (zshr v w) :: r, μ)
  | .iushr => zi2 st fun v w r => sN (k + 1, ls, vI (zushr v w) :: r, μ)
  | .ladd => zl2 st fun v w r => sN (k + 1, ls, vL (zw6 (v + w)) :: r, μ)
  | .lmul => zl2 st fun v w r => sN (k + 1, ls, vL (zw6 (v * w)) :: r, μ)
  | .lcmp => zl2 st fun v w r => sN (k + 1, ls, vI (zcmp v w) :: r, μ)
  | .i2l => zi1 st fun v r => sN (k + 1, ls, vL v :: r, μ)
  | .l2i => zl1 st fun v r => sN (k + 1, ls, vI (zw v) :: r, μ)
  | .i2c => zi1 st fun v r => sN (k + 1, ls, vI (v % 65536) :: r, μ)
  | .i2b => zi1 st fun v r => sN (k + 1, ls, vI (zb v) :: r, μ)
  | .dup => match st with | some v :: r => (match zisL (some v) with | false => sN (k + 1, ls, some v :: some v :: r, μ) | true => none) | _ => none
  | .dup2 => match st with | some v :: some w :: r => (match zisL (some v) || zisL (some w) with | false => sN (k + 1, ls, some v :: some w :: some v :: some w :: r, μ) | true => none) | _ => none
  | .pop => match st with | some v :: r => (match zisL (some v) with | false => sN (k + 1, ls, r, μ) | true => none) | _ => none
  | .goto _ => sN (a, ls, st, μ)
  | .if_icmp c _ => zi2 st fun v w r => zcond c v w (a, ls, r, μ) (k + 1, ls, r, μ)
  | .ifCond c _ => zi1 st fun v r => zcond c v 0 (a, ls, r, μ) (k + 1, ls, r, μ)
  | .ifnull _ => zr1 st fun t _ r => match Nat.beq t 99, Nat.beq t 98 with | true, _ => sN (a, ls, r, μ) | false, false => sN (k + 1, ls, r, μ) | _, _ => none
  | .ifnonnull _ => zr1 st fun t _ r => match Nat.beq t 99, Nat.beq t 98 with | true, _ => sN (k + 1, ls, r, μ) | false, false => sN (a, ls, r, μ) | _, _ => none
  | .tableswitch _ _ _ _ => zi1 st fun v r => sW v cs (a, ls, r, μ)
  | .getfield _ => zr1 st fun t i r => zgetf cs t i μ (k + 1) ls r
  | .putfield _ => zputf cs st μ (k + 1) ls
  | .arraylength => zr1 st fun t i r => match zrow t with | 0 => none | _ => sN (k + 1, ls, vI (zlen t i μ) :: r, μ)
  | .iaload => (match st with | _ :: some (.inr (.inr (32, _))) :: _ => zaload 6 st μ (k + 1) ls | _ => zaload 1 st μ (k + 1) ls)
  | .aaload => zaload 4 st μ (k + 1) ls
  | .iastore => zastore 1 st μ (k + 1) ls
  | .invokevirtual _ => zcall a cs st μ (k + 1) ls
  | .invokestatic _ => match a with | 999 => zcopy st μ (k + 1) ls | _ => zcall a cs st μ (k + 1) ls
  | .ireturn => (match st with | [some (.inl v)] => sE (some (vI (zret a v))) μ | _ => none)
  | .lreturn => (match st with | [some (.inr (.inl v))] => sE (some (vL v)) μ | _ => none)
  | .areturn => (match st with | [some (.inr (.inr (t, i)))] => sE (some (vR t i)) μ | _ => none)
  | .return_ => (match st with | [] => sE none μ | _ => none)
  | _ => none
/-- the entry's locals -/
def zent (n : Nat) (as : List mzV) : List mzV := as ++ List.replicate (n - as.length) none
def zpush (r : Option mzV) (st : List mzV) : List mzV := match r with | some v => v :: st | none => st
def zpick (a : Int) : List (Int × Nat) → Nat → Nat
  | [], d => d
  | (b, k) :: l, d => if a = b then k else zpick a l d
def mvsw (v : Int) (d : Nat) (go : Nat → Prop) : List (Int × Nat) → Prop
  | [] => go d
  | (b, k) :: l => if v = b then go k else mvsw v d go l
section Mini
variable (cd : Nat → List mzN) (ml : Nat → Nat)
/-- runs method m from its instruction k on: its answer and the memory behind it -/
def mrun : Nat → Nat → Nat → List mzV → List mzV → mzM → Option (Option mzV × mzM)
  | 0, _, _, _, _, _ => none
  | n + 1, m, k, ls, st, μ => match (cd m)[k]? with
    | none => none
    | some (_, I, a, cs, _) => match zstep I a cs k ls st μ with
      | none => none
      | some (.inl c) => mrun n m c.1 c.2.1 c.2.2.1 c.2.2.2
      | some (.inr (.inl (q, c, d))) => @ite _ q.1 q.2 (mrun n m c.1 c.2.1 c.2.2.1 c.2.2.2) (mrun n m d.1 d.2.1 d.2.2.1 d.2.2.2)
      | some (.inr (.inr (.inl (q, c)))) => @ite _ q.1 q.2 (mrun n m c.1 c.2.1 c.2.2.1 c.2.2.2) none
      | some (.inr (.inr (.inr (.inl (f, as, _, c))))) => (match mrun n f 0 (zent (ml f) as) [] c.2.2.2 with
        | none => none
        | some (r, ν) => mrun n m c.1 c.2.1 (zpush r c.2.2.1) ν)
      | some (.inr (.inr (.inr (.inr (.inl (v, ts, c)))))) => mrun n m (zpick v ts c.1) c.2.1 c.2.2.1 c.2.2.2
      | some (.inr (.inr (.inr (.inr (.inr (r, ν)))))) => some (r, ν)
/-- method m from its instruction k on comes to an end with Q -/
def mW (m k : Nat) (ls st : List mzV) (μ : mzM) (Q : Option mzV → mzM → Prop) : Prop := ∃ n r ν, mrun cd ml n m k ls st μ = some (r, ν) ∧ Q r ν
def mCI (f : Nat) (as : List mzV) (μ : mzM) (K : Int → mzM → Prop) : Prop := mW cd ml f 0 (zent (ml f) as) [] μ fun r ν => ∃ a, r = some (vI a) ∧ K a ν
def mCL (f : Nat) (as : List mzV) (μ : mzM) (K : Int → mzM → Prop) : Prop := mW cd ml f 0 (zent (ml f) as) [] μ fun r ν => ∃ a, r = some (vL a) ∧ K a ν
def mCV (f : Nat) (as : List mzV) (μ : mzM) (K : mzM → Prop) : Prop := mW cd ml f 0 (zent (ml f) as) [] μ fun r ν => r = none ∧ K ν
def mCR (f t : Nat) (as : List mzV) (μ : mzM) (K : Int → mzM → Prop) : Prop := mW cd ml f 0 (zent (ml f) as) [] μ fun r ν => ∃ a, r = some (vR t a) ∧ K a ν
/-- on to an instruction: a loop's head is where the tree ends -/
def mgo (C : List mzN) (m : Nat) (rec : List mzN → Nat → List mzV → List mzV → mzM → Prop) (Q : Option mzV → mzM → Prop) (k : Nat) (ls st : List mzV) (μ : mzM) : List mzN → Prop
  | [] => False
  | (x0, x1, x2, x3, h) :: rest => match h with
    | true => mW cd ml m k ls st μ Q
    | false => rec ((x0, x1, x2, x3, h) :: rest) k ls st μ
/-- what is to be shown of method m (its code C), from its instruction k on (rest: the code from there) -/
def mvc (C : List mzN) (m : Nat) (Q : Option mzV → mzM → Prop) : Nat → List mzN → Nat → List mzV → List mzV → mzM → Prop
  | 0, _, k, ls, st, μ => mW cd ml m k ls st μ Q
  | _ + 1, [], _, _, _, _ => False
  | n + 1, (_, I, a, cs, _) :: rest, k, ls, st, μ => match zstep I a cs k ls st μ with
      | none => False
      | some (.inl c) => mgo cd ml C m (mvc C m Q n) Q c.1 c.2.1 c.2.2.1 c.2.2.2 (match Nat.beq c.1 (k + 1) with | true => rest | false => C.drop c.1)
      | some (.inr (.inl (q, c, d))) => @ite _ q.1 q.2 (mgo cd ml C m (mvc C m Q n) Q c.1 c.2.1 c.2.2.1 c.2.2.2 (match Nat.beq c.1 (k + 1) with | true => rest | false => C.drop c.1)) (mgo cd ml C m (mvc C m Q n) Q d.1 d.2.1 d.2.2.1 d.2.2.2 (match Nat.beq d.1 (k + 1) with | true => rest | false => C.drop d.1))
      | some (.inr (.inr (.inl (q, c)))) => q.1 ∧ mgo cd ml C m (mvc C m Q n) Q c.1 c.2.1 c.2.2.1 c.2.2.2 (match Nat.beq c.1 (k + 1) with | true => rest | false => C.drop c.1)
      | some (.inr (.inr (.inr (.inl (f, as, r, c))))) => (match r with
        | 0 => mCV cd ml f as c.2.2.2 fun ν => mgo cd ml C m (mvc C m Q n) Q c.1 c.2.1 c.2.2.1 ν (match Nat.beq c.1 (k + 1) with | true => rest | false => C.drop c.1)
        | 1 => mCI cd ml f as c.2.2.2 fun v ν => mgo cd ml C m (mvc C m Q n) Q c.1 c.2.1 (vI v :: c.2.2.1) ν (match Nat.beq c.1 (k + 1) with | true => rest | false => C.drop c.1)
        | 2 => mCL cd ml f as c.2.2.2 fun v ν => mgo cd ml C m (mvc C m Q n) Q c.1 c.2.1 (vL v :: c.2.2.1) ν (match Nat.beq c.1 (k + 1) with | true => rest | false => C.drop c.1)
        | t + 3 => mCR cd ml f t as c.2.2.2 fun v ν => mgo cd ml C m (mvc C m Q n) Q c.1 c.2.1 (vR t v :: c.2.2.1) ν (match Nat.beq c.1 (k + 1) with | true => rest | false => C.drop c.1))
      | some (.inr (.inr (.inr (.inr (.inl (v, ts, c)))))) => mvsw v c.1 (fun k' => mgo cd ml C m (mvc C m Q n) Q k' c.2.1 c.2.2.1 c.2.2.2 (C.drop k')) ts
      | some (.inr (.inr (.inr (.inr (.inr (r, ν)))))) => Q r ν
theorem mrun_up : ∀ (n m k : Nat) (ls st : List mzV) (μ : mzM) (q : Option mzV × mzM), mrun cd ml n m k ls st μ = some q → mrun cd ml (n + 1) m k ls st μ = some q := by
  intro n
  induction n with
  | zero => intro m k ls st μ q h; cases h
  | succ n ih =>
    intro m k ls st μ q h
    rw [mrun] at h ⊢
    cases hc : (cd m)[k]? with
    | none => rw [hc] at h; cases h
    | some ins =>
      obtain ⟨x0, I, a, cs, hd⟩ := ins
      rw [hc] at h
      dsimp only at h ⊢
      cases hs : zstep I a cs k ls st μ with
      | none => rw [hs] at h; cases h
      | some z =>
        rw [hs] at h
        rcases z with c | ⟨q1, c, d⟩ | ⟨q1, c⟩ | ⟨f, as, r, c⟩ | ⟨v, ts, c⟩ | ⟨r, ν⟩
        · exact ih _ _ _ _ _ _ h
        · dsimp only at h ⊢
          by_cases hq : q1.1
          · rw [@if_pos _ q1.2 hq] at h ⊢; exact ih _ _ _ _ _ _ h
          · rw [@if_neg _ q1.2 hq] at h ⊢; exact ih _ _ _ _ _ _ h
        · dsimp only at h ⊢
          by_cases hq : q1.1
          · rw [@if_pos _ q1.2 hq] at h ⊢; exact ih _ _ _ _ _ _ h
          · rw [@if_neg _ q1.2 hq] at h; cases h
        · dsimp only at h ⊢
          cases hf : mrun cd ml n f 0 (zent (ml f) as) [] c.2.2.2 with
          | none => rw [hf] at h; cases h
          | some p =>
            obtain ⟨r2, ν⟩ := p
            rw [hf] at h
            rw [ih _ _ _ _ _ _ hf]
            exact ih _ _ _ _ _ _ h
        · exact ih _ _ _ _ _ _ h
        · exact h
theorem mrun_le {n n2 m k : Nat} {ls st : List mzV} {μ : mzM} {q : Option mzV × mzM} (hn : n ≤ n2) (h : mrun cd ml n m k ls st μ = some q) : mrun cd ml n2 m k ls st μ = some q := by
  induction hn with
  | refl => exact h
  | step _ ih => exact mrun_up cd ml _ _ _ _ _ _ _ ih
theorem mW_mono {m k : Nat} {ls st : List mzV} {μ : mzM} {Q Q' : Option mzV → mzM → Prop} (h : mW cd ml m k ls st μ Q) (hq : ∀ r ν, Q r ν → Q' r ν) : mW cd ml m k ls st μ Q' := by
  obtain ⟨n, r, ν, h1, h2⟩ := h
  exact ⟨n, r, ν, h1, hq _ _ h2⟩
theorem mgo_iff {C : List mzN} {m k : Nat} {rec : List mzN → Nat → List mzV → List mzV → mzM → Prop} {Q : Option mzV → mzM → Prop} {ls st : List mzV} {μ : mzM} {rest : List mzN} (hr : rec rest k ls st μ → mW cd ml m k ls st μ Q) (h : mgo cd ml C m rec Q k ls st μ rest) : mW cd ml m k ls st μ Q := by
  cases rest with
  | nil => exact absurd h id
  | cons x rest =>
    obtain ⟨x0, x1, x2, x3, b⟩ := x
    cases b with
    | true => exact h
    | false => exact hr h
theorem mvsw_pick {v : Int} {d : Nat} {go : Nat → Prop} : ∀ (ts : List (Int × Nat)), mvsw v d go ts → go (zpick v ts d)
  | [], h => h
  | (b, k) :: l, h => by
    unfold mvsw at h
    unfold zpick
    by_cases hv : v = b
    · rw [if_pos hv] at h ⊢; exact h
    · rw [if_neg hv] at h ⊢; exact mvsw_pick l h
theorem mvc_sound {C : List mzN} {m : Nat} {Q : Option mzV → mzM → Prop} (hC : cd m = C) : ∀ (n : Nat) (rest : List mzN) (k : Nat) (ls st : List mzV) (μ : mzM), rest = C.drop k → mvc cd ml C m Q n rest k ls st μ → mW cd ml m k ls st μ Q := by
  intro n
  induction n with
  | zero => intro rest k ls st μ _ h; exact h
  | succ n ih =>
    intro rest k ls st μ hrest h
    cases rest with
    | nil => exact absurd h id
    | cons x rest =>
      obtain ⟨x0, I, a, cs, b⟩ := x
      have hk : (cd m)[k]? = some (x0, I, a, cs, b) := by
        rw [hC, ← List.head?_drop, ← hrest]; rfl
      have hnext : rest = C.drop (k + 1) := by
        rw [← List.tail_drop, ← hrest]; rfl
      have hpc : ∀ j, (match Nat.beq j (k + 1) with | true => rest | false => C.drop j) = C.drop j := by
        intro j
        cases hj : Nat.beq j (k + 1) with
        | true => rw [Nat.eq_of_beq_eq_true hj]; exact hnext
        | false => rfl
      unfold mvc at h
      cases hs : zstep I a cs k ls st μ with
      | none => rw [hs] at h; exact absurd h id
      | some z =>
        rw [hs] at h
        rcases z with c | ⟨q1, c, d⟩ | ⟨q1, c⟩ | ⟨f, as, r, c⟩ | ⟨v, ts, c⟩ | ⟨r, ν⟩
        · dsimp only at h
          rw [hpc] at h
          obtain ⟨n1, r, ν, h1, h2⟩ := mgo_iff cd ml (ih _ _ _ _ _ rfl) h
          exact ⟨n1 + 1, r, ν, by rw [mrun, hk]; dsimp only; rw [hs]; exact h1, h2⟩
        · dsimp only at h
          rw [hpc, hpc] at h
          by_cases hq : q1.1
          · rw [@if_pos _ q1.2 hq] at h
            obtain ⟨n1, r, ν, h1, h2⟩ := mgo_iff cd ml (ih _ _ _ _ _ rfl) h
            exact ⟨n1 + 1, r, ν, by rw [mrun, hk]; dsimp only; rw [hs]; dsimp only; rw [@if_pos _ q1.2 hq]; exact h1, h2⟩
          · rw [@if_neg _ q1.2 hq] at h
            obtain ⟨n1, r, ν, h1, h2⟩ := mgo_iff cd ml (ih _ _ _ _ _ rfl) h
            exact ⟨n1 + 1, r, ν, by rw [mrun, hk]; dsimp only; rw [hs]; dsimp only; rw [@if_neg _ q1.2 hq]; exact h1, h2⟩
        · dsimp only at h
          rw [hpc] at h
          obtain ⟨hq, h⟩ := h
          obtain ⟨n1, r, ν, h1, h2⟩ := mgo_iff cd ml (ih _ _ _ _ _ rfl) h
          exact ⟨n1 + 1, r, ν, by rw [mrun, hk]; dsimp only; rw [hs]; dsimp only; rw [@if_pos _ q1.2 hq]; exact h1, h2⟩
        · dsimp only at h
          rw [hpc] at h
          have key : mW cd ml f 0 (zent (ml f) as) [] c.2.2.2 (fun r ν => mW cd ml m c.1 c.2.1 (zpush r c.2.2.1) ν Q) := by
            match r, h with
            | 0, h => exact mW_mono cd ml h (fun r ν hr => by rw [hr.1]; exact mgo_iff cd ml (ih _ _ _ _ _ rfl) hr.2)
            | 1, h => exact mW_mono cd ml h (fun r ν hr => by obtain ⟨a, ha, hr⟩ := hr; rw [ha]; exact mgo_iff cd ml (ih _ _ _ _ _ rfl) hr)
            | 2, h => exact mW_mono cd ml h (fun r ν hr => by obtain ⟨a, ha, hr⟩ := hr; rw [ha]; exact mgo_iff cd ml (ih _ _ _ _ _ rfl) hr)
            | t + 3, h => exact mW_mono cd ml h (fun r ν hr => by obtain ⟨a, ha, hr⟩ := hr; rw [ha]; exact mgo_iff cd ml (ih _ _ _ _ _ rfl) hr)
          obtain ⟨n1, r1, ν1, h1, n2, r2, ν2, h2, h3⟩ := key
          refine ⟨n1 + n2 + 1, r2, ν2, ?_, h3⟩
          rw [mrun, hk]; dsimp only; rw [hs]; dsimp only
          rw [mrun_le cd ml (Nat.le_add_right n1 n2) h1]
          exact mrun_le cd ml (Nat.le_add_left n2 n1) h2
        · dsimp only at h
          have h := mvsw_pick ts h
          obtain ⟨n1, r, ν, h1, h2⟩ := mgo_iff cd ml (ih _ _ _ _ _ rfl) h
          exact ⟨n1 + 1, r, ν, by rw [mrun, hk]; dsimp only; rw [hs]; exact h1, h2⟩
        · exact ⟨1, r, ν, by rw [mrun, hk]; dsimp only; rw [hs], h⟩
theorem mvc_at {C : List mzN} {m : Nat} {Q : Option mzV → mzM → Prop} (hC : cd m = C) (n k : Nat) {ls st : List mzV} {μ : mzM} (h : mvc cd ml C m Q n (C.drop k) k ls st μ) : mW cd ml m k ls st μ Q := mvc_sound cd ml hC n _ k ls st μ rfl h
end Mini
