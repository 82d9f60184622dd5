/-! An abstract machine over numbered cells. Cells have a kind, a length, ints, longs, references; class objects have kinds 0 to 10, arrays 11 byte, 12 int, 13 boolean, 14 Rows, 15 Statement. -/
abbrev AmM : Type := Nat × Nat × (Nat → Nat) × (Nat → Nat) × (Nat → Nat → Int32) × (Nat → Nat → Int64) × (Nat → Nat → Option Nat)
/-- how many cells -/
def mZ (M : AmM) : Nat := M.1
/-- how many slots they took -/
def mS (M : AmM) : Nat := M.2.1
def mK (M : AmM) : Nat → Nat := M.2.2.1
def mN (M : AmM) : Nat → Nat := M.2.2.2.1
def mI (M : AmM) : Nat → Nat → Int32 := M.2.2.2.2.1
def mJ (M : AmM) : Nat → Nat → Int64 := M.2.2.2.2.2.1
def mP (M : AmM) : Nat → Nat → Option Nat := M.2.2.2.2.2.2
/-- a whole row of ints -/
def wA (M : AmM) (a : Nat) (f : Nat → Int32) : AmM := (mZ M, mS M, mK M, mN M, va_up (mI M) a f, mJ M, mP M)
def wI (M : AmM) (a j : Nat) (v : Int32) : AmM := wA M a (va_up (mI M a) j v)
def wJ (M : AmM) (a j : Nat) (v : Int64) : AmM := (mZ M, mS M, mK M, mN M, mI M, va_up (mJ M) a (va_up (mJ M a) j v), mP M)
def wP (M : AmM) (a j q : Nat) : AmM := (mZ M, mS M, mK M, mN M, mI M, mJ M, va_up (mP M) a (va_up (mP M a) j (some q)))
/-- a new cell, all of it 0 -/
def mNew (M : AmM) (kind len sl : Nat) : AmM := (mZ M + 1, mS M + sl, va_up (mK M) (mZ M) kind, va_up (mN M) (mZ M) len, va_up (mI M) (mZ M) (fun _ => 0), va_up (mJ M) (mZ M) (fun _ => 0), va_up (mP M) (mZ M) (fun _ => none))
/-- fields of the kinds of objects -/
def amT (c : Nat) : Nat → FieldType := match c with
  | 0 => tyX0 | 1 => tyX1 | 2 => tyX2 | 3 => tyX3 | 4 => tyX4 | 5 => tyX5 | 6 => tyX6 | 7 => tyX7 | 8 => tyX8 | 9 => tyX9 | _ => tyX10
def amNf (c : Nat) : Nat := match c with
  | 0 => 6 | 1 => 4 | 2 => 13 | 3 => 14 | 4 => 7 | 5 => 2 | 6 => 20 | 7 => 7 | 8 => 9 | 9 => 16 | _ => 90
/-- 0 an int, 1 a long, 2 a reference -/
def amW (t : FieldType) : Nat := match t with
  | .int => 0 | .boolean => 0 | .byte => 0 | .short => 0 | .char => 0 | .long => 1 | _ => 2
/-- locals -/
abbrev AmL : Type := List (Nat × Value)
def amL (l : AmL) (j : Nat) : Option Value := (l.find? (fun q => q.1 == j)).map (·.2)
def st1 (j : Nat) (v : Value) (l : AmL) : AmL := (j, v) :: l.filter (fun q => !(q.1 == j) && !(q.1 + 1 == j && q.2.category == 2))
def st2 (j : Nat) (v : Value) (l : AmL) : AmL := (j, v) :: l.filter (fun q => !(q.1 == j) && (!(q.1 == j + 1) && !(q.1 + 1 == j && q.2.category == 2)))
/-- returned (a value or none), or threw the exception of a number -/
abbrev AmO : Type := Option Value ⊕ Nat
/-- where it goes on: instruction, locals, stack, memory; or its end; or a call: which, with what, what stays on the stack -/
abbrev AmS : Type := (Nat × AmL × List Value × AmM) ⊕ AmO ⊕ (Nat × List Value × List Value)
def amGo (i : Nat) (l : AmL) (st : List Value) (M : AmM) : Option AmS := some (.inl (i, l, st, M))
def amIn (j : Int32) (n : Nat) : Bool := decide (¬ j < 0) && decide (j.toNatClampNeg < n)
def amCat (st : List Value) : Nat := (st.map fun v => v.category).sum
def amIf (c : Prop) [Decidable c] (t i : Nat) (l : AmL) (st : List Value) (M : AmM) : Option AmS := if c then amGo t l st M else amGo (i + 1) l st M
/-- the row of the reference's words, the class's text of words: they stand outside the cells -/
def amKN : Nat := 198
def amKl : List Int32 := [99, 111, 108, 117, 109, 110, 115, 32, 114, 111, 119, 32, 111, 116, 104, 101, 114, 32, 107, 101, 121, 32, 105, 110, 100, 101, 120, 32, 117, 112, 100, 97, 116, 101, 32, 100, 101, 108, 101, 116, 101, 32, 105, 110, 115, 101, 114, 116, 32, 109, 101, 114, 103, 101, 32, 115, 101, 116, 32, 107, 101, 101, 112, 32, 119, 104, 101, 114, 101, 32, 97, 110, 100, 32, 115, 117, 109, 32, 108, 101, 97, 115, 116, 32, 109, 111, 115, 116, 32, 99, 111, 117, 110, 116, 32, 97, 32, 98, 32, 99, 32, 100, 32]
def amWl : List Int32 := [99, 111, 108, 117, 109, 110, 115, 32, 114, 111, 119, 32, 111, 116, 104, 101, 114, 32, 107, 101, 121, 32, 105, 110, 100, 101, 120, 32, 117, 112, 100, 97, 116, 101, 32, 100, 101, 108, 101, 116, 101, 32, 105, 110, 115, 101, 114, 116, 32, 109, 101, 114, 103, 101, 32, 115, 101, 116, 32, 107, 101, 101, 112, 32, 115, 117, 109, 32, 108, 101, 97, 115, 116, 32, 109, 111, 115, 116, 32, 99, 111, 117, 110, 116, 32, 119, 104, 101, 114, 101, 32, 97, 110, 100, 32]
def amKw (j : Nat) : Int32 := amKl.getD j 0
def amWc (j : Nat) : Int32 := amWl.getD j 0
/-- one instruction; x: cells may be made, and nothing be thrown; na: how many arguments a method takes, with its receiver; its locals; its receiver's kind. Places in the code are counted by instructions. -/
def amStep (na : Nat → Nat × Nat × Nat) (x : Bool) (op : Instr) (i : Nat) (l : AmL) (st : List Value) (M : AmM) : Option AmS :=
  match op with
  | .iconst v => amGo (i + 1) l (.int (Int32.ofInt v) :: st) M
  | .sipush v => amGo (i + 1) l (.long (Int64.ofInt v) :: st) M
  | .iload j => match amL l j with
    | some (.int v) => amGo (i + 1) l (.int v :: st) M
    | _ => none
  | .lload j => match amL l j with
    | some (.long v) => amGo (i + 1) l (.long v :: st) M
    | _ => none
  | .aload j => match amL l j with
    | some (.ref v) => amGo (i + 1) l (.ref v :: st) M
    | _ => none
  | .istore j => match st with
    | .int v :: st => amGo (i + 1) (st1 j (.int v) l) st M
    | _ => none
  | .lstore j => match st with
    | .long v :: st => amGo (i + 1) (st2 j (.long v) l) st M
    | _ => none
  | .astore j => match st with
    | .ref v :: st => amGo (i + 1) (st1 j (.ref v) l) st M
    | _ => none
  | .iinc j n => match amL l j with
    | some (.int v) => amGo (i + 1) (st1 j (.int (v + Int32.ofInt n)) l) st M
    | _ => none
  | .iadd => match st with
    | .int b :: .int a :: st => amGo (i + 1) l (.int (a + b) :: st) M
    | _ => none
  | .isub => match st with
    | .int b :: .int a :: st => amGo (i + 1) l (.int (a - b) :: st) M
    | _ => none
  | .imul => match st with
    | .int b :: .int a :: st => amGo (i + 1) l (.int (a * b) :: st) M
    | _ => none
  | .idiv => match st with
    | .int b :: .int a :: st => if b = 0 then none else amGo (i + 1) l (.int (a / b) :: st) M
    | _ => none
  | .irem => match st with
    | .int b :: .int a :: st => if b = 0 then none else amGo (i + 1) l (.int (a - a / b * b) :: st) M
    | _ => none
  | .iand => match st with
    | .int b :: .int a :: st => amGo (i + 1) l (.int (a &&& b) :: st) M
    | _ => none
  | .ior => match st with
    | .int b :: .int a :: st => amGo (i + 1) l (.int (a ||| b) :: st) M
    | _ => none
  | .ixor => match st with
    | .int b :: .int a :: st => amGo (i + 1) l (.int (a ^^^ b) :: st) M
    | _ => none
  | .ishl => match st with
    | .int b :: .int a :: st => amGo (i + 1) l (.int (a <<< (b &&& 31)) :: st) M
    | _ => none
  | .ishr => match st with
    | .int b :: .int a :: st => amGo (i + 1) l (.int (a >>> (b &&& 31)) :: st) M
    | _ => none
  | .iushr => match st with
    | .int b :: .int a :: st => amGo (i + 1) l (.int (a.toUInt32 >>> (b.toUInt32 &&& Int32.toUInt32 31)).toInt32 :: st) M
    | _ => none
  | .ineg => match st with
    | .int a :: st => amGo (i + 1) l (.int (-a) :: st) M
    | _ => none
  | .ladd => match st with
    | .long b :: .long a :: st => amGo (i + 1) l (.long (a + b) :: st) M
    | _ => none
  | .lmul => match st with
    | .long b :: .long a :: st => amGo (i + 1) l (.long (a * b) :: st) M
    | _ => none
  | .land => match st with
    | .long b :: .long a :: st => amGo (i + 1) l (.long (a &&& b) :: st) M
    | _ => none
  | .lor => match st with
    | .long b :: .long a :: st => amGo (i + 1) l (.long (a ||| b) :: st) M
    | _ => none
  | .lshl => match st with
    | .int b :: .long a :: st => amGo (i + 1) l (.long (a <<< (b.toInt64 &&& 63)) :: st) M
    | _ => none
  | .lushr => match st with
    | .int b :: .long a :: st => amGo (i + 1) l (.long (a.toUInt64 >>> (b.toInt64.toUInt64 &&& Int64.toUInt64 63)).toInt64 :: st) M
    | _ => none
  | .lneg => match st with
    | .long a :: st => amGo (i + 1) l (.long (-a) :: st) M
    | _ => none
  | .i2l => match st with
    | .int a :: st => amGo (i + 1) l (.long a.toInt64 :: st) M
    | _ => none
  | .i2b => match st with
    | .int a :: st => amGo (i + 1) l (.int a.toInt8.toInt32 :: st) M
    | _ => none
  | .lcmp => match st with
    | .long b :: .long a :: st => amGo (i + 1) l (.int (lg_cmp a b) :: st) M
    | _ => none
  | .dup => match st with
    | a :: st => if a.category = 1 then amGo (i + 1) l (a :: a :: st) M else none
    | _ => none
  | .pop => match st with
    | a :: st => if a.category = 1 then amGo (i + 1) l st M else none
    | _ => none
  | .dup_x1 => match st with
    | a :: b :: st => if a.category = 1 ∧ b.category = 1 then amGo (i + 1) l (a :: b :: a :: st) M else none
    | _ => none
  | .dup_x2 => match st with
    | a :: b :: d :: st => if a.category = 1 ∧ b.category = 1 ∧ d.category = 1 then amGo (i + 1) l (a :: b :: d :: a :: st) M else none
    | _ => none
  | .dup2 => match st with
    | a :: b :: st => if a.category = 1 ∧ b.category = 1 then amGo (i + 1) l (a :: b :: a :: b :: st) M else none
    | _ => none
  | .goto t => amGo t.toNat l st M
  | .ifCond c t => match st with
    | .int a :: st => match c with
      | .eq => amIf (a = 0) t.toNat i l st M
      | .ne => amIf (¬ a = 0) t.toNat i l st M
      | .lt => amIf (a < 0) t.toNat i l st M
      | .ge => amIf (0 ≤ a) t.toNat i l st M
      | .gt => amIf (0 < a) t.toNat i l st M
      | .le => amIf (a ≤ 0) t.toNat i l st M
    | _ => none
  | .if_icmp c t => match st with
    | .int b :: .int a :: st => match c with
      | .eq => amIf (a = b) t.toNat i l st M
      | .ne => amIf (¬ a = b) t.toNat i l st M
      | .lt => amIf (a < b) t.toNat i l st M
      | .ge => amIf (b ≤ a) t.toNat i l st M
      | .gt => amIf (b < a) t.toNat i l st M
      | .le => amIf (a ≤ b) t.toNat i l st M
    | _ => none
  | .tableswitch d lo hi os => match st with
    | .int a :: st => if a.toInt < lo ∨ hi < a.toInt then amGo d.toNat l st M else match os[(a.toInt - lo).toNat]? with
      | some t => amGo t.toNat l st M
      | none => none
    | _ => none
  | .lookupswitch d ps => match st with
    | .int a :: st => amGo (Op.lookupswitch.offset ps.toList d a.toInt).toNat l st M
    | _ => none
  | .getfield c => match st with
    | .ref a :: st => if a < mZ M ∧ mK M a = c / 1000 then
        (match c % 10 with
        | 0 => amGo (i + 1) l (.int (mI M a (c % 1000 / 10)) :: st) M
        | 1 => amGo (i + 1) l (.long (mJ M a (c % 1000 / 10)) :: st) M
        | _ => match mP M a (c % 1000 / 10) with
          | some q => amGo (i + 1) l (.ref q :: st) M
          | none => none)
        else none
    | _ => none
  | .putfield c => match st with
    | .int v :: .ref a :: st => if a < mZ M ∧ mK M a = c / 1000 ∧ c % 10 = 0 then amGo (i + 1) l st (wI M a (c % 1000 / 10) v) else none
    | .long v :: .ref a :: st => if a < mZ M ∧ mK M a = c / 1000 ∧ c % 10 = 1 then amGo (i + 1) l st (wJ M a (c % 1000 / 10) v) else none
    | .ref v :: .ref a :: st => if a < mZ M ∧ mK M a = c / 1000 ∧ c % 10 = 2 then amGo (i + 1) l st (wP M a (c % 1000 / 10) v) else none
    | _ => none
  | .putstatic c => match st with
    | .int v :: .ref a :: st => if a < mZ M ∧ mK M a = c / 1000 ∧ c % 10 = 0 ∧ (v = 0 ∨ v = 1) then amGo (i + 1) l st (wI M a (c % 1000 / 10) v) else none
    | _ => none
  | .arraylength => match st with
    | .ref a :: st => if a = amKN then amGo (i + 1) l (.int 103 :: st) M else if a < mZ M ∧ 11 ≤ mK M a ∧ mK M a < 16 then amGo (i + 1) l (.int (Int32.ofNat (mN M a)) :: st) M else none
    | _ => none
  | .iaload => match st with
    | .int j :: .ref a :: st => if a < mZ M ∧ mK M a = 12 ∧ amIn j (mN M a) = true then amGo (i + 1) l (.int (mI M a j.toNatClampNeg) :: st) M else none
    | _ => none
  | .baload => match st with
    | .int j :: .ref a :: st => if a = amKN ∧ amIn j 103 = true then amGo (i + 1) l (.int (amKw j.toNatClampNeg) :: st) M else if a < mZ M ∧ (mK M a = 11 ∨ mK M a = 13) ∧ amIn j (mN M a) = true then amGo (i + 1) l (.int (mI M a j.toNatClampNeg) :: st) M else none
    | _ => none
  | .aaload => match st with
    | .int j :: .ref a :: st => if a < mZ M ∧ (mK M a = 14 ∨ mK M a = 15) ∧ amIn j (mN M a) = true then (match mP M a j.toNatClampNeg with
        | some q => amGo (i + 1) l (.ref q :: st) M
        | none => none) else none
    | _ => none
  | .iastore => match st with
    | .int v :: .int j :: .ref a :: st => if a < mZ M ∧ mK M a = 12 ∧ amIn j (mN M a) = true then amGo (i + 1) l st (wI M a j.toNatClampNeg v) else none
    | _ => none
  | .bastore => match st with
    | .int v :: .int j :: .ref a :: st => if a < mZ M ∧ mK M a = 11 ∧ amIn j (mN M a) = true then amGo (i + 1) l st (wI M a j.toNatClampNeg v.toInt8.toInt32) else
        if a < mZ M ∧ mK M a = 13 ∧ amIn j (mN M a) = true ∧ (v = 0 ∨ v = 1) then amGo (i + 1) l st (wI M a j.toNatClampNeg v) else none
    | _ => none
  | .aastore => match st with
    | .ref v :: .int j :: .ref a :: st => if a < mZ M ∧ v < mZ M ∧ ((mK M a = 14 ∧ mK M v = 5) ∨ (mK M a = 15 ∧ mK M v = 8)) ∧ amIn j (mN M a) = true then amGo (i + 1) l st (wP M a j.toNatClampNeg v) else none
    | _ => none
  | .new c => if x = true ∧ c < 11 then amGo (i + 1) l (.ref (mZ M) :: st) (mNew M c 0 (amNf c)) else none
  | .newarray at_ => match st with
    | .int n :: st => if x = true ∧ ¬ n < 0 ∧ n.toNatClampNeg ≤ 100000 then
        (match at_ with
        | .byte => amGo (i + 1) l (.ref (mZ M) :: st) (mNew M 11 n.toNatClampNeg n.toNatClampNeg)
        | .int => amGo (i + 1) l (.ref (mZ M) :: st) (mNew M 12 n.toNatClampNeg n.toNatClampNeg)
        | .boolean => amGo (i + 1) l (.ref (mZ M) :: st) (mNew M 13 n.toNatClampNeg n.toNatClampNeg)
        | _ => none)
        else none
    | _ => none
  | .anewarray c => match st with
    | .int n :: st => if x = true ∧ ¬ n < 0 ∧ n.toNatClampNeg ≤ 100000 ∧ (c = 14 ∨ c = 15) then amGo (i + 1) l (.ref (mZ M) :: st) (mNew M c n.toNatClampNeg n.toNatClampNeg) else none
    | _ => none
  | .ireturn => match st with
    | [.int v] => some (.inr (.inl (.inl (some (.int v)))))
    | _ => none
  | .i2c => match st with
    | [.int v] => if v = 0 ∨ v = 1 then some (.inr (.inl (.inl (some (.int v))))) else none
    | _ => none
  | .lreturn => match st with
    | [.long v] => some (.inr (.inl (.inl (some (.long v)))))
    | _ => none
  | .areturn => match st with
    | [.ref v] => some (.inr (.inl (.inl (some (.ref v)))))
    | _ => none
  | .return_ => match st with
    | [] => some (.inr (.inl (.inl none)))
    | _ => none
  | .jsr n => if x = false ∧ amCat st ≤ 8 then some (.inr (.inl (.inr n.toNat))) else none
  | .invokevirtual k => match (st.take (na k).1).reverse with
    | .ref a :: as => if (na k).1 ≤ st.length ∧ amCat (st.drop (na k).1) ≤ 8 ∧ amCat (.ref a :: as) ≤ (na k).2.1 ∧ a < mZ M ∧ mK M a = (na k).2.2 then some (.inr (.inr (k, .ref a :: as, st.drop (na k).1))) else none
    | _ => none
  | .invokestatic k => if (na k).1 ≤ st.length ∧ amCat (st.drop (na k).1) ≤ 8 ∧ amCat (st.take (na k).1).reverse ≤ (na k).2.1 then some (.inr (.inr (k, (st.take (na k).1).reverse, st.drop (na k).1))) else none
  | .invokespecial k => match (st.take (na k).1).reverse with
    | .ref a :: as => if (na k).1 ≤ st.length ∧ amCat (st.drop (na k).1) ≤ 8 ∧ amCat (.ref a :: as) ≤ (na k).2.1 then some (.inr (.inr (k, .ref a :: as, st.drop (na k).1))) else none
    | _ => none
  | .f2i => match st with
    | .int b :: .int a :: st => if amCat st ≤ 8 then amGo (i + 1) l (.int (if b < a then b else a) :: st) M else none
    | _ => none
  | .f2l => match st with
    | .int b :: .int a :: st => if amCat st ≤ 8 then amGo (i + 1) l (.int (if a < b then b else a) :: st) M else none
    | _ => none
  | .getstatic _ => amGo (i + 1) l (.ref amKN :: st) M
  | .ldc _ => amGo (i + 1) l (.ref (amKN + 1) :: st) M
  | .d2i => match st with
    | .ref a :: st => if a = amKN + 1 ∧ amCat st ≤ 8 then amGo (i + 1) l (.int 95 :: st) M else none
    | _ => none
  | .d2l => match st with
    | .int j :: .ref a :: st => if a = amKN + 1 ∧ amIn j 95 = true ∧ amCat st ≤ 8 then amGo (i + 1) l (.int (amWc j.toNatClampNeg) :: st) M else none
    | _ => none
  | .monitorenter => match st with
    | .ref _ :: st => if amCat st ≤ 8 then amGo (i + 1) l st M else none
    | _ => none
  | .monitorexit => match st with
    | .int n :: .int dp :: .ref d :: .int sp :: .ref s :: st => if s < mZ M ∧ d < mZ M ∧ mK M s = 12 ∧ mK M d = 12 ∧ ¬ sp < 0 ∧ ¬ dp < 0 ∧ ¬ n < 0 ∧ sp.toNatClampNeg + n.toNatClampNeg ≤ mN M s ∧ dp.toNatClampNeg + n.toNatClampNeg ≤ mN M d ∧ amCat st ≤ 8
        then amGo (i + 1) l st (wA M d (va_cpy (mI M s) (mI M d) sp.toNatClampNeg dp.toNatClampNeg n.toNatClampNeg)) else none
    | _ => none
  | _ => none
/-- n steps deep: how method k ends, from its instruction i on -/
def amRun (P : Nat → Nat → Option Instr) (na : Nat → Nat × Nat × Nat) (x : Bool) : Nat → Nat → Nat → AmL → List Value → AmM → Option (AmO × AmM)
  | 0, _, _, _, _, _ => none
  | n + 1, k, i, l, st, M => match P k i with
    | none => none
    | some op => match amStep na x op i l st M with
      | none => none
      | some (.inl (i', l', st', M')) => amRun P na x n k i' l' st' M'
      | some (.inr (.inl o)) => some (o, M)
      | some (.inr (.inr (k', av, rest))) => match amRun P na x n k' 0 (lv_args 0 av) [] M with
        | none => none
        | some (.inl v, M') => amRun P na x n k (i + 1) l (v.toList ++ rest) M'
        | some (.inr e, M') => some (.inr e, M')
theorem amRun_mono {P : Nat → Nat → Option Instr} {na : Nat → Nat × Nat × Nat} {x : Bool} : ∀ {n m k i : Nat} {l : AmL} {st : List Value} {M : AmM} {r : AmO × AmM}, amRun P na x n k i l st M = some r → n ≤ m → amRun P na x m k i l st M = some r := by
  intro n
  induction n with
  | zero => intro m k i l st M r h; simp [amRun] at h
  | succ n ih =>
    intro m k i l st M r h hm
    obtain ⟨m, rfl⟩ : ∃ m', m = m' + 1 := ⟨m - 1, by omega⟩
    have hm : n ≤ m := by omega
    unfold amRun at h ⊢
    cases hP : P k i with
    | none => rw [hP] at h; simp at h
    | some op =>
      rw [hP] at h
      dsimp only at h ⊢
      cases hS : amStep na x op i l st M with
      | none => rw [hS] at h; simp at h
      | some a =>
        rw [hS] at h
        rcases a with ⟨i', l', st', M'⟩ | o | ⟨k', av, rest⟩
        · dsimp only at h ⊢
          exact ih h hm
        · exact h
        · dsimp only at h ⊢
          cases hC : amRun P na x n k' 0 (lv_args 0 av) [] M with
          | none => rw [hC] at h; simp at h
          | some q =>
            rw [hC] at h
            rw [ih hC hm]
            obtain ⟨o, M'⟩ := q
            rcases o with v | e
            · dsimp only at h ⊢
              exact ih h hm
            · exact h
/-- method k, from its instruction i on, ends so -/
def amEnds (P : Nat → Nat → Option Instr) (na : Nat → Nat × Nat × Nat) (x : Bool) (k i : Nat) (l : AmL) (st : List Value) (M : AmM) (o : AmO) (M' : AmM) : Prop := ∃ n, amRun P na x n k i l st M = some (o, M')
