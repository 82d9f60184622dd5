/-! The table of methods: y names, c codes, n locals, r what is returned, f frames, lo locals' words, pc places of instructions, v variants, ix places in the pool, w words, P instructions. -/
/-- the instruction as it stands in the code, and its length -/
def amRaw (pcs : Nat → Nat) (i vr ix : Nat) (op : Instr) : Instr × Nat := match op with
  | .iconst v => (match vr with
    | 0 => (.iconst v, 1)
    | 1 => (.bipush v, 2)
    | 2 => (.sipush v, 3)
    | 3 => (.ldc ix, 2)
    | _ => (.ldc_w ix, 3))
  | .sipush _ => (match vr with
    | 0 => (.lconst 0, 1)
    | 1 => (.lconst 1, 1)
    | _ => (.ldc2_w ix, 3))
  | .iload j => if vr = 0 then (.iload j, 2) else (.iload_n (Fin.ofNat 4 j), 1)
  | .lload j => if vr = 0 then (.lload j, 2) else (.lload_n (Fin.ofNat 4 j), 1)
  | .aload j => if vr = 0 then (.aload j, 2) else (.aload_n (Fin.ofNat 4 j), 1)
  | .istore j => if vr = 0 then (.istore j, 2) else (.istore_n (Fin.ofNat 4 j), 1)
  | .lstore j => if vr = 0 then (.lstore j, 2) else (.lstore_n (Fin.ofNat 4 j), 1)
  | .astore j => if vr = 0 then (.astore j, 2) else (.astore_n (Fin.ofNat 4 j), 1)
  | .iinc j n => (.iinc j n, 3)
  | .goto t => (.goto ((pcs t.toNat : Int) - (pcs i : Int)), 3)
  | .ifCond c t => (.ifCond c ((pcs t.toNat : Int) - (pcs i : Int)), 3)
  | .if_icmp c t => (.if_icmp c ((pcs t.toNat : Int) - (pcs i : Int)), 3)
  | .tableswitch d lo hi os => (.tableswitch ((pcs d.toNat : Int) - (pcs i : Int)) lo hi (os.map (fun t => (pcs t.toNat : Int) - (pcs i : Int))), ix)
  | .lookupswitch d ps => (.lookupswitch ((pcs d.toNat : Int) - (pcs i : Int)) (ps.map (fun q => (q.1, (pcs q.2.toNat : Int) - (pcs i : Int)))), ix)
  | .getfield _ => (.getfield ix, 3)
  | .putfield _ => (.putfield ix, 3)
  | .putstatic _ => (.putfield ix, 3)
  | .new _ => (.new ix, 3)
  | .newarray t => (.newarray t, 2)
  | .anewarray _ => (.anewarray ix, 3)
  | .i2c => (.ireturn, 1)
  | .jsr _ => (.new ix, 3)
  | .invokevirtual _ => (.invokevirtual ix, 3)
  | .invokestatic _ => (.invokestatic ix, 3)
  | .invokespecial _ => (.invokespecial ix, 3)
  | .monitorenter => (.invokespecial ix, 3)
  | .monitorexit => (.invokestatic ix, 3)
  | .f2i => (.invokestatic ix, 3)
  | .f2l => (.invokestatic ix, 3)
  | .getstatic _ => (.getstatic ix, 3)
  | .ldc _ => (.ldc ix, 2)
  | .d2i => (.invokevirtual ix, 3)
  | .d2l => (.invokevirtual ix, 3)
  | op => (op, 1)
def amFl (own : String) (vr ix ci j : Nat) : Cond := if vr = 0 then .fieldLink own ix (amTX ci j).1 (amTX ci j).2.1 (amTX ci j).2.2.1 else .fieldLinkNest own ix (amTX ci j).1 (amTX ci j).2.1 (amTX ci j).2.2.1 "BulkWriter"
/-- the words that an instruction wants -/
def amWd (y : Nat → MethodName) (own : String) (vr ix : Nat) (op : Instr) : List Cond := match op with
  | .iconst v => if vr ≤ 2 then [] else [.constant own ix (Int32.ofInt v)]
  | .sipush v => if vr ≤ 1 then [] else [.constantLong own ix (Int64.ofInt v)]
  | .getfield c => [amFl own vr ix (c / 1000) (c % 1000 / 10)]
  | .putfield c => [amFl own vr ix (c / 1000) (c % 1000 / 10)]
  | .putstatic c => [amFl own vr ix (c / 1000) (c % 1000 / 10)]
  | .new c => [.classLink own ix (amRX c), .instantiable (amRX c) (amNf c), .initialized (amRX c)]
  | .newarray t => [.arrayClass (newarray.typeOf t)]
  | .anewarray c => [.classLink own ix (if c = 14 then RX5 else RX8)]
  | .monitorenter => [.methodLink own ix Lib.objectInit, .instanceMethod Lib.objectInit, .code Lib.objectInit ⟨#[0xb1]⟩ 1 none]
  | .monitorexit => [.methodLink own ix arraycopyName, .native arraycopyName, .static arraycopyName, .initialized "java/lang/System"]
  | .invokevirtual k => [.methodLink own ix (y k)]
  | .invokestatic k => [.methodLink own ix (y k)]
  | .invokespecial k => [if vr = 0 then .methodLink own ix (y k) else .methodLinkNest own ix (y k) "BulkWriter"]
  | .f2i => [.methodLink own ix Lib.Math.min.name, .static Lib.Math.min.name, .initialized "java/lang/Math", .code Lib.Math.min.name Lib.Math.min.code 2 (some .int)]
  | .f2l => [.methodLink own ix Lib.Math.max.name, .static Lib.Math.max.name, .initialized "java/lang/Math", .code Lib.Math.max.name Lib.Math.max.code 2 (some .int)]
  | .getstatic _ => [.fieldLink own ix RX10 "KNOWN" "[B"]
  | _ => []
/-- what else must hold -/
def amSd (f lo n : Nat → Nat) (r : Nat → Option FieldType) (kd : Nat → Nat) (y : Nat → MethodName) (k vr : Nat) (op : Instr) (raw : Instr) : Bool := match op with
  | .iconst v => (match vr with
    | 1 => decide ((Int8.ofInt v).toInt32 = Int32.ofInt v)
    | 2 => decide ((Int16.ofInt v).toInt32 = Int32.ofInt v)
    | _ => true)
  | .sipush v => (match vr with
    | 0 => decide (v = 0)
    | 1 => decide (v = 1)
    | _ => true)
  | .iload j => decide (vr = 0 ∨ j < 4)
  | .lload j => decide (vr = 0 ∨ j < 4)
  | .aload j => decide (vr = 0 ∨ j < 4)
  | .istore j => decide (vr = 0 ∨ j < 4) && decide (j < n k)
  | .lstore j => decide (vr = 0 ∨ j < 4) && decide (j + 1 < n k)
  | .astore j => decide (vr = 0 ∨ j < 4) && decide (j < n k)
  | .iinc j _ => decide (j < n k)
  | .lookupswitch _ _ => (match raw with
    | .lookupswitch _ ps => (ps.toList.zip (ps.toList.drop 1)).all (fun (a, next) => a.1 < next.1)
    | _ => false)
  | .getfield c => decide (c / 1000 < 11) && decide (c % 1000 / 10 < amNf (c / 1000)) && decide (amW (amT (c / 1000) (c % 1000 / 10)) = c % 10)
  | .putfield c => decide (c / 1000 < 11) && decide (c % 1000 / 10 < amNf (c / 1000)) && decide (amW (amT (c / 1000) (c % 1000 / 10)) = c % 10) && decide (c % 10 = 0 → amT (c / 1000) (c % 1000 / 10) = .int) && decide ((amTX (c / 1000) (c % 1000 / 10)).2.2.2 = false ∨ (vr = 0 ∧ (y k).name = "<init>" ∧ (amTX (c / 1000) (c % 1000 / 10)).1 = (y k).cls))
  | .putstatic c => decide (c / 1000 < 11) && decide (c % 1000 / 10 < amNf (c / 1000)) && decide (c % 10 = 0) && decide (amT (c / 1000) (c % 1000 / 10) = .boolean) && decide ((amTX (c / 1000) (c % 1000 / 10)).2.2.2 = false)
  | .new c => decide (c < 11)
  | .ireturn => decide (r k = some .int)
  | .i2c => decide (r k = some .boolean)
  | .lreturn => decide (r k = some .long)
  | .areturn => (match r k with
    | some (.object _) => true
    | _ => false)
  | .return_ => decide (r k = none)
  | .monitorenter => decide (1 ≤ f k) && decide (20 ≤ lo k)
  | .monitorexit => decide (1 ≤ f k) && decide (8 + (nativeFrameWords "java/lang/System" "arraycopy" 5 + 11) ≤ lo k)
  | .f2i => decide (1 ≤ f k) && decide (21 ≤ lo k)
  | .f2l => decide (1 ≤ f k) && decide (21 ≤ lo k)
  | .invokevirtual k' => decide (kd k' = 0) && decide (f k' + 1 ≤ f k) && decide (8 + (n k' + 11) + lo k' ≤ lo k)
  | .invokestatic k' => decide (kd k' = 1) && decide (f k' + 1 ≤ f k) && decide (8 + (n k' + 11) + lo k' ≤ lo k)
  | .invokespecial k' => decide (kd k' = 2) && decide (f k' + 1 ≤ f k) && decide (8 + (n k' + 11) + lo k' ≤ lo k)
  | _ => true
def amOk (y : Nat → MethodName) (c : Nat → ByteArray) (n : Nat → Nat) (r : Nat → Option FieldType) (f lo kd : Nat → Nat) (pcs v ix : Nat → Nat → Nat) (w : Nat → Nat → List Cond) (k i : Nat) (op : Instr) : Bool :=
  decide (decode (c k) (pcs k i) = .ok (amRaw (pcs k) i (v k i) (ix k i) op)) && (decide (w k i = amWd y (y k).cls (v k i) (ix k i) op) && (amSd f lo n r kd y k (v k i) op (amRaw (pcs k) i (v k i) (ix k i) op).1 && decide (pcs k (i + 1) = pcs k i + (amRaw (pcs k) i (v k i) (ix k i) op).2)))
theorem amStep_grow {na : Nat → Nat × Nat × Nat} {x : Bool} {op : Instr} {i i' : Nat} {l l' : AmL} {st st' : List Value} {M M' : AmM} (h : amStep na x op i l st M = some (.inl (i', l', st', M'))) : mZ M ≤ mZ M' ∧ mS M ≤ mS M' := by
  have key : ∀ {a : Option AmS}, (∀ q, a = some (.inl q) → mZ M ≤ mZ q.2.2.2 ∧ mS M ≤ mS q.2.2.2) → a = some (.inl (i', l', st', M')) → mZ M ≤ mZ M' ∧ mS M ≤ mS M' := fun h1 h2 => h1 _ h2
  refine key ?_ h
  intro q hq
  clear h key
  cases op <;> simp only [amStep, amIf, amGo] at hq <;> (repeat' split at hq) <;> first
    | (cases hq; done)
    | (cases hq; exact ⟨Nat.le_refl _, Nat.le_refl _⟩)
    | (cases hq; exact ⟨Nat.le_succ _, Nat.le_add_right _ _⟩)
theorem amRun_grow {P : Nat → Nat → Option Instr} {na : Nat → Nat × Nat × Nat} {x : Bool} : ∀ {n k i : Nat} {l : AmL} {st : List Value} {M : AmM} {o : AmO} {M' : AmM}, amRun P na x n k i l st M = some (o, M') → mZ M ≤ mZ M' ∧ mS M ≤ mS M' := by
  intro n
  induction n with
  | zero => intro k i l st M o M' h; simp [amRun] at h
  | succ n ih =>
    intro k i l st M o M' h
    unfold amRun at h
    cases hP : P k i with
    | none => rw [hP] at h; simp at h
    | some op =>
      rw [hP] at h
      dsimp only at h
      cases hS : amStep na x op i l st M with
      | none => rw [hS] at h; simp at h
      | some a =>
        rw [hS] at h
        rcases a with ⟨i', l', st', M1⟩ | o1 | ⟨k', av, rest⟩
        · dsimp only at h
          have h1 := amStep_grow hS
          have h2 := ih h
          omega
        · cases h
          exact ⟨Nat.le_refl _, Nat.le_refl _⟩
        · dsimp only at h
          cases hC : amRun P na x n k' 0 (lv_args 0 av) [] M with
          | none => rw [hC] at h; simp at h
          | some q =>
            rw [hC] at h
            obtain ⟨o1, M1⟩ := q
            have h1 := ih hC
            rcases o1 with v | e
            · dsimp only at h
              have h2 := ih h
              omega
            · cases h
              exact h1
