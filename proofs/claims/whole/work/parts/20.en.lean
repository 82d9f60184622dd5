/-! Rows of amEnds over the table: an instruction each. -/
def En (x : Bool) (k i : Nat) (l : AmL) (st : List Value) (M : AmM) (o : AmO) (M' : AmM) : Prop := amEnds aP aA x k i l st M o M'
section EnRows
variable {x : Bool} {k i : Nat} {l : AmL} {st : List Value} {M : AmM} {o : AmO} {M' : AmM}
theorem en_go {op : Instr} {i' : Nat} {l' : AmL} {st' : List Value} {M1 : AmM} (hf : aP k i = some op) (hs : amStep aA x op i l st M = some (.inl (i', l', st', M1))) (h : En x k i' l' st' M1 o M') : En x k i l st M o M' := by
  obtain ⟨n, hn⟩ := h
  refine ⟨n + 1, ?_⟩
  unfold amRun
  rw [hf]
  dsimp only
  rw [hs]
  exact hn
theorem en_end {op : Instr} (hf : aP k i = some op) (hs : amStep aA x op i l st M = some (.inr (.inl o))) : En x k i l st M o M := by
  refine ⟨1, ?_⟩
  unfold amRun
  rw [hf]
  dsimp only
  rw [hs]
theorem en_call {op : Instr} {k' : Nat} {av rest : List Value} {v : Option Value} {M1 : AmM} (hf : aP k i = some op) (hs : amStep aA x op i l st M = some (.inr (.inr (k', av, rest)))) (hc : En x k' 0 (lv_args 0 av) [] M (.inl v) M1) (h : En x k (i + 1) l (v.toList ++ rest) M1 o M') : En x k i l st M o M' := by
  obtain ⟨n, hn⟩ := h
  obtain ⟨m, hm⟩ := hc
  refine ⟨n + m + 1, ?_⟩
  unfold amRun
  rw [hf]
  dsimp only
  rw [hs]
  dsimp only
  rw [amRun_mono hm (Nat.le_add_left m n)]
  exact amRun_mono hn (Nat.le_add_right n m)
theorem en_callx {op : Instr} {k' : Nat} {av rest : List Value} {e : Nat} {M1 : AmM} (hf : aP k i = some op) (hs : amStep aA x op i l st M = some (.inr (.inr (k', av, rest)))) (hc : En x k' 0 (lv_args 0 av) [] M (.inr e) M1) : En x k i l st M (.inr e) M1 := by
  obtain ⟨m, hm⟩ := hc
  refine ⟨m + 1, ?_⟩
  unfold amRun
  rw [hf]
  dsimp only
  rw [hs]
  dsimp only
  rw [hm]
theorem gd {α : Type} {c : Prop} [Decidable c] {a : Option α} {r : α} (h : (if c then a else none) = some r) : c ∧ a = some r := by
  by_cases hc : c
  · rw [if_pos hc] at h
    exact ⟨hc, h⟩
  · rw [if_neg hc] at h
    cases h
theorem gi {α : Type} {c : Prop} [Decidable c] {a b : Option α} {r : α} (h : (if c then a else b) = some r) : (c ∧ a = some r) ∨ (¬ c ∧ b = some r) := by
  by_cases hc : c
  · rw [if_pos hc] at h
    exact Or.inl ⟨hc, h⟩
  · rw [if_neg hc] at h
    exact Or.inr ⟨hc, h⟩
theorem gb {α β : Type} {a : Option α} {f : α → Option β} {r : β} (h : a.bind f = some r) : ∃ q, a = some q ∧ f q = some r := by
  cases a with
  | none => cases h
  | some q => exact ⟨q, rfl, h⟩
theorem en_iconst {n : Int} (hf : aP k i = some (.iconst n)) (h : En x k (i + 1) (l) (.int (Int32.ofInt n) :: st) (M) o M') : En x k i l (st) M o M' := en_go hf rfl h
theorem en_lconst {n : Int} (hf : aP k i = some (.sipush n)) (h : En x k (i + 1) (l) (.long (Int64.ofInt n) :: st) (M) o M') : En x k i l (st) M o M' := en_go hf rfl h
theorem en_iload {j : Nat} {v : Int32} (hv : amL l j = some (.int v)) (hf : aP k i = some (.iload j)) (h : En x k (i + 1) (l) (.int v :: st) (M) o M') : En x k i l (st) M o M' := en_go hf (by simp only [amStep, hv]; rfl) h
theorem en_istore {j : Nat} {v : Int32} {l' : AmL} (hl : st1 j (.int v) l = l') (hf : aP k i = some (.istore j)) (h : En x k (i + 1) l' st M o M') : En x k i l (.int v :: st) M o M' := by
  subst hl
  exact en_go hf rfl h
theorem en_lload {j : Nat} {v : Int64} (hv : amL l j = some (.long v)) (hf : aP k i = some (.lload j)) (h : En x k (i + 1) (l) (.long v :: st) (M) o M') : En x k i l (st) M o M' := en_go hf (by simp only [amStep, hv]; rfl) h
theorem en_lstore {j : Nat} {v : Int64} {l' : AmL} (hl : st2 j (.long v) l = l') (hf : aP k i = some (.lstore j)) (h : En x k (i + 1) l' st M o M') : En x k i l (.long v :: st) M o M' := by
  subst hl
  exact en_go hf rfl h
theorem en_aload {j : Nat} {v : Nat} (hv : amL l j = some (.ref v)) (hf : aP k i = some (.aload j)) (h : En x k (i + 1) (l) (.ref v :: st) (M) o M') : En x k i l (st) M o M' := en_go hf (by simp only [amStep, hv]; rfl) h
theorem en_astore {j : Nat} {v : Nat} {l' : AmL} (hl : st1 j (.ref v) l = l') (hf : aP k i = some (.astore j)) (h : En x k (i + 1) l' st M o M') : En x k i l (.ref v :: st) M o M' := by
  subst hl
  exact en_go hf rfl h
theorem en_iinc {j : Nat} {n : Int} {v : Int32} {l' : AmL} (hv : amL l j = some (.int v)) (hl : st1 j (.int (v + Int32.ofInt n)) l = l') (hf : aP k i = some (.iinc j n)) (h : En x k (i + 1) l' st M o M') : En x k i l st M o M' := by
  subst hl
  exact en_go hf (by simp only [amStep, hv]; rfl) h
theorem en_iadd {a b : Int32} (hf : aP k i = some .iadd) (h : En x k (i + 1) (l) (.int (a + b) :: st) (M) o M') : En x k i l (.int b :: .int a :: st) M o M' := en_go hf rfl h
theorem en_isub {a b : Int32} (hf : aP k i = some .isub) (h : En x k (i + 1) (l) (.int (a - b) :: st) (M) o M') : En x k i l (.int b :: .int a :: st) M o M' := en_go hf rfl h
theorem en_imul {a b : Int32} (hf : aP k i = some .imul) (h : En x k (i + 1) (l) (.int (a * b) :: st) (M) o M') : En x k i l (.int b :: .int a :: st) M o M' := en_go hf rfl h
theorem en_iand {a b : Int32} (hf : aP k i = some .iand) (h : En x k (i + 1) (l) (.int (a &&& b) :: st) (M) o M') : En x k i l (.int b :: .int a :: st) M o M' := en_go hf rfl h
theorem en_ior {a b : Int32} (hf : aP k i = some .ior) (h : En x k (i + 1) (l) (.int (a ||| b) :: st) (M) o M') : En x k i l (.int b :: .int a :: st) M o M' := en_go hf rfl h
theorem en_ixor {a b : Int32} (hf : aP k i = some .ixor) (h : En x k (i + 1) (l) (.int (a ^^^ b) :: st) (M) o M') : En x k i l (.int b :: .int a :: st) M o M' := en_go hf rfl h
theorem en_ishl {a b : Int32} (hf : aP k i = some .ishl) (h : En x k (i + 1) (l) (.int (a <<< (b &&& 31)) :: st) (M) o M') : En x k i l (.int b :: .int a :: st) M o M' := en_go hf rfl h
theorem en_ishr {a b : Int32} (hf : aP k i = some .ishr) (h : En x k (i + 1) (l) (.int (a >>> (b &&& 31)) :: st) (M) o M') : En x k i l (.int b :: .int a :: st) M o M' := en_go hf rfl h
theorem en_iushr {a b : Int32} (hf : aP k i = some .iushr) (h : En x k (i + 1) (l) (.int ((a.toUInt32 >>> (b.toUInt32 &&& Int32.toUInt32 31)).toInt32) :: st) (M) o M') : En x k i l (.int b :: .int a :: st) M o M' := en_go hf rfl h
theorem en_idiv {a b : Int32} (h0 : ¬ b = 0) (hf : aP k i = some .idiv) (h : En x k (i + 1) (l) (.int (a / b) :: st) (M) o M') : En x k i l (.int b :: .int a :: st) M o M' := en_go hf (if_neg h0) h
theorem en_irem {a b : Int32} (h0 : ¬ b = 0) (hf : aP k i = some .irem) (h : En x k (i + 1) (l) (.int (a - a / b * b) :: st) (M) o M') : En x k i l (.int b :: .int a :: st) M o M' := en_go hf (if_neg h0) h
theorem en_ladd {a b : Int64} (hf : aP k i = some .ladd) (h : En x k (i + 1) (l) (.long (a + b) :: st) (M) o M') : En x k i l (.long b :: .long a :: st) M o M' := en_go hf rfl h
theorem en_lmul {a b : Int64} (hf : aP k i = some .lmul) (h : En x k (i + 1) (l) (.long (a * b) :: st) (M) o M') : En x k i l (.long b :: .long a :: st) M o M' := en_go hf rfl h
theorem en_land {a b : Int64} (hf : aP k i = some .land) (h : En x k (i + 1) (l) (.long (a &&& b) :: st) (M) o M') : En x k i l (.long b :: .long a :: st) M o M' := en_go hf rfl h
theorem en_lor {a b : Int64} (hf : aP k i = some .lor) (h : En x k (i + 1) (l) (.long (a ||| b) :: st) (M) o M') : En x k i l (.long b :: .long a :: st) M o M' := en_go hf rfl h
theorem en_lshl {a : Int64} {b : Int32} (hf : aP k i = some .lshl) (h : En x k (i + 1) (l) (.long (a <<< (b.toInt64 &&& 63)) :: st) (M) o M') : En x k i l (.int b :: .long a :: st) M o M' := en_go hf rfl h
theorem en_lushr {a : Int64} {b : Int32} (hf : aP k i = some .lushr) (h : En x k (i + 1) (l) (.long (a.toUInt64 >>> (b.toInt64.toUInt64 &&& Int64.toUInt64 63)).toInt64 :: st) (M) o M') : En x k i l (.int b :: .long a :: st) M o M' := en_go hf rfl h
theorem en_ineg {a : Int32} (hf : aP k i = some .ineg) (h : En x k (i + 1) (l) (.int (-a) :: st) (M) o M') : En x k i l (.int a :: st) M o M' := en_go hf rfl h
theorem en_lneg {a : Int64} (hf : aP k i = some .lneg) (h : En x k (i + 1) (l) (.long (-a) :: st) (M) o M') : En x k i l (.long a :: st) M o M' := en_go hf rfl h
theorem en_i2l {a : Int32} (hf : aP k i = some .i2l) (h : En x k (i + 1) (l) (.long a.toInt64 :: st) (M) o M') : En x k i l (.int a :: st) M o M' := en_go hf rfl h
theorem en_i2b {a : Int32} (hf : aP k i = some .i2b) (h : En x k (i + 1) (l) (.int a.toInt8.toInt32 :: st) (M) o M') : En x k i l (.int a :: st) M o M' := en_go hf rfl h
theorem en_lcmp {a b : Int64} (hf : aP k i = some .lcmp) (h : En x k (i + 1) (l) (.int (lg_cmp a b) :: st) (M) o M') : En x k i l (.long b :: .long a :: st) M o M' := en_go hf rfl h
theorem en_dup {a : Value} (ha : a.category = 1) (hf : aP k i = some .dup) (h : En x k (i + 1) (l) (a :: a :: st) (M) o M') : En x k i l (a :: st) M o M' := en_go hf (if_pos ha) h
theorem en_pop {a : Value} (ha : a.category = 1) (hf : aP k i = some .pop) (h : En x k (i + 1) (l) (st) (M) o M') : En x k i l (a :: st) M o M' := en_go hf (if_pos ha) h
theorem en_dup_x1 {a b : Value} (ha : a.category = 1 ∧ b.category = 1) (hf : aP k i = some .dup_x1) (h : En x k (i + 1) (l) (a :: b :: a :: st) (M) o M') : En x k i l (a :: b :: st) M o M' := en_go hf (if_pos ha) h
theorem en_dup_x2 {a b d : Value} (ha : a.category = 1 ∧ b.category = 1 ∧ d.category = 1) (hf : aP k i = some .dup_x2) (h : En x k (i + 1) (l) (a :: b :: d :: a :: st) (M) o M') : En x k i l (a :: b :: d :: st) M o M' := en_go hf (if_pos ha) h
theorem en_dup2 {a b : Value} (ha : a.category = 1 ∧ b.category = 1) (hf : aP k i = some .dup2) (h : En x k (i + 1) (l) (a :: b :: a :: b :: st) (M) o M') : En x k i l (a :: b :: st) M o M' := en_go hf (if_pos ha) h
theorem en_goto {t : Int} (hf : aP k i = some (.goto t)) (h : En x k (t.toNat) (l) (st) (M) o M') : En x k i l (st) M o M' := en_go hf rfl h
theorem en_if_eq_t {t : Int} {a : Int32} (hc : a = 0) (hf : aP k i = some (.ifCond .eq t)) (h : En x k (t.toNat) (l) (st) (M) o M') : En x k i l (.int a :: st) M o M' := en_go hf (if_pos hc) h
theorem en_if_eq_f {t : Int} {a : Int32} (hc : ¬ (a = 0)) (hf : aP k i = some (.ifCond .eq t)) (h : En x k (i + 1) (l) (st) (M) o M') : En x k i l (.int a :: st) M o M' := en_go hf (if_neg hc) h
theorem en_icmp_eq_t {t : Int} {a b : Int32} (hc : a = b) (hf : aP k i = some (.if_icmp .eq t)) (h : En x k (t.toNat) (l) (st) (M) o M') : En x k i l (.int b :: .int a :: st) M o M' := en_go hf (if_pos hc) h
theorem en_icmp_eq_f {t : Int} {a b : Int32} (hc : ¬ (a = b)) (hf : aP k i = some (.if_icmp .eq t)) (h : En x k (i + 1) (l) (st) (M) o M') : En x k i l (.int b :: .int a :: st) M o M' := en_go hf (if_neg hc) h
theorem en_if_ne_t {t : Int} {a : Int32} (hc : ¬ a = 0) (hf : aP k i = some (.ifCond .ne t)) (h : En x k (t.toNat) (l) (st) (M) o M') : En x k i l (.int a :: st) M o M' := en_go hf (if_pos hc) h
theorem en_if_ne_f {t : Int} {a : Int32} (hc : ¬ (¬ a = 0)) (hf : aP k i = some (.ifCond .ne t)) (h : En x k (i + 1) (l) (st) (M) o M') : En x k i l (.int a :: st) M o M' := en_go hf (if_neg hc) h
theorem en_icmp_ne_t {t : Int} {a b : Int32} (hc : ¬ a = b) (hf : aP k i = some (.if_icmp .ne t)) (h : En x k (t.toNat) (l) (st) (M) o M') : En x k i l (.int b :: .int a :: st) M o M' := en_go hf (if_pos hc) h
theorem en_icmp_ne_f {t : Int} {a b : Int32} (hc : ¬ (¬ a = b)) (hf : aP k i = some (.if_icmp .ne t)) (h : En x k (i + 1) (l) (st) (M) o M') : En x k i l (.int b :: .int a :: st) M o M' := en_go hf (if_neg hc) h
theorem en_if_lt_t {t : Int} {a : Int32} (hc : a < 0) (hf : aP k i = some (.ifCond .lt t)) (h : En x k (t.toNat) (l) (st) (M) o M') : En x k i l (.int a :: st) M o M' := en_go hf (if_pos hc) h
theorem en_if_lt_f {t : Int} {a : Int32} (hc : ¬ (a < 0)) (hf : aP k i = some (.ifCond .lt t)) (h : En x k (i + 1) (l) (st) (M) o M') : En x k i l (.int a :: st) M o M' := en_go hf (if_neg hc) h
theorem en_icmp_lt_t {t : Int} {a b : Int32} (hc : a < b) (hf : aP k i = some (.if_icmp .lt t)) (h : En x k (t.toNat) (l) (st) (M) o M') : En x k i l (.int b :: .int a :: st) M o M' := en_go hf (if_pos hc) h
theorem en_icmp_lt_f {t : Int} {a b : Int32} (hc : ¬ (a < b)) (hf : aP k i = some (.if_icmp .lt t)) (h : En x k (i + 1) (l) (st) (M) o M') : En x k i l (.int b :: .int a :: st) M o M' := en_go hf (if_neg hc) h
theorem en_if_ge_t {t : Int} {a : Int32} (hc : 0 ≤ a) (hf : aP k i = some (.ifCond .ge t)) (h : En x k (t.toNat) (l) (st) (M) o M') : En x k i l (.int a :: st) M o M' := en_go hf (if_pos hc) h
theorem en_if_ge_f {t : Int} {a : Int32} (hc : ¬ (0 ≤ a)) (hf : aP k i = some (.ifCond .ge t)) (h : En x k (i + 1) (l) (st) (M) o M') : En x k i l (.int a :: st) M o M' := en_go hf (if_neg hc) h
theorem en_icmp_ge_t {t : Int} {a b : Int32} (hc : b ≤ a) (hf : aP k i = some (.if_icmp .ge t)) (h : En x k (t.toNat) (l) (st) (M) o M') : En x k i l (.int b :: .int a :: st) M o M' := en_go hf (if_pos hc) h
theorem en_icmp_ge_f {t : Int} {a b : Int32} (hc : ¬ (b ≤ a)) (hf : aP k i = some (.if_icmp .ge t)) (h : En x k (i + 1) (l) (st) (M) o M') : En x k i l (.int b :: .int a :: st) M o M' := en_go hf (if_neg hc) h
theorem en_if_gt_t {t : Int} {a : Int32} (hc : 0 < a) (hf : aP k i = some (.ifCond .gt t)) (h : En x k (t.toNat) (l) (st) (M) o M') : En x k i l (.int a :: st) M o M' := en_go hf (if_pos hc) h
theorem en_if_gt_f {t : Int} {a : Int32} (hc : ¬ (0 < a)) (hf : aP k i = some (.ifCond .gt t)) (h : En x k (i + 1) (l) (st) (M) o M') : En x k i l (.int a :: st) M o M' := en_go hf (if_neg hc) h
theorem en_icmp_gt_t {t : Int} {a b : Int32} (hc : b < a) (hf : aP k i = some (.if_icmp .gt t)) (h : En x k (t.toNat) (l) (st) (M) o M') : En x k i l (.int b :: .int a :: st) M o M' := en_go hf (if_pos hc) h
theorem en_icmp_gt_f {t : Int} {a b : Int32} (hc : ¬ (b < a)) (hf : aP k i = some (.if_icmp .gt t)) (h : En x k (i + 1) (l) (st) (M) o M') : En x k i l (.int b :: .int a :: st) M o M' := en_go hf (if_neg hc) h
theorem en_if_le_t {t : Int} {a : Int32} (hc : a ≤ 0) (hf : aP k i = some (.ifCond .le t)) (h : En x k (t.toNat) (l) (st) (M) o M') : En x k i l (.int a :: st) M o M' := en_go hf (if_pos hc) h
theorem en_if_le_f {t : Int} {a : Int32} (hc : ¬ (a ≤ 0)) (hf : aP k i = some (.ifCond .le t)) (h : En x k (i + 1) (l) (st) (M) o M') : En x k i l (.int a :: st) M o M' := en_go hf (if_neg hc) h
theorem en_icmp_le_t {t : Int} {a b : Int32} (hc : a ≤ b) (hf : aP k i = some (.if_icmp .le t)) (h : En x k (t.toNat) (l) (st) (M) o M') : En x k i l (.int b :: .int a :: st) M o M' := en_go hf (if_pos hc) h
theorem en_icmp_le_f {t : Int} {a b : Int32} (hc : ¬ (a ≤ b)) (hf : aP k i = some (.if_icmp .le t)) (h : En x k (i + 1) (l) (st) (M) o M') : En x k i l (.int b :: .int a :: st) M o M' := en_go hf (if_neg hc) h
theorem en_tab_o {d lo hi : Int} {os : Array Int} {a : Int32} (hc : a.toInt < lo ∨ hi < a.toInt) (hf : aP k i = some (.tableswitch d lo hi os)) (h : En x k d.toNat l st M o M') : En x k i l (.int a :: st) M o M' := en_go hf (if_pos hc) h
theorem en_tab_i {d lo hi t : Int} {os : Array Int} {a : Int32} (hc : ¬ (a.toInt < lo ∨ hi < a.toInt)) (ht : os[(a.toInt - lo).toNat]? = some t) (hf : aP k i = some (.tableswitch d lo hi os)) (h : En x k t.toNat l st M o M') : En x k i l (.int a :: st) M o M' := en_go hf (by simp only [amStep]; rw [if_neg hc, ht]; rfl) h
theorem en_look {d t : Int} {ps : Array (Int × Int)} {a : Int32} (ht : Op.lookupswitch.offset ps.toList d a.toInt = t) (hf : aP k i = some (.lookupswitch d ps)) (h : En x k t.toNat l st M o M') : En x k i l (.int a :: st) M o M' := by
  subst ht
  exact en_go hf rfl h
theorem en_getI {a c ci j : Nat} (e0 : c / 1000 = ci) (e1 : c % 1000 / 10 = j) (e2 : c % 10 = 0) (hc : a < mZ M ∧ mK M a = ci) (hf : aP k i = some (.getfield c)) (h : En x k (i + 1) (l) (.int (mI M a j) :: st) (M) o M') : En x k i l (.ref a :: st) M o M' := en_go hf (by subst e0; subst e1; simp only [amStep]; rw [if_pos hc, e2]; rfl) h
theorem en_getJ {a c ci j : Nat} (e0 : c / 1000 = ci) (e1 : c % 1000 / 10 = j) (e2 : c % 10 = 1) (hc : a < mZ M ∧ mK M a = ci) (hf : aP k i = some (.getfield c)) (h : En x k (i + 1) (l) (.long (mJ M a j) :: st) (M) o M') : En x k i l (.ref a :: st) M o M' := en_go hf (by subst e0; subst e1; simp only [amStep]; rw [if_pos hc, e2]; rfl) h
theorem en_getP {a c ci j q : Nat} (e0 : c / 1000 = ci) (e1 : c % 1000 / 10 = j) (e2 : c % 10 = 2) (hc : a < mZ M ∧ mK M a = ci) (hq : mP M a j = some q) (hf : aP k i = some (.getfield c)) (h : En x k (i + 1) (l) (.ref q :: st) (M) o M') : En x k i l (.ref a :: st) M o M' := en_go hf (by subst e0; subst e1; simp only [amStep]; rw [if_pos hc, e2]; simp only [hq]; rfl) h
theorem en_putI {a c ci j : Nat} {v : Int32} (e0 : c / 1000 = ci) (e1 : c % 1000 / 10 = j) (e2 : c % 10 = 0) (hc : a < mZ M ∧ mK M a = ci) (hf : aP k i = some (.putfield c)) (h : En x k (i + 1) (l) (st) (wI M a j v) o M') : En x k i l (.int v :: .ref a :: st) M o M' := en_go hf (by subst e0; subst e1; simp only [amStep]; rw [if_pos ⟨hc.1, hc.2, e2⟩]; rfl) h
theorem en_putZ {a c ci j : Nat} {v : Int32} (e0 : c / 1000 = ci) (e1 : c % 1000 / 10 = j) (e2 : c % 10 = 0) (hc : a < mZ M ∧ mK M a = ci) (hv : v = 0 ∨ v = 1) (hf : aP k i = some (.putstatic c)) (h : En x k (i + 1) (l) (st) (wI M a j v) o M') : En x k i l (.int v :: .ref a :: st) M o M' := en_go hf (by subst e0; subst e1; simp only [amStep]; rw [if_pos ⟨hc.1, hc.2, e2, hv⟩]; rfl) h
theorem en_putJ {a c ci j : Nat} {v : Int64} (e0 : c / 1000 = ci) (e1 : c % 1000 / 10 = j) (e2 : c % 10 = 1) (hc : a < mZ M ∧ mK M a = ci) (hf : aP k i = some (.putfield c)) (h : En x k (i + 1) (l) (st) (wJ M a j v) o M') : En x k i l (.long v :: .ref a :: st) M o M' := en_go hf (by subst e0; subst e1; simp only [amStep]; rw [if_pos ⟨hc.1, hc.2, e2⟩]; rfl) h
theorem en_putP {a c ci j v : Nat} (e0 : c / 1000 = ci) (e1 : c % 1000 / 10 = j) (e2 : c % 10 = 2) (hc : a < mZ M ∧ mK M a = ci) (hf : aP k i = some (.putfield c)) (h : En x k (i + 1) (l) (st) (wP M a j v) o M') : En x k i l (.ref v :: .ref a :: st) M o M' := en_go hf (by subst e0; subst e1; simp only [amStep]; rw [if_pos ⟨hc.1, hc.2, e2⟩]; rfl) h
theorem en_alen {a : Nat} (hn : ¬ a = amKN) (hc : a < mZ M ∧ 11 ≤ mK M a ∧ mK M a < 16) (hf : aP k i = some .arraylength) (h : En x k (i + 1) (l) (.int (Int32.ofNat (mN M a)) :: st) (M) o M') : En x k i l (.ref a :: st) M o M' := en_go hf (by simp only [amStep]; rw [if_neg hn, if_pos hc]; rfl) h
theorem en_klen  (hf : aP k i = some .arraylength) (h : En x k (i + 1) (l) (.int 103 :: st) (M) o M') : En x k i l (.ref amKN :: st) M o M' := en_go hf (by simp only [amStep]; exact if_pos trivial) h
theorem en_iaload {a : Nat} {j : Int32} (hc : a < mZ M ∧ mK M a = 12 ∧ amIn j (mN M a) = true) (hf : aP k i = some .iaload) (h : En x k (i + 1) (l) (.int (mI M a j.toNatClampNeg) :: st) (M) o M') : En x k i l (.int j :: .ref a :: st) M o M' := en_go hf (if_pos hc) h
theorem en_baload {a : Nat} {j : Int32} (hn : ¬ (a = amKN ∧ amIn j 103 = true)) (hc : a < mZ M ∧ (mK M a = 11 ∨ mK M a = 13) ∧ amIn j (mN M a) = true) (hf : aP k i = some .baload) (h : En x k (i + 1) (l) (.int (mI M a j.toNatClampNeg) :: st) (M) o M') : En x k i l (.int j :: .ref a :: st) M o M' := en_go hf (by simp only [amStep]; rw [if_neg hn, if_pos hc]; rfl) h
theorem en_kaload {j : Int32} (hc : amIn j 103 = true) (hf : aP k i = some .baload) (h : En x k (i + 1) (l) (.int (amKw j.toNatClampNeg) :: st) (M) o M') : En x k i l (.int j :: .ref amKN :: st) M o M' := en_go hf (if_pos ⟨rfl, hc⟩) h
theorem en_aaload {a q : Nat} {j : Int32} (hc : a < mZ M ∧ (mK M a = 14 ∨ mK M a = 15) ∧ amIn j (mN M a) = true) (hq : mP M a j.toNatClampNeg = some q) (hf : aP k i = some .aaload) (h : En x k (i + 1) (l) (.ref q :: st) (M) o M') : En x k i l (.int j :: .ref a :: st) M o M' := en_go hf (by simp only [amStep]; rw [if_pos hc]; simp only [hq]; rfl) h
theorem en_iastore {a : Nat} {j v : Int32} (hc : a < mZ M ∧ mK M a = 12 ∧ amIn j (mN M a) = true) (hf : aP k i = some .iastore) (h : En x k (i + 1) (l) (st) (wI M a j.toNatClampNeg v) o M') : En x k i l (.int v :: .int j :: .ref a :: st) M o M' := en_go hf (if_pos hc) h
theorem en_bastore {a : Nat} {j v : Int32} (hc : a < mZ M ∧ mK M a = 11 ∧ amIn j (mN M a) = true) (hf : aP k i = some .bastore) (h : En x k (i + 1) (l) (st) (wI M a j.toNatClampNeg v.toInt8.toInt32) o M') : En x k i l (.int v :: .int j :: .ref a :: st) M o M' := en_go hf (if_pos hc) h
theorem en_zastore {a : Nat} {j v : Int32} (hc : a < mZ M ∧ mK M a = 13 ∧ amIn j (mN M a) = true ∧ (v = 0 ∨ v = 1)) (hf : aP k i = some .bastore) (h : En x k (i + 1) (l) (st) (wI M a j.toNatClampNeg v) o M') : En x k i l (.int v :: .int j :: .ref a :: st) M o M' := en_go hf (by simp only [amStep]; rw [if_neg (fun z => by have := z.2.1; omega), if_pos hc]; rfl) h
theorem en_aastore {a v : Nat} {j : Int32} (hc : a < mZ M ∧ v < mZ M ∧ ((mK M a = 14 ∧ mK M v = 5) ∨ (mK M a = 15 ∧ mK M v = 8)) ∧ amIn j (mN M a) = true) (hf : aP k i = some .aastore) (h : En x k (i + 1) (l) (st) (wP M a j.toNatClampNeg v) o M') : En x k i l (.ref v :: .int j :: .ref a :: st) M o M' := en_go hf (if_pos hc) h
theorem en_new {c : Nat} (hc : x = true ∧ c < 11) (hf : aP k i = some (.new c)) (h : En x k (i + 1) (l) (.ref (mZ M) :: st) (mNew M c 0 (amNf c)) o M') : En x k i l (st) M o M' := en_go hf (if_pos hc) h
theorem en_newa_byte {n : Int32} (hc : x = true ∧ ¬ n < 0 ∧ n.toNatClampNeg ≤ 100000) (hf : aP k i = some (.newarray .byte)) (h : En x k (i + 1) (l) (.ref (mZ M) :: st) (mNew M 11 n.toNatClampNeg n.toNatClampNeg) o M') : En x k i l (.int n :: st) M o M' := en_go hf (if_pos hc) h
theorem en_newa_int {n : Int32} (hc : x = true ∧ ¬ n < 0 ∧ n.toNatClampNeg ≤ 100000) (hf : aP k i = some (.newarray .int)) (h : En x k (i + 1) (l) (.ref (mZ M) :: st) (mNew M 12 n.toNatClampNeg n.toNatClampNeg) o M') : En x k i l (.int n :: st) M o M' := en_go hf (if_pos hc) h
theorem en_newa_boolean {n : Int32} (hc : x = true ∧ ¬ n < 0 ∧ n.toNatClampNeg ≤ 100000) (hf : aP k i = some (.newarray .boolean)) (h : En x k (i + 1) (l) (.ref (mZ M) :: st) (mNew M 13 n.toNatClampNeg n.toNatClampNeg) o M') : En x k i l (.int n :: st) M o M' := en_go hf (if_pos hc) h
theorem en_anew {c : Nat} {n : Int32} (hc : x = true ∧ ¬ n < 0 ∧ n.toNatClampNeg ≤ 100000 ∧ (c = 14 ∨ c = 15)) (hf : aP k i = some (.anewarray c)) (h : En x k (i + 1) (l) (.ref (mZ M) :: st) (mNew M c n.toNatClampNeg n.toNatClampNeg) o M') : En x k i l (.int n :: st) M o M' := en_go hf (if_pos hc) h
theorem en_obj {a : Nat} (hc : amCat st ≤ 8) (hf : aP k i = some .monitorenter) (h : En x k (i + 1) (l) (st) (M) o M') : En x k i l (.ref a :: st) M o M' := en_go hf (if_pos hc) h
theorem en_copy {n dp sp : Int32} {d s : Nat} (hc : s < mZ M ∧ d < mZ M ∧ mK M s = 12 ∧ mK M d = 12 ∧ ¬ sp < 0 ∧ ¬ dp < 0 ∧ ¬ n < 0 ∧ sp.toNatClampNeg + n.toNatClampNeg ≤ mN M s ∧ dp.toNatClampNeg + n.toNatClampNeg ≤ mN M d ∧ amCat st ≤ 8) (hf : aP k i = some .monitorexit) (h : En x k (i + 1) (l) (st) (wA M d (va_cpy (mI M s) (mI M d) sp.toNatClampNeg dp.toNatClampNeg n.toNatClampNeg)) o M') : En x k i l (.int n :: .int dp :: .ref d :: .int sp :: .ref s :: st) M o M' := en_go hf (if_pos hc) h
theorem en_min {a b : Int32} (hc : amCat st ≤ 8) (hf : aP k i = some .f2i) (h : En x k (i + 1) (l) (.int (if b < a then b else a) :: st) (M) o M') : En x k i l (.int b :: .int a :: st) M o M' := en_go hf (if_pos hc) h
theorem en_max {a b : Int32} (hc : amCat st ≤ 8) (hf : aP k i = some .f2l) (h : En x k (i + 1) (l) (.int (if a < b then b else a) :: st) (M) o M') : En x k i l (.int b :: .int a :: st) M o M' := en_go hf (if_pos hc) h
theorem en_known {c : Nat} (hf : aP k i = some (.getstatic c)) (h : En x k (i + 1) (l) (.ref amKN :: st) (M) o M') : En x k i l (st) M o M' := en_go hf rfl h
theorem en_lds {c : Nat} (hf : aP k i = some (.ldc c)) (h : En x k (i + 1) (l) (.ref (amKN + 1) :: st) (M) o M') : En x k i l (st) M o M' := en_go hf rfl h
theorem en_slen (hc : amCat st ≤ 8) (hf : aP k i = some .d2i) (h : En x k (i + 1) (l) (.int 95 :: st) (M) o M') : En x k i l (.ref (amKN + 1) :: st) M o M' := en_go hf (if_pos ⟨rfl, hc⟩) h
theorem en_schar {j : Int32} (hc : amIn j 95 = true) (hs : amCat st ≤ 8) (hf : aP k i = some .d2l) (h : En x k (i + 1) (l) (.int (amWc j.toNatClampNeg) :: st) (M) o M') : En x k i l (.int j :: .ref (amKN + 1) :: st) M o M' := en_go hf (if_pos ⟨rfl, hc, hs⟩) h
theorem en_iret {v : Int32} (hf : aP k i = some .ireturn) : En x k i l [.int v] M (.inl (some (.int v))) M := en_end hf rfl
theorem en_zret {v : Int32} (hv : v = 0 ∨ v = 1) (hf : aP k i = some .i2c) : En x k i l [.int v] M (.inl (some (.int v))) M := en_end hf (if_pos hv)
theorem en_lret {v : Int64} (hf : aP k i = some .lreturn) : En x k i l [.long v] M (.inl (some (.long v))) M := en_end hf rfl
theorem en_aret {v : Nat} (hf : aP k i = some .areturn) : En x k i l [.ref v] M (.inl (some (.ref v))) M := en_end hf rfl
theorem en_vret  (hf : aP k i = some .return_) : En x k i l [] M (.inl (none)) M := en_end hf rfl
theorem en_throw {n : Int} (hf : aP k i = some (.jsr n)) (hc : x = false ∧ amCat st ≤ 8) : En x k i l st M (.inr n.toNat) M := en_end hf (if_pos hc)
end EnRows
