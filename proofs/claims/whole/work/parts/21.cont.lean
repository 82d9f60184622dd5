/-! The cells as they lie behind the constructors: kinds and lengths are fixed from there on; contents alone change. -/
def aZ : Nat := 198
def aS : Nat := 46950
def aKl : List Nat := [9, 11, 6, 5, 12, 12, 12, 12, 15, 8, 12, 12, 12, 12, 12, 12, 12, 12, 8, 12, 12, 8, 12, 12, 8, 12, 12, 8, 12, 12, 8, 12, 12, 8, 12, 12, 8, 12, 12, 8, 12, 12, 6, 5, 12, 12, 12, 12, 15, 8, 12, 12, 12, 12, 12, 12, 12, 12, 8, 12, 12, 8, 12, 12, 8, 12, 12, 8, 12, 12, 8, 12, 12, 8, 12, 12, 8, 12, 12, 8, 12, 12, 7, 5, 12, 1, 12, 12, 12, 12, 12, 12, 7, 5, 12, 1, 12, 12, 12, 12, 12, 12, 4, 0, 0, 5, 12, 14, 12, 2, 12, 12, 12, 3, 5, 12, 0, 12, 12, 12, 12, 3, 5, 12, 0, 12, 12, 12, 12, 5, 12, 5, 12, 5, 12, 5, 12, 5, 12, 5, 12, 5, 12, 5, 12, 10, 12, 12, 12, 12, 12, 12, 12, 12, 12, 12, 12, 12, 12, 12, 12, 12, 12, 12, 12, 12, 12, 12, 12, 12, 12, 12, 12, 12, 12, 12, 12, 12, 12, 12, 12, 12, 12, 12, 12, 12, 12, 12, 12, 12, 12, 12, 13, 12, 12, 12, 13, 12]
def aNl : List Nat := [0, 900, 0, 0, 120, 3, 3, 40, 8, 0, 4, 4, 450, 450, 450, 451, 450, 450, 0, 4, 4, 0, 4, 4, 0, 4, 4, 0, 4, 4, 0, 4, 4, 0, 4, 4, 0, 4, 4, 0, 4, 4, 0, 0, 120, 3, 3, 40, 8, 0, 4, 4, 450, 450, 450, 451, 450, 450, 0, 4, 4, 0, 4, 4, 0, 4, 4, 0, 4, 4, 0, 4, 4, 0, 4, 4, 0, 4, 4, 0, 4, 4, 0, 0, 120, 0, 4800, 40, 8, 8, 8, 3, 0, 0, 120, 0, 4800, 40, 8, 8, 8, 3, 0, 0, 0, 0, 120, 8, 40, 0, 901, 901, 901, 0, 0, 120, 0, 40, 40, 160, 30, 0, 0, 120, 0, 40, 40, 160, 30, 0, 120, 0, 120, 0, 120, 0, 120, 0, 120, 0, 120, 0, 120, 0, 120, 0, 12500, 16, 16, 16, 6, 920, 920, 920, 640, 640, 320, 320, 320, 2, 2, 2, 2, 2, 2, 2, 2, 6, 6, 80, 16, 16, 16, 16, 16, 16, 64, 64, 900, 150, 150, 150, 200, 200, 800, 200, 30, 4, 320, 320, 1280, 4, 30, 1150, 5, 200, 200, 960]
def aKd (a : Nat) : Nat := aKl.getD a 0
def aLen (a : Nat) : Nat := aNl.getD a 0
/-- contents: ints, longs, references -/
abbrev AmC : Type := (Nat → Nat → Int32) × (Nat → Nat → Int64) × (Nat → Nat → Option Nat)
def cI (C : AmC) : Nat → Nat → Int32 := C.1
def cJ (C : AmC) : Nat → Nat → Int64 := C.2.1
def cP (C : AmC) : Nat → Nat → Option Nat := C.2.2
def uA (C : AmC) (a : Nat) (f : Nat → Int32) : AmC := (va_up (cI C) a f, cJ C, cP C)
def uI (C : AmC) (a j : Nat) (v : Int32) : AmC := uA C a (va_up (cI C a) j v)
def uJ (C : AmC) (a j : Nat) (v : Int64) : AmC := (cI C, va_up (cJ C) a (va_up (cJ C a) j v), cP C)
def uP (C : AmC) (a j q : Nat) : AmC := (cI C, cJ C, va_up (cP C) a (va_up (cP C a) j (some q)))
def mkM (C : AmC) : AmM := (aZ, aS, aKd, aLen, cI C, cJ C, cP C)
def isK (a c : Nat) : Bool := decide (a < aZ) && decide (aKd a = c)
theorem isK_p {a c : Nat} (h : isK a c = true) : a < aZ ∧ aKd a = c := by
  simpa only [isK, Bool.and_eq_true, decide_eq_true_eq] using h
theorem isK_n {a c : Nat} (h : isK a c = true) : ¬ a = amKN := by
  have := (isK_p h).1
  unfold aZ at this
  unfold amKN
  omega
/-! More locals do no harm. -/
def LFn (l : AmL) : Prop := ∀ q q', q ∈ l → q' ∈ l → q.1 = q'.1 → q = q'
def LSub (l1 l2 : AmL) : Prop := ∀ q, q ∈ l1 → q ∈ l2
theorem LSub.at {l1 l2 : AmL} (h : LSub l1 l2) (hf : LFn l2) {j : Nat} {v : Value} (hv : amL l1 j = some v) : amL l2 j = some v := by
  obtain ⟨q, hq, rfl⟩ := Option.map_eq_some_iff.mp hv
  have e1 := List.find?_some hq
  have e2 := h q (List.mem_of_find?_eq_some hq)
  have e1 : q.1 = j := by simpa using e1
  unfold amL
  cases hc : l2.find? (fun q => q.1 == j) with
  | none =>
    have := List.find?_eq_none.mp hc q e2
    simp [e1] at this
  | some r =>
    have r1 := List.find?_some hc
    have r1 : r.1 = j := by simpa using r1
    rw [hf r q (List.mem_of_find?_eq_some hc) e2 (r1.trans e1.symm)]
    rfl
theorem LSub.st1 {l1 l2 : AmL} (h : LSub l1 l2) (j : Nat) (v : Value) : LSub (st1 j v l1) (st1 j v l2) := by
  intro q hq
  rcases List.mem_cons.mp hq with rfl | hq
  · exact List.mem_cons_self
  · obtain ⟨h1, h2⟩ := List.mem_filter.mp hq
    exact List.mem_cons_of_mem _ (List.mem_filter.mpr ⟨h q h1, h2⟩)
theorem LSub.st2 {l1 l2 : AmL} (h : LSub l1 l2) (j : Nat) (v : Value) : LSub (st2 j v l1) (st2 j v l2) := by
  intro q hq
  rcases List.mem_cons.mp hq with rfl | hq
  · exact List.mem_cons_self
  · obtain ⟨h1, h2⟩ := List.mem_filter.mp hq
    exact List.mem_cons_of_mem _ (List.mem_filter.mpr ⟨h q h1, h2⟩)
theorem LFn.st1 {l : AmL} (h : LFn l) (j : Nat) (v : Value) : LFn (st1 j v l) := by
  intro q q' hq hq' e
  rcases List.mem_cons.mp hq with rfl | hq <;> rcases List.mem_cons.mp hq' with rfl | hq'
  · rfl
  · have := (List.mem_filter.mp hq').2
    simp at this
    exact absurd e.symm this.1
  · have := (List.mem_filter.mp hq).2
    simp at this
    exact absurd e this.1
  · exact h q q' (List.mem_filter.mp hq).1 (List.mem_filter.mp hq').1 e
theorem LFn.st2 {l : AmL} (h : LFn l) (j : Nat) (v : Value) : LFn (st2 j v l) := by
  intro q q' hq hq' e
  rcases List.mem_cons.mp hq with rfl | hq <;> rcases List.mem_cons.mp hq' with rfl | hq'
  · rfl
  · have := (List.mem_filter.mp hq').2
    simp at this
    exact absurd e.symm this.1
  · have := (List.mem_filter.mp hq).2
    simp at this
    exact absurd e this.1
  · exact h q q' (List.mem_filter.mp hq).1 (List.mem_filter.mp hq').1 e
/-- what a step gives when it is given more locals -/
def amMore (l2 : AmL) (a : Option AmS) (a2 : Option AmS) : Prop := match a with
  | some (.inl (i', l', st', M')) => ∃ l2', a2 = some (.inl (i', l2', st', M')) ∧ LSub l' l2' ∧ LFn l2'
  | some (.inr z) => a2 = some (.inr z)
  | none => True
theorem amStep_sub {na : Nat → Nat × Nat × Nat} {x : Bool} {op : Instr} {i : Nat} {l1 l2 : AmL} {st : List Value} {M : AmM} (h : LSub l1 l2) (hf : LFn l2) : amMore l2 (amStep na x op i l1 st M) (amStep na x op i l2 st M) := by
  cases op with
  | iload j =>
    simp only [amStep]
    split
    · rename_i v hv
      rw [h.at hf hv]
      exact ⟨l2, rfl, h, hf⟩
    · trivial
  | lload j =>
    simp only [amStep]
    split
    · rename_i v hv
      rw [h.at hf hv]
      exact ⟨l2, rfl, h, hf⟩
    · trivial
  | aload j =>
    simp only [amStep]
    split
    · rename_i v hv
      rw [h.at hf hv]
      exact ⟨l2, rfl, h, hf⟩
    · trivial
  | iinc j n =>
    simp only [amStep]
    split
    · rename_i v hv
      rw [h.at hf hv]
      exact ⟨_, rfl, h.st1 _ _, hf.st1 _ _⟩
    · trivial
  | istore j =>
    simp only [amStep]
    split
    · exact ⟨_, rfl, h.st1 _ _, hf.st1 _ _⟩
    · trivial
  | astore j =>
    simp only [amStep]
    split
    · exact ⟨_, rfl, h.st1 _ _, hf.st1 _ _⟩
    · trivial
  | lstore j =>
    simp only [amStep]
    split
    · exact ⟨_, rfl, h.st2 _ _, hf.st2 _ _⟩
    · trivial
  | _ =>
    simp only [amStep, amGo, amIf]
    (repeat' split) <;> first | exact ⟨l2, rfl, h, hf⟩ | exact rfl | trivial
theorem amRun_sub {P : Nat → Nat → Option Instr} {na : Nat → Nat × Nat × Nat} {x : Bool} : ∀ {n k i : Nat} {l1 l2 : AmL} {st : List Value} {M : AmM} {r : AmO × AmM}, LSub l1 l2 → LFn l2 → amRun P na x n k i l1 st M = some r → amRun P na x n k i l2 st M = some r := by
  intro n
  induction n with
  | zero => intro k i l1 l2 st M r _ _ h; simp [amRun] at h
  | succ n ih =>
    intro k i l1 l2 st M r hs hf h
    unfold amRun at h ⊢
    cases hP : P k i with
    | none => rw [hP] at h; simp at h
    | some op =>
      rw [hP] at h
      dsimp only at h ⊢
      have hm := amStep_sub (na := na) (x := x) (op := op) (i := i) (st := st) (M := M) hs hf
      cases hS : amStep na x op i l1 st M with
      | none => rw [hS] at h; simp at h
      | some a =>
        rw [hS] at h hm
        rcases a with ⟨i', l', st', M1⟩ | o1 | ⟨k', av, rest⟩
        · obtain ⟨l2', e, h1, h2⟩ := hm
          rw [e]
          exact ih h1 h2 h
        · have hm : amStep na x op i l2 st M = some (.inr (.inl o1)) := hm
          rw [hm]
          exact h
        · have hm : amStep na x op i l2 st M = some (.inr (.inr (k', av, rest))) := hm
          rw [hm]
          dsimp only at h ⊢
          cases hC : amRun P na x n k' 0 (lv_args 0 av) [] M with
          | none => rw [hC] at h; simp at h
          | some q =>
            rw [hC] at h
            obtain ⟨o1, M1⟩ := q
            rcases o1 with v | e
            · exact ih hs hf h
            · exact h
def ndb : List Nat → Bool
  | [] => true
  | a :: l => (l.all (fun b => !(Nat.beq b a))) && ndb l
theorem ndb_ok : ∀ {l : List Nat}, ndb l = true → l.Nodup := by
  intro l
  induction l with
  | nil => intro _; exact List.nodup_nil
  | cons a l ih =>
    intro h
    simp only [ndb, Bool.and_eq_true] at h
    refine List.nodup_cons.mpr ⟨fun hm => ?_, ih h.2⟩
    have := List.all_eq_true.mp h.1 a hm
    simp at this
/-- from fewer locals, by their places -/
theorem en_sub {x : Bool} {k i : Nat} {l1 l2 : AmL} {st : List Value} {M : AmM} {o : AmO} {M' : AmM} (ks : List Nat) (h1 : ks.filterMap (fun j => l2[j]?) = l1) (h2 : ndb (l2.map Prod.fst) = true) (h : En x k i l1 st M o M') : En x k i l2 st M o M' := by
  obtain ⟨n, hn⟩ := h
  refine ⟨n, amRun_sub ?_ ?_ hn⟩
  · intro q hq
    rw [← h1] at hq
    obtain ⟨j, -, hj⟩ := List.mem_filterMap.mp hq
    exact List.mem_of_getElem? hj
  · intro q q' hq hq' e
    obtain ⟨a, ha⟩ := List.getElem?_of_mem hq
    obtain ⟨b, hb⟩ := List.getElem?_of_mem hq'
    have ea : (l2.map Prod.fst)[a]? = some q.1 := by rw [List.getElem?_map, ha]; rfl
    have eb : (l2.map Prod.fst)[b]? = some q'.1 := by rw [List.getElem?_map, hb]; rfl
    have hab : a = b := by
      have la := (List.getElem?_eq_some_iff.mp ea).1
      refine (List.getElem?_inj la (ndb_ok h2)).mp ?_
      rw [ea, eb, e]
    subst hab
    exact Option.some.inj (ha.symm.trans hb)
/-! Rows over contents. -/
section EcRows
variable {k i : Nat} {l : AmL} {st : List Value} {C : AmC} {o : AmO} {M' : AmM}
theorem ec_iconst {n : Int} {v : Int32} (hv : Int32.ofInt n = v) (hf : aP k i = some (.iconst n)) (h : En false k (i + 1) l (.int v :: st) (mkM C) o M') : En false k i l st (mkM C) o M' := by
  subst hv
  exact en_iconst hf h
theorem ec_lconst {n : Int} {v : Int64} (hv : Int64.ofInt n = v) (hf : aP k i = some (.sipush n)) (h : En false k (i + 1) l (.long v :: st) (mkM C) o M') : En false k i l st (mkM C) o M' := by
  subst hv
  exact en_lconst hf h
theorem ec_iinc {j : Nat} {n : Int} {v w : Int32} {l' : AmL} (hv : amL l j = some (.int v)) (hw : Int32.ofInt n = w) (hl : st1 j (.int (v + w)) l = l') (hf : aP k i = some (.iinc j n)) (h : En false k (i + 1) l' st (mkM C) o M') : En false k i l st (mkM C) o M' := by
  subst hw
  exact en_iinc hv hl hf h
theorem ec_getI {a c ci j : Nat} (e : c / 1000 = ci ∧ c % 1000 / 10 = j ∧ c % 10 = 0) (hc : isK a ci = true) (hf : aP k i = some (.getfield c)) (h : En false k (i + 1) l (.int (cI C a j) :: st) (mkM C) o M') : En false k i l (.ref a :: st) (mkM C) o M' := en_getI e.1 e.2.1 e.2.2 (isK_p hc) hf h
theorem ec_getJ {a c ci j : Nat} (e : c / 1000 = ci ∧ c % 1000 / 10 = j ∧ c % 10 = 1) (hc : isK a ci = true) (hf : aP k i = some (.getfield c)) (h : En false k (i + 1) l (.long (cJ C a j) :: st) (mkM C) o M') : En false k i l (.ref a :: st) (mkM C) o M' := en_getJ e.1 e.2.1 e.2.2 (isK_p hc) hf h
theorem ec_getP {a c ci j q : Nat} (e : c / 1000 = ci ∧ c % 1000 / 10 = j ∧ c % 10 = 2) (hc : isK a ci = true) (hq : cP C a j = some q) (hf : aP k i = some (.getfield c)) (h : En false k (i + 1) l (.ref q :: st) (mkM C) o M') : En false k i l (.ref a :: st) (mkM C) o M' := en_getP e.1 e.2.1 e.2.2 (isK_p hc) hq hf h
theorem ec_putI {a c ci j : Nat} {v : Int32} (e : c / 1000 = ci ∧ c % 1000 / 10 = j ∧ c % 10 = 0) (hc : isK a ci = true) (hf : aP k i = some (.putfield c)) (h : En false k (i + 1) l st (mkM (uI C a j v)) o M') : En false k i l (.int v :: .ref a :: st) (mkM C) o M' := en_putI e.1 e.2.1 e.2.2 (isK_p hc) hf h
theorem ec_putZ {a c ci j : Nat} {v : Int32} (e : c / 1000 = ci ∧ c % 1000 / 10 = j ∧ c % 10 = 0) (hc : isK a ci = true) (hv : v = 0 ∨ v = 1) (hf : aP k i = some (.putstatic c)) (h : En false k (i + 1) l st (mkM (uI C a j v)) o M') : En false k i l (.int v :: .ref a :: st) (mkM C) o M' := en_putZ e.1 e.2.1 e.2.2 (isK_p hc) hv hf h
theorem ec_putJ {a c ci j : Nat} {v : Int64} (e : c / 1000 = ci ∧ c % 1000 / 10 = j ∧ c % 10 = 1) (hc : isK a ci = true) (hf : aP k i = some (.putfield c)) (h : En false k (i + 1) l st (mkM (uJ C a j v)) o M') : En false k i l (.long v :: .ref a :: st) (mkM C) o M' := en_putJ e.1 e.2.1 e.2.2 (isK_p hc) hf h
theorem ec_putP {a c ci j v : Nat} (e : c / 1000 = ci ∧ c % 1000 / 10 = j ∧ c % 10 = 2) (hc : isK a ci = true) (hf : aP k i = some (.putfield c)) (h : En false k (i + 1) l st (mkM (uP C a j v)) o M') : En false k i l (.ref v :: .ref a :: st) (mkM C) o M' := en_putP e.1 e.2.1 e.2.2 (isK_p hc) hf h
theorem ec_alen {a c : Nat} (hc : isK a c = true) (h1 : 11 ≤ c ∧ c < 16) (hf : aP k i = some .arraylength) (h : En false k (i + 1) l (.int (Int32.ofNat (aLen a)) :: st) (mkM C) o M') : En false k i l (.ref a :: st) (mkM C) o M' := en_alen (isK_n hc) ⟨(isK_p hc).1, by show 11 ≤ aKd a; rw [(isK_p hc).2]; exact h1.1, by show aKd a < 16; rw [(isK_p hc).2]; exact h1.2⟩ hf h
theorem ec_iaload {a : Nat} {j : Int32} (hc : isK a 12 = true) (hj : amIn j (aLen a) = true) (hf : aP k i = some .iaload) (h : En false k (i + 1) l (.int (cI C a j.toNatClampNeg) :: st) (mkM C) o M') : En false k i l (.int j :: .ref a :: st) (mkM C) o M' := en_iaload ⟨(isK_p hc).1, (isK_p hc).2, hj⟩ hf h
theorem ec_baload {a c : Nat} {j : Int32} (hc : isK a c = true) (h1 : c = 11 ∨ c = 13) (hj : amIn j (aLen a) = true) (hf : aP k i = some .baload) (h : En false k (i + 1) l (.int (cI C a j.toNatClampNeg) :: st) (mkM C) o M') : En false k i l (.int j :: .ref a :: st) (mkM C) o M' := en_baload (fun z => isK_n hc z.1) ⟨(isK_p hc).1, by show aKd a = 11 ∨ aKd a = 13; rw [(isK_p hc).2]; exact h1, hj⟩ hf h
theorem ec_aaload {a c q : Nat} {j : Int32} (hc : isK a c = true) (h1 : c = 14 ∨ c = 15) (hj : amIn j (aLen a) = true) (hq : cP C a j.toNatClampNeg = some q) (hf : aP k i = some .aaload) (h : En false k (i + 1) l (.ref q :: st) (mkM C) o M') : En false k i l (.int j :: .ref a :: st) (mkM C) o M' := en_aaload ⟨(isK_p hc).1, by show aKd a = 14 ∨ aKd a = 15; rw [(isK_p hc).2]; exact h1, hj⟩ hq hf h
theorem ec_iastore {a : Nat} {j v : Int32} (hc : isK a 12 = true) (hj : amIn j (aLen a) = true) (hf : aP k i = some .iastore) (h : En false k (i + 1) l st (mkM (uI C a j.toNatClampNeg v)) o M') : En false k i l (.int v :: .int j :: .ref a :: st) (mkM C) o M' := en_iastore ⟨(isK_p hc).1, (isK_p hc).2, hj⟩ hf h
theorem ec_bastore {a : Nat} {j v : Int32} (hc : isK a 11 = true) (hj : amIn j (aLen a) = true) (hf : aP k i = some .bastore) (h : En false k (i + 1) l st (mkM (uI C a j.toNatClampNeg v.toInt8.toInt32)) o M') : En false k i l (.int v :: .int j :: .ref a :: st) (mkM C) o M' := en_bastore ⟨(isK_p hc).1, (isK_p hc).2, hj⟩ hf h
theorem ec_zastore {a : Nat} {j v : Int32} (hc : isK a 13 = true) (hj : amIn j (aLen a) = true) (hv : v = 0 ∨ v = 1) (hf : aP k i = some .bastore) (h : En false k (i + 1) l st (mkM (uI C a j.toNatClampNeg v)) o M') : En false k i l (.int v :: .int j :: .ref a :: st) (mkM C) o M' := en_zastore ⟨(isK_p hc).1, (isK_p hc).2, hj, hv⟩ hf h
theorem ec_copy {n dp sp : Int32} {d s : Nat} (h1 : isK s 12 = true) (h2 : isK d 12 = true) (hb : ¬ sp < 0 ∧ ¬ dp < 0 ∧ ¬ n < 0 ∧ sp.toNatClampNeg + n.toNatClampNeg ≤ aLen s ∧ dp.toNatClampNeg + n.toNatClampNeg ≤ aLen d) (hs : amCat st ≤ 8) (hf : aP k i = some .monitorexit) (h : En false k (i + 1) l st (mkM (uA C d (va_cpy (cI C s) (cI C d) sp.toNatClampNeg dp.toNatClampNeg n.toNatClampNeg))) o M') : En false k i l (.int n :: .int dp :: .ref d :: .int sp :: .ref s :: st) (mkM C) o M' := en_copy ⟨(isK_p h1).1, (isK_p h2).1, (isK_p h1).2, (isK_p h2).2, hb.1, hb.2.1, hb.2.2.1, hb.2.2.2.1, hb.2.2.2.2, hs⟩ hf h
end EcRows
/-! Rows of calls over contents. -/
section EcCalls
variable {k i k' n rc : Nat} {l : AmL} {st as rest : List Value} {C : AmC} {o : AmO} {M' : AmM} {a : Nat} {M1 : AmM} {e : Nat}
theorem ec_stepV (hA : (aA k').1 = n ∧ (aA k').2.2 = rc) (ht : (st.take n).reverse = .ref a :: as) (hd : st.drop n = rest) (h8 : amCat rest ≤ 8) (hm : amCat (.ref a :: as) ≤ (aA k').2.1) (hl : n ≤ st.length) (hk : isK a rc = true) (hf : aP k i = some (.invokevirtual k')) : amStep aA false (.invokevirtual k') i l st (mkM C) = some (.inr (.inr (k', .ref a :: as, rest))) := by
  obtain ⟨rfl, rfl⟩ := hA
  subst hd
  simp only [amStep]
  rw [ht]
  exact if_pos ⟨hl, h8, hm, (isK_p hk).1, (isK_p hk).2⟩
theorem ec_stepS (hA : (aA k').1 = n) (ht : (st.take n).reverse = as) (hd : st.drop n = rest) (h8 : amCat rest ≤ 8) (hm : amCat as ≤ (aA k').2.1) (hl : n ≤ st.length) (hf : aP k i = some (.invokestatic k')) : amStep aA false (.invokestatic k') i l st (mkM C) = some (.inr (.inr (k', as, rest))) := by
  subst hA
  subst hd
  simp only [amStep]
  rw [ht]
  exact if_pos ⟨hl, h8, hm⟩
theorem ec_callV0 (hA : (aA k').1 = n ∧ (aA k').2.2 = rc) (ht : (st.take n).reverse = .ref a :: as) (hd : st.drop n = rest) (h8 : amCat rest ≤ 8) (hm : amCat (.ref a :: as) ≤ (aA k').2.1) (hl : n ≤ st.length) (hk : isK a rc = true) (hf : aP k i = some (.invokevirtual k')) (hc : En false k' 0 (lv_args 0 (.ref a :: as)) [] (mkM C) (.inl none) M1) (h : En false k (i + 1) l rest M1 o M') : En false k i l st (mkM C) o M' := en_call hf (ec_stepV hA ht hd h8 hm hl hk hf) hc h
theorem ec_callV1 {v : Value} (hA : (aA k').1 = n ∧ (aA k').2.2 = rc) (ht : (st.take n).reverse = .ref a :: as) (hd : st.drop n = rest) (h8 : amCat rest ≤ 8) (hm : amCat (.ref a :: as) ≤ (aA k').2.1) (hl : n ≤ st.length) (hk : isK a rc = true) (hf : aP k i = some (.invokevirtual k')) (hc : En false k' 0 (lv_args 0 (.ref a :: as)) [] (mkM C) (.inl (some v)) M1) (h : En false k (i + 1) l (v :: rest) M1 o M') : En false k i l st (mkM C) o M' := en_call hf (ec_stepV hA ht hd h8 hm hl hk hf) hc h
theorem ec_callVx (hA : (aA k').1 = n ∧ (aA k').2.2 = rc) (ht : (st.take n).reverse = .ref a :: as) (hd : st.drop n = rest) (h8 : amCat rest ≤ 8) (hm : amCat (.ref a :: as) ≤ (aA k').2.1) (hl : n ≤ st.length) (hk : isK a rc = true) (hf : aP k i = some (.invokevirtual k')) (hc : En false k' 0 (lv_args 0 (.ref a :: as)) [] (mkM C) (.inr e) M1) : En false k i l st (mkM C) (.inr e) M1 := en_callx hf (ec_stepV hA ht hd h8 hm hl hk hf) hc
theorem ec_callS0 (hA : (aA k').1 = n) (ht : (st.take n).reverse = as) (hd : st.drop n = rest) (h8 : amCat rest ≤ 8) (hm : amCat as ≤ (aA k').2.1) (hl : n ≤ st.length) (hf : aP k i = some (.invokestatic k')) (hc : En false k' 0 (lv_args 0 as) [] (mkM C) (.inl none) M1) (h : En false k (i + 1) l rest M1 o M') : En false k i l st (mkM C) o M' := en_call hf (ec_stepS hA ht hd h8 hm hl hf) hc h
theorem ec_callS1 {v : Value} (hA : (aA k').1 = n) (ht : (st.take n).reverse = as) (hd : st.drop n = rest) (h8 : amCat rest ≤ 8) (hm : amCat as ≤ (aA k').2.1) (hl : n ≤ st.length) (hf : aP k i = some (.invokestatic k')) (hc : En false k' 0 (lv_args 0 as) [] (mkM C) (.inl (some v)) M1) (h : En false k (i + 1) l (v :: rest) M1 o M') : En false k i l st (mkM C) o M' := en_call hf (ec_stepS hA ht hd h8 hm hl hf) hc h
theorem ec_callSx (hA : (aA k').1 = n) (ht : (st.take n).reverse = as) (hd : st.drop n = rest) (h8 : amCat rest ≤ 8) (hm : amCat as ≤ (aA k').2.1) (hl : n ≤ st.length) (hf : aP k i = some (.invokestatic k')) (hc : En false k' 0 (lv_args 0 as) [] (mkM C) (.inr e) M1) : En false k i l st (mkM C) (.inr e) M1 := en_callx hf (ec_stepS hA ht hd h8 hm hl hf) hc
end EcCalls
def ovV (q : Unit ⊕ Nat) : AmO := match q with
  | .inl _ => .inl none
  | .inr e => .inr e
def ovI (q : Int32 ⊕ Nat) : AmO := match q with
  | .inl r => .inl (some (.int r))
  | .inr e => .inr e
