/-! What the abstract machine ends with, the machine ends with. -/
section AmRunS
variable {p : Program} {l : Launch} {e : Env} {R : Room} {s : State} {m : MethodId} {args : Array Value} {below : List Frame} {meth : Method} {c : Code} {Q : State → Prop} {cc : ByteArray} {own : String} {nL : Nat} {dC : Nat → ClassId} {dI : Nat → Nat → Nat} {ct : Nat → ClassId} {g : Nat → Nat} {b z0 s0 : Nat} {x : Bool} {pc : Nat} {ll : AmL} {st : List Value} {M : AmM}
/-- what a method of the table has -/
def amMo (y : Nat → MethodName) (cO : Nat → ByteArray) (nO : Nat → Nat) (rO : Nat → Option FieldType) (kd : Nat → Nat) (pcs : Nat → Nat → Nat) (na : Nat → Nat × Nat × Nat) (k : Nat) : Prop :=
  plainName (y k).cls = true ∧ Cond.code (y k) (cO k) (nO k) (rO k) ∈ amTB ∧ Cond.initialized (y k).cls ∈ amTB ∧ ((y k).cls ≠ "java/lang/invoke/MethodHandle" ∧ (y k).cls ≠ "java/lang/invoke/VarHandle" ∧ (parseMethodDescriptor (y k).desc).map (fun d => d.parameters.length) = some (if kd k = 1 then (na k).1 else (na k).1 - 1)) ∧ (na k).2.1 = nO k ∧ pcs k 0 = 0 ∧
  (kd k = 0 → Cond.instanceMethod (y k) ∈ amTB ∧ Cond.selects (y k).cls (y k) (y k) ∈ amTB ∧ (na k).2.2 < 11 ∧ amRX (na k).2.2 = (y k).cls) ∧ (kd k = 1 → Cond.static (y k) ∈ amTB) ∧ (kd k = 2 → Cond.instanceMethod (y k) ∈ amTB ∧ (y k).name = "<init>" ∧ rO k = none)
def amWsO (y : Nat → MethodName) (cO : Nat → ByteArray) (nO : Nat → Nat) (rO : Nat → Option FieldType) (k : Nat) : List Cond := Cond.code (y k) (cO k) (nO k) (rO k) :: amTB
theorem amWsO_good {y : Nat → MethodName} {cO : Nat → ByteArray} {nO : Nat → Nat} {rO : Nat → Option FieldType} {k : Nat} (h : Cond.code (y k) (cO k) (nO k) (rO k) ∈ amTB) : GoodIn amTB (amWsO y cO nO rO k) := by
  intro w hw
  have h1 : w ∈ amTB := by
    rcases List.mem_cons.mp hw with rfl | h2
    · exact h
    · exact h2
  exact ⟨h1, good_of_word (List.mem_filter.mp h1).2⟩
theorem am_args (g : Nat → Nat) : ∀ (av : List Value) (j : Nat), lv_args j (cvs g av) = cvl g (lv_args j av) := by
  intro av
  induction av with
  | nil => intro j; rfl
  | cons a av ih =>
    intro j
    show (j, cv g a) :: lv_args (if (cv g a).category = 2 then j + 2 else j + 1) (cvs g av) = (j, cv g a) :: cvl g (lv_args (if a.category = 2 then j + 2 else j + 1) av)
    rw [cv_cat, ih]
theorem am_lgsl : ∀ (av : List Value), (lg_sl av).length = amCat av := by
  intro av
  induction av with
  | nil => rfl
  | cons a av ih =>
    have e : lg_sl (a :: av) = (if a.category = 2 then [.val a, .second] else [.val a]) ++ lg_sl av := rfl
    have e2 : amCat (a :: av) = a.category + amCat av := by simp [amCat]
    rw [e, List.length_append, ih, e2]
    rcases lv_cat a with h | h <;> rw [h] <;> simp
theorem am_cvcat (g : Nat → Nat) (av : List Value) : amCat (cvs g av) = amCat av := am_cats g av
theorem am_split {st as : List Value} {a : Value} {n : Nat} (h : (st.take n).reverse = a :: as) : st = as.reverse ++ a :: st.drop n := by
  have h1 : st.take n = as.reverse ++ [a] := by
    rw [← List.reverse_reverse (st.take n), h, List.reverse_cons]
  have h2 := List.take_append_drop n st
  rw [h1, List.append_assoc] at h2
  exact h2.symm
theorem am_splitS {st : List Value} {n : Nat} : st = (st.take n).reverse.reverse ++ st.drop n := by
  rw [List.reverse_reverse, List.take_append_drop]
theorem cvs_app (g : Nat → Nat) (a b : List Value) : cvs g (a ++ b) = cvs g a ++ cvs g b := by simp [cvs]
theorem cvs_rev (g : Nat → Nat) (a : List Value) : cvs g a.reverse = (cvs g a).reverse := by simp [cvs]
theorem cvs_len (g : Nat → Nat) (a : List Value) : (cvs g a).length = a.length := by simp [cvs]
/-- a frame of a method of the table -/
def AmK (y : Nat → MethodName) (cO : Nat → ByteArray) (nO : Nat → Nat) (rO : Nat → Option FieldType) (fO lO : Nat → Nat) (dC : Nat → ClassId) (dI : Nat → Nat → Nat) (ct : Nat → ClassId) (g : Nat → Nat) (b : Nat) (x : Bool) (p : Program) (R : Room) (s : State) (m : MethodId) (args : Array Value) (meth : Method) (c : Code) (z0 k : Nat) : Prop :=
  AmF p s m args meth c (y k).cls (cO k) (nO k) dC dI ct g b z0 x ∧ meth.name = (y k).name ∧ meth.sig.returnType = rO k ∧ (∀ z ∈ c.exceptionTable.toList, False) ∧ fO k ≤ R.frames ∧ lO k ≤ R.locals
/-- every throw of the table is the machine's -/
def AmThr (l : Launch) (y : Nat → MethodName) (cO : Nat → ByteArray) (nO : Nat → Nat) (rO : Nat → Option FieldType) (fO lO : Nat → Nat) (pcs : Nat → Nat → Nat) (P : Nat → Nat → Option Instr) : Prop :=
  ∀ {p : Program} {e : Env} {R : Room} {s : State} {m : MethodId} {args : Array Value} {below : List Frame} {meth : Method} {c : Code} {z0 s0 : Nat} {dC : Nat → ClassId} {dI : Nat → Nat → Nat} {ct : Nat → ClassId} {g : Nat → Nat} {b : Nat} {k i : Nat} {n : Int} {ll : AmL} {st : List Value} {M : AmM}, P k i = some (.jsr n) → AmK y cO nO rO fO lO dC dI ct g b false p R s m args meth c z0 k → amCat st ≤ 8 → mZ M - z0 + 1 ≤ R.cells → mS M - s0 + 6 ≤ R.slots → AmG p l e R s m args below meth c (amQq below args s dC dI ct g b z0 s0 (.inr n.toNat) M) (nO k) dC dI ct g b z0 s0 false (pcs k i) ll st M
/-- every step on the class's text of words is the machine's -/
def AmTxt (l : Launch) (y : Nat → MethodName) (cO : Nat → ByteArray) (nO : Nat → Nat) (rO : Nat → Option FieldType) (fO lO : Nat → Nat) (pcs : Nat → Nat → Nat) (na : Nat → Nat × Nat × Nat) (P : Nat → Nat → Option Instr) : Prop :=
  ∀ {p : Program} {e : Env} {R : Room} {s : State} {m : MethodId} {args : Array Value} {below : List Frame} {meth : Method} {c : Code} {Q : State → Prop} {z0 s0 : Nat} {dC : Nat → ClassId} {dI : Nat → Nat → Nat} {ct : Nat → ClassId} {g : Nat → Nat} {b : Nat} {x : Bool} {k i i' : Nat} {op : Instr} {ll l' : AmL} {st st' : List Value} {M M1 : AmM}, P k i = some op → amSp op = true → AmK y cO nO rO fO lO dC dI ct g b x p R s m args meth c z0 k → mZ M - z0 ≤ R.cells → mS M - s0 ≤ R.slots → amStep na x op i ll st M = some (.inl (i', l', st', M1)) → AmG p l e R s m args below meth c Q (nO k) dC dI ct g b z0 s0 x (pcs k i') l' st' M1 → AmG p l e R s m args below meth c Q (nO k) dC dI ct g b z0 s0 x (pcs k i) ll st M
theorem am_end {y : Nat → MethodName} {cO : Nat → ByteArray} {nO : Nat → Nat} {rO : Nat → Option FieldType} {fO lO kd : Nat → Nat} {pcs v ix : Nat → Nat → Nat} {w : Nat → Nat → List Cond} {na : Nat → Nat × Nat × Nat} {P : Nat → Nat → Option Instr} {k i : Nat} {op : Instr} {o : AmO} (hok : amOk y cO nO rO fO lO kd pcs v ix w k i op = true) (hP : P k i = some op) (hT : AmThr l y cO nO rO fO lO pcs P) (F : AmK y cO nO rO fO lO dC dI ct g b x p R s m args meth c z0 k) (h : amStep na x op i ll st M = some (.inr (.inl o))) (hr1 : mZ M - z0 + amXc o ≤ R.cells) (hr2 : mS M - s0 + amXs o ≤ R.slots) : AmG p l e R s m args below meth c (amQq below args s dC dI ct g b z0 s0 o M) (nO k) dC dI ct g b z0 s0 x (pcs k i) ll st M := by
  obtain ⟨hd, hw, hsd, hn⟩ := amOk_p hok
  obtain ⟨F0', hnm, hrt, hxf, hRf, hRl⟩ := id F
  cases op with
  | ireturn =>
    simp only [amStep] at h
    split at h <;> first | (cases h; done) | skip
    cases h
    exact sn_iret F0' (hrt.trans (of_decide_eq_true hsd)) hd
  | i2c =>
    simp only [amStep] at h
    split at h <;> first | (cases h; done) | skip
    split at h <;> first | (cases h; done) | skip
    rename_i hv9
    cases h
    exact sn_zret F0' (hrt.trans (of_decide_eq_true hsd)) hv9 hd
  | lreturn =>
    simp only [amStep] at h
    split at h <;> first | (cases h; done) | skip
    cases h
    exact sn_lret F0' (hrt.trans (of_decide_eq_true hsd)) hd
  | areturn =>
    simp only [amStep] at h
    split at h <;> first | (cases h; done) | skip
    cases h
    simp only [amSd] at hsd
    split at hsd <;> first | (cases hsd; done) | skip
    rename_i rt9 e9
    exact sn_aret F0' (hrt.trans e9) hd
  | return_ =>
    simp only [amStep] at h
    split at h <;> first | (cases h; done) | skip
    cases h
    exact sn_vret F0' (hrt.trans (of_decide_eq_true hsd)) hd
  | jsr n =>
    simp only [amStep] at h
    split at h <;> first | (cases h; done) | skip
    rename_i hc9
    cases h
    obtain ⟨rfl, hc9⟩ := hc9
    exact hT hP F hc9 hr1 hr2
  | _ => first | (simp only [amStep, amGo, amIf, reduceCtorEq] at h; done) | (simp only [amStep, amGo, amIf] at h; (repeat' split at h) <;> cases h)
end AmRunS
