
/-! A row an instruction. AmF: what a frame has; AmG: from every heap that holds the memory the machine goes to its end. -/
section AmRows
variable {p : Program} {l : Launch} {e : Env} {R : Room} {s : State} {m : MethodId} {args : Array Value} {below : List Frame} {meth : Method} {c : Code} {Q : State → Prop} {cc : ByteArray} {own : String} {nL : Nat} {dC : Nat → ClassId} {dI : Nat → Nat → Nat} {ct : Nat → ClassId} {g : Nat → Nat} {b z0 s0 : Nat} {x : Bool} {pc : Nat} {ll : AmL} {st : List Value} {M : AmM}
def AmF (p : Program) (s : State) (m : MethodId) (args : Array Value) (meth : Method) (c : Code) (own : String) (cc : ByteArray) (nL : Nat) (dC : Nat → ClassId) (dI : Nat → Nat → Nat) (ct : Nat → ClassId) (g : Nat → Nat) (b z0 : Nat) (x : Bool) : Prop :=
  p.tables.exec = Jvm.exec ∧ c.code = cc ∧ c.maxLocals = nL ∧ s.vm.findClass own = some m.cls ∧ (∀ w ∈ amTB, w.before args s = true) ∧ va_K (dC, dI) vwCl (amTys ct) s ∧ amSX g b s s.heap ∧ amHb g b s.heap.size ∧ meth.locks = false ∧ amHg g b ∧ (x = true → s.heap.size = b + z0)
def AmG (p : Program) (l : Launch) (e : Env) (R : Room) (s : State) (m : MethodId) (args : Array Value) (below : List Frame) (meth : Method) (c : Code) (Q : State → Prop) (nL : Nat) (dC : Nat → ClassId) (dI : Nat → Nat → Nat) (ct : Nat → ClassId) (g : Nat → Nat) (b z0 s0 : Nat) (x : Bool) (pc : Nat) (ll : AmL) (st : List Value) (M : AmM) : Prop :=
  ∀ (H : Heap) (locs : List Loc) (ls : Array Slot), va_P (dC, dI) vwCl (amWs ct g M) H → va_S (amA g b) s.heap H locs → lv_has ls nL (cvl g ll) → z0 ≤ mZ M → s0 ≤ mS M → mZ M ≤ amKN →
    W p l e R s m args below meth c H locs (mZ M - z0) (mS M - s0) Q (F0 m pc ls (cvs g st))
theorem W_size {H : Heap} {locs : List Loc} {cells slots : Nat} {gg : JFrame} (k : H.size ≤ s.heap.size + cells → W p l e R s m args below meth c H locs cells slots Q gg) : W p l e R s m args below meth c H locs cells slots Q gg := by
  intro T hT X
  have h := X.same.2.2.1
  exact k (by rw [← hT]; exact h) T hT X
theorem am_local {g : Nat → Nat} {ll : AmL} {ls : Array Slot} {nL j : Nat} {v : Value} (hl : lv_has ls nL (cvl g ll)) (h : amL ll j = some v) : ls[j]? = some (.val (cv g v)) := by
  obtain ⟨q, hq, rfl⟩ := Option.map_eq_some_iff.mp h
  have h1 := List.find?_some hq
  have h2 := List.mem_of_find?_eq_some hq
  have h3 : q.1 = j := by simpa using h1
  have := hl.2.2 (q.1, cv g q.2) (List.mem_map.mpr ⟨q, h2, rfl⟩)
  rw [← h3]
  exact this
theorem am_st1 (g : Nat → Nat) (j : Nat) (v : Value) (ll : AmL) : (j, cv g v) :: (cvl g ll).filter (fun q => !(q.1 == j) && !(q.1 + 1 == j && q.2.category == 2)) = cvl g (st1 j v ll) := by
  simp only [cvl, st1, List.map_cons, List.filter_map]
  congr 2
  apply List.filter_congr
  intro q _
  simp [cv_cat]
theorem am_st2 (g : Nat → Nat) (j : Nat) (v : Value) (ll : AmL) : (j, cv g v) :: (cvl g ll).filter (fun q => !(q.1 == j) && (!(q.1 == j + 1) && !(q.1 + 1 == j && q.2.category == 2))) = cvl g (st2 j v ll) := by
  simp only [cvl, st2, List.map_cons, List.filter_map]
  congr 2
  apply List.filter_congr
  intro q _
  simp [cv_cat]

theorem sn_iconst (F : AmF p s m args meth c own cc nL dC dI ct g b z0 x) {n : Int} (hd : decode cc pc = .ok (.iconst n, 1)) (k : AmG p l e R s m args below meth c Q nL dC dI ct g b z0 s0 x (pc + 1) (ll) (.int (Int32.ofInt n) :: st) (M)) : AmG p l e R s m args below meth c Q nL dC dI ct g b z0 s0 x (pc) (ll) (st) (M) := by
  obtain ⟨hx, hb, hml, hown, hts, hK, hX, hb0, hlk, hg, hex⟩ := F
  intro H locs ls hP hS hl h1 h2 h3
  exact lv_iconst hx hb hd rfl (k H locs ls hP hS hl h1 h2 h3)

theorem sn_bipush (F : AmF p s m args meth c own cc nL dC dI ct g b z0 x) {n : Int} {v : Int32} (hv : (Int8.ofInt n).toInt32 = v) (hd : decode cc pc = .ok (.bipush n, 2)) (k : AmG p l e R s m args below meth c Q nL dC dI ct g b z0 s0 x (pc + 2) (ll) (.int v :: st) (M)) : AmG p l e R s m args below meth c Q nL dC dI ct g b z0 s0 x (pc) (ll) (st) (M) := by
  obtain ⟨hx, hb, hml, hown, hts, hK, hX, hb0, hlk, hg, hex⟩ := F
  intro H locs ls hP hS hl h1 h2 h3
  exact lv_bipush hx hb hd hv (k H locs ls hP hS hl h1 h2 h3)

theorem sn_sipush (F : AmF p s m args meth c own cc nL dC dI ct g b z0 x) {n : Int} {v : Int32} (hv : (Int16.ofInt n).toInt32 = v) (hd : decode cc pc = .ok (.sipush n, 3)) (k : AmG p l e R s m args below meth c Q nL dC dI ct g b z0 s0 x (pc + 3) (ll) (.int v :: st) (M)) : AmG p l e R s m args below meth c Q nL dC dI ct g b z0 s0 x (pc) (ll) (st) (M) := by
  obtain ⟨hx, hb, hml, hown, hts, hK, hX, hb0, hlk, hg, hex⟩ := F
  intro H locs ls hP hS hl h1 h2 h3
  exact lv_sipush hx hb hd hv (k H locs ls hP hS hl h1 h2 h3)

theorem sn_ldc (F : AmF p s m args meth c own cc nL dC dI ct g b z0 x) {idx : Nat} {v : Int32} (hw : Cond.constant own idx v ∈ amTB) (hd : decode cc pc = .ok (.ldc idx, 2)) (k : AmG p l e R s m args below meth c Q nL dC dI ct g b z0 s0 x (pc + 2) (ll) (.int v :: st) (M)) : AmG p l e R s m args below meth c Q nL dC dI ct g b z0 s0 x (pc) (ll) (st) (M) := by
  obtain ⟨hx, hb, hml, hown, hts, hK, hX, hb0, hlk, hg, hex⟩ := F
  intro H locs ls hP hS hl h1 h2 h3
  exact lv_ldc hx hb hown (hts _ hw) hd (k H locs ls hP hS hl h1 h2 h3)

theorem sn_ldcw (F : AmF p s m args meth c own cc nL dC dI ct g b z0 x) {idx : Nat} {v : Int32} (hw : Cond.constant own idx v ∈ amTB) (hd : decode cc pc = .ok (.ldc_w idx, 3)) (k : AmG p l e R s m args below meth c Q nL dC dI ct g b z0 s0 x (pc + 3) (ll) (.int v :: st) (M)) : AmG p l e R s m args below meth c Q nL dC dI ct g b z0 s0 x (pc) (ll) (st) (M) := by
  obtain ⟨hx, hb, hml, hown, hts, hK, hX, hb0, hlk, hg, hex⟩ := F
  intro H locs ls hP hS hl h1 h2 h3
  exact lv_ldcw hx hb hown (hts _ hw) hd (k H locs ls hP hS hl h1 h2 h3)

theorem sn_lconst (F : AmF p s m args meth c own cc nL dC dI ct g b z0 x) {n : Fin 2} {v : Int64} (hv : Int64.ofNat (n : Nat) = v) (hd : decode cc pc = .ok (.lconst n, 1)) (k : AmG p l e R s m args below meth c Q nL dC dI ct g b z0 s0 x (pc + 1) (ll) (.long v :: st) (M)) : AmG p l e R s m args below meth c Q nL dC dI ct g b z0 s0 x (pc) (ll) (st) (M) := by
  obtain ⟨hx, hb, hml, hown, hts, hK, hX, hb0, hlk, hg, hex⟩ := F
  intro H locs ls hP hS hl h1 h2 h3
  exact lv_lconst hx hb hd hv (k H locs ls hP hS hl h1 h2 h3)

theorem sn_ldc2 (F : AmF p s m args meth c own cc nL dC dI ct g b z0 x) {idx : Nat} {v : Int64} (hw : Cond.constantLong own idx v ∈ amTB) (hd : decode cc pc = .ok (.ldc2_w idx, 3)) (k : AmG p l e R s m args below meth c Q nL dC dI ct g b z0 s0 x (pc + 3) (ll) (.long v :: st) (M)) : AmG p l e R s m args below meth c Q nL dC dI ct g b z0 s0 x (pc) (ll) (st) (M) := by
  obtain ⟨hx, hb, hml, hown, hts, hK, hX, hb0, hlk, hg, hex⟩ := F
  intro H locs ls hP hS hl h1 h2 h3
  exact lv_ldc2 hx hb hown (hts _ hw) hd (k H locs ls hP hS hl h1 h2 h3)

theorem sn_iload (F : AmF p s m args meth c own cc nL dC dI ct g b z0 x) {j : Nat} {v : Int32} (h : amL ll j = some (.int v)) (hd : decode cc pc = .ok (.iload j, 2)) (k : AmG p l e R s m args below meth c Q nL dC dI ct g b z0 s0 x (pc + 2) (ll) (.int v :: st) (M)) : AmG p l e R s m args below meth c Q nL dC dI ct g b z0 s0 x (pc) (ll) (st) (M) := by
  obtain ⟨hx, hb, hml, hown, hts, hK, hX, hb0, hlk, hg, hex⟩ := F
  intro H locs ls hP hS hl h1 h2 h3
  exact lv_iload hx hb hd (am_local hl h) (k H locs ls hP hS hl h1 h2 h3)

theorem sn_iload_n (F : AmF p s m args meth c own cc nL dC dI ct g b z0 x) {f : Fin 4} {j : Nat} {v : Int32} (hf : (f : Nat) = j) (h : amL ll j = some (.int v)) (hd : decode cc pc = .ok (.iload_n f, 1)) (k : AmG p l e R s m args below meth c Q nL dC dI ct g b z0 s0 x (pc + 1) (ll) (.int v :: st) (M)) : AmG p l e R s m args below meth c Q nL dC dI ct g b z0 s0 x (pc) (ll) (st) (M) := by
  obtain ⟨hx, hb, hml, hown, hts, hK, hX, hb0, hlk, hg, hex⟩ := F
  intro H locs ls hP hS hl h1 h2 h3
  exact lv_iload_n hx hb hd hf (am_local hl h) (k H locs ls hP hS hl h1 h2 h3)

theorem sn_istore (F : AmF p s m args meth c own cc nL dC dI ct g b z0 x) {j : Nat} {v : Int32} (hj : j < nL) (hd : decode cc pc = .ok (.istore j, 2)) (k : AmG p l e R s m args below meth c Q nL dC dI ct g b z0 s0 x (pc + 2) (st1 j (.int v) ll) (st) (M)) : AmG p l e R s m args below meth c Q nL dC dI ct g b z0 s0 x (pc) (ll) (.int v :: st) (M) := by
  obtain ⟨hx, hb, hml, hown, hts, hK, hX, hb0, hlk, hg, hex⟩ := F
  intro H locs ls hP hS hl h1 h2 h3
  exact lv_istore hx hb hd hl hj (am_st1 g j (.int v) ll) (fun ls hl => (k H locs ls hP hS hl h1 h2 h3))

theorem sn_istore_n (F : AmF p s m args meth c own cc nL dC dI ct g b z0 x) {f : Fin 4} {j : Nat} {v : Int32} (hf : (f : Nat) = j) (hj : j < nL) (hd : decode cc pc = .ok (.istore_n f, 1)) (k : AmG p l e R s m args below meth c Q nL dC dI ct g b z0 s0 x (pc + 1) (st1 j (.int v) ll) (st) (M)) : AmG p l e R s m args below meth c Q nL dC dI ct g b z0 s0 x (pc) (ll) (.int v :: st) (M) := by
  obtain ⟨hx, hb, hml, hown, hts, hK, hX, hb0, hlk, hg, hex⟩ := F
  intro H locs ls hP hS hl h1 h2 h3
  exact lv_istore_n hx hb hd hf hl hj (am_st1 g j (.int v) ll) (fun ls hl => (k H locs ls hP hS hl h1 h2 h3))

theorem sn_lload (F : AmF p s m args meth c own cc nL dC dI ct g b z0 x) {j : Nat} {v : Int64} (h : amL ll j = some (.long v)) (hd : decode cc pc = .ok (.lload j, 2)) (k : AmG p l e R s m args below meth c Q nL dC dI ct g b z0 s0 x (pc + 2) (ll) (.long v :: st) (M)) : AmG p l e R s m args below meth c Q nL dC dI ct g b z0 s0 x (pc) (ll) (st) (M) := by
  obtain ⟨hx, hb, hml, hown, hts, hK, hX, hb0, hlk, hg, hex⟩ := F
  intro H locs ls hP hS hl h1 h2 h3
  exact lv_lload hx hb hd (am_local hl h) (k H locs ls hP hS hl h1 h2 h3)

theorem sn_lload_n (F : AmF p s m args meth c own cc nL dC dI ct g b z0 x) {f : Fin 4} {j : Nat} {v : Int64} (hf : (f : Nat) = j) (h : amL ll j = some (.long v)) (hd : decode cc pc = .ok (.lload_n f, 1)) (k : AmG p l e R s m args below meth c Q nL dC dI ct g b z0 s0 x (pc + 1) (ll) (.long v :: st) (M)) : AmG p l e R s m args below meth c Q nL dC dI ct g b z0 s0 x (pc) (ll) (st) (M) := by
  obtain ⟨hx, hb, hml, hown, hts, hK, hX, hb0, hlk, hg, hex⟩ := F
  intro H locs ls hP hS hl h1 h2 h3
  exact lv_lload_n hx hb hd hf (am_local hl h) (k H locs ls hP hS hl h1 h2 h3)

theorem sn_lstore (F : AmF p s m args meth c own cc nL dC dI ct g b z0 x) {j : Nat} {v : Int64} (hj : j + 1 < nL) (hd : decode cc pc = .ok (.lstore j, 2)) (k : AmG p l e R s m args below meth c Q nL dC dI ct g b z0 s0 x (pc + 2) (st2 j (.long v) ll) (st) (M)) : AmG p l e R s m args below meth c Q nL dC dI ct g b z0 s0 x (pc) (ll) (.long v :: st) (M) := by
  obtain ⟨hx, hb, hml, hown, hts, hK, hX, hb0, hlk, hg, hex⟩ := F
  intro H locs ls hP hS hl h1 h2 h3
  exact lv_lstore hx hb hd hl hj (am_st2 g j (.long v) ll) (fun ls hl => (k H locs ls hP hS hl h1 h2 h3))

theorem sn_lstore_n (F : AmF p s m args meth c own cc nL dC dI ct g b z0 x) {f : Fin 4} {j : Nat} {v : Int64} (hf : (f : Nat) = j) (hj : j + 1 < nL) (hd : decode cc pc = .ok (.lstore_n f, 1)) (k : AmG p l e R s m args below meth c Q nL dC dI ct g b z0 s0 x (pc + 1) (st2 j (.long v) ll) (st) (M)) : AmG p l e R s m args below meth c Q nL dC dI ct g b z0 s0 x (pc) (ll) (.long v :: st) (M) := by
  obtain ⟨hx, hb, hml, hown, hts, hK, hX, hb0, hlk, hg, hex⟩ := F
  intro H locs ls hP hS hl h1 h2 h3
  exact lv_lstore_n hx hb hd hf hl hj (am_st2 g j (.long v) ll) (fun ls hl => (k H locs ls hP hS hl h1 h2 h3))

theorem sn_aload (F : AmF p s m args meth c own cc nL dC dI ct g b z0 x) {j : Nat} {v : Nat} (h : amL ll j = some (.ref v)) (hd : decode cc pc = .ok (.aload j, 2)) (k : AmG p l e R s m args below meth c Q nL dC dI ct g b z0 s0 x (pc + 2) (ll) (.ref v :: st) (M)) : AmG p l e R s m args below meth c Q nL dC dI ct g b z0 s0 x (pc) (ll) (st) (M) := by
  obtain ⟨hx, hb, hml, hown, hts, hK, hX, hb0, hlk, hg, hex⟩ := F
  intro H locs ls hP hS hl h1 h2 h3
  exact lv_aload hx hb hd (am_local hl h) (k H locs ls hP hS hl h1 h2 h3)

theorem sn_aload_n (F : AmF p s m args meth c own cc nL dC dI ct g b z0 x) {f : Fin 4} {j : Nat} {v : Nat} (hf : (f : Nat) = j) (h : amL ll j = some (.ref v)) (hd : decode cc pc = .ok (.aload_n f, 1)) (k : AmG p l e R s m args below meth c Q nL dC dI ct g b z0 s0 x (pc + 1) (ll) (.ref v :: st) (M)) : AmG p l e R s m args below meth c Q nL dC dI ct g b z0 s0 x (pc) (ll) (st) (M) := by
  obtain ⟨hx, hb, hml, hown, hts, hK, hX, hb0, hlk, hg, hex⟩ := F
  intro H locs ls hP hS hl h1 h2 h3
  exact lv_aload_n hx hb hd hf (am_local hl h) (k H locs ls hP hS hl h1 h2 h3)

theorem sn_astore (F : AmF p s m args meth c own cc nL dC dI ct g b z0 x) {j : Nat} {v : Nat} (hj : j < nL) (hd : decode cc pc = .ok (.astore j, 2)) (k : AmG p l e R s m args below meth c Q nL dC dI ct g b z0 s0 x (pc + 2) (st1 j (.ref v) ll) (st) (M)) : AmG p l e R s m args below meth c Q nL dC dI ct g b z0 s0 x (pc) (ll) (.ref v :: st) (M) := by
  obtain ⟨hx, hb, hml, hown, hts, hK, hX, hb0, hlk, hg, hex⟩ := F
  intro H locs ls hP hS hl h1 h2 h3
  exact lv_astore hx hb hd hl hj (am_st1 g j (.ref v) ll) (fun ls hl => (k H locs ls hP hS hl h1 h2 h3))

theorem sn_astore_n (F : AmF p s m args meth c own cc nL dC dI ct g b z0 x) {f : Fin 4} {j : Nat} {v : Nat} (hf : (f : Nat) = j) (hj : j < nL) (hd : decode cc pc = .ok (.astore_n f, 1)) (k : AmG p l e R s m args below meth c Q nL dC dI ct g b z0 s0 x (pc + 1) (st1 j (.ref v) ll) (st) (M)) : AmG p l e R s m args below meth c Q nL dC dI ct g b z0 s0 x (pc) (ll) (.ref v :: st) (M) := by
  obtain ⟨hx, hb, hml, hown, hts, hK, hX, hb0, hlk, hg, hex⟩ := F
  intro H locs ls hP hS hl h1 h2 h3
  exact lv_astore_n hx hb hd hf hl hj (am_st1 g j (.ref v) ll) (fun ls hl => (k H locs ls hP hS hl h1 h2 h3))

theorem sn_iinc (F : AmF p s m args meth c own cc nL dC dI ct g b z0 x) {j : Nat} {n : Int} {v : Int32} (h : amL ll j = some (.int v)) (hj : j < nL) (hd : decode cc pc = .ok (.iinc j n, 3)) (k : AmG p l e R s m args below meth c Q nL dC dI ct g b z0 s0 x (pc + 3) (st1 j (.int (v + Int32.ofInt n)) ll) (st) (M)) : AmG p l e R s m args below meth c Q nL dC dI ct g b z0 s0 x (pc) (ll) (st) (M) := by
  obtain ⟨hx, hb, hml, hown, hts, hK, hX, hb0, hlk, hg, hex⟩ := F
  intro H locs ls hP hS hl h1 h2 h3
  obtain ⟨q, hq, hv⟩ := Option.map_eq_some_iff.mp h
  have e0 := List.find?_some hq
  have e1 : q.1 = j := by simpa using e0
  obtain ⟨k0, hk0⟩ := List.getElem?_of_mem (List.mem_map.mpr ⟨q, List.mem_of_find?_eq_some hq, rfl⟩ : (q.1, cv g q.2) ∈ cvl g ll)
  exact lv_iinc hx hb hd hl (k := k0) (x := v) (by rw [show (cvl g ll)[k0]? = _ from hk0, e1, hv]; rfl) rfl hj (am_st1 g j (.int (v + Int32.ofInt n)) ll) (fun ls hl => (k H locs ls hP hS hl h1 h2 h3))

theorem sn_iadd (F : AmF p s m args meth c own cc nL dC dI ct g b z0 x) {a1 a2 : Int32} (hd : decode cc pc = .ok (.iadd, 1)) (k : AmG p l e R s m args below meth c Q nL dC dI ct g b z0 s0 x (pc + 1) (ll) (.int (a1 + a2) :: st) (M)) : AmG p l e R s m args below meth c Q nL dC dI ct g b z0 s0 x (pc) (ll) (.int a2 :: .int a1 :: st) (M) := by
  obtain ⟨hx, hb, hml, hown, hts, hK, hX, hb0, hlk, hg, hex⟩ := F
  intro H locs ls hP hS hl h1 h2 h3
  exact lv_iadd hx hb hd (k H locs ls hP hS hl h1 h2 h3)

theorem sn_isub (F : AmF p s m args meth c own cc nL dC dI ct g b z0 x) {a1 a2 : Int32} (hd : decode cc pc = .ok (.isub, 1)) (k : AmG p l e R s m args below meth c Q nL dC dI ct g b z0 s0 x (pc + 1) (ll) (.int (a1 - a2) :: st) (M)) : AmG p l e R s m args below meth c Q nL dC dI ct g b z0 s0 x (pc) (ll) (.int a2 :: .int a1 :: st) (M) := by
  obtain ⟨hx, hb, hml, hown, hts, hK, hX, hb0, hlk, hg, hex⟩ := F
  intro H locs ls hP hS hl h1 h2 h3
  exact lv_isub hx hb hd (k H locs ls hP hS hl h1 h2 h3)

theorem sn_imul (F : AmF p s m args meth c own cc nL dC dI ct g b z0 x) {a1 a2 : Int32} (hd : decode cc pc = .ok (.imul, 1)) (k : AmG p l e R s m args below meth c Q nL dC dI ct g b z0 s0 x (pc + 1) (ll) (.int (a1 * a2) :: st) (M)) : AmG p l e R s m args below meth c Q nL dC dI ct g b z0 s0 x (pc) (ll) (.int a2 :: .int a1 :: st) (M) := by
  obtain ⟨hx, hb, hml, hown, hts, hK, hX, hb0, hlk, hg, hex⟩ := F
  intro H locs ls hP hS hl h1 h2 h3
  exact lv_imul hx hb hd (k H locs ls hP hS hl h1 h2 h3)

theorem sn_iand (F : AmF p s m args meth c own cc nL dC dI ct g b z0 x) {a1 a2 : Int32} (hd : decode cc pc = .ok (.iand, 1)) (k : AmG p l e R s m args below meth c Q nL dC dI ct g b z0 s0 x (pc + 1) (ll) (.int (a1 &&& a2) :: st) (M)) : AmG p l e R s m args below meth c Q nL dC dI ct g b z0 s0 x (pc) (ll) (.int a2 :: .int a1 :: st) (M) := by
  obtain ⟨hx, hb, hml, hown, hts, hK, hX, hb0, hlk, hg, hex⟩ := F
  intro H locs ls hP hS hl h1 h2 h3
  exact lv_iand hx hb hd (k H locs ls hP hS hl h1 h2 h3)

theorem sn_ior (F : AmF p s m args meth c own cc nL dC dI ct g b z0 x) {a1 a2 : Int32} (hd : decode cc pc = .ok (.ior, 1)) (k : AmG p l e R s m args below meth c Q nL dC dI ct g b z0 s0 x (pc + 1) (ll) (.int (a1 ||| a2) :: st) (M)) : AmG p l e R s m args below meth c Q nL dC dI ct g b z0 s0 x (pc) (ll) (.int a2 :: .int a1 :: st) (M) := by
  obtain ⟨hx, hb, hml, hown, hts, hK, hX, hb0, hlk, hg, hex⟩ := F
  intro H locs ls hP hS hl h1 h2 h3
  exact lv_ior hx hb hd (k H locs ls hP hS hl h1 h2 h3)

theorem sn_ixor (F : AmF p s m args meth c own cc nL dC dI ct g b z0 x) {a1 a2 : Int32} (hd : decode cc pc = .ok (.ixor, 1)) (k : AmG p l e R s m args below meth c Q nL dC dI ct g b z0 s0 x (pc + 1) (ll) (.int (a1 ^^^ a2) :: st) (M)) : AmG p l e R s m args below meth c Q nL dC dI ct g b z0 s0 x (pc) (ll) (.int a2 :: .int a1 :: st) (M) := by
  obtain ⟨hx, hb, hml, hown, hts, hK, hX, hb0, hlk, hg, hex⟩ := F
  intro H locs ls hP hS hl h1 h2 h3
  exact lv_ixor hx hb hd (k H locs ls hP hS hl h1 h2 h3)

theorem sn_ishl (F : AmF p s m args meth c own cc nL dC dI ct g b z0 x) {a1 a2 : Int32} (hd : decode cc pc = .ok (.ishl, 1)) (k : AmG p l e R s m args below meth c Q nL dC dI ct g b z0 s0 x (pc + 1) (ll) (.int (a1 <<< (a2 &&& 31)) :: st) (M)) : AmG p l e R s m args below meth c Q nL dC dI ct g b z0 s0 x (pc) (ll) (.int a2 :: .int a1 :: st) (M) := by
  obtain ⟨hx, hb, hml, hown, hts, hK, hX, hb0, hlk, hg, hex⟩ := F
  intro H locs ls hP hS hl h1 h2 h3
  exact lv_ishl hx hb hd (k H locs ls hP hS hl h1 h2 h3)

theorem sn_ishr (F : AmF p s m args meth c own cc nL dC dI ct g b z0 x) {a1 a2 : Int32} (hd : decode cc pc = .ok (.ishr, 1)) (k : AmG p l e R s m args below meth c Q nL dC dI ct g b z0 s0 x (pc + 1) (ll) (.int (a1 >>> (a2 &&& 31)) :: st) (M)) : AmG p l e R s m args below meth c Q nL dC dI ct g b z0 s0 x (pc) (ll) (.int a2 :: .int a1 :: st) (M) := by
  obtain ⟨hx, hb, hml, hown, hts, hK, hX, hb0, hlk, hg, hex⟩ := F
  intro H locs ls hP hS hl h1 h2 h3
  exact lv_ishr hx hb hd (k H locs ls hP hS hl h1 h2 h3)

theorem sn_iushr (F : AmF p s m args meth c own cc nL dC dI ct g b z0 x) {a1 a2 : Int32} (hd : decode cc pc = .ok (.iushr, 1)) (k : AmG p l e R s m args below meth c Q nL dC dI ct g b z0 s0 x (pc + 1) (ll) (.int (a1.toUInt32 >>> (a2.toUInt32 &&& Int32.toUInt32 31)).toInt32 :: st) (M)) : AmG p l e R s m args below meth c Q nL dC dI ct g b z0 s0 x (pc) (ll) (.int a2 :: .int a1 :: st) (M) := by
  obtain ⟨hx, hb, hml, hown, hts, hK, hX, hb0, hlk, hg, hex⟩ := F
  intro H locs ls hP hS hl h1 h2 h3
  exact lv_iushr hx hb hd rfl (k H locs ls hP hS hl h1 h2 h3)

theorem sn_idiv (F : AmF p s m args meth c own cc nL dC dI ct g b z0 x) {a1 a2 : Int32} (h0 : ¬ a2 = 0) (hd : decode cc pc = .ok (.idiv, 1)) (k : AmG p l e R s m args below meth c Q nL dC dI ct g b z0 s0 x (pc + 1) (ll) (.int (a1 / a2) :: st) (M)) : AmG p l e R s m args below meth c Q nL dC dI ct g b z0 s0 x (pc) (ll) (.int a2 :: .int a1 :: st) (M) := by
  obtain ⟨hx, hb, hml, hown, hts, hK, hX, hb0, hlk, hg, hex⟩ := F
  intro H locs ls hP hS hl h1 h2 h3
  exact lv_idiv hx hb hd h0 (k H locs ls hP hS hl h1 h2 h3)

theorem sn_irem (F : AmF p s m args meth c own cc nL dC dI ct g b z0 x) {a1 a2 : Int32} (h0 : ¬ a2 = 0) (hd : decode cc pc = .ok (.irem, 1)) (k : AmG p l e R s m args below meth c Q nL dC dI ct g b z0 s0 x (pc + 1) (ll) (.int (a1 - a1 / a2 * a2) :: st) (M)) : AmG p l e R s m args below meth c Q nL dC dI ct g b z0 s0 x (pc) (ll) (.int a2 :: .int a1 :: st) (M) := by
  obtain ⟨hx, hb, hml, hown, hts, hK, hX, hb0, hlk, hg, hex⟩ := F
  intro H locs ls hP hS hl h1 h2 h3
  exact lv_irem hx hb hd h0 (k H locs ls hP hS hl h1 h2 h3)

theorem sn_ladd (F : AmF p s m args meth c own cc nL dC dI ct g b z0 x) {a1 a2 : Int64} (hd : decode cc pc = .ok (.ladd, 1)) (k : AmG p l e R s m args below meth c Q nL dC dI ct g b z0 s0 x (pc + 1) (ll) (.long (a1 + a2) :: st) (M)) : AmG p l e R s m args below meth c Q nL dC dI ct g b z0 s0 x (pc) (ll) (.long a2 :: .long a1 :: st) (M) := by
  obtain ⟨hx, hb, hml, hown, hts, hK, hX, hb0, hlk, hg, hex⟩ := F
  intro H locs ls hP hS hl h1 h2 h3
  exact lv_ladd hx hb hd (k H locs ls hP hS hl h1 h2 h3)

theorem sn_lmul (F : AmF p s m args meth c own cc nL dC dI ct g b z0 x) {a1 a2 : Int64} (hd : decode cc pc = .ok (.lmul, 1)) (k : AmG p l e R s m args below meth c Q nL dC dI ct g b z0 s0 x (pc + 1) (ll) (.long (a1 * a2) :: st) (M)) : AmG p l e R s m args below meth c Q nL dC dI ct g b z0 s0 x (pc) (ll) (.long a2 :: .long a1 :: st) (M) := by
  obtain ⟨hx, hb, hml, hown, hts, hK, hX, hb0, hlk, hg, hex⟩ := F
  intro H locs ls hP hS hl h1 h2 h3
  exact lv_lmul hx hb hd (k H locs ls hP hS hl h1 h2 h3)

theorem sn_land (F : AmF p s m args meth c own cc nL dC dI ct g b z0 x) {a1 a2 : Int64} (hd : decode cc pc = .ok (.land, 1)) (k : AmG p l e R s m args below meth c Q nL dC dI ct g b z0 s0 x (pc + 1) (ll) (.long (a1 &&& a2) :: st) (M)) : AmG p l e R s m args below meth c Q nL dC dI ct g b z0 s0 x (pc) (ll) (.long a2 :: .long a1 :: st) (M) := by
  obtain ⟨hx, hb, hml, hown, hts, hK, hX, hb0, hlk, hg, hex⟩ := F
  intro H locs ls hP hS hl h1 h2 h3
  exact lv_land hx hb hd (k H locs ls hP hS hl h1 h2 h3)

theorem sn_lor (F : AmF p s m args meth c own cc nL dC dI ct g b z0 x) {a1 a2 : Int64} (hd : decode cc pc = .ok (.lor, 1)) (k : AmG p l e R s m args below meth c Q nL dC dI ct g b z0 s0 x (pc + 1) (ll) (.long (a1 ||| a2) :: st) (M)) : AmG p l e R s m args below meth c Q nL dC dI ct g b z0 s0 x (pc) (ll) (.long a2 :: .long a1 :: st) (M) := by
  obtain ⟨hx, hb, hml, hown, hts, hK, hX, hb0, hlk, hg, hex⟩ := F
  intro H locs ls hP hS hl h1 h2 h3
  exact lv_lor hx hb hd (k H locs ls hP hS hl h1 h2 h3)

theorem sn_lshl (F : AmF p s m args meth c own cc nL dC dI ct g b z0 x) {a1 : Int64} {a2 : Int32} (hd : decode cc pc = .ok (.lshl, 1)) (k : AmG p l e R s m args below meth c Q nL dC dI ct g b z0 s0 x (pc + 1) (ll) (.long (a1 <<< (a2.toInt64 &&& 63)) :: st) (M)) : AmG p l e R s m args below meth c Q nL dC dI ct g b z0 s0 x (pc) (ll) (.int a2 :: .long a1 :: st) (M) := by
  obtain ⟨hx, hb, hml, hown, hts, hK, hX, hb0, hlk, hg, hex⟩ := F
  intro H locs ls hP hS hl h1 h2 h3
  exact lv_lshl hx hb hd rfl (k H locs ls hP hS hl h1 h2 h3)

theorem sn_lushr (F : AmF p s m args meth c own cc nL dC dI ct g b z0 x) {a1 : Int64} {a2 : Int32} (hd : decode cc pc = .ok (.lushr, 1)) (k : AmG p l e R s m args below meth c Q nL dC dI ct g b z0 s0 x (pc + 1) (ll) (.long (a1.toUInt64 >>> (a2.toInt64.toUInt64 &&& Int64.toUInt64 63)).toInt64 :: st) (M)) : AmG p l e R s m args below meth c Q nL dC dI ct g b z0 s0 x (pc) (ll) (.int a2 :: .long a1 :: st) (M) := by
  obtain ⟨hx, hb, hml, hown, hts, hK, hX, hb0, hlk, hg, hex⟩ := F
  intro H locs ls hP hS hl h1 h2 h3
  exact lv_lushr hx hb hd rfl (k H locs ls hP hS hl h1 h2 h3)

theorem sn_ineg (F : AmF p s m args meth c own cc nL dC dI ct g b z0 x) {a1 : Int32} (hd : decode cc pc = .ok (.ineg, 1)) (k : AmG p l e R s m args below meth c Q nL dC dI ct g b z0 s0 x (pc + 1) (ll) (.int (-a1) :: st) (M)) : AmG p l e R s m args below meth c Q nL dC dI ct g b z0 s0 x (pc) (ll) (.int a1 :: st) (M) := by
  obtain ⟨hx, hb, hml, hown, hts, hK, hX, hb0, hlk, hg, hex⟩ := F
  intro H locs ls hP hS hl h1 h2 h3
  exact lv_ineg hx hb hd (k H locs ls hP hS hl h1 h2 h3)

theorem sn_lneg (F : AmF p s m args meth c own cc nL dC dI ct g b z0 x) {a1 : Int64} (hd : decode cc pc = .ok (.lneg, 1)) (k : AmG p l e R s m args below meth c Q nL dC dI ct g b z0 s0 x (pc + 1) (ll) (.long (-a1) :: st) (M)) : AmG p l e R s m args below meth c Q nL dC dI ct g b z0 s0 x (pc) (ll) (.long a1 :: st) (M) := by
  obtain ⟨hx, hb, hml, hown, hts, hK, hX, hb0, hlk, hg, hex⟩ := F
  intro H locs ls hP hS hl h1 h2 h3
  exact lv_lneg hx hb hd (k H locs ls hP hS hl h1 h2 h3)

theorem sn_i2l (F : AmF p s m args meth c own cc nL dC dI ct g b z0 x) {a1 : Int32} (hd : decode cc pc = .ok (.i2l, 1)) (k : AmG p l e R s m args below meth c Q nL dC dI ct g b z0 s0 x (pc + 1) (ll) (.long a1.toInt64 :: st) (M)) : AmG p l e R s m args below meth c Q nL dC dI ct g b z0 s0 x (pc) (ll) (.int a1 :: st) (M) := by
  obtain ⟨hx, hb, hml, hown, hts, hK, hX, hb0, hlk, hg, hex⟩ := F
  intro H locs ls hP hS hl h1 h2 h3
  exact lv_i2l hx hb hd rfl (k H locs ls hP hS hl h1 h2 h3)

theorem sn_i2b (F : AmF p s m args meth c own cc nL dC dI ct g b z0 x) {a1 : Int32} (hd : decode cc pc = .ok (.i2b, 1)) (k : AmG p l e R s m args below meth c Q nL dC dI ct g b z0 s0 x (pc + 1) (ll) (.int a1.toInt8.toInt32 :: st) (M)) : AmG p l e R s m args below meth c Q nL dC dI ct g b z0 s0 x (pc) (ll) (.int a1 :: st) (M) := by
  obtain ⟨hx, hb, hml, hown, hts, hK, hX, hb0, hlk, hg, hex⟩ := F
  intro H locs ls hP hS hl h1 h2 h3
  exact lv_i2b hx hb hd rfl (k H locs ls hP hS hl h1 h2 h3)

theorem sn_lcmp (F : AmF p s m args meth c own cc nL dC dI ct g b z0 x) {a1 a2 : Int64} (hd : decode cc pc = .ok (.lcmp, 1)) (k : AmG p l e R s m args below meth c Q nL dC dI ct g b z0 s0 x (pc + 1) (ll) (.int (lg_cmp a1 a2) :: st) (M)) : AmG p l e R s m args below meth c Q nL dC dI ct g b z0 s0 x (pc) (ll) (.long a2 :: .long a1 :: st) (M) := by
  obtain ⟨hx, hb, hml, hown, hts, hK, hX, hb0, hlk, hg, hex⟩ := F
  intro H locs ls hP hS hl h1 h2 h3
  exact W.lcmp hx hb hd (k H locs ls hP hS hl h1 h2 h3)

theorem sn_dup (F : AmF p s m args meth c own cc nL dC dI ct g b z0 x) {va : Value} (cva : va.category = 1) (hd : decode cc pc = .ok (.dup, 1)) (k : AmG p l e R s m args below meth c Q nL dC dI ct g b z0 s0 x (pc + 1) (ll) (va :: va :: st) (M)) : AmG p l e R s m args below meth c Q nL dC dI ct g b z0 s0 x (pc) (ll) (va :: st) (M) := by
  obtain ⟨hx, hb, hml, hown, hts, hK, hX, hb0, hlk, hg, hex⟩ := F
  intro H locs ls hP hS hl h1 h2 h3
  exact lv_dup hx hb hd ((cv_cat g va).trans cva) (k H locs ls hP hS hl h1 h2 h3)

theorem sn_pop (F : AmF p s m args meth c own cc nL dC dI ct g b z0 x) {va : Value} (cva : va.category = 1) (hd : decode cc pc = .ok (.pop, 1)) (k : AmG p l e R s m args below meth c Q nL dC dI ct g b z0 s0 x (pc + 1) (ll) (st) (M)) : AmG p l e R s m args below meth c Q nL dC dI ct g b z0 s0 x (pc) (ll) (va :: st) (M) := by
  obtain ⟨hx, hb, hml, hown, hts, hK, hX, hb0, hlk, hg, hex⟩ := F
  intro H locs ls hP hS hl h1 h2 h3
  exact lv_pop hx hb hd ((cv_cat g va).trans cva) (k H locs ls hP hS hl h1 h2 h3)

theorem sn_dup_x1 (F : AmF p s m args meth c own cc nL dC dI ct g b z0 x) {va vb : Value} (cva : va.category = 1) (cvb : vb.category = 1) (hd : decode cc pc = .ok (.dup_x1, 1)) (k : AmG p l e R s m args below meth c Q nL dC dI ct g b z0 s0 x (pc + 1) (ll) (va :: vb :: va :: st) (M)) : AmG p l e R s m args below meth c Q nL dC dI ct g b z0 s0 x (pc) (ll) (va :: vb :: st) (M) := by
  obtain ⟨hx, hb, hml, hown, hts, hK, hX, hb0, hlk, hg, hex⟩ := F
  intro H locs ls hP hS hl h1 h2 h3
  exact lv_dup_x1 hx hb hd ((cv_cat g va).trans cva) ((cv_cat g vb).trans cvb) (k H locs ls hP hS hl h1 h2 h3)

theorem sn_dup_x2 (F : AmF p s m args meth c own cc nL dC dI ct g b z0 x) {va vb vd : Value} (cva : va.category = 1) (cvb : vb.category = 1) (cvd : vd.category = 1) (hd : decode cc pc = .ok (.dup_x2, 1)) (k : AmG p l e R s m args below meth c Q nL dC dI ct g b z0 s0 x (pc + 1) (ll) (va :: vb :: vd :: va :: st) (M)) : AmG p l e R s m args below meth c Q nL dC dI ct g b z0 s0 x (pc) (ll) (va :: vb :: vd :: st) (M) := by
  obtain ⟨hx, hb, hml, hown, hts, hK, hX, hb0, hlk, hg, hex⟩ := F
  intro H locs ls hP hS hl h1 h2 h3
  exact lv_dup_x2 hx hb hd ((cv_cat g va).trans cva) ((cv_cat g vb).trans cvb) ((cv_cat g vd).trans cvd) (k H locs ls hP hS hl h1 h2 h3)

theorem sn_dup2 (F : AmF p s m args meth c own cc nL dC dI ct g b z0 x) {va vb : Value} (cva : va.category = 1) (cvb : vb.category = 1) (hd : decode cc pc = .ok (.dup2, 1)) (k : AmG p l e R s m args below meth c Q nL dC dI ct g b z0 s0 x (pc + 1) (ll) (va :: vb :: va :: vb :: st) (M)) : AmG p l e R s m args below meth c Q nL dC dI ct g b z0 s0 x (pc) (ll) (va :: vb :: st) (M) := by
  obtain ⟨hx, hb, hml, hown, hts, hK, hX, hb0, hlk, hg, hex⟩ := F
  intro H locs ls hP hS hl h1 h2 h3
  exact lv_dup2_11 hx hb hd ((cv_cat g va).trans cva) ((cv_cat g vb).trans cvb) (k H locs ls hP hS hl h1 h2 h3)

theorem sn_goto (F : AmF p s m args meth c own cc nL dC dI ct g b z0 x) {t : Nat} (hd : decode cc pc = .ok (.goto ((t : Int) - (pc : Int)), 3)) (k : AmG p l e R s m args below meth c Q nL dC dI ct g b z0 s0 x (t) (ll) (st) (M)) : AmG p l e R s m args below meth c Q nL dC dI ct g b z0 s0 x (pc) (ll) (st) (M) := by
  obtain ⟨hx, hb, hml, hown, hts, hK, hX, hb0, hlk, hg, hex⟩ := F
  intro H locs ls hP hS hl h1 h2 h3
  exact lv_goto (tgt := t) hx hb hd (by omega) (k H locs ls hP hS hl h1 h2 h3)

theorem sn_if_eq (F : AmF p s m args meth c own cc nL dC dI ct g b z0 x) {t : Nat} {a1 : Int32} (hd : decode cc pc = .ok (.ifCond .eq ((t : Int) - (pc : Int)), 3)) (k : a1 = 0 → AmG p l e R s m args below meth c Q nL dC dI ct g b z0 s0 x (t) (ll) (st) (M)) (k' : ¬ (a1 = 0) → AmG p l e R s m args below meth c Q nL dC dI ct g b z0 s0 x (pc + 3) (ll) (st) (M)) : AmG p l e R s m args below meth c Q nL dC dI ct g b z0 s0 x (pc) (ll) (.int a1 :: st) (M) := by
  obtain ⟨hx, hb, hml, hown, hts, hK, hX, hb0, hlk, hg, hex⟩ := F
  intro H locs ls hP hS hl h1 h2 h3
  exact lv_if_eq (tgt := t) hx hb hd (by omega) (fun q => k q H locs ls hP hS hl h1 h2 h3) (fun q => k' q H locs ls hP hS hl h1 h2 h3)

theorem sn_icmp_eq (F : AmF p s m args meth c own cc nL dC dI ct g b z0 x) {t : Nat} {a1 a2 : Int32} (hd : decode cc pc = .ok (.if_icmp .eq ((t : Int) - (pc : Int)), 3)) (k : a1 = a2 → AmG p l e R s m args below meth c Q nL dC dI ct g b z0 s0 x (t) (ll) (st) (M)) (k' : ¬ (a1 = a2) → AmG p l e R s m args below meth c Q nL dC dI ct g b z0 s0 x (pc + 3) (ll) (st) (M)) : AmG p l e R s m args below meth c Q nL dC dI ct g b z0 s0 x (pc) (ll) (.int a2 :: .int a1 :: st) (M) := by
  obtain ⟨hx, hb, hml, hown, hts, hK, hX, hb0, hlk, hg, hex⟩ := F
  intro H locs ls hP hS hl h1 h2 h3
  exact lv_icmp_eq (tgt := t) hx hb hd (by omega) (fun q => k q H locs ls hP hS hl h1 h2 h3) (fun q => k' q H locs ls hP hS hl h1 h2 h3)

theorem sn_if_ne (F : AmF p s m args meth c own cc nL dC dI ct g b z0 x) {t : Nat} {a1 : Int32} (hd : decode cc pc = .ok (.ifCond .ne ((t : Int) - (pc : Int)), 3)) (k : ¬ a1 = 0 → AmG p l e R s m args below meth c Q nL dC dI ct g b z0 s0 x (t) (ll) (st) (M)) (k' : a1 = 0 → AmG p l e R s m args below meth c Q nL dC dI ct g b z0 s0 x (pc + 3) (ll) (st) (M)) : AmG p l e R s m args below meth c Q nL dC dI ct g b z0 s0 x (pc) (ll) (.int a1 :: st) (M) := by
  obtain ⟨hx, hb, hml, hown, hts, hK, hX, hb0, hlk, hg, hex⟩ := F
  intro H locs ls hP hS hl h1 h2 h3
  exact lv_if_ne (tgt := t) hx hb hd (by omega) (fun q => k q H locs ls hP hS hl h1 h2 h3) (fun q => k' q H locs ls hP hS hl h1 h2 h3)

theorem sn_icmp_ne (F : AmF p s m args meth c own cc nL dC dI ct g b z0 x) {t : Nat} {a1 a2 : Int32} (hd : decode cc pc = .ok (.if_icmp .ne ((t : Int) - (pc : Int)), 3)) (k : ¬ a1 = a2 → AmG p l e R s m args below meth c Q nL dC dI ct g b z0 s0 x (t) (ll) (st) (M)) (k' : a1 = a2 → AmG p l e R s m args below meth c Q nL dC dI ct g b z0 s0 x (pc + 3) (ll) (st) (M)) : AmG p l e R s m args below meth c Q nL dC dI ct g b z0 s0 x (pc) (ll) (.int a2 :: .int a1 :: st) (M) := by
  obtain ⟨hx, hb, hml, hown, hts, hK, hX, hb0, hlk, hg, hex⟩ := F
  intro H locs ls hP hS hl h1 h2 h3
  exact lv_icmp_ne (tgt := t) hx hb hd (by omega) (fun q => k q H locs ls hP hS hl h1 h2 h3) (fun q => k' q H locs ls hP hS hl h1 h2 h3)

theorem sn_if_lt (F : AmF p s m args meth c own cc nL dC dI ct g b z0 x) {t : Nat} {a1 : Int32} (hd : decode cc pc = .ok (.ifCond .lt ((t : Int) - (pc : Int)), 3)) (k : a1 < 0 → AmG p l e R s m args below meth c Q nL dC dI ct g b z0 s0 x (t) (ll) (st) (M)) (k' : ¬ (a1 < 0) → AmG p l e R s m args below meth c Q nL dC dI ct g b z0 s0 x (pc + 3) (ll) (st) (M)) : AmG p l e R s m args below meth c Q nL dC dI ct g b z0 s0 x (pc) (ll) (.int a1 :: st) (M) := by
  obtain ⟨hx, hb, hml, hown, hts, hK, hX, hb0, hlk, hg, hex⟩ := F
  intro H locs ls hP hS hl h1 h2 h3
  exact lv_if_lt (tgt := t) hx hb hd (by omega) (fun q => k q H locs ls hP hS hl h1 h2 h3) (fun q => k' q H locs ls hP hS hl h1 h2 h3)

theorem sn_icmp_lt (F : AmF p s m args meth c own cc nL dC dI ct g b z0 x) {t : Nat} {a1 a2 : Int32} (hd : decode cc pc = .ok (.if_icmp .lt ((t : Int) - (pc : Int)), 3)) (k : a1 < a2 → AmG p l e R s m args below meth c Q nL dC dI ct g b z0 s0 x (t) (ll) (st) (M)) (k' : ¬ (a1 < a2) → AmG p l e R s m args below meth c Q nL dC dI ct g b z0 s0 x (pc + 3) (ll) (st) (M)) : AmG p l e R s m args below meth c Q nL dC dI ct g b z0 s0 x (pc) (ll) (.int a2 :: .int a1 :: st) (M) := by
  obtain ⟨hx, hb, hml, hown, hts, hK, hX, hb0, hlk, hg, hex⟩ := F
  intro H locs ls hP hS hl h1 h2 h3
  exact lv_icmp_lt (tgt := t) hx hb hd (by omega) (fun q => k q H locs ls hP hS hl h1 h2 h3) (fun q => k' q H locs ls hP hS hl h1 h2 h3)

theorem sn_if_ge (F : AmF p s m args meth c own cc nL dC dI ct g b z0 x) {t : Nat} {a1 : Int32} (hd : decode cc pc = .ok (.ifCond .ge ((t : Int) - (pc : Int)), 3)) (k : 0 ≤ a1 → AmG p l e R s m args below meth c Q nL dC dI ct g b z0 s0 x (t) (ll) (st) (M)) (k' : ¬ (0 ≤ a1) → AmG p l e R s m args below meth c Q nL dC dI ct g b z0 s0 x (pc + 3) (ll) (st) (M)) : AmG p l e R s m args below meth c Q nL dC dI ct g b z0 s0 x (pc) (ll) (.int a1 :: st) (M) := by
  obtain ⟨hx, hb, hml, hown, hts, hK, hX, hb0, hlk, hg, hex⟩ := F
  intro H locs ls hP hS hl h1 h2 h3
  exact lv_if_ge (tgt := t) hx hb hd (by omega) (fun q => k q H locs ls hP hS hl h1 h2 h3) (fun q => k' q H locs ls hP hS hl h1 h2 h3)

theorem sn_icmp_ge (F : AmF p s m args meth c own cc nL dC dI ct g b z0 x) {t : Nat} {a1 a2 : Int32} (hd : decode cc pc = .ok (.if_icmp .ge ((t : Int) - (pc : Int)), 3)) (k : a2 ≤ a1 → AmG p l e R s m args below meth c Q nL dC dI ct g b z0 s0 x (t) (ll) (st) (M)) (k' : ¬ (a2 ≤ a1) → AmG p l e R s m args below meth c Q nL dC dI ct g b z0 s0 x (pc + 3) (ll) (st) (M)) : AmG p l e R s m args below meth c Q nL dC dI ct g b z0 s0 x (pc) (ll) (.int a2 :: .int a1 :: st) (M) := by
  obtain ⟨hx, hb, hml, hown, hts, hK, hX, hb0, hlk, hg, hex⟩ := F
  intro H locs ls hP hS hl h1 h2 h3
  exact lv_icmp_ge (tgt := t) hx hb hd (by omega) (fun q => k q H locs ls hP hS hl h1 h2 h3) (fun q => k' q H locs ls hP hS hl h1 h2 h3)

theorem sn_if_gt (F : AmF p s m args meth c own cc nL dC dI ct g b z0 x) {t : Nat} {a1 : Int32} (hd : decode cc pc = .ok (.ifCond .gt ((t : Int) - (pc : Int)), 3)) (k : 0 < a1 → AmG p l e R s m args below meth c Q nL dC dI ct g b z0 s0 x (t) (ll) (st) (M)) (k' : ¬ (0 < a1) → AmG p l e R s m args below meth c Q nL dC dI ct g b z0 s0 x (pc + 3) (ll) (st) (M)) : AmG p l e R s m args below meth c Q nL dC dI ct g b z0 s0 x (pc) (ll) (.int a1 :: st) (M) := by
  obtain ⟨hx, hb, hml, hown, hts, hK, hX, hb0, hlk, hg, hex⟩ := F
  intro H locs ls hP hS hl h1 h2 h3
  exact lv_if_gt (tgt := t) hx hb hd (by omega) (fun q => k q H locs ls hP hS hl h1 h2 h3) (fun q => k' q H locs ls hP hS hl h1 h2 h3)

theorem sn_icmp_gt (F : AmF p s m args meth c own cc nL dC dI ct g b z0 x) {t : Nat} {a1 a2 : Int32} (hd : decode cc pc = .ok (.if_icmp .gt ((t : Int) - (pc : Int)), 3)) (k : a2 < a1 → AmG p l e R s m args below meth c Q nL dC dI ct g b z0 s0 x (t) (ll) (st) (M)) (k' : ¬ (a2 < a1) → AmG p l e R s m args below meth c Q nL dC dI ct g b z0 s0 x (pc + 3) (ll) (st) (M)) : AmG p l e R s m args below meth c Q nL dC dI ct g b z0 s0 x (pc) (ll) (.int a2 :: .int a1 :: st) (M) := by
  obtain ⟨hx, hb, hml, hown, hts, hK, hX, hb0, hlk, hg, hex⟩ := F
  intro H locs ls hP hS hl h1 h2 h3
  exact lv_icmp_gt (tgt := t) hx hb hd (by omega) (fun q => k q H locs ls hP hS hl h1 h2 h3) (fun q => k' q H locs ls hP hS hl h1 h2 h3)

theorem sn_if_le (F : AmF p s m args meth c own cc nL dC dI ct g b z0 x) {t : Nat} {a1 : Int32} (hd : decode cc pc = .ok (.ifCond .le ((t : Int) - (pc : Int)), 3)) (k : a1 ≤ 0 → AmG p l e R s m args below meth c Q nL dC dI ct g b z0 s0 x (t) (ll) (st) (M)) (k' : ¬ (a1 ≤ 0) → AmG p l e R s m args below meth c Q nL dC dI ct g b z0 s0 x (pc + 3) (ll) (st) (M)) : AmG p l e R s m args below meth c Q nL dC dI ct g b z0 s0 x (pc) (ll) (.int a1 :: st) (M) := by
  obtain ⟨hx, hb, hml, hown, hts, hK, hX, hb0, hlk, hg, hex⟩ := F
  intro H locs ls hP hS hl h1 h2 h3
  exact lv_if_le (tgt := t) hx hb hd (by omega) (fun q => k q H locs ls hP hS hl h1 h2 h3) (fun q => k' q H locs ls hP hS hl h1 h2 h3)

theorem sn_icmp_le (F : AmF p s m args meth c own cc nL dC dI ct g b z0 x) {t : Nat} {a1 a2 : Int32} (hd : decode cc pc = .ok (.if_icmp .le ((t : Int) - (pc : Int)), 3)) (k : a1 ≤ a2 → AmG p l e R s m args below meth c Q nL dC dI ct g b z0 s0 x (t) (ll) (st) (M)) (k' : ¬ (a1 ≤ a2) → AmG p l e R s m args below meth c Q nL dC dI ct g b z0 s0 x (pc + 3) (ll) (st) (M)) : AmG p l e R s m args below meth c Q nL dC dI ct g b z0 s0 x (pc) (ll) (.int a2 :: .int a1 :: st) (M) := by
  obtain ⟨hx, hb, hml, hown, hts, hK, hX, hb0, hlk, hg, hex⟩ := F
  intro H locs ls hP hS hl h1 h2 h3
  exact lv_icmp_le (tgt := t) hx hb hd (by omega) (fun q => k q H locs ls hP hS hl h1 h2 h3) (fun q => k' q H locs ls hP hS hl h1 h2 h3)

end AmRows
