/-! Rows of switches, returns, throws. -/
section AmEnd
variable {p : Program} {l : Launch} {e : Env} {R : Room} {s : State} {m : MethodId} {args : Array Value} {below : List Frame} {meth : Method} {c : Code} {Q : State → Prop} {cc : ByteArray} {own : String} {nL : Nat} {dC : Nat → ClassId} {dI : Nat → Nat → Nat} {ct : Nat → ClassId} {g : Nat → Nat} {b z0 s0 : Nat} {x : Bool} {pc : Nat} {ll : AmL} {st : List Value} {M : AmM}
/-- what is so behind a method that returned, or threw -/
def amQ (dC : Nat → ClassId) (dI : Nat → Nat → Nat) (ct : Nat → ClassId) (g : Nat → Nat) (b : Nat) (o : AmO) (M : AmM) : Array Value → State → Outcome → State → Prop := fun _ st oc t =>
  ∃ v, o = .inl v ∧ oc = .returned (v.map (cv g)) ∧ va_P (dC, dI) vwCl (amWs ct g M) t.heap ∧ va_F (amA g b) st t
def amEx (n : Nat) : String := match n with
  | 0 => "java/util/NoSuchElementException"
  | _ => "java/lang/IllegalArgumentException"
def amX (dC : Nat → ClassId) (dI : Nat → Nat → Nat) (ct : Nat → ClassId) (g : Nat → Nat) (b : Nat) (o : AmO) (M : AmM) : String → State → State → Prop := fun E st t =>
  ∃ n, o = .inr n ∧ E = amEx n ∧ va_P (dC, dI) vwCl (amWs ct g M) t.heap ∧ va_F (amA g b) st t
/-- the cells and slots that an end takes beside those of the memory -/
def amXc (o : AmO) : Nat := match o with
  | .inl _ => 0
  | .inr _ => 1
def amXs (o : AmO) : Nat := match o with
  | .inl _ => 0
  | .inr _ => 6
def amQq (below : List Frame) (args : Array Value) (s : State) (dC : Nat → ClassId) (dI : Nat → Nat → Nat) (ct : Nat → ClassId) (g : Nat → Nat) (b z0 s0 : Nat) (o : AmO) (M : AmM) : State → Prop :=
  vx_MQ below (amQ dC dI ct g b o M) (amX dC dI ct g b o M) args s (mZ M - z0 + amXc o) (mS M - s0 + amXs o) (amA g b)
theorem sn_iret (F : AmF p s m args meth c own cc nL dC dI ct g b z0 x) {v : Int32} (hr : meth.sig.returnType = some .int) (hd : decode cc pc = .ok (.ireturn, 1)) : AmG p l e R s m args below meth c (amQq below args s dC dI ct g b z0 s0 (.inl (some (.int v))) M) nL dC dI ct g b z0 s0 x (pc) (ll) ([.int v]) (M) := by
  obtain ⟨hx, hb, hml, hown, hts, hK, hX, hb0, hlk, hg, hex⟩ := F
  intro H locs ls hP hS hl h1 h2 h3
  refine vx_ret ?_
  exact W.iret (v := v) hx hb hr (fun t ht hW => ⟨_, rfl, rfl, by rw [ht]; exact hP, hS.F ht⟩) hS.2.2 hd
theorem sn_zret (F : AmF p s m args meth c own cc nL dC dI ct g b z0 x) {v : Int32} (hr : meth.sig.returnType = some .boolean) (hv : v = 0 ∨ v = 1) (hd : decode cc pc = .ok (.ireturn, 1)) : AmG p l e R s m args below meth c (amQq below args s dC dI ct g b z0 s0 (.inl (some (.int v))) M) nL dC dI ct g b z0 s0 x (pc) (ll) ([.int v]) (M) := by
  obtain ⟨hx, hb, hml, hown, hts, hK, hX, hb0, hlk, hg, hex⟩ := F
  intro H locs ls hP hS hl h1 h2 h3
  refine vx_ret ?_
  exact W.zret (v := v) hx hb hr (by rcases hv with rfl | rfl <;> decide) (fun t ht hW => ⟨_, rfl, rfl, by rw [ht]; exact hP, hS.F ht⟩) hS.2.2 hd
theorem sn_lret (F : AmF p s m args meth c own cc nL dC dI ct g b z0 x) {v : Int64} (hr : meth.sig.returnType = some .long) (hd : decode cc pc = .ok (.lreturn, 1)) : AmG p l e R s m args below meth c (amQq below args s dC dI ct g b z0 s0 (.inl (some (.long v))) M) nL dC dI ct g b z0 s0 x (pc) (ll) ([.long v]) (M) := by
  obtain ⟨hx, hb, hml, hown, hts, hK, hX, hb0, hlk, hg, hex⟩ := F
  intro H locs ls hP hS hl h1 h2 h3
  refine vx_ret ?_
  exact W.lret (v := v) hx hb hr (fun t ht hW => ⟨_, rfl, rfl, by rw [ht]; exact hP, hS.F ht⟩) hS.2.2 hd
theorem sn_aret (F : AmF p s m args meth c own cc nL dC dI ct g b z0 x) {v : Nat} {rt : String} (hr : meth.sig.returnType = some (.object rt)) (hd : decode cc pc = .ok (.areturn, 1)) : AmG p l e R s m args below meth c (amQq below args s dC dI ct g b z0 s0 (.inl (some (.ref v))) M) nL dC dI ct g b z0 s0 x (pc) (ll) ([.ref v]) (M) := by
  obtain ⟨hx, hb, hml, hown, hts, hK, hX, hb0, hlk, hg, hex⟩ := F
  intro H locs ls hP hS hl h1 h2 h3
  refine vx_ret ?_
  exact W.aret (v := .ref (g v)) hx hb hr (Or.inl ⟨_, rfl⟩) (Or.inr ⟨_, rfl⟩) (fun t ht hW => ⟨_, rfl, rfl, by rw [ht]; exact hP, hS.F ht⟩) hS.2.2 hd
theorem sn_vret (F : AmF p s m args meth c own cc nL dC dI ct g b z0 x) (hr : meth.sig.returnType = none) (hd : decode cc pc = .ok (.return_, 1)) : AmG p l e R s m args below meth c (amQq below args s dC dI ct g b z0 s0 (.inl none) M) nL dC dI ct g b z0 s0 x (pc) (ll) ([]) (M) := by
  obtain ⟨hx, hb, hml, hown, hts, hK, hX, hb0, hlk, hg, hex⟩ := F
  intro H locs ls hP hS hl h1 h2 h3
  refine vx_ret ?_
  exact W.vret hx hb hr (fun t ht hW => ⟨_, rfl, rfl, by rw [ht]; exact hP, hS.F ht⟩) hS.2.2 hd
theorem sn_tabOut (F : AmF p s m args meth c own cc nL dC dI ct g b z0 x) {a : Int32} {t d : Nat} {lo hi : Int} {os : Array Int} {len : Nat} (h : a.toInt < lo ∨ hi < a.toInt) (hd : decode cc pc = .ok (.tableswitch ((t : Int) - (pc : Int)) lo hi os, len)) (k : AmG p l e R s m args below meth c Q nL dC dI ct g b z0 s0 x (t) (ll) (st) (M)) : AmG p l e R s m args below meth c Q nL dC dI ct g b z0 s0 x (pc) (ll) (.int a :: st) (M) := by
  obtain ⟨hx, hb, hml, hown, hts, hK, hX, hb0, hlk, hg, hex⟩ := F
  intro H locs ls hP hS hl h1 h2 h3
  exact lv_tableOut (tgt := t) hx hb hd h (by omega) (k H locs ls hP hS hl h1 h2 h3)
theorem sn_tabIn (F : AmF p s m args meth c own cc nL dC dI ct g b z0 x) {a : Int32} {t : Nat} {d lo hi off : Int} {os : Array Int} {len : Nat} (h1' : ¬ a.toInt < lo) (h2' : ¬ hi < a.toInt) (ho : os[(a.toInt - lo).toNat]? = some off) (ht : (pc : Int) + off = (t : Int)) (hd : decode cc pc = .ok (.tableswitch d lo hi os, len)) (k : AmG p l e R s m args below meth c Q nL dC dI ct g b z0 s0 x (t) (ll) (st) (M)) : AmG p l e R s m args below meth c Q nL dC dI ct g b z0 s0 x (pc) (ll) (.int a :: st) (M) := by
  obtain ⟨hx, hb, hml, hown, hts, hK, hX, hb0, hlk, hg, hex⟩ := F
  intro H locs ls hP hS hl h1 h2 h3
  exact lv_tableIn (tgt := t) hx hb hd h1' h2' ho ht (k H locs ls hP hS hl h1 h2 h3)
theorem sn_look (F : AmF p s m args meth c own cc nL dC dI ct g b z0 x) {a : Int32} {t : Nat} {d off : Int} {ps : Array (Int × Int)} {len : Nat} (hp : (ps.toList.zip (ps.toList.drop 1)).all (fun (a, next) => a.1 < next.1) = true) (ho : Op.lookupswitch.offset ps.toList d a.toInt = off) (ht : (pc : Int) + off = (t : Int)) (hd : decode cc pc = .ok (.lookupswitch d ps, len)) (k : AmG p l e R s m args below meth c Q nL dC dI ct g b z0 s0 x (t) (ll) (st) (M)) : AmG p l e R s m args below meth c Q nL dC dI ct g b z0 s0 x (pc) (ll) (.int a :: st) (M) := by
  obtain ⟨hx, hb, hml, hown, hts, hK, hX, hb0, hlk, hg, hex⟩ := F
  intro H locs ls hP hS hl h1 h2 h3
  exact lv_lookup (tgt := t) hx hb hd hp ho ht (k H locs ls hP hS hl h1 h2 h3)
theorem sn_throw (F : AmF p s m args meth c own cc nL dC dI ct g b z0 x) {n ik is ic sa : Nat} {text : String} (hlt : l.stackTraces = false) (hxf : ∀ z ∈ c.exceptionTable.toList, False) (hk : Cond.classLink own ik (amEx n) ∈ amTB) (hi : Cond.initialized (amEx n) ∈ amTB) (hstr : vk_R own is text sa s) (hcls : Bundle.fit (amEx n) = true) (hat : ∀ w ∈ vx_atS own ic (amEx n) ["java/lang/RuntimeException", "java/lang/Exception"], w.before args s = true) (hgood : ∀ w ∈ Cond.classLink own ik (amEx n) :: Cond.initialized (amEx n) :: vx_atS own ic (amEx n) ["java/lang/RuntimeException", "java/lang/Exception"], vx_ot w = true) (hst : amCat st ≤ 8) (hr1 : 6 ≤ R.frames) (hr2 : 90 ≤ R.locals) (hr3 : mZ M - z0 + 1 ≤ R.cells) (hr4 : mS M - s0 + 6 ≤ R.slots) (d0 : decode cc pc = .ok (.new ik, 3)) (d3 : decode cc (pc + 3) = .ok (.dup, 1)) (d4 : decode cc (pc + 4) = .ok (.ldc is, 2)) (d6 : decode cc (pc + 6) = .ok (.invokespecial ic, 3)) (d9 : decode cc (pc + 9) = .ok (.athrow, 1)) : AmG p l e R s m args below meth c (amQq below args s dC dI ct g b z0 s0 (.inr n) M) nL dC dI ct g b z0 s0 x (pc) (ll) (st) (M) := by
  obtain ⟨hx, hb, hml, hown, hts, hK, hX, hb0, hlk, hg, hex⟩ := F
  intro H locs ls hP hS hl h1 h2 h3
  refine vx_throwS (A := amA g b) (names := ["java/lang/RuntimeException", "java/lang/Exception"]) (text := text) (sa := sa) hx hb hlt hown hcls (by decide) (hts _ hk) (hts _ hi) hstr hat hgood hX.2.1 hX.2.2.1 hS (by rw [hml]; exact hl.1) d0 d3 d4 d6 d9 (fun z hz => (hxf z hz).elim) ?_ ?_ hr3 hr4 hlk ?_ hS.2.2 (Nat.le_refl _) (Nat.le_refl _)
  · exact hr1
  · exact Nat.le_trans (Nat.add_le_add_right (Nat.le_trans (Nat.le_of_eq (am_cats g st)) hst) _) hr2
  · intro t ha hz hk9
    refine ⟨n, rfl, rfl, hP.kept (fun k q hq => hk9 _ (hP k q hq).lt), ?_⟩
    exact ⟨Nat.le_trans hS.1 hz, fun q q1 q2 => (hk9 q (Nat.lt_of_lt_of_le q1 hS.1)).trans (hS.2.1 q q1 q2)⟩
theorem sn_min (F : AmF p s m args meth c own cc nL dC dI ct g b z0 x) {a1 a2 : Int32} {idx : Nat} (hw1 : Cond.methodLink own idx Lib.Math.min.name ∈ amTB) (hw2 : Cond.static Lib.Math.min.name ∈ amTB) (hw3 : Cond.initialized "java/lang/Math" ∈ amTB) (hw4 : Cond.code Lib.Math.min.name Lib.Math.min.code 2 (some .int) ∈ amTB) (hst : amCat st ≤ 8) (hr1 : 1 ≤ R.frames) (hr2 : 21 ≤ R.locals) (hr3 : mZ M - z0 ≤ R.cells) (hr4 : mS M - s0 ≤ R.slots) (hd : decode cc pc = .ok (.invokestatic idx, 3)) (k : AmG p l e R s m args below meth c Q nL dC dI ct g b z0 s0 x (pc + 3) (ll) (.int (if a2 < a1 then a2 else a1) :: st) (M)) : AmG p l e R s m args below meth c Q nL dC dI ct g b z0 s0 x (pc) (ll) (.int a2 :: .int a1 :: st) (M) := by
  obtain ⟨hx, hb, hml, hown, hts, hK, hX, hb0, hlk, hg, hex⟩ := F
  intro H locs ls hP hS hl h1 h2 h3
  exact va_mmin hx hb (by rw [hml]; exact hl.1.symm) hown (hts _ hw1) (hts _ hw2) (hts _ hw3) (hts _ hw4) hr1 (Nat.le_trans (Nat.add_le_add_right (Nat.le_trans (Nat.le_of_eq (am_cats g st)) hst) _) hr2) hr3 hr4 hd (k H locs ls hP hS hl h1 h2 h3)
theorem sn_max (F : AmF p s m args meth c own cc nL dC dI ct g b z0 x) {a1 a2 : Int32} {idx : Nat} (hw1 : Cond.methodLink own idx Lib.Math.max.name ∈ amTB) (hw2 : Cond.static Lib.Math.max.name ∈ amTB) (hw3 : Cond.initialized "java/lang/Math" ∈ amTB) (hw4 : Cond.code Lib.Math.max.name Lib.Math.max.code 2 (some .int) ∈ amTB) (hst : amCat st ≤ 8) (hr1 : 1 ≤ R.frames) (hr2 : 21 ≤ R.locals) (hr3 : mZ M - z0 ≤ R.cells) (hr4 : mS M - s0 ≤ R.slots) (hd : decode cc pc = .ok (.invokestatic idx, 3)) (k : AmG p l e R s m args below meth c Q nL dC dI ct g b z0 s0 x (pc + 3) (ll) (.int (if a1 < a2 then a2 else a1) :: st) (M)) : AmG p l e R s m args below meth c Q nL dC dI ct g b z0 s0 x (pc) (ll) (.int a2 :: .int a1 :: st) (M) := by
  obtain ⟨hx, hb, hml, hown, hts, hK, hX, hb0, hlk, hg, hex⟩ := F
  intro H locs ls hP hS hl h1 h2 h3
  exact va_mmax hx hb (by rw [hml]; exact hl.1.symm) hown (hts _ hw1) (hts _ hw2) (hts _ hw3) (hts _ hw4) hr1 (Nat.le_trans (Nat.add_le_add_right (Nat.le_trans (Nat.le_of_eq (am_cats g st)) hst) _) hr2) hr3 hr4 hd (k H locs ls hP hS hl h1 h2 h3)
end AmEnd
