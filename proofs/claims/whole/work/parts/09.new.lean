/-! Rows of new cells, of Object's constructor, of copies, switches, returns. -/
section AmNew
variable {p : Program} {l : Launch} {e : Env} {R : Room} {s : State} {m : MethodId} {args : Array Value} {below : List Frame} {meth : Method} {c : Code} {Q : State → Prop} {cc : ByteArray} {own : String} {nL : Nat} {dC : Nat → ClassId} {dI : Nat → Nat → Nat} {ct : Nat → ClassId} {g : Nat → Nat} {b z0 s0 : Nat} {x : Bool} {pc : Nat} {ll : AmL} {st : List Value} {M : AmM}
def amWok (t : FieldType) : Bool := match t with
  | .float => false
  | .double => false
  | _ => true
theorem am_wok : ∀ c, c < 11 → ∀ k, k < amNf c → amWok (amT c k) = true := am_lt11 (by decide) (by decide) (by decide) (by decide) (by decide) (by decide) (by decide) (by decide) (by decide) (by decide) (by decide)
theorem am_dflt {t : FieldType} {a j : Nat} {M : AmM} (h : amWok t = true) (h0 : mI M a j = 0) (h1 : mJ M a j = 0) (h2 : mP M a j = none) : defaultValue t = amV g M a j t := by
  cases t <;> simp_all [amWok, defaultValue, amV, amW, va_rf]
theorem am_new0 (M : AmM) (kind len sl j : Nat) : mI (mNew M kind len sl) (mZ M) j = 0 ∧ mJ (mNew M kind len sl) (mZ M) j = 0 ∧ mP (mNew M kind len sl) (mZ M) j = none := by
  simp [mNew, mI, mJ, mP, va_up]
theorem sn_new (F : AmF p s m args meth c own cc nL dC dI ct g b z0 x) {ci idx : Nat} (hxt : x = true) (hc : ci < 11) (hw1 : Cond.classLink own idx (amRX ci) ∈ amTB) (hw2 : Cond.instantiable (amRX ci) (amNf ci) ∈ amTB) (hw3 : Cond.initialized (amRX ci) ∈ amTB) (hr1 : mZ M - z0 + 1 ≤ R.cells) (hr2 : mS M - s0 + amNf ci ≤ R.slots) (h4 : mZ M < amKN) (hd : decode cc pc = .ok (.new idx, 3)) (k : AmG p l e R s m args below meth c Q nL dC dI ct g b z0 s0 x (pc + 3) (ll) (.ref (mZ M) :: st) (mNew M ci 0 (amNf ci))) : AmG p l e R s m args below meth c Q nL dC dI ct g b z0 s0 x (pc) (ll) (st) (M) := by
  obtain ⟨hx, hb, hml, hown, hts, hK, hX, hb0, hlk, hg, hex⟩ := F
  intro H locs ls hP hS hl h1 h2 h3
  have hA : ∀ q : Nat, s.heap.size ≤ q → amA g b q := fun q h => hb0.ins h
  refine va_new (D := (dC, dI)) (ci := ci) (fs := amFs g (mNew M ci 0 (amNf ci)) (mZ M)) hx hb hts (am_in ci hc) (amT ci) (am_ty ci hc) hown (hts _ hw1) (hts _ hw2) (hts _ hw3) hK hP (amWs_D hg h3) hS hA (am_cl ci hc) ?_ hr1 hr2 hd (fun q H1 hP1 hD1 hS1 => ?_)
  · intro j hj
    have e1 : mK (mNew M ci 0 (amNf ci)) (mZ M) = ci := by simp [mNew, mK, va_up]
    have e2 := amFs_at (g := g) (M := mNew M ci 0 (amNf ci)) e1 hj
    obtain ⟨q1, q2, q3⟩ := am_new0 M ci 0 (amNf ci) j
    rw [vp_V, List.getD_eq_getElem?_getD, e2]
    exact am_dflt (am_wok ci hc j hj) q1 q2 q3
  · refine W_size (fun hH => ?_)
    have hq : q = g (mZ M) := am_next (H := H) hg h4 hP1 hD1 (by have := hex hxt; omega)
    subst hq
    have e1 : mK (mNew M ci 0 (amNf ci)) (mZ M) = ci := by simp [mNew, mK, va_up]
    rw [amWs_push (M' := mNew M ci 0 (amNf ci)) rfl (fun d hd => amE_new hd) (amE_ob e1 hc)] at hP1
    have q1 : mZ (mNew M ci 0 (amNf ci)) - z0 = mZ M - z0 + 1 := by show mZ M + 1 - z0 = _; omega
    have q2 : mS (mNew M ci 0 (amNf ci)) - s0 = mS M - s0 + amNf ci := by show mS M + amNf ci - s0 = _; omega
    have kk := k H1 locs ls hP1 hS1 hl (by show z0 ≤ mZ M + 1; omega) (by show s0 ≤ mS M + amNf ci; omega) (by show mZ M + 1 ≤ amKN; omega)
    rw [q1, q2] at kk
    exact kk
theorem sn_newa_int (F : AmF p s m args meth c own cc nL dC dI ct g b z0 x) {n : Int32} (hxt : x = true) (hw1 : Cond.arrayClass .int ∈ amTB) (hn : ¬ n < 0) (hn2 : n.toNatClampNeg ≤ 100000) (hr1 : mZ M - z0 + 1 ≤ R.cells) (hr2 : mS M - s0 + n.toNatClampNeg ≤ R.slots) (h4 : mZ M < amKN) (hd : decode cc pc = .ok (.newarray .int, 2)) (k : AmG p l e R s m args below meth c Q nL dC dI ct g b z0 s0 x (pc + 2) (ll) (.ref (mZ M) :: st) (mNew M 12 n.toNatClampNeg n.toNatClampNeg)) : AmG p l e R s m args below meth c Q nL dC dI ct g b z0 s0 x (pc) (ll) (.int n :: st) (M) := by
  obtain ⟨hx, hb, hml, hown, hts, hK, hX, hb0, hlk, hg, hex⟩ := F
  intro H locs ls hP hS hl h1 h2 h3
  have hA : ∀ q : Nat, s.heap.size ≤ q → amA g b q := fun q h => hb0.ins h
  refine va_newa (D := (dC, dI)) (atype := .int) (ty := .int) (a0 := (n.toNatClampNeg, .inl (fun _ => 0))) hx hb (hts _ hw1) rfl hK hP (amWs_D hg h3) hS hA (fun cA => rfl) hn rfl (by simp only [componentBytes]; omega) hr1 hr2 hd (fun q cA H1 hK1 hP1 hD1 hS1 => ?_)
  refine W_size (fun hH => ?_)
  have hq : q = g (mZ M) := am_next (H := H) hg h4 hP1 hD1 (by have := hex hxt; omega)
  subst hq
  have hcA : cA = ct 12 := Option.some.inj ((hK1.2 5 _ rfl).2.symm.trans (hK1.2 1 _ rfl).2)
  subst hcA
  have e1 : mK (mNew M 12 n.toNatClampNeg n.toNatClampNeg) (mZ M) = 12 := by simp [mNew, mK, va_up]
  have e2 : mN (mNew M 12 n.toNatClampNeg n.toNatClampNeg) (mZ M) = n.toNatClampNeg := by simp [mNew, mN, va_up]
  have e3 : mI (mNew M 12 n.toNatClampNeg n.toNatClampNeg) (mZ M) = fun _ => 0 := by simp [mNew, mI, va_up]
  rw [amWs_push (M' := mNew M 12 n.toNatClampNeg n.toNatClampNeg) rfl (fun d hd => amE_new hd) (by rw [amE_ar (by rw [e1]; decide) (by rw [e1]; decide), e1, e2, e3])] at hP1
  have q1 : mZ (mNew M 12 n.toNatClampNeg n.toNatClampNeg) - z0 = mZ M - z0 + 1 := by show mZ M + 1 - z0 = _; omega
  have q2 : mS (mNew M 12 n.toNatClampNeg n.toNatClampNeg) - s0 = mS M - s0 + n.toNatClampNeg := by show mS M + n.toNatClampNeg - s0 = _; omega
  have kk := k H1 locs ls hP1 hS1 hl (by show z0 ≤ mZ M + 1; omega) (by show s0 ≤ mS M + n.toNatClampNeg; omega) (by show mZ M + 1 ≤ amKN; omega)
  rw [q1, q2] at kk
  exact kk
theorem sn_newa_byte (F : AmF p s m args meth c own cc nL dC dI ct g b z0 x) {n : Int32} (hxt : x = true) (hw1 : Cond.arrayClass .byte ∈ amTB) (hn : ¬ n < 0) (hn2 : n.toNatClampNeg ≤ 100000) (hr1 : mZ M - z0 + 1 ≤ R.cells) (hr2 : mS M - s0 + n.toNatClampNeg ≤ R.slots) (h4 : mZ M < amKN) (hd : decode cc pc = .ok (.newarray .byte, 2)) (k : AmG p l e R s m args below meth c Q nL dC dI ct g b z0 s0 x (pc + 2) (ll) (.ref (mZ M) :: st) (mNew M 11 n.toNatClampNeg n.toNatClampNeg)) : AmG p l e R s m args below meth c Q nL dC dI ct g b z0 s0 x (pc) (ll) (.int n :: st) (M) := by
  obtain ⟨hx, hb, hml, hown, hts, hK, hX, hb0, hlk, hg, hex⟩ := F
  intro H locs ls hP hS hl h1 h2 h3
  have hA : ∀ q : Nat, s.heap.size ≤ q → amA g b q := fun q h => hb0.ins h
  refine va_newa (D := (dC, dI)) (atype := .byte) (ty := .byte) (a0 := (n.toNatClampNeg, .inl (fun _ => 0))) hx hb (hts _ hw1) rfl hK hP (amWs_D hg h3) hS hA (fun cA => rfl) hn rfl (by simp only [componentBytes]; omega) hr1 hr2 hd (fun q cA H1 hK1 hP1 hD1 hS1 => ?_)
  refine W_size (fun hH => ?_)
  have hq : q = g (mZ M) := am_next (H := H) hg h4 hP1 hD1 (by have := hex hxt; omega)
  subst hq
  have hcA : cA = ct 11 := Option.some.inj ((hK1.2 5 _ rfl).2.symm.trans (hK1.2 0 _ rfl).2)
  subst hcA
  have e1 : mK (mNew M 11 n.toNatClampNeg n.toNatClampNeg) (mZ M) = 11 := by simp [mNew, mK, va_up]
  have e2 : mN (mNew M 11 n.toNatClampNeg n.toNatClampNeg) (mZ M) = n.toNatClampNeg := by simp [mNew, mN, va_up]
  have e3 : mI (mNew M 11 n.toNatClampNeg n.toNatClampNeg) (mZ M) = fun _ => 0 := by simp [mNew, mI, va_up]
  rw [amWs_push (M' := mNew M 11 n.toNatClampNeg n.toNatClampNeg) rfl (fun d hd => amE_new hd) (by rw [amE_ar (by rw [e1]; decide) (by rw [e1]; decide), e1, e2, e3])] at hP1
  have q1 : mZ (mNew M 11 n.toNatClampNeg n.toNatClampNeg) - z0 = mZ M - z0 + 1 := by show mZ M + 1 - z0 = _; omega
  have q2 : mS (mNew M 11 n.toNatClampNeg n.toNatClampNeg) - s0 = mS M - s0 + n.toNatClampNeg := by show mS M + n.toNatClampNeg - s0 = _; omega
  have kk := k H1 locs ls hP1 hS1 hl (by show z0 ≤ mZ M + 1; omega) (by show s0 ≤ mS M + n.toNatClampNeg; omega) (by show mZ M + 1 ≤ amKN; omega)
  rw [q1, q2] at kk
  exact kk
theorem sn_newa_bool (F : AmF p s m args meth c own cc nL dC dI ct g b z0 x) {n : Int32} (hxt : x = true) (hw1 : Cond.arrayClass .boolean ∈ amTB) (hn : ¬ n < 0) (hn2 : n.toNatClampNeg ≤ 100000) (hr1 : mZ M - z0 + 1 ≤ R.cells) (hr2 : mS M - s0 + n.toNatClampNeg ≤ R.slots) (h4 : mZ M < amKN) (hd : decode cc pc = .ok (.newarray .boolean, 2)) (k : AmG p l e R s m args below meth c Q nL dC dI ct g b z0 s0 x (pc + 2) (ll) (.ref (mZ M) :: st) (mNew M 13 n.toNatClampNeg n.toNatClampNeg)) : AmG p l e R s m args below meth c Q nL dC dI ct g b z0 s0 x (pc) (ll) (.int n :: st) (M) := by
  obtain ⟨hx, hb, hml, hown, hts, hK, hX, hb0, hlk, hg, hex⟩ := F
  intro H locs ls hP hS hl h1 h2 h3
  have hA : ∀ q : Nat, s.heap.size ≤ q → amA g b q := fun q h => hb0.ins h
  refine va_newa (D := (dC, dI)) (atype := .boolean) (ty := .boolean) (a0 := (n.toNatClampNeg, .inl (fun _ => 0))) hx hb (hts _ hw1) rfl hK hP (amWs_D hg h3) hS hA (fun cA => rfl) hn rfl (by simp only [componentBytes]; omega) hr1 hr2 hd (fun q cA H1 hK1 hP1 hD1 hS1 => ?_)
  refine W_size (fun hH => ?_)
  have hq : q = g (mZ M) := am_next (H := H) hg h4 hP1 hD1 (by have := hex hxt; omega)
  subst hq
  have hcA : cA = ct 13 := Option.some.inj ((hK1.2 5 _ rfl).2.symm.trans (hK1.2 2 _ rfl).2)
  subst hcA
  have e1 : mK (mNew M 13 n.toNatClampNeg n.toNatClampNeg) (mZ M) = 13 := by simp [mNew, mK, va_up]
  have e2 : mN (mNew M 13 n.toNatClampNeg n.toNatClampNeg) (mZ M) = n.toNatClampNeg := by simp [mNew, mN, va_up]
  have e3 : mI (mNew M 13 n.toNatClampNeg n.toNatClampNeg) (mZ M) = fun _ => 0 := by simp [mNew, mI, va_up]
  rw [amWs_push (M' := mNew M 13 n.toNatClampNeg n.toNatClampNeg) rfl (fun d hd => amE_new hd) (by rw [amE_ar (by rw [e1]; decide) (by rw [e1]; decide), e1, e2, e3])] at hP1
  have q1 : mZ (mNew M 13 n.toNatClampNeg n.toNatClampNeg) - z0 = mZ M - z0 + 1 := by show mZ M + 1 - z0 = _; omega
  have q2 : mS (mNew M 13 n.toNatClampNeg n.toNatClampNeg) - s0 = mS M - s0 + n.toNatClampNeg := by show mS M + n.toNatClampNeg - s0 = _; omega
  have kk := k H1 locs ls hP1 hS1 hl (by show z0 ≤ mZ M + 1; omega) (by show s0 ≤ mS M + n.toNatClampNeg; omega) (by show mZ M + 1 ≤ amKN; omega)
  rw [q1, q2] at kk
  exact kk
theorem sn_anew14 (F : AmF p s m args meth c own cc nL dC dI ct g b z0 x) {n : Int32} {idx : Nat} (hxt : x = true) (hw1 : Cond.classLink own idx RX5 ∈ amTB) (hw2 : va_AO RX5 s) (hn : ¬ n < 0) (hn2 : n.toNatClampNeg ≤ 100000) (hr1 : mZ M - z0 + 1 ≤ R.cells) (hr2 : mS M - s0 + n.toNatClampNeg ≤ R.slots) (h4 : mZ M < amKN) (hd : decode cc pc = .ok (.anewarray idx, 3)) (k : AmG p l e R s m args below meth c Q nL dC dI ct g b z0 s0 x (pc + 3) (ll) (.ref (mZ M) :: st) (mNew M 14 n.toNatClampNeg n.toNatClampNeg)) : AmG p l e R s m args below meth c Q nL dC dI ct g b z0 s0 x (pc) (ll) (.int n :: st) (M) := by
  obtain ⟨hx, hb, hml, hown, hts, hK, hX, hb0, hlk, hg, hex⟩ := F
  intro H locs ls hP hS hl h1 h2 h3
  have hA : ∀ q : Nat, s.heap.size ≤ q → amA g b q := fun q h => hb0.ins h
  refine va_newq (D := (dC, dI)) hx hb hown (hts _ hw1) hw2 hK hP (amWs_D hg h3) hS hA hn rfl (by omega) hr1 hr2 hd (fun q cA H1 hK1 hP1 hD1 hS1 => ?_)
  refine W_size (fun hH => ?_)
  have hq : q = g (mZ M) := am_next (H := H) hg h4 hP1 hD1 (by have := hex hxt; omega)
  subst hq
  obtain ⟨_, _, _, _, _, r1⟩ := (hK1.2 5 _ rfl).2
  obtain ⟨_, _, _, _, _, r2⟩ := (hK1.2 3 _ rfl).2
  have hcA : cA = ct 14 := Option.some.inj (r1.symm.trans r2)
  subst hcA
  have e1 : mK (mNew M 14 n.toNatClampNeg n.toNatClampNeg) (mZ M) = 14 := by simp [mNew, mK, va_up]
  have e2 : mN (mNew M 14 n.toNatClampNeg n.toNatClampNeg) (mZ M) = n.toNatClampNeg := by simp [mNew, mN, va_up]
  have e3 : mP (mNew M 14 n.toNatClampNeg n.toNatClampNeg) (mZ M) = fun _ => none := by simp [mNew, mP, va_up]
  rw [amWs_push (M' := mNew M 14 n.toNatClampNeg n.toNatClampNeg) rfl (fun d hd => amE_new hd) (by rw [amE_rf (by rw [e1]; decide), e1, e2, e3]; rfl)] at hP1
  have q1 : mZ (mNew M 14 n.toNatClampNeg n.toNatClampNeg) - z0 = mZ M - z0 + 1 := by show mZ M + 1 - z0 = _; omega
  have q2 : mS (mNew M 14 n.toNatClampNeg n.toNatClampNeg) - s0 = mS M - s0 + n.toNatClampNeg := by show mS M + n.toNatClampNeg - s0 = _; omega
  have kk := k H1 locs ls hP1 hS1 hl (by show z0 ≤ mZ M + 1; omega) (by show s0 ≤ mS M + n.toNatClampNeg; omega) (by show mZ M + 1 ≤ amKN; omega)
  rw [q1, q2] at kk
  exact kk
theorem sn_anew15 (F : AmF p s m args meth c own cc nL dC dI ct g b z0 x) {n : Int32} {idx : Nat} (hxt : x = true) (hw1 : Cond.classLink own idx RX8 ∈ amTB) (hw2 : va_AO RX8 s) (hn : ¬ n < 0) (hn2 : n.toNatClampNeg ≤ 100000) (hr1 : mZ M - z0 + 1 ≤ R.cells) (hr2 : mS M - s0 + n.toNatClampNeg ≤ R.slots) (h4 : mZ M < amKN) (hd : decode cc pc = .ok (.anewarray idx, 3)) (k : AmG p l e R s m args below meth c Q nL dC dI ct g b z0 s0 x (pc + 3) (ll) (.ref (mZ M) :: st) (mNew M 15 n.toNatClampNeg n.toNatClampNeg)) : AmG p l e R s m args below meth c Q nL dC dI ct g b z0 s0 x (pc) (ll) (.int n :: st) (M) := by
  obtain ⟨hx, hb, hml, hown, hts, hK, hX, hb0, hlk, hg, hex⟩ := F
  intro H locs ls hP hS hl h1 h2 h3
  have hA : ∀ q : Nat, s.heap.size ≤ q → amA g b q := fun q h => hb0.ins h
  refine va_newq (D := (dC, dI)) hx hb hown (hts _ hw1) hw2 hK hP (amWs_D hg h3) hS hA hn rfl (by omega) hr1 hr2 hd (fun q cA H1 hK1 hP1 hD1 hS1 => ?_)
  refine W_size (fun hH => ?_)
  have hq : q = g (mZ M) := am_next (H := H) hg h4 hP1 hD1 (by have := hex hxt; omega)
  subst hq
  obtain ⟨_, _, _, _, _, r1⟩ := (hK1.2 5 _ rfl).2
  obtain ⟨_, _, _, _, _, r2⟩ := (hK1.2 4 _ rfl).2
  have hcA : cA = ct 15 := Option.some.inj (r1.symm.trans r2)
  subst hcA
  have e1 : mK (mNew M 15 n.toNatClampNeg n.toNatClampNeg) (mZ M) = 15 := by simp [mNew, mK, va_up]
  have e2 : mN (mNew M 15 n.toNatClampNeg n.toNatClampNeg) (mZ M) = n.toNatClampNeg := by simp [mNew, mN, va_up]
  have e3 : mP (mNew M 15 n.toNatClampNeg n.toNatClampNeg) (mZ M) = fun _ => none := by simp [mNew, mP, va_up]
  rw [amWs_push (M' := mNew M 15 n.toNatClampNeg n.toNatClampNeg) rfl (fun d hd => amE_new hd) (by rw [amE_rf (by rw [e1]; decide), e1, e2, e3]; rfl)] at hP1
  have q1 : mZ (mNew M 15 n.toNatClampNeg n.toNatClampNeg) - z0 = mZ M - z0 + 1 := by show mZ M + 1 - z0 = _; omega
  have q2 : mS (mNew M 15 n.toNatClampNeg n.toNatClampNeg) - s0 = mS M - s0 + n.toNatClampNeg := by show mS M + n.toNatClampNeg - s0 = _; omega
  have kk := k H1 locs ls hP1 hS1 hl (by show z0 ≤ mZ M + 1; omega) (by show s0 ≤ mS M + n.toNatClampNeg; omega) (by show mZ M + 1 ≤ amKN; omega)
  rw [q1, q2] at kk
  exact kk
theorem am_cats (g : Nat → Nat) (st : List Value) : ((cvs g st).map fun v => v.category).sum = amCat st := by
  simp only [cvs, amCat, List.map_map]
  congr 1
  apply List.map_congr_left
  intro v _
  exact cv_cat g v
theorem sn_obj (F : AmF p s m args meth c own cc nL dC dI ct g b z0 x) {a idx : Nat} (hw1 : Cond.methodLink own idx Lib.objectInit ∈ amTB) (hw2 : Cond.instanceMethod Lib.objectInit ∈ amTB) (hw3 : Cond.code Lib.objectInit ⟨#[0xb1]⟩ 1 none ∈ amTB) (hst : amCat st ≤ 8) (hr1 : 1 ≤ R.frames) (hr2 : 20 ≤ R.locals) (hd : decode cc pc = .ok (.invokespecial idx, 3)) (k : AmG p l e R s m args below meth c Q nL dC dI ct g b z0 s0 x (pc + 3) (ll) (st) (M)) : AmG p l e R s m args below meth c Q nL dC dI ct g b z0 s0 x (pc) (ll) (.ref a :: st) (M) := by
  obtain ⟨hx, hb, hml, hown, hts, hK, hX, hb0, hlk, hg, hex⟩ := F
  intro H locs ls hP hS hl h1 h2 h3
  refine W.objInit hx hb hown (hts _ hw1) (hts _ hw2) (hts _ hw3) rfl (by rw [hml]; exact hl.1) rfl hd hr1 ?_ (k H locs ls hP hS hl h1 h2 h3)
  have h := lv_room (m := m) (pc := pc) (ls := ls) (rest := cvs g (.ref a :: st)) (st := cvs g st) (by rw [am_cats]; exact hst)
  exact Nat.le_trans (Nat.add_le_add_right h 12) hr2
theorem sn_copy (F : AmF p s m args meth c own cc nL dC dI ct g b z0 x) {d0 s9 idx : Nat} {n dp sp : Int32} (hw1 : Cond.methodLink own idx arraycopyName ∈ amTB) (hw2 : (Cond.native arraycopyName).before args s = true) (hw3 : Cond.static arraycopyName ∈ amTB) (hw4 : Cond.initialized "java/lang/System" ∈ amTB) (hs9 : s9 < mZ M) (hd0 : d0 < mZ M) (hk1 : mK M s9 = 12) (hk2 : mK M d0 = 12) (hsp : ¬ sp < 0) (hdp : ¬ dp < 0) (hn : ¬ n < 0) (hb1 : sp.toNatClampNeg + n.toNatClampNeg ≤ mN M s9) (hb2 : dp.toNatClampNeg + n.toNatClampNeg ≤ mN M d0) (hst : amCat st ≤ 8) (hr1 : 1 ≤ R.frames) (hr2 : 8 + (nativeFrameWords "java/lang/System" "arraycopy" 5 + 11) ≤ R.locals) (hd : decode cc pc = .ok (.invokestatic idx, 3)) (k : AmG p l e R s m args below meth c Q nL dC dI ct g b z0 s0 x (pc + 3) (ll) (st) (wA M d0 (va_cpy (mI M s9) (mI M d0) sp.toNatClampNeg dp.toNatClampNeg n.toNatClampNeg))) : AmG p l e R s m args below meth c Q nL dC dI ct g b z0 s0 x (pc) (ll) (.int n :: .int dp :: .ref d0 :: .int sp :: .ref s9 :: st) (M) := by
  obtain ⟨hx, hb, hml, hown, hts, hK, hX, hb0, hlk, hg, hex⟩ := F
  intro H locs ls hP hS hl h1 h2 h3
  refine va_copyi (D := (dC, dI)) hx hb (by rw [hml]; exact hl.1.symm) hown (hts _ hw1) hw2 (hts _ hw3) (hts _ hw4) hK hP (amWs_D hg h3) hS s9 d0 1 1 (am_wsA hs9 hk1 (by decide) (by decide)) (am_wsA hd0 hk2 (by decide) (by decide)) rfl rfl rfl hsp hdp hn hb1 hb2 (fun _ _ => rfl) hr1 ?_ hd (fun H1 locs1 hP1 _ hS1 => ?_)
  · exact Nat.le_trans (Nat.add_le_add_right (Nat.le_trans (Nat.le_of_eq (am_cats g st)) hst) _) hr2
  · rw [am_aset hd0 hk2 (by decide) (by decide)] at hP1
    exact k H1 locs1 ls hP1 hS1 hl h1 h2 h3
end AmNew
