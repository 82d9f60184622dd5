/-! Every step on the class's text of words is the machine's (where the statics that the JDK reads are known: hZ). -/
def atS : List (Nat × Nat) := [(22, 9), (22, 10), (22, 12), (22, 14)]
def atChk (k : Nat) : Bool := (List.range (amTab k).length).all (fun i => match aP k i with
  | some op => !(amSp op) || decide ((k, i) ∈ atS)
  | _ => true)
set_option maxRecDepth 20000 in
theorem atChk_all : (List.range 289).all atChk = true := by decide +kernel
theorem at_site {k i : Nat} {op : Instr} (h : aP k i = some op) (hs : amSp op = true) : (k, i) ∈ atS := by
  obtain ⟨hk, hi⟩ := aP_in h
  have h1 := List.all_eq_true.mp (List.all_eq_true.mp atChk_all k (List.mem_range.mpr hk)) i (List.mem_range.mpr hi)
  rw [h] at h1
  simp only [hs, Bool.not_true, Bool.false_or] at h1
  exact of_decide_eq_true h1
theorem at_pc : aPc 22 10 = aPc 22 9 + 2 ∧ aPc 22 11 = aPc 22 10 + 3 ∧ aPc 22 13 = aPc 22 12 + 2 ∧ aPc 22 15 = aPc 22 14 + 3 := by decide +kernel
theorem at_de : decode (aC 22) (aPc 22 9) = .ok (.ldc 117, 2) ∧ decode (aC 22) (aPc 22 10) = .ok (.invokevirtual 119, 3) ∧ decode (aC 22) (aPc 22 12) = .ok (.ldc 117, 2) ∧ decode (aC 22) (aPc 22 14) = .ok (.invokevirtual 124, 3) := by decide +kernel
theorem at_op : (∃ q, aP 22 9 = some (.ldc q)) ∧ aP 22 10 = some .d2i ∧ (∃ q, aP 22 12 = some (.ldc q)) ∧ aP 22 14 = some .d2l := ⟨⟨_, rfl⟩, rfl, ⟨_, rfl⟩, rfl⟩
theorem at_f : 4 ≤ aF 22 ∧ 85 ≤ aL 22 ∧ (aY 22).cls = RX2 := by decide +kernel
section AmTxtS
variable {p : Program} {l : Launch} {e : Env} {R : Room} {s : State} {m : MethodId} {args : Array Value} {below : List Frame} {meth : Method} {c : Code} {Q : State → Prop} {cc : ByteArray} {nL : Nat} {dC : Nat → ClassId} {dI : Nat → Nat → Nat} {ct : Nat → ClassId} {g : Nat → Nat} {b z0 s0 : Nat} {x : Bool} {pc : Nat} {ll : AmL} {st : List Value} {M : AmM}
/-- the JDK's static is known -/
def HZq : Prop := ∀ (g : Nat → Nat) (b : Nat) (U : State) (H : Heap), amSX g b U H → va_Zq "jdk/internal/util/Preconditions" "SIOOBE_FORMATTER" "Ljava/util/function/BiFunction;" (amA g b) U H
theorem sx_j (hZ : HZq) {U : State} {H : Heap} (h : amSX g b U H) : ∃ sV, jW (amA g b) (g (amKN + 1)) sV U H := by
  have hz := hZ g b U H h
  obtain ⟨_, _, _, _, _, _, _, _, _, ⟨adV, h10⟩, h11⟩ := h
  obtain ⟨v1, v2, v3, v4⟩ := h10.1 0 (by decide)
  exact ⟨adV 0, v1, v2, v3, v4, by first | exact h11 | exact h11.1, hz⟩
theorem sn_ldcT (F : AmF p s m args meth c RX2 cc nL dC dI ct g b z0 x) (hd : decode cc pc = .ok (.ldc 117, 2)) (k : AmG p l e R s m args below meth c Q nL dC dI ct g b z0 s0 x (pc + 2) ll (.ref (amKN + 1) :: st) M) : AmG p l e R s m args below meth c Q nL dC dI ct g b z0 s0 x pc ll st M := by
  obtain ⟨hx, hb, hml, hown, hts, hK, hX, hb0, hlk, hg, hex⟩ := F
  intro H locs ls hP hS hl h1 h2 h3
  exact va_ldcS hx hb hown hX.2.2.2.2.2.2.2.2.1 hd (k H locs ls hP hS hl h1 h2 h3)
theorem sn_len (hZ : HZq) (F : AmF p s m args meth c RX2 cc nL dC dI ct g b z0 x) (hst : amCat st ≤ 8) (hr1 : 4 ≤ R.frames) (hr2 : 85 ≤ R.locals) (hr3 : mZ M - z0 ≤ R.cells) (hr4 : mS M - s0 ≤ R.slots) (hd : decode cc pc = .ok (.invokevirtual 119, 3)) (k : AmG p l e R s m args below meth c Q nL dC dI ct g b z0 s0 x (pc + 3) ll (.int 95 :: st) M) : AmG p l e R s m args below meth c Q nL dC dI ct g b z0 s0 x pc ll (.ref (amKN + 1) :: st) M := by
  obtain ⟨hx, hb, hml, hown, hts, hK, hX, hb0, hlk, hg, hex⟩ := F
  intro H locs ls hP hS hl h1 h2 h3
  obtain ⟨sV, hJ⟩ := sx_j hZ hX
  have ht : ∀ w ∈ jWd, w.before args s = true := fun w h => hts w (jw h)
  have hrec : ∃ cellB : Cell, H[g (amKN + 1)]? = some cellB ∧ cellB.vm.isStatics = false ∧ s.vm.findClass RJ0 = some cellB.cls := by
    obtain ⟨cell, q1, q2, q3, q4⟩ := hJ.1
    exact ⟨cell, by rw [hS.2.1 _ (Array.getElem?_eq_some_iff.mp q1).1 q4]; exact q1, q2, q3⟩
  have hpre : ∀ U : State, U.heap = H → s.WarmedH U.vm → jPc (amA g b) (g (amKN + 1)) sV [.ref (g (amKN + 1))] (Value.ref (g (amKN + 1)) :: ([] : List Value)).toArray U := by
    intro U hU hW
    subst hU
    refine ⟨rfl, jW.moved hW.alike ?_⟩
    have kk := hS.2.1
    exact ⟨hJ.1.kept kk, hJ.2.1.kept kk, hJ.2.2.1.kept kk, hJ.2.2.2.1.kept kk, hJ.2.2.2.2.1.kept kk, hJ.2.2.2.2.2.kept kk⟩
  have hG : GoodIn amTB (jWs yJ0_length_8abf5 cJ0_length_8abf5 1 (some .int)) := fun w hw => by
    have h1 : w ∈ amTB := by
      rcases List.mem_cons.mp hw with rfl | h2
      · exact jw (List.mem_of_getElem? (i := 2) rfl)
      · exact h2
    exact ⟨h1, good_of_word (List.mem_filter.mp h1).2⟩
  refine va_calli (A0 := amA g b) (va_runV (As := []) (rest := cvs g st) ⟨hx, hb, hml, hown, hts⟩ (mJ_len (A := amA g b) (sK := g (amKN + 1)) (sV := sV)) ⟨callB_of 0 hts hG rfl rfl rfl (ht _ (List.mem_of_getElem? (i := 13) rfl)) (ht _ (List.mem_of_getElem? (i := 26) rfl)) (by decide +kernel) ⟨by show 1 + 1 ≤ R.frames; omega, by show 8 + (1 + 11) + 20 ≤ R.locals; omega⟩, ht _ (List.mem_of_getElem? (i := 27) rfl), ht _ (List.mem_of_getElem? (i := 28) rfl)⟩ ⟨jPc_b, hrec, hpre⟩ rfl rfl hl.1 rfl (lv_room (Nat.le_trans (Nat.le_of_eq (am_cats g st)) hst)) hd ⟨hr3, hr4⟩) hS (fun q _ h => h.elim) (fun q h => h.elim) (fun r u t H1 locs1 ht1 hvm hp hB hz hk hS1 => ?_)
  have hp : r = 95 := hp
  subst hp
  exact k H1 locs1 ls (hP.kept (fun k q hq => hk _ (hP k q hq).lt id)) hS1 hl h1 h2 h3
theorem sn_chr (hZ : HZq) (F : AmF p s m args meth c RX2 cc nL dC dI ct g b z0 x) {i : Int32} (hi : amIn i 95 = true) (hst : amCat st ≤ 8) (hr1 : 4 ≤ R.frames) (hr2 : 85 ≤ R.locals) (hr3 : mZ M - z0 ≤ R.cells) (hr4 : mS M - s0 ≤ R.slots) (hd : decode cc pc = .ok (.invokevirtual 124, 3)) (k : AmG p l e R s m args below meth c Q nL dC dI ct g b z0 s0 x (pc + 3) ll (.int (amWc i.toNatClampNeg) :: st) M) : AmG p l e R s m args below meth c Q nL dC dI ct g b z0 s0 x pc ll (.int i :: .ref (amKN + 1) :: st) M := by
  obtain ⟨hx, hb, hml, hown, hts, hK, hX, hb0, hlk, hg, hex⟩ := F
  intro H locs ls hP hS hl h1 h2 h3
  obtain ⟨sV, hJ⟩ := sx_j hZ hX
  have ht : ∀ w ∈ jWd, w.before args s = true := fun w h => hts w (jw h)
  have hrec : ∃ cellB : Cell, H[g (amKN + 1)]? = some cellB ∧ cellB.vm.isStatics = false ∧ s.vm.findClass RJ0 = some cellB.cls := by
    obtain ⟨cell, q1, q2, q3, q4⟩ := hJ.1
    exact ⟨cell, by rw [hS.2.1 _ (Array.getElem?_eq_some_iff.mp q1).1 q4]; exact q1, q2, q3⟩
  have hpre : ∀ U : State, U.heap = H → s.WarmedH U.vm → jPc (amA g b) (g (amKN + 1)) sV [.ref (g (amKN + 1)), .int i] (Value.ref (g (amKN + 1)) :: ([.int i] : List Value)).toArray U := by
    intro U hU hW
    subst hU
    refine ⟨rfl, jW.moved hW.alike ?_⟩
    have kk := hS.2.1
    exact ⟨hJ.1.kept kk, hJ.2.1.kept kk, hJ.2.2.1.kept kk, hJ.2.2.2.1.kept kk, hJ.2.2.2.2.1.kept kk, hJ.2.2.2.2.2.kept kk⟩
  have hG : GoodIn amTB (jWs yJ0_charAt_5068e cJ0_charAt_5068e 2 (some .char)) := fun w hw => by
    have h1 : w ∈ amTB := by
      rcases List.mem_cons.mp hw with rfl | h2
      · exact jw (List.mem_of_getElem? (i := 3) rfl)
      · exact h2
    exact ⟨h1, good_of_word (List.mem_filter.mp h1).2⟩
  refine va_calli (A0 := amA g b) (va_runV (As := [.int i]) (rest := cvs g st) ⟨hx, hb, hml, hown, hts⟩ (mJ_chr0 (A := amA g b) (sK := g (amKN + 1)) (sV := sV) hi) ⟨callB_of 1 hts hG rfl rfl rfl (ht _ (List.mem_of_getElem? (i := 13) rfl)) (ht _ (List.mem_of_getElem? (i := 29) rfl)) (by decide +kernel) ⟨by show 3 + 1 ≤ R.frames; omega, by show 8 + (2 + 11) + 64 ≤ R.locals; omega⟩, ht _ (List.mem_of_getElem? (i := 30) rfl), ht _ (List.mem_of_getElem? (i := 31) rfl)⟩ ⟨jPc_b, hrec, hpre⟩ rfl rfl hl.1 rfl (lv_room (Nat.le_trans (Nat.le_of_eq (am_cats g st)) hst)) hd ⟨hr3, hr4⟩) hS (fun q _ h => h.elim) (fun q h => h.elim) (fun r u t H1 locs1 ht1 hvm hp hB hz hk hS1 => ?_)
  have hp : r = amWc i.toNatClampNeg := hp
  subst hp
  exact k H1 locs1 ls (hP.kept (fun k q hq => hk _ (hP k q hq).lt id)) hS1 hl h1 h2 h3
end AmTxtS
