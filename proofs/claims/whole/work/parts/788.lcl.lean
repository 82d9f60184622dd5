/-! The law's own frames: calls of the class's and of the reference's methods out of them. -/
/-- the numbers of what is thrown -/
def hx1 : Nat → Int32 := fun _ => 1
def hxy : Nat → Int32 := fun n => nI (n + 1)
section LwC
variable {p : Program} {l : Launch} {e : Env} {R : Room} {s : State} {m : MethodId} {args : Array Value} {below : List Frame} {meth : Method} {c : Code} {Q : State → Prop} {cc : ByteArray} {own : String} {nL : Nat} {dC : Nat → ClassId} {dI : Nat → Nat → Nat} {ct : Nat → ClassId} {g : Nat → Nat} {b : Nat} {pc : Nat}
/-- what a frame of the law's has -/
def LwF (p : Program) (s : State) (m : MethodId) (args : Array Value) (c : Code) (own : String) (cc : ByteArray) (nL : Nat) (dC : Nat → ClassId) (dI : Nat → Nat → Nat) (ct : Nat → ClassId) (g : Nat → Nat) (b : Nat) : Prop :=
  p.tables.exec = Jvm.exec ∧ c.code = cc ∧ c.maxLocals = nL ∧ s.vm.findClass own = some m.cls ∧ (∀ w ∈ amTB, w.before args s = true) ∧ va_K (dC, dI) vwCl (amTys ct) s ∧ amSX g b s s.heap ∧ amHg g b
/-- the law's row of one long -/
def lwO (cL : ClassId) (o : Nat) (f : Nat → Int64) : va_W := [(o, .inl (cL, 1, .inr (.inl f)))]
theorem lw_ints (g : Nat → Nat) (is : List Int32) : cvs g (is.map Value.int) = is.map Value.int := by
  simp only [cvs, List.map_map]
  rfl
theorem lw_icat (is : List Int32) : amCat (is.map Value.int) = is.length := by
  induction is with
  | nil => rfl
  | cons a is ih =>
    have : amCat ((a :: is).map Value.int) = 1 + amCat (is.map Value.int) := rfl
    rw [this, ih, List.length_cons]
    omega
theorem lw_rcat (a : Nat) (is : List Int32) : amCat (.ref a :: is.map Value.int) = is.length + 1 := by
  have : amCat (.ref a :: is.map Value.int) = 1 + amCat (is.map Value.int) := rfl
  rw [this, lw_icat]
  omega
/-- behind a call -/
theorem lw_after {A0 : Nat → Prop} {H : Heap} {locs : List Loc} {ls : Array Slot} {cells slots mc ms : Nat} {st0 rest : List Value} {a : Array Value} {o : AmO} {M' : AmM} (hr : vx_Run p l e R s m args below meth c H locs cells slots mc ms (F0 m pc ls st0) rest (amQ dC dI ct g b o M' a) (amX dC dI ct g b o M') (amA g b)) (hS : va_S A0 s.heap H locs) (hAA : ∀ q, amA g b q → A0 q)
    (kr : ∀ v, o = .inl v → ∀ (H1 : Heap) (locs1 : List Loc), va_P (dC, dI) vwCl (amWs ct g M') H1 → va_S A0 s.heap H1 locs1 → H.size ≤ H1.size → (∀ q : Nat, q < H.size → ¬ amA g b q → H1[q]? = H[q]?) → W p l e R s m args below meth c H1 locs1 (cells + mc) (slots + ms) Q (F0 m (pc + 3) ls ((v.map (cv g)).toList ++ rest)))
    (kt : ∀ n, o = .inr n → ∀ (H1 : Heap) (locs1 : List Loc) (q : Addr) (ce : Cell), va_P (dC, dI) vwCl (amWs ct g M') H1 → va_S A0 s.heap H1 locs1 → H.size ≤ H1.size → (∀ q : Nat, q < H.size → ¬ amA g b q → H1[q]? = H[q]?) → H1[q]? = some ce → ce.vm = .none → s.vm.findClass (amEx n) = some ce.cls → vx_W p l e R s m args below meth c H1 locs1 (cells + mc) (slots + ms) Q (F0 m pc ls rest) q) :
    W p l e R s m args below meth c H locs cells slots Q (F0 m pc ls st0) := by
  intro T hT X
  rcases hr T hT X with ⟨v, st₀, t, T', L, h0, X', hL, e1, e2, ⟨v9, ho, hv, hP, hF⟩, stp⟩ | ⟨q, st₀, t, T', L, E, ce, h0, X', hL, e1, e2, ⟨n, ho, hE, hP, hF⟩, hce, hcv, hcl, stp⟩
  · cases hv
    obtain ⟨k1, k2, k3⟩ := vx_keep h0 e1 hS (fun q _ h => hAA q h) hAA hL hF
    obtain ⟨t2, a1, b1⟩ := kr v9 ho T'.heap (locs ++ L) (by rw [e1]; exact hP) k3 k1 k2 T' rfl X'
    exact ⟨t2, stp t2 a1, b1⟩
  · obtain ⟨k1, k2, k3⟩ := vx_keep h0 e1 hS (fun q _ h => hAA q h) hAA hL hF
    subst hE
    obtain ⟨t2, a1, b1⟩ := kt n ho T'.heap (locs ++ L) q ce (by rw [e1]; exact hP) k3 k1 k2 (by rw [e1]; exact hce) hcv hcl T' rfl X'
    exact ⟨t2, stp.trans a1, b1⟩
/-- a method of the class's or of the reference's, called out of a frame of the law's -/
theorem lw_inv (F : LwF p s m args c own cc nL dC dI ct g b) (hlt : l.stackTraces = false) {k idx a : Nat} {is : List Int32} {rest : List Value} {o : AmO} {C C' : AmC} {H : Heap} {locs : List Loc} {ls : Array Slot} {cells slots : Nat} {A0 : Nat → Prop}
    (hE : En false k 0 (lv_args 0 (.ref a :: is.map Value.int)) [] (mkM C) o (mkM C')) (hk : aK k = 0) (hna : (aA k).1 = is.length + 1) (hcat : is.length + 1 ≤ (aA k).2.1) (ha : a < aZ) (hka : aKd a = (aA k).2.2)
    (hlk : Cond.methodLink own idx (aY k) ∈ amTB) (hfr : aF k + 1 ≤ R.frames ∧ 8 + (aN k + 11) + aL k ≤ R.locals) (hd : decode cc pc = .ok (.invokevirtual idx, 3))
    (hP : va_P (dC, dI) vwCl (amWs ct g (mkM C)) H) (hO : amHb g b H.size) (hS : va_S A0 s.heap H locs) (hN : ∀ q : Nat, q < s.heap.size → ¬ amA g b q → H[q]? = s.heap[q]?) (hAA : ∀ q, amA g b q → A0 q) (hl : ls.size = nL) (hst : amCat rest ≤ 8) (hf : cells + amXc o ≤ R.cells ∧ slots + amXs o ≤ R.slots)
    (kr : ∀ v, o = .inl v → ∀ (H1 : Heap) (locs1 : List Loc), va_P (dC, dI) vwCl (amWs ct g (mkM C')) H1 → va_S A0 s.heap H1 locs1 → H.size ≤ H1.size → (∀ q : Nat, q < H.size → ¬ amA g b q → H1[q]? = H[q]?) → W p l e R s m args below meth c H1 locs1 (cells + amXc o) (slots + amXs o) Q (F0 m (pc + 3) ls ((v.map (cv g)).toList ++ rest)))
    (kt : ∀ n, o = .inr n → ∀ (H1 : Heap) (locs1 : List Loc) (q : Addr) (ce : Cell), va_P (dC, dI) vwCl (amWs ct g (mkM C')) H1 → va_S A0 s.heap H1 locs1 → H.size ≤ H1.size → (∀ q : Nat, q < H.size → ¬ amA g b q → H1[q]? = H[q]?) → H1[q]? = some ce → ce.vm = .none → s.vm.findClass (amEx n) = some ce.cls → vx_W p l e R s m args below meth c H1 locs1 (cells + amXc o) (slots + amXs o) Q (F0 m pc ls rest) q) :
    W p l e R s m args below meth c H locs cells slots Q (F0 m pc ls ((is.map Value.int).reverse ++ .ref (g a) :: rest)) := by
  obtain ⟨hx, hb, hml, hown, hts, hK, hX, hg⟩ := F
  obtain ⟨n, hn⟩ := hE
  obtain ⟨op, hP0⟩ := am_has hn
  have hMo := am_hMo k 0 op hP0
  have hM := am_met (ax_run (l := l) hlt (dC := dC) (dI := dI) (ct := ct) (x := false) hg n) hMo hg hn (by rw [lw_rcat]; exact hcat) (Nat.le_refl _)
  have e1 : mZ (mkM C') - mZ (mkM C) + amXc o = amXc o := by
    show aZ - aZ + amXc o = amXc o
    omega
  have e2 : mS (mkM C') - mS (mkM C) + amXs o = amXs o := by
    show aS - aS + amXs o = amXs o
    omega
  rw [e1, e2] at hM
  obtain ⟨hpl, hcode, hini, hdd, hloc, hpc, hk0, hk1, hk2⟩ := hMo
  obtain ⟨m1, m2, m3, m4⟩ := hk0 hk
  have ec : cvs g (.ref a :: is.map Value.int) = .ref (g a) :: is.map Value.int := by
    show Value.ref (g a) :: cvs g (is.map Value.int) = _
    rw [lw_ints]
  have hU : ∀ U : State, U.heap = H → s.WarmedH U.vm → amPre dC dI ct g b false (.ref a :: is.map Value.int) (mkM C) (Value.ref (g a) :: is.map Value.int).toArray U := by
    intro U hU hW
    refine ⟨by rw [ec], by rw [hU]; exact hP, va_K.moved hW.alike hK, amSX_go hX hW hU (locs := []) ⟨hS.1, hN, fun _ h => nomatch h⟩, by rw [hU]; exact hO, fun h => nomatch h⟩
  have hB := callB_of (R := R) (s := s) (args := args) (own := own) (index := idx) (y := aY k) (bytes := aC k) (maxL := aN k) (ret := aR k) (rm := amRm aF aL k (amXc o) (amXs o)) (mc := amXc o) (ms := amXs o) is.length hts (amWsO_good hcode) rfl rfl rfl (hts _ hini) (hts _ hlk) (by rw [if_neg (by omega), hna] at hdd; exact hdd) hfr
  have hrun := vx_runV (e := e) (below := below) (meth := meth) (H := H) (locs := locs) (cells := cells) (slots := slots) (C := (aY k).cls) (b := g a) (As := is.map Value.int) (rest := rest) (g := F0 m pc ls ((is.map Value.int).reverse ++ .ref (g a) :: rest)) ⟨hx, hb, hml, hown, hts⟩ hM ⟨hB, hts _ m1, hts _ m2⟩
    ⟨amPre_blind, by rw [← m4]; exact va_recv hK hP (am_cl _ m3) (q0 := a) (by rw [amWs_get (M := mkM C) ha, amE_ob (M := mkM C) hka m3]), hU⟩ rfl (by rw [List.length_map]) hl rfl (lv_room hst) hd hf
  exact lw_after hrun hS hAA kr kt
/-- what is so of the heap's size -/
theorem lw_hb {cL : ClassId} {f : Nat → Int64} {C : AmC} {H : Heap} (hg : amHg g b) (hP : va_P (dC, dI) vwCl (amWs ct g (mkM C)) H) (hO : va_P (dC, dI) vwCl (lwO cL (g (amKN + 2)) f) H) : amHb g b H.size := by
  refine ⟨?_, (hO 0 _ rfl).lt⟩
  have h := (hP 0 _ (amWs_get (M := mkM C) (show 0 < aZ by decide))).lt
  have h2 : g 0 < H.size := h
  rw [hg.1 0 (by decide)] at h2
  omega
/-- the law's row stays over a call -/
theorem lw_ok {cL : ClassId} {f : Nat → Int64} {H H1 : Heap} (hO : va_P (dC, dI) vwCl (lwO cL (g (amKN + 2)) f) H) (hk : ∀ q : Nat, q < H.size → ¬ amA g b q → H1[q]? = H[q]?) : va_P (dC, dI) vwCl (lwO cL (g (amKN + 2)) f) H1 := by
  refine hO.kept (fun k q hq => ?_)
  have h1 : k < 1 := (List.getElem?_eq_some_iff.mp hq).1
  have h2 := (hO k q hq).lt
  rw [show k = 0 by omega] at hq
  cases hq
  exact hk _ h2 (fun h => h.2 rfl)
theorem lw_pl {D : va_G} {cl : List vw_C} {w1 w2 : va_W} {H : Heap} (h : va_P D cl (w1 ++ w2) H) : va_P D cl w1 H ∧ va_P D cl w2 H := by
  refine ⟨fun k q hk => h k q ?_, fun k q hk => h (w1.length + k) q ?_⟩
  · rw [List.getElem?_append_left (List.getElem?_eq_some_iff.mp hk).1]
    exact hk
  · rw [List.getElem?_append_right (Nat.le_add_right _ _), Nat.add_sub_cancel_left]
    exact hk
theorem lw_D {cL : ClassId} {f : Nat → Int64} {C : AmC} (hg : amHg g b) (hob : b ≤ g (amKN + 2)) : va_D (fun q : Nat => b ≤ q) (amWs ct g (mkM C) ++ lwO cL (g (amKN + 2)) f) := by
  have hN : amKN = 198 := rfl
  have hA : aZ = 198 := rfl
  have key : ∀ (k : Nat) (q : Nat × va_E), (amWs ct g (mkM C) ++ lwO cL (g (amKN + 2)) f)[k]? = some q → (k < aZ ∧ q.1 = b + k) ∨ (k = aZ ∧ q.1 = g (amKN + 2)) := by
    intro k q hk
    by_cases hl : k < aZ
    · rw [List.getElem?_append_left (by rw [amWs_len]; exact hl)] at hk
      obtain ⟨_, rfl⟩ := amWs_at hk
      exact Or.inl ⟨hl, hg.1 k (by omega)⟩
    · rw [List.getElem?_append_right (by rw [amWs_len]; exact Nat.le_of_not_lt hl), amWs_len] at hk
      have hz : k - mZ (mkM C) < 1 := (List.getElem?_eq_some_iff.mp hk).1
      have hm : mZ (mkM C) = aZ := rfl
      rw [hm] at hk hz
      rw [show k - aZ = 0 by omega] at hk
      cases hk
      exact Or.inr ⟨by omega, rfl⟩
  have ho : b + aZ ≤ g (amKN + 2) := by
    rcases hg.2 with h | h
    · omega
    · have h9 : b + aZ ≤ g (amKN + 2) := h
      exact h9
  refine ⟨fun i j p q h1 h2 h3 => ?_, fun k q h => ?_⟩
  · rcases key i p h1 with ⟨a1, a2⟩ | ⟨a1, a2⟩ <;> rcases key j q h2 with ⟨b1, b2⟩ | ⟨b1, b2⟩ <;> rw [a2, b2] at h3 <;> omega
  · show b ≤ q.1
    rcases key k q h with ⟨a1, a2⟩ | ⟨a1, a2⟩ <;> omega
/-- out[0] = x -/
theorem lw_last {cL : ClassId} {f : Nat → Int64} {C : AmC} {H : Heap} {locs : List Loc} {ls : Array Slot} {cells slots : Nat} {rest : List Value} {x : Int64} (hx : p.tables.exec = Jvm.exec) (hb : c.code = cc) (hKL : va_K (dC, dI) vwCl [(cL, .long)] s) (hg : amHg g b) (hob : b ≤ g (amKN + 2)) (hP : va_P (dC, dI) vwCl (amWs ct g (mkM C)) H) (hO : va_P (dC, dI) vwCl (lwO cL (g (amKN + 2)) f) H) (hS : va_S (fun q : Nat => b ≤ q) s.heap H locs) (hd : decode cc pc = .ok (.lastore, 1))
    (kk : ∀ (f1 : Nat → Int64) (H1 : Heap) (locs1 : List Loc), f1 0 = x → va_P (dC, dI) vwCl (amWs ct g (mkM C)) H1 → va_P (dC, dI) vwCl (lwO cL (g (amKN + 2)) f1) H1 → va_S (fun q : Nat => b ≤ q) s.heap H1 locs1 → W p l e R s m args below meth c H1 locs1 cells slots Q (F0 m (pc + 1) ls rest)) :
    W p l e R s m args below meth c H locs cells slots Q (F0 m pc ls (.long x :: .int 0 :: .ref (g (amKN + 2)) :: rest)) := by
  refine va_last (D := (dC, dI)) (A := fun q : Nat => b ≤ q) hx hb hKL (hP.app hO) (lw_D hg hob) hS (amWs ct g (mkM C)).length 0 (n := 1) (f := f) ?_ rfl (fun h => by rcases h with h | h <;> exact absurd h (by decide)) hd (fun H1 locs1 hP1 _ hS1 => ?_)
  · rw [List.getElem?_append_right (Nat.le_refl _), Nat.sub_self]
    rfl
  · rw [List.set_append_right _ _ (Nat.le_refl _), Nat.sub_self] at hP1
    obtain ⟨h1, h2⟩ := lw_pl hP1
    exact kk _ H1 locs1 (if_pos (by decide)) h1 h2 hS1
/-- what a method of the law's that calls the class has at its start -/
def lwPre (dC : Nat → ClassId) (dI : Nat → Nat → Nat) (ct : Nat → ClassId) (g : Nat → Nat) (b : Nat) (cL : ClassId) (av : List Value) (C : AmC) (f : Nat → Int64) : Array Value → State → Prop :=
  va_Pc av (fun U => va_P (dC, dI) vwCl (amWs ct g (mkM C)) U.heap ∧ va_P (dC, dI) vwCl (lwO cL (g (amKN + 2)) f) U.heap ∧ va_K (dC, dI) vwCl (amTys ct) U ∧ va_K (dC, dI) vwCl [(cL, .long)] U ∧ amSX g b U U.heap ∧ va_Nc "java/lang/IllegalArgumentException" "java/util/NoSuchElementException" U)
theorem lwPre_blind {cL : ClassId} {av : List Value} {C : AmC} {f : Nat → Int64} : FrameBlind (lwPre dC dI ct g b cL av C f) := by
  intro a U gg mk q
  obtain ⟨q0, q1, q2, q3, q4, q5, q6⟩ := q
  exact ⟨q0, q1, q2, va_K.moved (u := U) (U := U.calling gg mk a) (Vm.Alike.refl U.vm) q3, va_K.moved (u := U) (U := U.calling gg mk a) (Vm.Alike.refl U.vm) q4, amSX_same (u := U) (U := U.calling gg mk a) rfl q5, va_Nc.moved (u := U) (U := U.calling gg mk a) (Vm.Alike.refl U.vm) q6⟩
/-- what it answers -/
def lwT (A : Int32 ⊕ Nat) (hx : Nat → Int32) (r : Int32) (f : Nat → Int64) : Prop := match A with
  | .inl z => r = 0 ∧ f 0 = z.toInt64
  | .inr n => r = hx n
def lwQ (dC : Nat → ClassId) (dI : Nat → Nat → Nat) (ct : Nat → ClassId) (g : Nat → Nat) (b : Nat) (cL : ClassId) (C : AmC) (A : Int32 ⊕ Nat) (hx : Nat → Int32) : Array Value → State → Outcome → State → Prop := fun _ st oc t =>
  ∃ (r : Int32) (f : Nat → Int64), lwT A hx r f ∧ oc = .returned (some (.int r)) ∧ va_P (dC, dI) vwCl (amWs ct g (mkM C)) t.heap ∧ va_P (dC, dI) vwCl (lwO cL (g (amKN + 2)) f) t.heap ∧ va_F (fun q : Nat => b ≤ q) st t
theorem lw_good {ws : List Cond} (h : ∀ w ∈ ws, w ∈ amTB) : GoodIn amTB ws := fun w hw => ⟨h w hw, good_of_word (List.mem_filter.mp (h w hw)).2⟩
/-- such a method, called out of the law -/
theorem lw_stat (F : LwF p s m args c own cc nL dC dI ct g b) {y : MethodName} {bytes : ByteArray} {maxL idx : Nat} {hh : List (Nat × Nat × Nat × Nat)} {rm : Room} {av rest : List Value} {cL : ClassId} {f : Nat → Int64} {C C' : AmC} {A : Int32 ⊕ Nat} {hx9 : Nat → Int32} {H : Heap} {locs : List Loc} {ls : Array Slot} {cells slots : Nat}
    (hM : vx_Met l y (Cond.codeWith y bytes maxL (some .int) hh :: amTB) rm (lwPre dC dI ct g b cL av C f) (lwQ dC dI ct g b cL C' A hx9) (fun _ _ _ => False) 1 6 (fun q : Nat => b ≤ q)) (hrm : rm.cells = 1 ∧ rm.slots = 6) (hR : rm.frames + 1 ≤ R.frames ∧ 8 + (maxL + 11) + rm.locals ≤ R.locals)
    (hw : ∀ w ∈ [Cond.methodLink own idx y, Cond.static y, Cond.initialized y.cls, Cond.codeWith y bytes maxL (some .int) hh], w ∈ amTB) (hdd : y.cls ≠ "java/lang/invoke/MethodHandle" ∧ y.cls ≠ "java/lang/invoke/VarHandle" ∧ (parseMethodDescriptor y.desc).map (fun d => d.parameters.length) = some av.length)
    (hKL : va_K (dC, dI) vwCl [(cL, .long)] s) (hNc : va_Nc "java/lang/IllegalArgumentException" "java/util/NoSuchElementException" s)
    (hP : va_P (dC, dI) vwCl (amWs ct g (mkM C)) H) (hO : va_P (dC, dI) vwCl (lwO cL (g (amKN + 2)) f) H) (hS : va_S (fun q : Nat => b ≤ q) s.heap H locs) (hN : ∀ q : Nat, q < s.heap.size → ¬ amA g b q → H[q]? = s.heap[q]?) (hl : ls.size = nL) (hst : amCat rest ≤ 8) (hd : decode cc pc = .ok (.invokestatic idx, 3)) (hf : cells + 1 ≤ R.cells ∧ slots + 6 ≤ R.slots)
    (kk : ∀ (r : Int32) (f1 : Nat → Int64) (H1 : Heap) (locs1 : List Loc), lwT A hx9 r f1 → va_P (dC, dI) vwCl (amWs ct g (mkM C')) H1 → va_P (dC, dI) vwCl (lwO cL (g (amKN + 2)) f1) H1 → va_S (fun q : Nat => b ≤ q) s.heap H1 locs1 → H.size ≤ H1.size → W p l e R s m args below meth c H1 locs1 (cells + 1) (slots + 6) Q (F0 m (pc + 3) ls (.int r :: rest))) :
    W p l e R s m args below meth c H locs cells slots Q (F0 m pc ls (av.reverse ++ rest)) := by
  obtain ⟨hx, hb, hml, hown, hts, hK, hX, hg⟩ := F
  have hG : GoodIn amTB (Cond.codeWith y bytes maxL (some .int) hh :: amTB) := lw_good (fun w h => (List.mem_cons.mp h).elim (fun h => hw w (by rw [h]; simp)) id)
  have cw : vx_CSW R s args own idx y bytes maxL (some .int) hh (Cond.codeWith y bytes maxL (some .int) hh :: amTB) rm 1 6 av.length := by
    refine ⟨⟨hrm.1, hrm.2, hR.1, hR.2, pay_in hts hG, List.mem_cons_self⟩, hts _ (hw _ (by simp)), hts _ (hw _ (by simp)), ⟨hdd.1, hdd.2.1⟩, fun sig h => ?_, hts _ (hw _ (by simp)), hts _ (hw _ (by simp))⟩
    have h2 := hdd.2.2
    rw [h] at h2
    exact (Option.some.inj h2).symm
  have hU : ∀ U : State, U.heap = H → s.WarmedH U.vm → lwPre dC dI ct g b cL av C f av.toArray U := by
    intro U hU hW
    refine ⟨rfl, by rw [hU]; exact hP, by rw [hU]; exact hO, va_K.moved hW.alike hK, va_K.moved hW.alike hKL, amSX_go hX hW hU (locs := []) ⟨hS.1, hN, fun _ h => nomatch h⟩, va_Nc.moved hW.alike hNc⟩
  have hrun := vx_runSX (e := e) (below := below) (meth := meth) (H := H) (locs := locs) (cells := cells) (slots := slots) (As := av) (rest := rest) (g := F0 m pc ls (av.reverse ++ rest)) ⟨hx, hb, hml, hown, hts⟩ hM cw ⟨lwPre_blind, hU⟩ rfl rfl hl rfl (lv_room hst) hd hf
  intro T hT X
  rcases hrun T hT X with ⟨v, st₀, t, T', L, h0, X', hL, e1, e2, ⟨r, f1, hA, hv, hP1, hO1, hF⟩, stp⟩ | ⟨q, st₀, t, T', L, E, ce, h0, X', hL, e1, e2, hfalse, _⟩
  · cases hv
    obtain ⟨k1, k2, k3⟩ := vx_keep h0 e1 hS (fun q _ h => h) (fun q h => h) hL hF
    obtain ⟨t2, a1, b1⟩ := kk r f1 T'.heap (locs ++ L) hA (by rw [e1]; exact hP1) (by rw [e1]; exact hO1) k3 k1 T' rfl X'
    exact ⟨t2, stp t2 a1, b1⟩
  · exact hfalse.elim
end LwC
