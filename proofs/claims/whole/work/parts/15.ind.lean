/-! The induction: runs of the abstract machine are the machine's. -/
section AmInd
variable {l : Launch} {dC : Nat → ClassId} {dI : Nat → Nat → Nat} {ct : Nat → ClassId} {g : Nat → Nat} {b : Nat} {x : Bool}
/-- runs n deep are the machine's -/
def AmRn (l : Launch) (y : Nat → MethodName) (cO : Nat → ByteArray) (nO : Nat → Nat) (rO : Nat → Option FieldType) (fO lO : Nat → Nat) (pcs : Nat → Nat → Nat) (na : Nat → Nat × Nat × Nat) (P : Nat → Nat → Option Instr) (dC : Nat → ClassId) (dI : Nat → Nat → Nat) (ct : Nat → ClassId) (g : Nat → Nat) (b : Nat) (x : Bool) (n : Nat) : Prop :=
  ∀ {k i : Nat} {ll : AmL} {st : List Value} {M : AmM} {o : AmO} {M' : AmM}, amRun P na x n k i ll st M = some (o, M') → ∀ {p : Program} {e : Env} {R : Room} {s : State} {m : MethodId} {args : Array Value} {below : List Frame} {meth : Method} {c : Code} {z0 s0 : Nat}, AmK y cO nO rO fO lO dC dI ct g b x p R s m args meth c z0 k → R.cells = mZ M' - z0 + amXc o → R.slots = mS M' - s0 + amXs o → z0 ≤ mZ M → s0 ≤ mS M → mZ M' ≤ amKN → AmG p l e R s m args below meth c (amQq below args s dC dI ct g b z0 s0 o M') (nO k) dC dI ct g b z0 s0 x (pcs k i) ll st M
def amRm (fO lO : Nat → Nat) (k mc ms : Nat) : Room := { frames := fO k, cells := mc, slots := ms, locals := lO k }
/-- a method's contract out of its run -/
theorem am_met {y : Nat → MethodName} {cO : Nat → ByteArray} {nO : Nat → Nat} {rO : Nat → Option FieldType} {fO lO kd : Nat → Nat} {pcs : Nat → Nat → Nat} {na : Nat → Nat × Nat × Nat} {P : Nat → Nat → Option Instr} {n : Nat} (hR : AmRn l y cO nO rO fO lO pcs na P dC dI ct g b x n) {k : Nat} (hMo : amMo y cO nO rO kd pcs na k) (hg : amHg g b) {av : List Value} {M : AmM} {o : AmO} {M' : AmM} (h : amRun P na x n k 0 (lv_args 0 av) [] M = some (o, M')) (hcat : amCat av ≤ (na k).2.1) (hKN : mZ M' ≤ amKN) :
    vx_Met l (y k) (amWsO y cO nO rO k) (amRm fO lO k (mZ M' - mZ M + amXc o) (mS M' - mS M + amXs o)) (amPre dC dI ct g b x av M) (amQ dC dI ct g b o M') (amX dC dI ct g b o M') (mZ M' - mZ M + amXc o) (mS M' - mS M + amXs o) (amA g b) := by
  obtain ⟨hpl, hcode, hini, hdd, hloc, hpc, -⟩ := hMo
  refine vx_ofW (cc := cO k) (maxL := nO k) (ret := rO k) hpl rfl ?_
  intro p e s m args below meth c s₁ B hml hxf hv
  obtain ⟨rfl, hP, hK, hX, hb0, hex⟩ := hv
  have hts := atoms_spec (ws := amWsO y cO nO rO k) B.pre
  have F : AmF p s m (cvs g av).toArray meth c (y k).cls (cO k) (nO k) dC dI ct g b (mZ M) x := ⟨B.exec, B.bytes, hml, findClass_of_methodNamed B.named, fun w hw => hts w (List.mem_cons_of_mem _ hw), hK, hX, hb0, B.notSynchronized, hg, hex⟩
  have hmono := amRun_grow h
  have G := hR h (p := p) (e := e) (R := (headSpec (amWsO y cO nO rO k) (amRm fO lO k (mZ M' - mZ M + amXc o) (mS M' - mS M + amXs o))).room) (s := s) (m := m) (args := (cvs g av).toArray) (below := below) (meth := meth) (c := c) (z0 := mZ M) (s0 := mS M)
    ⟨F, (name_of_methodNamed B.named B.method).1, B.returns, hxf, Nat.le_refl _, Nat.le_refl _⟩ rfl rfl (Nat.le_refl _) (Nat.le_refl _) hKN
  have hl := lv_entry (cvs g av) (n := nO k) (by rw [am_lgsl, am_cvcat, ← hloc]; exact hcat)
  rw [lg_entry_eq]
  generalize (lg_sl (cvs g av) ++ List.replicate (nO k - (lg_sl (cvs g av)).length) Slot.unset).toArray = ls at hl ⊢
  rw [am_args] at hl
  have W9 := G s.heap [] ls hP va_S.rf hl (Nat.le_refl _) (Nat.le_refl _) (Nat.le_trans hmono.1 hKN)
  rw [hpc, Nat.sub_self, Nat.sub_self] at W9
  exact W9
end AmInd
section AmInd2
variable {p : Program} {l : Launch} {e : Env} {R : Room} {s : State} {m : MethodId} {args : Array Value} {below : List Frame} {meth : Method} {c : Code} {Q : State → Prop} {cc : ByteArray} {own : String} {nL : Nat} {dC : Nat → ClassId} {dI : Nat → Nat → Nat} {ct : Nat → ClassId} {g : Nat → Nat} {b z0 s0 : Nat} {x : Bool} {pc : Nat} {ll : AmL} {st : List Value} {M : AmM}
theorem am_vopt (g : Nat → Nat) (v9 : Option Value) (rest : List Value) : (v9.map (cv g)).toList ++ cvs g rest = cvs g (v9.toList ++ rest) := by
  cases v9 <;> rfl
/-- a call -/
theorem am_call {y : Nat → MethodName} {cO : Nat → ByteArray} {nO : Nat → Nat} {rO : Nat → Option FieldType} {fO lO kd : Nat → Nat} {pcs v ix : Nat → Nat → Nat} {w : Nat → Nat → List Cond} {na : Nat → Nat × Nat × Nat} {k i k' mc ms : Nat} {op : Instr} {av rest : List Value} {o1 : AmO} {M1 : AmM} (h : amStep na x op i ll st M = some (.inr (.inr (k', av, rest)))) (hok : amOk y cO nO rO fO lO kd pcs v ix w k i op = true) (hwd : ∀ wd ∈ w k i, wd ∈ amTB ∨ (amNest wd = true ∧ wd ∈ lw_tbl)) (hMo : amMo y cO nO rO kd pcs na k') (F : AmK y cO nO rO fO lO dC dI ct g b x p R s m args meth c z0 k) (hM : vx_Met l (y k') (amWsO y cO nO rO k') (amRm fO lO k' mc ms) (amPre dC dI ct g b x av M) (amQ dC dI ct g b o1 M1) (amX dC dI ct g b o1 M1) mc ms (amA g b)) (hr1 : mZ M - z0 + mc ≤ R.cells) (hr2 : mS M - s0 + ms ≤ R.slots)
    (kr : ∀ v9, o1 = .inl v9 → ∀ (H1 : Heap) (locs1 : List Loc) (ls : Array Slot), lv_has ls (nO k) (cvl g ll) → va_P (dC, dI) vwCl (amWs ct g M1) H1 → va_S (amA g b) s.heap H1 locs1 → W p l e R s m args below meth c H1 locs1 (mZ M - z0 + mc) (mS M - s0 + ms) Q (F0 m (pcs k (i + 1)) ls (cvs g (v9.toList ++ rest))))
    (kt : ∀ n, o1 = .inr n → ∀ (H1 : Heap) (locs1 : List Loc) (q : Addr) (ce : Cell) (ls : Array Slot), va_P (dC, dI) vwCl (amWs ct g M1) H1 → va_S (amA g b) s.heap H1 locs1 → H1[q]? = some ce → ce.vm = .none → s.vm.findClass (amEx n) = some ce.cls → vx_W p l e R s m args below meth c H1 locs1 (mZ M - z0 + mc) (mS M - s0 + ms) Q (F0 m (pcs k i) ls (cvs g rest)) q) :
    AmG p l e R s m args below meth c Q (nO k) dC dI ct g b z0 s0 x (pcs k i) ll st M := by
  obtain ⟨hd, hw, hsd, hn⟩ := amOk_p hok
  obtain ⟨⟨hx, hb, hml, hown, hts, hK, hX, hb0, hlk, hg, hex⟩, hnm, hrt, hxf, hRf, hRl⟩ := F
  obtain ⟨hpl, hcode, hini, hdd, hloc, hpc, hk0, hk1, hk2⟩ := hMo
  intro H locs ls hP hS hl h1 h2 h3
  refine W_size (fun hH => ?_)
  have hU : ∀ U : State, U.heap = H → s.WarmedH U.vm → amPre dC dI ct g b x av M (cvs g av).toArray U := by
    intro U hU hW
    refine ⟨rfl, by rw [hU]; exact hP, va_K.moved hW.alike hK, amSX_go hX hW hU hS, by rw [hU]; exact hb0.up hS.1, fun hxt => ?_⟩
    have q1 := am_top hg hP hS hb0 h3
    have q2 := hex hxt
    rw [hU]
    omega
  have kr' : ∀ v9, o1 = .inl v9 → ∀ (H1 : Heap) (locs1 : List Loc), va_P (dC, dI) vwCl (amWs ct g M1) H1 → va_S (amA g b) s.heap H1 locs1 → W p l e R s m args below meth c H1 locs1 (mZ M - z0 + mc) (mS M - s0 + ms) Q (F0 m (pcs k (i + 1)) ls ((v9.map (cv g)).toList ++ cvs g rest)) := by
    intro v9 e9 H1 locs1 a1 a2
    rw [am_vopt]
    exact kr v9 e9 H1 locs1 ls hl a1 a2
  cases op with
  | invokevirtual q =>
    simp only [amStep] at h
    split at h <;> first | (cases h; done) | skip
    rename_i a9 as9 e9
    split at h <;> first | (cases h; done) | skip
    rename_i hc9
    cases h
    obtain ⟨c1, c2, c3, c4, c5⟩ := hc9
    simp only [amSd, Bool.and_eq_true, decide_eq_true_eq] at hsd
    obtain ⟨⟨s1, s2⟩, s3⟩ := hsd
    obtain ⟨m1, m2, m3, m4⟩ := hk0 s1
    have hst9 : cvs g st = (cvs g as9).reverse ++ .ref (g a9) :: cvs g (st.drop (na k').1) := by
      have z := congrArg (cvs g) (am_split e9)
      rw [cvs_app, cvs_rev] at z
      exact z
    have hlen : as9.length = (na k').1 - 1 := by
      have := congrArg List.length e9
      simp only [List.length_reverse, List.length_take, List.length_cons] at this
      omega
    have hB := callB_of (R := R) (s := s) (args := args) (own := (y k).cls) (index := ix k i) (y := y k') (bytes := cO k') (maxL := nO k') (ret := rO k') (rm := amRm fO lO k' mc ms) (mc := mc) (ms := ms) ((na k').1 - 1) hts (amWsO_good hcode) rfl rfl rfl (hts _ hini) (hts _ (am_good (hwd _ (by rw [hw]; exact List.mem_cons_self)) rfl)) (by rw [if_neg (by omega)] at hdd; exact hdd) ⟨Nat.le_trans s2 hRf, Nat.le_trans s3 hRl⟩
    have hrun := vx_runV (e := e) (below := below) (meth := meth) (H := H) (locs := locs) (cells := mZ M - z0) (slots := mS M - s0) (C := (y k').cls) (b := g a9) (As := cvs g as9) (rest := cvs g (st.drop (na k').1)) (g := F0 m (pcs k i) ls (cvs g st)) ⟨hx, hb, hml, hown, hts⟩ hM ⟨hB, hts _ m1, hts _ m2⟩
      ⟨amPre_blind, by rw [← m4]; exact va_recv hK hP (am_cl _ m3) (q0 := a9) (by rw [amWs_get c4, amE_ob c5 m3]), hU⟩ rfl (by rw [cvs_len]; exact hlen) hl.1 hst9 (lv_room (Nat.le_trans (Nat.le_of_eq (am_cats g _)) c2)) hd ⟨hr1, hr2⟩
    rw [hn] at kr'
    exact am_after hrun hS kr' (fun n9 e9 H1 locs1 q9 ce a1 a2 a3 a4 a5 => kt n9 e9 H1 locs1 q9 ce ls a1 a2 a3 a4 a5)
  | invokestatic q =>
    simp only [amStep] at h
    split at h <;> first | (cases h; done) | skip
    rename_i hc9
    cases h
    obtain ⟨c1, c2, c3⟩ := hc9
    simp only [amSd, Bool.and_eq_true, decide_eq_true_eq] at hsd
    obtain ⟨⟨s1, s2⟩, s3⟩ := hsd
    have m1 := hk1 s1
    have hB := callB_of (R := R) (s := s) (args := args) (own := (y k).cls) (index := ix k i) (y := y k') (bytes := cO k') (maxL := nO k') (ret := rO k') (rm := amRm fO lO k' mc ms) (mc := mc) (ms := ms) (na k').1 hts (amWsO_good hcode) rfl rfl rfl (hts _ hini) (hts _ (am_good (hwd _ (by rw [hw]; exact List.mem_cons_self)) rfl)) (by rw [if_pos s1] at hdd; exact hdd) ⟨Nat.le_trans s2 hRf, Nat.le_trans s3 hRl⟩
    have hrun := vx_runS (e := e) (below := below) (meth := meth) (H := H) (locs := locs) (cells := mZ M - z0) (slots := mS M - s0) (As := cvs g (st.take (na k').1).reverse) (rest := cvs g (st.drop (na k').1)) (g := F0 m (pcs k i) ls (cvs g st)) ⟨hx, hb, hml, hown, hts⟩ hM ⟨hB, hts _ m1⟩
      ⟨amPre_blind, hU⟩ rfl (by rw [cvs_len, List.length_reverse, List.length_take]; omega) hl.1 (by show cvs g st = _; rw [← cvs_rev, ← cvs_app, List.reverse_reverse, List.take_append_drop]) (lv_room (Nat.le_trans (Nat.le_of_eq (am_cats g _)) c2)) hd ⟨hr1, hr2⟩
    rw [hn] at kr'
    exact am_after hrun hS kr' (fun n9 e9 H1 locs1 q9 ce a1 a2 a3 a4 a5 => kt n9 e9 H1 locs1 q9 ce ls a1 a2 a3 a4 a5)
  | invokespecial q =>
    simp only [amStep] at h
    split at h <;> first | (cases h; done) | skip
    rename_i a9 as9 e9
    split at h <;> first | (cases h; done) | skip
    rename_i hc9
    cases h
    obtain ⟨c1, c2, c3⟩ := hc9
    simp only [amSd, Bool.and_eq_true, decide_eq_true_eq] at hsd
    obtain ⟨⟨s1, s2⟩, s3⟩ := hsd
    obtain ⟨m1, m2, m3⟩ := hk2 s1
    have hlen : as9.length = (na k').1 - 1 := by
      have := congrArg List.length e9
      simp only [List.length_reverse, List.length_take, List.length_cons] at this
      omega
    have hdd' : (y k').cls ≠ "java/lang/invoke/MethodHandle" ∧ (y k').cls ≠ "java/lang/invoke/VarHandle" ∧ (parseMethodDescriptor (y k').desc).map (fun d => d.parameters.length) = some ((na k').1 - 1) := by rw [if_neg (by omega)] at hdd; exact hdd
    have hws9 : amWsO y cO nO rO k' = Cond.code (y k') (cO k') (nO k') none :: amTB := by unfold amWsO; rw [m3]
    have hst9 : cvs g st = (cvs g as9).reverse ++ .ref (g a9) :: cvs g (st.drop (na k').1) := by
      have z := congrArg (cvs g) (am_split e9)
      rw [cvs_app, cvs_rev] at z
      exact z
    rw [hn] at kr'
    by_cases hv : v k i = 0
    · have hw9 : Cond.methodLink (y k).cls (ix k i) (y k') ∈ amTB := by
        have := hwd _ (by rw [hw]; exact List.mem_cons_self)
        simp only [hv, if_true] at this
        exact am_good this rfl
      have hB := callB_of (R := R) (s := s) (args := args) (own := (y k).cls) (index := ix k i) (y := y k') (bytes := cO k') (maxL := nO k') (ret := none) (rm := amRm fO lO k' mc ms) (mc := mc) (ms := ms) ((na k').1 - 1) hts (amWsO_good hcode) hws9 rfl rfl (hts _ hini) (hts _ hw9) hdd' ⟨Nat.le_trans s2 hRf, Nat.le_trans s3 hRl⟩
      have hrun := vx_runI (e := e) (below := below) (meth := meth) (H := H) (locs := locs) (cells := mZ M - z0) (slots := mS M - s0) (b := g a9) (As := cvs g as9) (rest := cvs g (st.drop (na k').1)) (g := F0 m (pcs k i) ls (cvs g st)) ⟨hx, hb, hml, hown, hts⟩ hM ⟨hB, m2, hts _ m1⟩
        ⟨amPre_blind, hU⟩ rfl (by rw [cvs_len]; exact hlen) hl.1 hst9 (lv_room (Nat.le_trans (Nat.le_of_eq (am_cats g _)) c2)) hd ⟨hr1, hr2⟩
      exact am_after hrun hS kr' (fun n9 e9 H1 locs1 q9 ce a1 a2 a3 a4 a5 => kt n9 e9 H1 locs1 q9 ce ls a1 a2 a3 a4 a5)
    · have hw9 : Cond.methodLinkNest (y k).cls (ix k i) (y k') "BulkWriter" ∈ lw_tbl := by
        have := hwd _ (by rw [hw]; exact List.mem_cons_self)
        simp only [hv, if_false] at this
        exact am_any this
      have hB := va_cnB (R := R) (s := s) (args := args) (own := (y k).cls) (host := "BulkWriter") (index := ix k i) (y := y k') (bytes := cO k') (maxL := nO k') (ret := none) (rm := amRm fO lO k' mc ms) (mc := mc) (ms := ms) ((na k').1 - 1) hts (amWsO_good hcode) hws9 rfl rfl (hX.1 _ hw9 rfl) (hts _ hini) hdd' ⟨Nat.le_trans s2 hRf, Nat.le_trans s3 hRl⟩
      have hrun := vx_runIN (e := e) (below := below) (meth := meth) (H := H) (locs := locs) (cells := mZ M - z0) (slots := mS M - s0) (b := g a9) (As := cvs g as9) (rest := cvs g (st.drop (na k').1)) (g := F0 m (pcs k i) ls (cvs g st)) ⟨hx, hb, hml, hown, hts⟩ hM ⟨hB, m2, hts _ m1⟩
        ⟨amPre_blind, hU⟩ rfl (by rw [cvs_len]; exact hlen) hl.1 hst9 (lv_room (Nat.le_trans (Nat.le_of_eq (am_cats g _)) c2)) hd ⟨hr1, hr2⟩
      exact am_after hrun hS kr' (fun n9 e9 H1 locs1 q9 ce a1 a2 a3 a4 a5 => kt n9 e9 H1 locs1 q9 ce ls a1 a2 a3 a4 a5)
  | _ => first | (simp only [amStep, amGo, amIf, reduceCtorEq] at h; done) | (simp only [amStep, amGo, amIf] at h; (repeat' split at h) <;> cases h)
theorem am_ccat {na : Nat → Nat × Nat × Nat} {k' i : Nat} {op : Instr} {av rest : List Value} (h : amStep na x op i ll st M = some (.inr (.inr (k', av, rest)))) : amCat av ≤ (na k').2.1 := by
  cases op with
  | invokevirtual q =>
    simp only [amStep] at h
    split at h <;> first | (cases h; done) | skip
    split at h <;> first | (cases h; done) | skip
    rename_i hc9
    cases h
    exact hc9.2.2.1
  | invokestatic q =>
    simp only [amStep] at h
    split at h <;> first | (cases h; done) | skip
    rename_i hc9
    cases h
    exact hc9.2.2
  | invokespecial q =>
    simp only [amStep] at h
    split at h <;> first | (cases h; done) | skip
    split at h <;> first | (cases h; done) | skip
    rename_i hc9
    cases h
    exact hc9.2.2
  | _ => first | (simp only [amStep, amGo, amIf, reduceCtorEq] at h; done) | (simp only [amStep, amGo, amIf] at h; (repeat' split at h) <;> cases h)
theorem am_has {P : Nat → Nat → Option Instr} {na : Nat → Nat × Nat × Nat} {x : Bool} {n k i : Nat} {ll : AmL} {st : List Value} {M : AmM} {r : AmO × AmM} (h : amRun P na x n k i ll st M = some r) : ∃ op, P k i = some op := by
  cases n with
  | zero => simp [amRun] at h
  | succ n =>
    unfold amRun at h
    cases hP : P k i with
    | none => rw [hP] at h; simp at h
    | some op => exact ⟨op, rfl⟩
/-- RUNS OF THE ABSTRACT MACHINE ARE THE MACHINE'S -/
theorem am_run_ok {y : Nat → MethodName} {cO : Nat → ByteArray} {nO : Nat → Nat} {rO : Nat → Option FieldType} {fO lO kd : Nat → Nat} {pcs v ix : Nat → Nat → Nat} {w : Nat → Nat → List Cond} {na : Nat → Nat × Nat × Nat} {P : Nat → Nat → Option Instr} (hOK : ∀ k i op, P k i = some op → amOk y cO nO rO fO lO kd pcs v ix w k i op = true ∧ ∀ wd ∈ w k i, wd ∈ amTB ∨ (amNest wd = true ∧ wd ∈ lw_tbl)) (hMo : ∀ k i op, P k i = some op → amMo y cO nO rO kd pcs na k) (hT : AmThr l y cO nO rO fO lO pcs P) (hX : AmTxt l y cO nO rO fO lO pcs na P) (hg : amHg g b) : ∀ n, AmRn l y cO nO rO fO lO pcs na P dC dI ct g b x n := by
  intro n
  induction n with
  | zero => intro k i ll st M o M' h; simp [amRun] at h
  | succ n ih =>
    intro k i ll st M o M' h p e R s m args below meth c z0 s0 F hc1 hc2 hz hs hKN
    unfold amRun at h
    cases hP : P k i with
    | none => rw [hP] at h; simp at h
    | some op =>
      rw [hP] at h
      dsimp only at h
      obtain ⟨hok, hwd⟩ := hOK k i op hP
      cases hS : amStep na x op i ll st M with
      | none => rw [hS] at h; simp at h
      | some a =>
        rw [hS] at h
        rcases a with ⟨i', l', st', M1⟩ | o1 | ⟨k', av, rest⟩
        · dsimp only at h
          have g1 := amStep_grow hS
          have g2 := amRun_grow h
          have G := ih h (p := p) (e := e) (R := R) (s := s) (m := m) (args := args) (below := below) (meth := meth) (c := c) (z0 := z0) (s0 := s0) F hc1 hc2 (by omega) (by omega) hKN
          cases hsp : amSp op with
          | true => exact hX hP hsp F (by rw [hc1]; omega) (by rw [hc2]; omega) hS G
          | false => exact am_step hok hwd F.1 F.2.1 F.2.2.2.2.1 F.2.2.2.2.2 hS hz hs (by rw [hc1]; omega) (by rw [hc2]; omega) (by omega) hsp G
        · cases h
          exact am_end hok hP hT F hS (by rw [hc1]; exact Nat.le_refl _) (by rw [hc2]; exact Nat.le_refl _)
        · dsimp only at h
          cases hC : amRun P na x n k' 0 (lv_args 0 av) [] M with
          | none => rw [hC] at h; simp at h
          | some q =>
            rw [hC] at h
            obtain ⟨o1, M1⟩ := q
            have g1 := amRun_grow hC
            obtain ⟨op', hP'⟩ := am_has hC
            have hMk := hMo k' 0 op' hP'
            have hcat := am_ccat hS
            rcases o1 with v9 | e9
            · dsimp only at h
              have g2 := amRun_grow h
              have hM := am_met ih hMk hg hC hcat (by omega)
              have G := ih h (p := p) (e := e) (R := R) (s := s) (m := m) (args := args) (below := below) (meth := meth) (c := c) (z0 := z0) (s0 := s0) F hc1 hc2 (by omega) (by omega) hKN
              have q1 : mZ M - z0 + (mZ M1 - mZ M + amXc (.inl v9)) = mZ M1 - z0 := by simp only [amXc]; omega
              have q2 : mS M - s0 + (mS M1 - mS M + amXs (.inl v9)) = mS M1 - s0 := by simp only [amXs]; omega
              refine am_call hS hok hwd hMk F hM (by rw [q1, hc1]; omega) (by rw [q2, hc2]; omega) ?_ ?_
              · intro v8 e8 H1 locs1 ls hl hP1 hS1
                cases e8
                rw [q1, q2]
                exact G H1 locs1 ls hP1 hS1 hl (by omega) (by omega) (by omega)
              · intro n8 e8
                cases e8
            · cases h
              have hM := am_met ih hMk hg hC hcat hKN
              have q1 : mZ M - z0 + (mZ M' - mZ M + amXc (.inr e9)) = mZ M' - z0 + amXc (.inr e9) := by omega
              have q2 : mS M - s0 + (mS M' - mS M + amXs (.inr e9)) = mS M' - s0 + amXs (.inr e9) := by omega
              refine am_call hS hok hwd hMk F hM (by rw [q1, hc1]; exact Nat.le_refl _) (by rw [q2, hc2]; exact Nat.le_refl _) ?_ ?_
              · intro v8 e8
                cases e8
              · intro n8 e8 H1 locs1 q9 ce ls hP1 hS1 a3 a4 a5
                cases e8
                rw [q1, q2]
                exact vx_out (fun z hz => (F.2.2.2.1 z hz).elim) F.1.2.2.2.2.2.2.2.2.1 a3 a4 a5 (fun t ht _ => ⟨_, rfl, rfl, by rw [ht]; exact hP1, hS1.F ht⟩) hS1.2.2 (Nat.le_refl _) (Nat.le_refl _)
end AmInd2
