/-! One step of the abstract machine is the machine's. -/
section AmStp
variable {p : Program} {l : Launch} {e : Env} {R : Room} {s : State} {m : MethodId} {args : Array Value} {below : List Frame} {meth : Method} {c : Code} {Q : State → Prop} {cc : ByteArray} {own : String} {nL : Nat} {dC : Nat → ClassId} {dI : Nat → Nat → Nat} {ct : Nat → ClassId} {g : Nat → Nat} {b z0 s0 : Nat} {x : Bool} {pc : Nat} {ll : AmL} {st : List Value} {M : AmM}
theorem sn_known (F : AmF p s m args meth c own cc nL dC dI ct g b z0 x) {idx : Nat} (hw : Cond.fieldLink own idx RX10 "KNOWN" "[B" ∈ amTB) (hd : decode cc pc = .ok (.getstatic idx, 3)) (k : AmG p l e R s m args below meth c Q nL dC dI ct g b z0 s0 x (pc + 3) (ll) (.ref amKN :: st) (M)) : AmG p l e R s m args below meth c Q nL dC dI ct g b z0 s0 x (pc) (ll) (st) (M) := by
  obtain ⟨hx, hb, hml, hown, hts, hK, hX, hb0, hlk, hg, hex⟩ := F
  intro H locs ls hP hS hl h1 h2 h3
  exact va_gets hx hb hX.2.2.2.2.2.2.1 hS hown (hts _ hw) (fun _ h => h) hd (k H locs ls hP hS hl h1 h2 h3)
theorem sn_kald (F : AmF p s m args meth c own cc nL dC dI ct g b z0 x) {j : Int32} (hj : amIn j 103 = true) (hd : decode cc pc = .ok (.baload, 1)) (k : AmG p l e R s m args below meth c Q nL dC dI ct g b z0 s0 x (pc + 1) (ll) (.int (amKw j.toNatClampNeg) :: st) (M)) : AmG p l e R s m args below meth c Q nL dC dI ct g b z0 s0 x (pc) (ll) (.int j :: .ref amKN :: st) (M) := by
  obtain ⟨hx, hb, hml, hown, hts, hK, hX, hb0, hlk, hg, hex⟩ := F
  intro H locs ls hP hS hl h1 h2 h3
  exact va_tb hx hb hX.2.2.2.2.2.2.2.1 hS (am_ofIn hj) rfl hd (k H locs ls hP hS hl h1 h2 h3)
theorem sn_klen (F : AmF p s m args meth c own cc nL dC dI ct g b z0 x) (hd : decode cc pc = .ok (.arraylength, 1)) (k : AmG p l e R s m args below meth c Q nL dC dI ct g b z0 s0 x (pc + 1) (ll) (.int 103 :: st) (M)) : AmG p l e R s m args below meth c Q nL dC dI ct g b z0 s0 x (pc) (ll) (.ref amKN :: st) (M) := by
  obtain ⟨hx, hb, hml, hown, hts, hK, hX, hb0, hlk, hg, hex⟩ := F
  intro H locs ls hP hS hl h1 h2 h3
  exact va_tlen hx hb hX.2.2.2.2.2.2.2.1 hS rfl hd (k H locs ls hP hS hl h1 h2 h3)
theorem sn_lds (F : AmF p s m args meth c RX2 cc nL dC dI ct g b z0 x) (hd : decode cc pc = .ok (.ldc 117, 2)) (k : AmG p l e R s m args below meth c Q nL dC dI ct g b z0 s0 x (pc + 2) (ll) (.ref (amKN + 1) :: st) (M)) : AmG p l e R s m args below meth c Q nL dC dI ct g b z0 s0 x (pc) (ll) (st) (M) := by
  obtain ⟨hx, hb, hml, hown, hts, hK, hX, hb0, hlk, hg, hex⟩ := F
  intro H locs ls hP hS hl h1 h2 h3
  intro T hT X
  obtain ⟨t, a1, b1⟩ := k H locs ls hP hS hl h1 h2 h3 T hT X
  have hs9 := hX.2.2.2.2.2.2.2.2.1
  exact ⟨t, X.ldcString hx (own := RX2) (text := amWt) (index := 117) hown hs9.1 hs9.2 (g := F0 m pc ls (cvs g st)) rfl (by rw [hb]; exact hd) t a1, b1⟩
theorem amOk_p {y : Nat → MethodName} {cO : Nat → ByteArray} {nO : Nat → Nat} {rO : Nat → Option FieldType} {fO lO kd : Nat → Nat} {pcs v ix : Nat → Nat → Nat} {w : Nat → Nat → List Cond} {k i : Nat} {op : Instr} (h : amOk y cO nO rO fO lO kd pcs v ix w k i op = true) : decode (cO k) (pcs k i) = .ok (amRaw (pcs k) i (v k i) (ix k i) op) ∧ w k i = amWd y (y k).cls (v k i) (ix k i) op ∧ amSd fO lO nO rO kd y k (v k i) op (amRaw (pcs k) i (v k i) (ix k i) op).1 = true ∧ pcs k (i + 1) = pcs k i + (amRaw (pcs k) i (v k i) (ix k i) op).2 := by
  simp only [amOk, Bool.and_eq_true, decide_eq_true_eq] at h
  exact h
theorem am_fin4 {j : Nat} (h : j < 4) : ((Fin.ofNat 4 j : Fin 4) : Nat) = j := Nat.mod_eq_of_lt h
theorem am_good {wd : Cond} (h : wd ∈ amTB ∨ (amNest wd = true ∧ wd ∈ lw_tbl)) (hn : amNest wd = false) : wd ∈ amTB := by
  rcases h with h | ⟨h, -⟩
  · exact h
  · rw [hn] at h; cases h
theorem am_any {wd : Cond} (h : wd ∈ amTB ∨ (amNest wd = true ∧ wd ∈ lw_tbl)) : wd ∈ lw_tbl := by
  rcases h with h | ⟨-, h⟩
  · exact (List.mem_filter.mp h).1
  · exact h
theorem am_flink {own : String} {vr ix ci j : Nat} (h : amFl own vr ix ci j ∈ amTB ∨ (amNest (amFl own vr ix ci j) = true ∧ amFl own vr ix ci j ∈ lw_tbl)) : (vr = 0 ∧ Cond.fieldLink own ix (amTX ci j).1 (amTX ci j).2.1 (amTX ci j).2.2.1 ∈ amTB) ∨ Cond.fieldLinkNest own ix (amTX ci j).1 (amTX ci j).2.1 (amTX ci j).2.2.1 "BulkWriter" ∈ lw_tbl := by
  unfold amFl at h
  by_cases hv : vr = 0
  · simp only [hv, if_true] at h
    exact Or.inl ⟨hv, am_good h rfl⟩
  · simp only [hv, if_false] at h
    exact Or.inr (am_any h)
def amSp (op : Instr) : Bool := match op with
  | .ldc _ => true
  | .d2i => true
  | .d2l => true
  | _ => false
theorem am_w1 {t : FieldType} (h : amW t = 1) : t = .long := by cases t <;> simp_all [amW]
theorem am_w2 {t : FieldType} (h0 : amW t ≠ 0) (h1 : amW t ≠ 1) : amW t = 2 := by cases t <;> simp_all [amW]
theorem am_wr {g : Nat → Nat} {v : Nat} {t : FieldType} (h : amW t = 2) (h2 : amWok t = true) : narrow t (cv g (.ref v)) = cv g (.ref v) ∧ fits t (cv g (.ref v)) = true := by
  cases t <;> simp_all [amW, amWok] <;> exact ⟨rfl, rfl⟩
theorem am_look (f : Int → Int) : ∀ (ps : List (Int × Int)) (d a : Int), Op.lookupswitch.offset (ps.map (fun q => (q.1, f q.2))) (f d) a = f (Op.lookupswitch.offset ps d a) := by
  intro ps
  induction ps with
  | nil => intro d a; rfl
  | cons q r ih =>
    intro d a
    simp only [List.map_cons, Op.lookupswitch.offset, ih]
    (repeat' split) <;> first | rfl | (exfalso; simp_all; done)
set_option maxHeartbeats 4000000 in
theorem am_step {y : Nat → MethodName} {cO : Nat → ByteArray} {nO : Nat → Nat} {rO : Nat → Option FieldType} {fO lO kd : Nat → Nat} {pcs v ix : Nat → Nat → Nat} {w : Nat → Nat → List Cond} {na : Nat → Nat × Nat × Nat} {k i : Nat} {op : Instr} (hok : amOk y cO nO rO fO lO kd pcs v ix w k i op = true) (hwd : ∀ wd ∈ w k i, wd ∈ amTB ∨ (amNest wd = true ∧ wd ∈ lw_tbl)) (F : AmF p s m args meth c (y k).cls (cO k) (nO k) dC dI ct g b z0 x) (hnm : meth.name = (y k).name) (hRf : fO k ≤ R.frames) (hRl : lO k ≤ R.locals) {i' : Nat} {l' : AmL} {st' : List Value} {M1 : AmM} (h : amStep na x op i ll st M = some (.inl (i', l', st', M1))) (hz : z0 ≤ mZ M) (hs : s0 ≤ mS M) (hr1 : mZ M1 - z0 ≤ R.cells) (hr2 : mS M1 - s0 ≤ R.slots) (hKN : mZ M1 ≤ amKN) (hsp : amSp op = false) (k9 : AmG p l e R s m args below meth c Q (nO k) dC dI ct g b z0 s0 x (pcs k i') l' st' M1) : AmG p l e R s m args below meth c Q (nO k) dC dI ct g b z0 s0 x (pcs k i) ll st M := by
  obtain ⟨hd, hw, hsd, hn⟩ := amOk_p hok
  cases op with
  | iadd =>
    simp only [amStep, amGo, amIf] at h
    split at h <;> first | (cases h; done) | skip
    cases h
    exact sn_iadd F hd (by rw [hn] at k9; exact k9)
  | isub =>
    simp only [amStep, amGo, amIf] at h
    split at h <;> first | (cases h; done) | skip
    cases h
    exact sn_isub F hd (by rw [hn] at k9; exact k9)
  | imul =>
    simp only [amStep, amGo, amIf] at h
    split at h <;> first | (cases h; done) | skip
    cases h
    exact sn_imul F hd (by rw [hn] at k9; exact k9)
  | iand =>
    simp only [amStep, amGo, amIf] at h
    split at h <;> first | (cases h; done) | skip
    cases h
    exact sn_iand F hd (by rw [hn] at k9; exact k9)
  | ior =>
    simp only [amStep, amGo, amIf] at h
    split at h <;> first | (cases h; done) | skip
    cases h
    exact sn_ior F hd (by rw [hn] at k9; exact k9)
  | ixor =>
    simp only [amStep, amGo, amIf] at h
    split at h <;> first | (cases h; done) | skip
    cases h
    exact sn_ixor F hd (by rw [hn] at k9; exact k9)
  | ishl =>
    simp only [amStep, amGo, amIf] at h
    split at h <;> first | (cases h; done) | skip
    cases h
    exact sn_ishl F hd (by rw [hn] at k9; exact k9)
  | ishr =>
    simp only [amStep, amGo, amIf] at h
    split at h <;> first | (cases h; done) | skip
    cases h
    exact sn_ishr F hd (by rw [hn] at k9; exact k9)
  | iushr =>
    simp only [amStep, amGo, amIf] at h
    split at h <;> first | (cases h; done) | skip
    cases h
    exact sn_iushr F hd (by rw [hn] at k9; exact k9)
  | ineg =>
    simp only [amStep, amGo, amIf] at h
    split at h <;> first | (cases h; done) | skip
    cases h
    exact sn_ineg F hd (by rw [hn] at k9; exact k9)
  | lneg =>
    simp only [amStep, amGo, amIf] at h
    split at h <;> first | (cases h; done) | skip
    cases h
    exact sn_lneg F hd (by rw [hn] at k9; exact k9)
  | ladd =>
    simp only [amStep, amGo, amIf] at h
    split at h <;> first | (cases h; done) | skip
    cases h
    exact sn_ladd F hd (by rw [hn] at k9; exact k9)
  | lmul =>
    simp only [amStep, amGo, amIf] at h
    split at h <;> first | (cases h; done) | skip
    cases h
    exact sn_lmul F hd (by rw [hn] at k9; exact k9)
  | land =>
    simp only [amStep, amGo, amIf] at h
    split at h <;> first | (cases h; done) | skip
    cases h
    exact sn_land F hd (by rw [hn] at k9; exact k9)
  | lor =>
    simp only [amStep, amGo, amIf] at h
    split at h <;> first | (cases h; done) | skip
    cases h
    exact sn_lor F hd (by rw [hn] at k9; exact k9)
  | lshl =>
    simp only [amStep, amGo, amIf] at h
    split at h <;> first | (cases h; done) | skip
    cases h
    exact sn_lshl F hd (by rw [hn] at k9; exact k9)
  | lushr =>
    simp only [amStep, amGo, amIf] at h
    split at h <;> first | (cases h; done) | skip
    cases h
    exact sn_lushr F hd (by rw [hn] at k9; exact k9)
  | i2l =>
    simp only [amStep, amGo, amIf] at h
    split at h <;> first | (cases h; done) | skip
    cases h
    exact sn_i2l F hd (by rw [hn] at k9; exact k9)
  | i2b =>
    simp only [amStep, amGo, amIf] at h
    split at h <;> first | (cases h; done) | skip
    cases h
    exact sn_i2b F hd (by rw [hn] at k9; exact k9)
  | lcmp =>
    simp only [amStep, amGo, amIf] at h
    split at h <;> first | (cases h; done) | skip
    cases h
    exact sn_lcmp F hd (by rw [hn] at k9; exact k9)
  | idiv =>
    simp only [amStep, amGo, amIf] at h
    split at h <;> first | (cases h; done) | skip
    split at h <;> first | (cases h; done) | skip
    cases h
    exact sn_idiv F (by assumption) hd (by rw [hn] at k9; exact k9)
  | irem =>
    simp only [amStep, amGo, amIf] at h
    split at h <;> first | (cases h; done) | skip
    split at h <;> first | (cases h; done) | skip
    cases h
    exact sn_irem F (by assumption) hd (by rw [hn] at k9; exact k9)
  | iconst n =>
    simp only [amStep, amGo, amIf] at h
    cases h
    obtain hv | hv | hv | hv | hv : v k i = 0 ∨ v k i = 1 ∨ v k i = 2 ∨ v k i = 3 ∨ 4 ≤ v k i := by omega
    · rw [hv] at hd hn
      exact sn_iconst F hd (by rw [hn] at k9; exact k9)
    · rw [hv] at hd hn hsd
      exact sn_bipush F (of_decide_eq_true hsd) hd (by rw [hn] at k9; exact k9)
    · rw [hv] at hd hn hsd
      exact sn_sipush F (of_decide_eq_true hsd) hd (by rw [hn] at k9; exact k9)
    · rw [hv] at hd hn hw
      exact sn_ldc F (am_good (hwd _ (by rw [hw]; exact List.mem_cons_self)) rfl) hd (by rw [hn] at k9; exact k9)
    · obtain ⟨z, hz9⟩ : ∃ z, v k i = z + 4 := ⟨v k i - 4, by omega⟩
      rw [hz9] at hd hn hw
      have hw : w k i = [Cond.constant (y k).cls (ix k i) (Int32.ofInt n)] := by
        rw [hw]
        simp only [amWd]
        rw [if_neg (show ¬ z + 4 ≤ 2 by omega)]
      exact sn_ldcw F (am_good (hwd _ (by rw [hw]; exact List.mem_cons_self)) rfl) hd (by rw [hn] at k9; exact k9)
  | sipush n =>
    simp only [amStep, amGo, amIf] at h
    cases h
    obtain hv | hv | hv : v k i = 0 ∨ v k i = 1 ∨ 2 ≤ v k i := by omega
    · rw [hv] at hd hn hsd
      have e0 : n = 0 := of_decide_eq_true hsd
      subst e0
      exact sn_lconst (v := Int64.ofInt 0) F (by decide) hd (by rw [hn] at k9; exact k9)
    · rw [hv] at hd hn hsd
      have e0 : n = 1 := of_decide_eq_true hsd
      subst e0
      exact sn_lconst (v := Int64.ofInt 1) F (by decide) hd (by rw [hn] at k9; exact k9)
    · obtain ⟨z, hz9⟩ : ∃ z, v k i = z + 2 := ⟨v k i - 2, by omega⟩
      rw [hz9] at hd hn hw
      have hw : w k i = [Cond.constantLong (y k).cls (ix k i) (Int64.ofInt n)] := by
        rw [hw]
        simp only [amWd]
        rw [if_neg (show ¬ z + 2 ≤ 1 by omega)]
      exact sn_ldc2 F (am_good (hwd _ (by rw [hw]; exact List.mem_cons_self)) rfl) hd (by rw [hn] at k9; exact k9)
  | iload j =>
    simp only [amStep, amGo, amIf] at h
    split at h <;> first | (cases h; done) | skip
    rename_i v9 hv9
    cases h
    by_cases hv : v k i = 0
    · simp only [amRaw, hv, if_true] at hd hn
      exact sn_iload F hv9 hd (by rw [hn] at k9; exact k9)
    · simp only [amRaw, hv, if_false] at hd hn
      have hj := of_decide_eq_true hsd
      exact sn_iload_n F (am_fin4 (hj.resolve_left hv)) hv9 hd (by rw [hn] at k9; exact k9)
  | istore j =>
    simp only [amStep, amGo, amIf] at h
    split at h <;> first | (cases h; done) | skip
    cases h
    simp only [amSd, Bool.and_eq_true, decide_eq_true_eq] at hsd
    by_cases hv : v k i = 0
    · simp only [amRaw, hv, if_true] at hd hn
      exact sn_istore F hsd.2 hd (by rw [hn] at k9; exact k9)
    · simp only [amRaw, hv, if_false] at hd hn
      exact sn_istore_n F (am_fin4 (hsd.1.resolve_left hv)) hsd.2 hd (by rw [hn] at k9; exact k9)
  | lload j =>
    simp only [amStep, amGo, amIf] at h
    split at h <;> first | (cases h; done) | skip
    rename_i v9 hv9
    cases h
    by_cases hv : v k i = 0
    · simp only [amRaw, hv, if_true] at hd hn
      exact sn_lload F hv9 hd (by rw [hn] at k9; exact k9)
    · simp only [amRaw, hv, if_false] at hd hn
      have hj := of_decide_eq_true hsd
      exact sn_lload_n F (am_fin4 (hj.resolve_left hv)) hv9 hd (by rw [hn] at k9; exact k9)
  | lstore j =>
    simp only [amStep, amGo, amIf] at h
    split at h <;> first | (cases h; done) | skip
    cases h
    simp only [amSd, Bool.and_eq_true, decide_eq_true_eq] at hsd
    by_cases hv : v k i = 0
    · simp only [amRaw, hv, if_true] at hd hn
      exact sn_lstore F hsd.2 hd (by rw [hn] at k9; exact k9)
    · simp only [amRaw, hv, if_false] at hd hn
      exact sn_lstore_n F (am_fin4 (hsd.1.resolve_left hv)) hsd.2 hd (by rw [hn] at k9; exact k9)
  | aload j =>
    simp only [amStep, amGo, amIf] at h
    split at h <;> first | (cases h; done) | skip
    rename_i v9 hv9
    cases h
    by_cases hv : v k i = 0
    · simp only [amRaw, hv, if_true] at hd hn
      exact sn_aload F hv9 hd (by rw [hn] at k9; exact k9)
    · simp only [amRaw, hv, if_false] at hd hn
      have hj := of_decide_eq_true hsd
      exact sn_aload_n F (am_fin4 (hj.resolve_left hv)) hv9 hd (by rw [hn] at k9; exact k9)
  | astore j =>
    simp only [amStep, amGo, amIf] at h
    split at h <;> first | (cases h; done) | skip
    cases h
    simp only [amSd, Bool.and_eq_true, decide_eq_true_eq] at hsd
    by_cases hv : v k i = 0
    · simp only [amRaw, hv, if_true] at hd hn
      exact sn_astore F hsd.2 hd (by rw [hn] at k9; exact k9)
    · simp only [amRaw, hv, if_false] at hd hn
      exact sn_astore_n F (am_fin4 (hsd.1.resolve_left hv)) hsd.2 hd (by rw [hn] at k9; exact k9)
  | iinc j n =>
    simp only [amStep, amGo, amIf] at h
    split at h <;> first | (cases h; done) | skip
    rename_i v9 hv9
    cases h
    exact sn_iinc F hv9 (of_decide_eq_true hsd) hd (by rw [hn] at k9; exact k9)
  | dup =>
    simp only [amStep, amGo, amIf] at h
    split at h <;> first | (cases h; done) | skip
    split at h <;> first | (cases h; done) | skip
    rename_i hc9
    cases h
    exact sn_dup F hc9 hd (by rw [hn] at k9; exact k9)
  | pop =>
    simp only [amStep, amGo, amIf] at h
    split at h <;> first | (cases h; done) | skip
    split at h <;> first | (cases h; done) | skip
    rename_i hc9
    cases h
    exact sn_pop F hc9 hd (by rw [hn] at k9; exact k9)
  | dup_x1 =>
    simp only [amStep, amGo, amIf] at h
    split at h <;> first | (cases h; done) | skip
    split at h <;> first | (cases h; done) | skip
    rename_i hc9
    cases h
    exact sn_dup_x1 F hc9.1 hc9.2 hd (by rw [hn] at k9; exact k9)
  | dup_x2 =>
    simp only [amStep, amGo, amIf] at h
    split at h <;> first | (cases h; done) | skip
    split at h <;> first | (cases h; done) | skip
    rename_i hc9
    cases h
    exact sn_dup_x2 F hc9.1 hc9.2.1 hc9.2.2 hd (by rw [hn] at k9; exact k9)
  | dup2 =>
    simp only [amStep, amGo, amIf] at h
    split at h <;> first | (cases h; done) | skip
    split at h <;> first | (cases h; done) | skip
    rename_i hc9
    cases h
    exact sn_dup2 F hc9.1 hc9.2 hd (by rw [hn] at k9; exact k9)
  | goto t =>
    simp only [amStep, amGo, amIf] at h
    cases h
    exact sn_goto F hd k9
  | ifCond q t =>
    simp only [amStep, amGo] at h
    split at h <;> first | (cases h; done) | skip
    cases q <;> simp only [amIf] at h
    · refine sn_if_eq F hd (fun q9 => ?_) (fun q9 => ?_)
      · rw [if_pos q9] at h; cases h; exact k9
      · rw [if_neg q9] at h; cases h; exact (by rw [hn] at k9; exact k9)
    · refine sn_if_ne F hd (fun q9 => ?_) (fun q9 => ?_)
      · rw [if_pos q9] at h; cases h; exact k9
      · rw [if_neg (fun z => z q9)] at h; cases h; exact (by rw [hn] at k9; exact k9)
    · refine sn_if_lt F hd (fun q9 => ?_) (fun q9 => ?_)
      · rw [if_pos q9] at h; cases h; exact k9
      · rw [if_neg q9] at h; cases h; exact (by rw [hn] at k9; exact k9)
    · refine sn_if_ge F hd (fun q9 => ?_) (fun q9 => ?_)
      · rw [if_pos q9] at h; cases h; exact k9
      · rw [if_neg q9] at h; cases h; exact (by rw [hn] at k9; exact k9)
    · refine sn_if_gt F hd (fun q9 => ?_) (fun q9 => ?_)
      · rw [if_pos q9] at h; cases h; exact k9
      · rw [if_neg q9] at h; cases h; exact (by rw [hn] at k9; exact k9)
    · refine sn_if_le F hd (fun q9 => ?_) (fun q9 => ?_)
      · rw [if_pos q9] at h; cases h; exact k9
      · rw [if_neg q9] at h; cases h; exact (by rw [hn] at k9; exact k9)
  | if_icmp q t =>
    simp only [amStep, amGo] at h
    split at h <;> first | (cases h; done) | skip
    cases q <;> simp only [amIf] at h
    · refine sn_icmp_eq F hd (fun q9 => ?_) (fun q9 => ?_)
      · rw [if_pos q9] at h; cases h; exact k9
      · rw [if_neg q9] at h; cases h; exact (by rw [hn] at k9; exact k9)
    · refine sn_icmp_ne F hd (fun q9 => ?_) (fun q9 => ?_)
      · rw [if_pos q9] at h; cases h; exact k9
      · rw [if_neg (fun z => z q9)] at h; cases h; exact (by rw [hn] at k9; exact k9)
    · refine sn_icmp_lt F hd (fun q9 => ?_) (fun q9 => ?_)
      · rw [if_pos q9] at h; cases h; exact k9
      · rw [if_neg q9] at h; cases h; exact (by rw [hn] at k9; exact k9)
    · refine sn_icmp_ge F hd (fun q9 => ?_) (fun q9 => ?_)
      · rw [if_pos q9] at h; cases h; exact k9
      · rw [if_neg q9] at h; cases h; exact (by rw [hn] at k9; exact k9)
    · refine sn_icmp_gt F hd (fun q9 => ?_) (fun q9 => ?_)
      · rw [if_pos q9] at h; cases h; exact k9
      · rw [if_neg q9] at h; cases h; exact (by rw [hn] at k9; exact k9)
    · refine sn_icmp_le F hd (fun q9 => ?_) (fun q9 => ?_)
      · rw [if_pos q9] at h; cases h; exact k9
      · rw [if_neg q9] at h; cases h; exact (by rw [hn] at k9; exact k9)
  | tableswitch d lo hi os =>
    simp only [amStep, amGo, amIf] at h
    split at h <;> first | (cases h; done) | skip
    split at h
    · rename_i hq
      cases h
      exact sn_tabOut (d := 0) F hq hd k9
    · rename_i hq
      split at h <;> first | (cases h; done) | skip
      rename_i t9 ht9
      cases h
      refine sn_tabIn (off := (pcs k t9.toNat : Int) - (pcs k i : Int)) F (fun z => hq (Or.inl z)) (fun z => hq (Or.inr z)) ?_ (by omega) hd k9
      rw [Array.getElem?_map, ht9]
      rfl
  | lookupswitch d ps =>
    simp only [amStep, amGo, amIf] at h
    split at h <;> first | (cases h; done) | skip
    rename_i a9 st9
    cases h
    refine sn_look (off := (pcs k (Op.lookupswitch.offset ps.toList d a9.toInt).toNat : Int) - (pcs k i : Int)) F hsd ?_ (by omega) hd k9
    rw [Array.toList_map]
    exact am_look (fun t => (pcs k t.toNat : Int) - (pcs k i : Int)) ps.toList d a9.toInt
  | getfield q =>
    simp only [amStep, amGo, amIf] at h
    simp only [amSd, Bool.and_eq_true, decide_eq_true_eq] at hsd
    have hl9 := (am_flink (hwd _ (by rw [hw]; exact List.mem_cons_self))).imp_left And.right
    split at h <;> first | (cases h; done) | skip
    split at h <;> first | (cases h; done) | skip
    rename_i a9 st9 hc9
    split at h
    · rename_i e9
      cases h
      exact sn_get (v := .int _) F hsd.1.1 hc9.1 hc9.2 hsd.1.2 (amV_0 (hsd.2.trans e9)) hl9 hd (by rw [hn] at k9; exact k9)
    · rename_i e9
      cases h
      exact sn_get (v := .long _) F hsd.1.1 hc9.1 hc9.2 hsd.1.2 (amV_1 (hsd.2.trans e9)) hl9 hd (by rw [hn] at k9; exact k9)
    · rename_i e0 e1
      split at h <;> first | (cases h; done) | skip
      rename_i q9 hq9
      cases h
      have e2 : amW (amT (q / 1000) (q % 1000 / 10)) = 2 := am_w2 (by rw [hsd.2]; exact e0) (by rw [hsd.2]; exact e1)
      exact sn_get (v := .ref _) F hsd.1.1 hc9.1 hc9.2 hsd.1.2 (by rw [amV_2 e2, hq9]; rfl) hl9 hd (by rw [hn] at k9; exact k9)
  | putfield q =>
    simp only [amStep, amGo, amIf] at h
    simp only [amSd, Bool.and_eq_true, decide_eq_true_eq] at hsd
    obtain ⟨⟨⟨⟨s1, s2⟩, s3⟩, s4⟩, s5⟩ := hsd
    have hl8 := am_flink (hwd _ (by rw [hw]; exact List.mem_cons_self))
    have hl9 : (Cond.fieldLink (y k).cls (ix k i) (amTX (q / 1000) (q % 1000 / 10)).1 (amTX (q / 1000) (q % 1000 / 10)).2.1 (amTX (q / 1000) (q % 1000 / 10)).2.2.1 ∈ amTB) ∨ ((amTX (q / 1000) (q % 1000 / 10)).2.2.2 = false ∧ Cond.fieldLinkNest (y k).cls (ix k i) (amTX (q / 1000) (q % 1000 / 10)).1 (amTX (q / 1000) (q % 1000 / 10)).2.1 (amTX (q / 1000) (q % 1000 / 10)).2.2.1 "BulkWriter" ∈ lw_tbl) := by
      have hz9 := hwd _ (by rw [hw]; exact List.mem_cons_self)
      rcases s5 with s5 | ⟨s5, -⟩
      · exact hl8.imp And.right (fun z => ⟨s5, z⟩)
      · simp only [amFl, s5, if_true] at hz9
        exact Or.inl (am_good hz9 rfl)
    have hf9 : (amTX (q / 1000) (q % 1000 / 10)).2.2.2 = false ∨ (meth.name = "<init>" ∧ (amTX (q / 1000) (q % 1000 / 10)).1 = (y k).cls ∧ (amTX (q / 1000) (q % 1000 / 10)).2.2.2 = true) := by
      rcases s5 with s5 | ⟨-, s6, s7⟩
      · exact Or.inl s5
      · cases hq9 : (amTX (q / 1000) (q % 1000 / 10)).2.2.2 with
        | false => exact Or.inl rfl
        | true => exact Or.inr ⟨hnm.trans s6, s7, rfl⟩
    split at h
    · split at h <;> first | (cases h; done) | skip
      rename_i v9 a9 st9 hc9
      cases h
      have e9 := s4 hc9.2.2
      exact sn_put (M' := wI M a9 (q % 1000 / 10) v9) (v := .int v9) F s1 hc9.1 hc9.2.1 s2 hf9 (by rw [e9]; rfl) (by rw [e9]; rfl) hl9 hd hc9.2.1 rfl rfl (fun d hd => amE_wA hd) (am_fsI hc9.2.1 s2 (s3.trans hc9.2.2)) (by rw [hn] at k9; exact k9)
    · split at h <;> first | (cases h; done) | skip
      rename_i v9 a9 st9 hc9
      cases h
      have e9 := am_w1 (s3.trans hc9.2.2)
      exact sn_put (M' := wJ M a9 (q % 1000 / 10) v9) (v := .long v9) F s1 hc9.1 hc9.2.1 s2 hf9 (by rw [e9]; rfl) (by rw [e9]; rfl) hl9 hd hc9.2.1 rfl rfl (fun d hd => amE_wJ hd) (am_fsJ hc9.2.1 s2 (s3.trans hc9.2.2)) (by rw [hn] at k9; exact k9)
    · split at h <;> first | (cases h; done) | skip
      rename_i v9 a9 st9 hc9
      cases h
      obtain ⟨e8, e9⟩ := am_wr (g := g) (v := v9) (s3.trans hc9.2.2) (am_wok _ s1 _ s2)
      exact sn_put (M' := wP M a9 (q % 1000 / 10) v9) (v := .ref v9) F s1 hc9.1 hc9.2.1 s2 hf9 e8 e9 hl9 hd hc9.2.1 rfl rfl (fun d hd => amE_wP hd) (am_fsP hc9.2.1 s2 (s3.trans hc9.2.2)) (by rw [hn] at k9; exact k9)
    · cases h
  | putstatic q =>
    simp only [amStep, amGo, amIf] at h
    simp only [amSd, Bool.and_eq_true, decide_eq_true_eq] at hsd
    obtain ⟨⟨⟨⟨s1, s2⟩, s3⟩, s4⟩, s5⟩ := hsd
    have hl8 := am_flink (hwd _ (by rw [hw]; exact List.mem_cons_self))
    split at h <;> first | (cases h; done) | skip
    split at h <;> first | (cases h; done) | skip
    rename_i v9 a9 st9 hc9
    cases h
    have e9 : amW (amT (q / 1000) (q % 1000 / 10)) = 0 := by rw [s4]; rfl
    have e7 : narrow .boolean (.int v9) = .int v9 ∧ fits .boolean (.int v9) = true := by rcases hc9.2.2.2 with rfl | rfl <;> exact ⟨by decide, by decide⟩
    exact sn_put (M' := wI M a9 (q % 1000 / 10) v9) (v := .int v9) F s1 hc9.1 hc9.2.1 s2 (Or.inl s5) (by rw [s4]; exact e7.1) (by rw [s4]; exact e7.2) (hl8.imp And.right (fun z => ⟨s5, z⟩)) hd hc9.2.1 rfl rfl (fun d hd => amE_wA hd) (am_fsI hc9.2.1 s2 e9) (by rw [hn] at k9; exact k9)
  | arraylength =>
    simp only [amStep, amGo, amIf] at h
    split at h <;> first | (cases h; done) | skip
    split at h
    · rename_i e9
      subst e9
      cases h
      exact sn_klen F hd (by rw [hn] at k9; exact k9)
    · split at h <;> first | (cases h; done) | skip
      rename_i hc9
      cases h
      exact sn_alen F hc9.1 hc9.2.1 hc9.2.2 hd (by rw [hn] at k9; exact k9)
  | iaload =>
    simp only [amStep, amGo, amIf] at h
    split at h <;> first | (cases h; done) | skip
    split at h <;> first | (cases h; done) | skip
    rename_i hc9
    cases h
    exact sn_iald F hc9.1 hc9.2.1 hc9.2.2 hd (by rw [hn] at k9; exact k9)
  | baload =>
    simp only [amStep, amGo, amIf] at h
    split at h <;> first | (cases h; done) | skip
    split at h
    · rename_i e9
      obtain ⟨rfl, e8⟩ := e9
      cases h
      exact sn_kald F e8 hd (by rw [hn] at k9; exact k9)
    · split at h <;> first | (cases h; done) | skip
      rename_i hc9
      cases h
      rcases hc9.2.1 with e9 | e9
      · exact sn_bald F hc9.1 e9 hc9.2.2 hd (by rw [hn] at k9; exact k9)
      · exact sn_zald F hc9.1 e9 hc9.2.2 hd (by rw [hn] at k9; exact k9)
  | aaload =>
    simp only [amStep, amGo, amIf] at h
    split at h <;> first | (cases h; done) | skip
    split at h <;> first | (cases h; done) | skip
    rename_i hc9
    split at h <;> first | (cases h; done) | skip
    rename_i q9 hq9
    cases h
    rcases hc9.2.1 with e9 | e9
    · exact sn_aald14 F hc9.1 e9 hc9.2.2 hq9 hd (by rw [hn] at k9; exact k9)
    · exact sn_aald15 F hc9.1 e9 hc9.2.2 hq9 hd (by rw [hn] at k9; exact k9)
  | iastore =>
    simp only [amStep, amGo, amIf] at h
    split at h <;> first | (cases h; done) | skip
    split at h <;> first | (cases h; done) | skip
    rename_i hc9
    cases h
    exact sn_iast F hc9.1 hc9.2.1 hc9.2.2 hd (by rw [hn] at k9; exact k9)
  | bastore =>
    simp only [amStep, amGo, amIf] at h
    split at h <;> first | (cases h; done) | skip
    split at h
    · rename_i hc9
      cases h
      exact sn_bast F hc9.1 hc9.2.1 hc9.2.2 hd (by rw [hn] at k9; exact k9)
    · split at h <;> first | (cases h; done) | skip
      rename_i hc9
      cases h
      exact sn_zast F hc9.1 hc9.2.1 hc9.2.2.1 hc9.2.2.2 hd (by rw [hn] at k9; exact k9)
  | aastore =>
    simp only [amStep, amGo, amIf] at h
    split at h <;> first | (cases h; done) | skip
    split at h <;> first | (cases h; done) | skip
    rename_i hc9
    cases h
    obtain ⟨c1, c2, c3, c4⟩ := hc9
    rcases c3 with ⟨c5, c6⟩ | ⟨c5, c6⟩
    · exact sn_aast14 F c1 c5 c2 c6 c4 hd (by rw [hn] at k9; exact k9)
    · exact sn_aast15 F c1 c5 c2 c6 c4 hd (by rw [hn] at k9; exact k9)
  | new q =>
    simp only [amStep, amGo, amIf] at h
    split at h <;> first | (cases h; done) | skip
    rename_i hc9
    cases h
    have q1 : mZ (mNew M q 0 (amNf q)) = mZ M + 1 := rfl
    have q2 : mS (mNew M q 0 (amNf q)) = mS M + amNf q := rfl
    rw [q1] at hr1 hKN
    rw [q2] at hr2
    exact sn_new F hc9.1 hc9.2 (am_good (hwd _ (by rw [hw]; exact List.mem_cons_self)) rfl) (am_good (hwd _ (by rw [hw]; exact List.mem_cons_of_mem _ List.mem_cons_self)) rfl) (am_good (hwd _ (by rw [hw]; exact List.mem_cons_of_mem _ (List.mem_cons_of_mem _ List.mem_cons_self))) rfl) (by omega) (by omega) (by omega) hd (by rw [hn] at k9; exact k9)
  | newarray t =>
    simp only [amStep, amGo, amIf] at h
    split at h <;> first | (cases h; done) | skip
    split at h <;> first | (cases h; done) | skip
    rename_i n9 st9 hc9
    split at h
    ·
      cases h
      have q1 : mZ (mNew M 11 n9.toNatClampNeg n9.toNatClampNeg) = mZ M + 1 := rfl
      have q2 : mS (mNew M 11 n9.toNatClampNeg n9.toNatClampNeg) = mS M + n9.toNatClampNeg := rfl
      rw [q1] at hr1 hKN
      rw [q2] at hr2
      exact sn_newa_byte F hc9.1 (am_good (hwd _ (by rw [hw]; exact List.mem_cons_self)) rfl) hc9.2.1 hc9.2.2 (by omega) (by omega) (by omega) hd (by rw [hn] at k9; exact k9)
    ·
      cases h
      have q1 : mZ (mNew M 12 n9.toNatClampNeg n9.toNatClampNeg) = mZ M + 1 := rfl
      have q2 : mS (mNew M 12 n9.toNatClampNeg n9.toNatClampNeg) = mS M + n9.toNatClampNeg := rfl
      rw [q1] at hr1 hKN
      rw [q2] at hr2
      exact sn_newa_int F hc9.1 (am_good (hwd _ (by rw [hw]; exact List.mem_cons_self)) rfl) hc9.2.1 hc9.2.2 (by omega) (by omega) (by omega) hd (by rw [hn] at k9; exact k9)
    ·
      cases h
      have q1 : mZ (mNew M 13 n9.toNatClampNeg n9.toNatClampNeg) = mZ M + 1 := rfl
      have q2 : mS (mNew M 13 n9.toNatClampNeg n9.toNatClampNeg) = mS M + n9.toNatClampNeg := rfl
      rw [q1] at hr1 hKN
      rw [q2] at hr2
      exact sn_newa_bool F hc9.1 (am_good (hwd _ (by rw [hw]; exact List.mem_cons_self)) rfl) hc9.2.1 hc9.2.2 (by omega) (by omega) (by omega) hd (by rw [hn] at k9; exact k9)
    · cases h
  | anewarray q =>
    simp only [amStep, amGo, amIf] at h
    split at h <;> first | (cases h; done) | skip
    split at h <;> first | (cases h; done) | skip
    rename_i n9 st9 hc9
    cases h
    obtain ⟨c1, c2, c3, c4⟩ := hc9
    have hAO : va_AO RX5 s ∧ va_AO RX8 s := by
      obtain ⟨-, -, -, -, -, -, hX, -⟩ := F
      exact ⟨hX.2.2.2.1, hX.2.2.2.2.1⟩
    rcases c4 with rfl | rfl
    ·
      have q1 : mZ (mNew M 14 n9.toNatClampNeg n9.toNatClampNeg) = mZ M + 1 := rfl
      have q2 : mS (mNew M 14 n9.toNatClampNeg n9.toNatClampNeg) = mS M + n9.toNatClampNeg := rfl
      rw [q1] at hr1 hKN
      rw [q2] at hr2
      exact sn_anew14 F c1 (am_good (hwd _ (by rw [hw]; exact List.mem_cons_self)) rfl) hAO.1 c2 c3 (by omega) (by omega) (by omega) hd (by rw [hn] at k9; exact k9)
    ·
      have q1 : mZ (mNew M 15 n9.toNatClampNeg n9.toNatClampNeg) = mZ M + 1 := rfl
      have q2 : mS (mNew M 15 n9.toNatClampNeg n9.toNatClampNeg) = mS M + n9.toNatClampNeg := rfl
      rw [q1] at hr1 hKN
      rw [q2] at hr2
      exact sn_anew15 F c1 (am_good (hwd _ (by rw [hw]; exact List.mem_cons_self)) rfl) hAO.2 c2 c3 (by omega) (by omega) (by omega) hd (by rw [hn] at k9; exact k9)
  | getstatic q =>
    simp only [amStep, amGo, amIf] at h
    cases h
    exact sn_known F (am_good (hwd _ (by rw [hw]; exact List.mem_cons_self)) rfl) hd (by rw [hn] at k9; exact k9)
  | monitorenter =>
    simp only [amStep, amGo, amIf] at h
    simp only [amSd, Bool.and_eq_true, decide_eq_true_eq] at hsd
    split at h <;> first | (cases h; done) | skip
    split at h <;> first | (cases h; done) | skip
    rename_i hc9
    cases h
    exact sn_obj F (am_good (hwd _ (by rw [hw]; exact List.mem_cons_self)) rfl) (am_good (hwd _ (by rw [hw]; exact List.mem_cons_of_mem _ List.mem_cons_self)) rfl) (am_good (hwd _ (by rw [hw]; exact List.mem_cons_of_mem _ (List.mem_cons_of_mem _ List.mem_cons_self))) rfl) hc9 (Nat.le_trans hsd.1 hRf) (Nat.le_trans hsd.2 hRl) hd (by rw [hn] at k9; exact k9)
  | monitorexit =>
    simp only [amStep, amGo, amIf] at h
    simp only [amSd, Bool.and_eq_true, decide_eq_true_eq] at hsd
    split at h <;> first | (cases h; done) | skip
    split at h <;> first | (cases h; done) | skip
    rename_i hc9
    cases h
    obtain ⟨c1, c2, c3, c4, c5, c6, c7, c8, c9, c10⟩ := hc9
    have hts := F.2.2.2.2.1
    exact sn_copy F (am_good (hwd _ (by rw [hw]; exact List.mem_cons_self)) rfl) (hts _ (am_good (hwd _ (by rw [hw]; exact List.mem_cons_of_mem _ List.mem_cons_self)) rfl)) (am_good (hwd _ (by rw [hw]; exact List.mem_cons_of_mem _ (List.mem_cons_of_mem _ List.mem_cons_self))) rfl) (am_good (hwd _ (by rw [hw]; exact List.mem_cons_of_mem _ (List.mem_cons_of_mem _ (List.mem_cons_of_mem _ List.mem_cons_self)))) rfl) c1 c2 c3 c4 c5 c6 c7 c8 c9 c10 (Nat.le_trans hsd.1 hRf) (Nat.le_trans hsd.2 hRl) hd (by rw [hn] at k9; exact k9)
  | f2i =>
    simp only [amStep, amGo, amIf] at h
    simp only [amSd, Bool.and_eq_true, decide_eq_true_eq] at hsd
    split at h <;> first | (cases h; done) | skip
    split at h <;> first | (cases h; done) | skip
    rename_i hc9
    cases h
    exact sn_min F (am_good (hwd _ (by rw [hw]; exact List.mem_cons_self)) rfl) (am_good (hwd _ (by rw [hw]; exact List.mem_cons_of_mem _ (List.mem_cons_self))) rfl) (am_good (hwd _ (by rw [hw]; exact List.mem_cons_of_mem _ (List.mem_cons_of_mem _ (List.mem_cons_self)))) rfl) (am_good (hwd _ (by rw [hw]; exact List.mem_cons_of_mem _ (List.mem_cons_of_mem _ (List.mem_cons_of_mem _ (List.mem_cons_self))))) rfl) hc9 (Nat.le_trans hsd.1 hRf) (Nat.le_trans hsd.2 hRl) hr1 hr2 hd (by rw [hn] at k9; exact k9)
  | f2l =>
    simp only [amStep, amGo, amIf] at h
    simp only [amSd, Bool.and_eq_true, decide_eq_true_eq] at hsd
    split at h <;> first | (cases h; done) | skip
    split at h <;> first | (cases h; done) | skip
    rename_i hc9
    cases h
    exact sn_max F (am_good (hwd _ (by rw [hw]; exact List.mem_cons_self)) rfl) (am_good (hwd _ (by rw [hw]; exact List.mem_cons_of_mem _ (List.mem_cons_self))) rfl) (am_good (hwd _ (by rw [hw]; exact List.mem_cons_of_mem _ (List.mem_cons_of_mem _ (List.mem_cons_self)))) rfl) (am_good (hwd _ (by rw [hw]; exact List.mem_cons_of_mem _ (List.mem_cons_of_mem _ (List.mem_cons_of_mem _ (List.mem_cons_self))))) rfl) hc9 (Nat.le_trans hsd.1 hRf) (Nat.le_trans hsd.2 hRl) hr1 hr2 hd (by rw [hn] at k9; exact k9)
  | ldc q =>
    simp only [amStep, amGo, amIf] at h
    exact absurd hsp (by simp [amSp])
  | d2i =>
    simp only [amStep, amGo, amIf] at h
    exact absurd hsp (by simp [amSp])
  | d2l =>
    simp only [amStep, amGo, amIf] at h
    exact absurd hsp (by simp [amSp])
  | _ => first | (simp only [amStep, reduceCtorEq] at h; done) | (simp only [amStep] at h; (repeat' split at h) <;> cases h)
end AmStp
