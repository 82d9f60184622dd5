/-! The abstract machine's steps are the machine's: worlds, frames, and a row an instruction. -/
def cv (g : Nat → Nat) (v : Value) : Value := match v with
  | .ref a => .ref (g a)
  | v => v
def cvs (g : Nat → Nat) (st : List Value) : List Value := st.map (cv g)
def cvl (g : Nat → Nat) (l : AmL) : AmL := l.map (fun q => (q.1, cv g q.2))
theorem cv_cat (g : Nat → Nat) (v : Value) : (cv g v).category = v.category := by cases v <;> rfl
def amV (g : Nat → Nat) (M : AmM) (a j : Nat) (t : FieldType) : Value := match amW t with
  | 0 => .int (mI M a j)
  | 1 => .long (mJ M a j)
  | _ => va_rf ((mP M a j).map g)
def amFs (g : Nat → Nat) (M : AmM) (a : Nat) : List Value := (List.range (amNf (mK M a))).map (fun j => amV g M a j (amT (mK M a) j))
def amE (ct : Nat → ClassId) (g : Nat → Nat) (M : AmM) (a : Nat) : va_E :=
  if mK M a < 11 then .inr (mK M a, amFs g M a)
  else if mK M a < 14 then .inl (ct (mK M a), mN M a, .inl (mI M a))
  else .inl (ct (mK M a), mN M a, .inr (.inr (.inr (.inr (fun j => (mP M a j).map g)))))
def amWs (ct : Nat → ClassId) (g : Nat → Nat) (M : AmM) : va_W := (List.range (mZ M)).map (fun a => (g a, amE ct g M a))
def amTys (ct : Nat → ClassId) : List (ClassId × FieldType) := [(ct 11, .byte), (ct 12, .int), (ct 13, .boolean), (ct 14, .object RX5), (ct 15, .object RX8)]
def amTX (c : Nat) : u_T := match c with
  | 0 => TX0 | 1 => TX1 | 2 => TX2 | 3 => TX3 | 4 => TX4 | 5 => TX5 | 6 => TX6 | 7 => TX7 | 8 => TX8 | 9 => TX9 | _ => TX10
def amRX (c : Nat) : String := match c with
  | 0 => RX0 | 1 => RX1 | 2 => RX2 | 3 => RX3 | 4 => RX4 | 5 => RX5 | 6 => RX6 | 7 => RX7 | 8 => RX8 | 9 => RX9 | _ => RX10
theorem am_lt11 {P : Nat → Prop} (h0 : P 0) (h1 : P 1) (h2 : P 2) (h3 : P 3) (h4 : P 4) (h5 : P 5) (h6 : P 6) (h7 : P 7) (h8 : P 8) (h9 : P 9) (h10 : P 10) : ∀ c, c < 11 → P c := by
  intro c hc
  match c, hc with
  | 0, _ => exact h0
  | 1, _ => exact h1
  | 2, _ => exact h2
  | 3, _ => exact h3
  | 4, _ => exact h4
  | 5, _ => exact h5
  | 6, _ => exact h6
  | 7, _ => exact h7
  | 8, _ => exact h8
  | 9, _ => exact h9
  | 10, _ => exact h10
  | n + 11, h => exact absurd h (by omega)
theorem am_cl : ∀ c, c < 11 → vwCl[c]? = some (amRX c, amTX c, amNf c) := am_lt11 rfl rfl rfl rfl rfl rfl rfl rfl rfl rfl rfl
theorem am_nm : ∀ c, c < 11 → ∀ a, a < amNf c → ∀ b, b < amNf c → a ≠ b → (amTX c a).2.1 ≠ (amTX c b).2.1 := am_lt11 nmX0 nmX1 nmX2 nmX3 nmX4 nmX5 nmX6 nmX7 nmX8 nmX9 nmX10
theorem am_ty : ∀ c, c < 11 → ∀ k, k < amNf c → parseFieldDescriptor (amTX c k).2.2.1 = some (amT c k) := am_lt11 tyX0_ok tyX1_ok tyX2_ok tyX3_ok tyX4_ok tyX5_ok tyX6_ok tyX7_ok tyX8_ok tyX9_ok tyX10_ok
theorem amWs_get {ct : Nat → ClassId} {g : Nat → Nat} {M : AmM} {a : Nat} (h : a < mZ M) : (amWs ct g M)[a]? = some (g a, amE ct g M a) := by
  simp [amWs, List.getElem?_map, List.getElem?_range, h]
theorem amWs_len {ct : Nat → ClassId} {g : Nat → Nat} {M : AmM} : (amWs ct g M).length = mZ M := by simp [amWs]
theorem amWs_at {ct : Nat → ClassId} {g : Nat → Nat} {M : AmM} {k : Nat} {q : Nat × va_E} (h : (amWs ct g M)[k]? = some q) : k < mZ M ∧ q = (g k, amE ct g M k) := by
  have hk : k < mZ M := by
    have := (List.getElem?_eq_some_iff.mp h).1
    rwa [amWs_len] at this
  exact ⟨hk, (Option.some.inj ((amWs_get hk).symm.trans h)).symm⟩
/-- what the methods may change: all from b on, but the law's own cell -/
def amA (g : Nat → Nat) (b q : Nat) : Prop := b ≤ q ∧ q ≠ g (amKN + 2)
def amHg (g : Nat → Nat) (b : Nat) : Prop := (∀ a, a < amKN → g a = b + a) ∧ (g (amKN + 2) < b ∨ b + amKN ≤ g (amKN + 2))
def amHb (g : Nat → Nat) (b n : Nat) : Prop := b ≤ n ∧ g (amKN + 2) < n
theorem amHb.up {g : Nat → Nat} {b n n' : Nat} (h : amHb g b n) (hn : n ≤ n') : amHb g b n' := ⟨Nat.le_trans h.1 hn, Nat.lt_of_lt_of_le h.2 hn⟩
theorem amHb.ins {g : Nat → Nat} {b n q : Nat} (h : amHb g b n) (hn : n ≤ q) : amA g b q := ⟨Nat.le_trans h.1 hn, fun e => Nat.lt_irrefl _ (Nat.lt_of_lt_of_le h.2 (e ▸ hn))⟩
theorem amWs_D {ct : Nat → ClassId} {g : Nat → Nat} {M : AmM} {b : Nat} (hg : amHg g b) (hz : mZ M ≤ amKN) : va_D (amA g b) (amWs ct g M) := by
  refine ⟨fun i j p q h1 h2 h3 => ?_, fun k q h => ?_⟩
  · obtain ⟨e1, rfl⟩ := amWs_at h1
    obtain ⟨e2, rfl⟩ := amWs_at h2
    have h3 : g i = g j := h3
    rw [hg.1 i (by omega), hg.1 j (by omega)] at h3
    omega
  · obtain ⟨e1, rfl⟩ := amWs_at h
    show amA g b (g k)
    rw [hg.1 k (by omega)]
    refine ⟨by omega, ?_⟩
    rcases hg.2 with h9 | h9 <;> omega
theorem amWs_set {ct : Nat → ClassId} {g : Nat → Nat} {M M' : AmM} {a : Nat} {v : va_E} (h : a < mZ M) (hz : mZ M' = mZ M) (ho : ∀ d, d ≠ a → amE ct g M' d = amE ct g M d) (hv : amE ct g M' a = v) : (amWs ct g M).set a (g a, v) = amWs ct g M' := by
  apply List.ext_getElem?
  intro k
  by_cases hk : k = a
  · subst hk
    rw [List.getElem?_set_self (by rw [amWs_len]; exact h), amWs_get (by rw [hz]; exact h), hv]
  · rw [List.getElem?_set_ne (fun q => hk q.symm)]
    by_cases hl : k < mZ M
    · rw [amWs_get hl, amWs_get (by rw [hz]; exact hl), ho k hk]
    · rw [List.getElem?_eq_none (by rw [amWs_len]; omega), List.getElem?_eq_none (by rw [amWs_len]; omega)]
theorem amWs_push {ct : Nat → ClassId} {g : Nat → Nat} {M M' : AmM} {v : va_E} (hz : mZ M' = mZ M + 1) (ho : ∀ d, d < mZ M → amE ct g M' d = amE ct g M d) (hv : amE ct g M' (mZ M) = v) : amWs ct g M ++ [(g (mZ M), v)] = amWs ct g M' := by
  apply List.ext_getElem?
  intro k
  by_cases hl : k < mZ M
  · rw [List.getElem?_append_left (by rw [amWs_len]; exact hl), amWs_get hl, amWs_get (by omega), ho k hl]
  · rw [List.getElem?_append_right (by rw [amWs_len]; omega), amWs_len]
    by_cases hk : k = mZ M
    · subst hk
      rw [amWs_get (by omega), hv]
      simp
    · rw [List.getElem?_eq_none (by simp; omega), List.getElem?_eq_none (by rw [amWs_len]; omega)]
/-- a cell other than the one written to stays -/
theorem amE_wA {ct : Nat → ClassId} {g : Nat → Nat} {M : AmM} {a d : Nat} {f : Nat → Int32} (h : d ≠ a) : amE ct g (wA M a f) d = amE ct g M d := by
  have e : mI (wA M a f) d = mI M d := by simp [wA, mI, va_up, h]
  have e1 : mK (wA M a f) = mK M := rfl
  have e2 : mN (wA M a f) = mN M := rfl
  have e3 : mJ (wA M a f) = mJ M := rfl
  have e4 : mP (wA M a f) = mP M := rfl
  simp only [amE, amFs, amV, e, e1, e2, e3, e4]
theorem amE_wJ {ct : Nat → ClassId} {g : Nat → Nat} {M : AmM} {a d j : Nat} {v : Int64} (h : d ≠ a) : amE ct g (wJ M a j v) d = amE ct g M d := by
  have e : mJ (wJ M a j v) d = mJ M d := by simp [wJ, mJ, va_up, h]
  have e1 : mK (wJ M a j v) = mK M := rfl
  have e2 : mN (wJ M a j v) = mN M := rfl
  have e3 : mI (wJ M a j v) = mI M := rfl
  have e4 : mP (wJ M a j v) = mP M := rfl
  simp only [amE, amFs, amV, e, e1, e2, e3, e4]
theorem amE_wP {ct : Nat → ClassId} {g : Nat → Nat} {M : AmM} {a d j q : Nat} (h : d ≠ a) : amE ct g (wP M a j q) d = amE ct g M d := by
  have e : mP (wP M a j q) d = mP M d := by simp [wP, mP, va_up, h]
  have e1 : mK (wP M a j q) = mK M := rfl
  have e2 : mN (wP M a j q) = mN M := rfl
  have e3 : mI (wP M a j q) = mI M := rfl
  have e4 : mJ (wP M a j q) = mJ M := rfl
  simp only [amE, amFs, amV, e, e1, e2, e3, e4]
theorem am_ofIn {j : Int32} {n : Nat} (h : amIn j n = true) : vp_in j n := by
  simp only [amIn, Bool.and_eq_true, decide_eq_true_eq] at h
  intro q
  rcases q with q | q
  · exact h.1 q
  · omega
/-- the words that every frame has -/
def amTB : List Cond := lw_tbl.filter goodWord
def amNest (w : Cond) : Bool := match w with
  | .fieldLinkNest _ _ _ _ _ _ => true
  | .methodLinkNest _ _ _ _ => true
  | .declares _ => true
  | .castable _ _ => true
  | _ => false
def amStr : List (String × Nat × String) := [("BulkWriter", 94, "the tape has not so many bytes"), ("BulkWriter", 156, "no such count"), ("BulkWriter", 309, "no such place or column"), ("BulkWriter", 305, "no such path"), ("BulkWriter", 170, "no such row of the path"), ("BulkWriter", 303, "no such statement"), ("BulkWriter", 311, "nothing is told by this number"), ("BulkWriter", 248, "no such write of the order"), ("BulkWriter", 307, "no such place"), ("BulkWriter", 291, "not so many years")]
def amWt : String := "columns row other key index update delete insert merge set keep sum least most count where and "
/-- what stands outside the cells, in every frame: links between nest mates, JDK statics, arrays' classes, texts, the reference's words, the class's -/
def amSX (g : Nat → Nat) (b : Nat) (U : State) (H : Heap) : Prop :=
  (∀ w ∈ lw_tbl, amNest w = true → va_Nw w U) ∧ vx_Zq Bundle.tN "UNASSIGNED_STACK" Bundle.steD (amA g b) U H ∧ vx_Zq Bundle.tN "SUPPRESSED_SENTINEL" Bundle.listD (amA g b) U H ∧
  va_AO RX5 U ∧ va_AO RX8 U ∧ (∀ q ∈ amStr, ∃ sa, vk_R q.1 q.2.1 q.2.2 sa U) ∧
  va_Z RX10 "KNOWN" "[B" (.ref (g amKN)) (amA g b) U H ∧ va_T .byte (g amKN) 103 (fun j => .int (amKw j)) (amA g b) U H ∧
  vk_R RX2 117 amWt (g (amKN + 1)) U ∧ (∃ adV : Nat → Nat, vk_S 1 [95] [amWl] (fun _ => g (amKN + 1)) adV (amA g b) U H) ∧ va_Z "java/lang/String" "COMPACT_STRINGS" "Z" (.int 1) (amA g b) U H ∧ va_Zq "jdk/internal/util/Preconditions" "SIOOBE_FORMATTER" "Ljava/util/function/BiFunction;" (amA g b) U H
theorem amSX_go {g : Nat → Nat} {b : Nat} {s U : State} {H : Heap} {locs : List Loc} (h : amSX g b s s.heap) (hW : s.WarmedH U.vm) (hU : U.heap = H) (hS : va_S (amA g b) s.heap H locs) : amSX g b U U.heap := by
  obtain ⟨h1, h2, h3, h4, h5, h6, h7, h8, h9, ⟨adV, h10⟩, h11, h12⟩ := h
  subst hU
  refine ⟨fun w hw hn => ?_, (h2.kept hS.2.1).moved hW.alike, (h3.kept hS.2.1).moved hW.alike, h4.moved hW.alike, h5.moved hW.alike, fun q hq => ?_, (h7.kept hS.2.1).moved hW.alike, (h8.kept hS.2.1).moved hW.alike, h9.warm hW, ⟨adV, (h10.kept hS.2.1).moved hW.alike⟩, (h11.kept hS.2.1).moved hW.alike, (h12.kept hS.2.1).moved hW.alike⟩
  · have hz := h1 w hw hn
    cases w <;> simp [amNest] at hn
    · first | exact hz.warmM hW | exact hz.warmF hW | exact hz.warmD hW | exact hz.warmC hW
    · first | exact hz.warmM hW | exact hz.warmF hW | exact hz.warmD hW | exact hz.warmC hW
    · first | exact hz.warmM hW | exact hz.warmF hW | exact hz.warmD hW | exact hz.warmC hW
    · first | exact hz.warmM hW | exact hz.warmF hW | exact hz.warmD hW | exact hz.warmC hW
  · obtain ⟨sa, ha⟩ := h6 q hq
    exact ⟨sa, ha.warm hW⟩
