/-! A table, and what the methods of Rows do on it. -/
abbrev Tab : Type := (Nat → Bool) × (Nat → Nat → Int32)
/-- Rows at r hold the table -/
def TabC (cols : Nat) (C : AmC) (r : Nat) (T : Tab) : Prop := (∀ p, p < 30 → bt (cI C r 1) p = T.1 p) ∧ (∀ p, 30 ≤ p → bt (cI C r 1) p = false) ∧ ∀ p, p < 30 → T.1 p = true → ∀ c, c < cols → cI C (r + 1) (p * 4 + c) = T.2 p c
def tg (T : Tab) (p c : Nat) : Int32 := if T.1 p = true then T.2 p c else -100000
def tgo (T : Tab) (pl : Option Nat) (c : Nat) : Int32 := match pl with
  | some p => tg T p c
  | none => -100000
def sFree (T : Tab) : Option Nat := qf (fun p => !T.1 p) 30 0
/-- a place as the machine has it -/
def oI (o : Option Nat) : Int32 := match o with
  | some p => nI p
  | none => -1
theorem oI_n : oI none = -1 := rfl
theorem oI_s (p : Nat) : oI (some p) = nI p := rfl
theorem bt_us (w : Int32) {j : Nat} (hj : j < 32) : ((w.toUInt32 >>> ((nI j).toUInt32 &&& Int32.toUInt32 31)).toInt32 &&& 1) = if bt w j = true then 1 else 0 := by
  refine b_ext (fun i hi => ?_)
  rw [b_and, b_ushr j hj]
  have h1 : bt (1 : Int32) i = decide (i = 0) := by
    revert i
    decide
  rw [h1]
  by_cases h : i = 0
  · subst h
    cases hb : bt w j
    · simp [b_0]
    · simpa using h1
  · cases hb : bt w j
    · simp [h, b_0]
    · simp [h, h1]
theorem bcs (b : Bool) : b = false ∨ b = true := by cases b <;> simp
theorem ite10 (b : Bool) : ((if b = true then (1 : Int32) else 0) = 0) ↔ b = false := by cases b <;> decide
theorem ite11 (b : Bool) : ((if b = true then (1 : Int32) else 0) = 1) ↔ b = true := by cases b <;> decide
theorem b_set (w : Int32) {p : Nat} (hp : p < 32) (i : Nat) (hi : i < 32) : bt (w ||| ((1 : Int32) <<< (nI p &&& 31))) i = if i = p then true else bt w i := by
  rw [b_or, b_shl p hp _ hi]
  have h1 : bt (1 : Int32) (i - p) = decide (i - p = 0) := by
    have : i - p < 32 := by omega
    revert this
    generalize i - p = z
    revert z
    decide
  rw [h1]
  by_cases h : i = p
  · subst h; simp
  · by_cases h2 : p ≤ i
    · have h3 : ¬ i - p = 0 := by omega
      simp [h, h3]
    · simp [h, h2]
theorem b_clr (w : Int32) {p : Nat} (hp : p < 32) (i : Nat) (hi : i < 32) : bt (w &&& (((1 : Int32) <<< (nI p &&& 31)) ^^^ (-1))) i = if i = p then false else bt w i := by
  rw [b_and, b_xor, b_m1 i hi, b_shl p hp _ hi]
  have h1 : bt (1 : Int32) (i - p) = decide (i - p = 0) := by
    have : i - p < 32 := by omega
    revert this
    generalize i - p = z
    revert z
    decide
  rw [h1]
  by_cases h : i = p
  · subst h; simp
  · by_cases h2 : p ≤ i
    · have h3 : ¬ i - p = 0 := by omega
      simp [h, h3]
    · simp [h, h2]
theorem rh_raw {n : Nat} {C : AmC} {r p : Nat} (h : RwK C r) (hp : p < 30) : f_75 n r (nI p) C = some (if bt (cI C r 1) p = true then 1 else 0, C) := by
  unfold f_75
  simp (disch := omega) only [↓reduceIte, n_2, n_3, n_4, n_5, n_6, n_7, n_8, n_10, n_12, n_20, n_30, n_40, n_100, n_120, n_150, n_200, n_230, n_320, n_450, n_900, x_le, x_lt, x_eq, x_lt0, x_le0, x_0le, x_0lt, x_eq0, x_eq1, x_1lt, x_le1, x_lt1, x_1le, x_eqm, x_add, x_a1, x_1a, x_a0, x_0a, x_mul, x_sub, x_s1, x_1s, x_div, x_cl, x_cl0, x_cl1, x_in, x_in0, x_in1, x_ofNat, h.1, bt_us, ite11]
  have h2 : ¬ 30 ≤ p := by omega
  cases bt (cI C r 1) p <;> simp [h2]
theorem rh_m {n : Nat} {C : AmC} {r : Nat} : f_75 n r (-1) C = some (0, C) := by
  unfold f_75
  rw [if_pos (by decide)]
theorem rh_eq {n : Nat} {C : AmC} {r p cols : Nat} {T : Tab} (h : RwK C r) (hT : TabC cols C r T) (hp : p < 30) : f_75 n r (nI p) C = some (if T.1 p = true then 1 else 0, C) := by
  rw [rh_raw h hp, hT.1 p hp]
theorem rg_raw {n : Nat} {C : AmC} {r p c : Nat} (h : RwK C r) (hp : p < 30) (hc : c < 4) : f_76 n r (nI p) (nI c) C = some (if bt (cI C r 1) p = true then cI C (r + 1) (p * 4 + c) else -100000, C) := by
  unfold f_76
  simp (disch := omega) only [↓reduceIte, n_2, n_3, n_4, n_5, n_6, n_7, n_8, n_10, n_12, n_20, n_30, n_40, n_100, n_120, n_150, n_200, n_230, n_320, n_450, n_900, x_le, x_lt, x_eq, x_lt0, x_le0, x_0le, x_0lt, x_eq0, x_eq1, x_1lt, x_le1, x_lt1, x_1le, x_eqm, x_add, x_a1, x_1a, x_a0, x_0a, x_mul, x_sub, x_s1, x_1s, x_div, x_cl, x_cl0, x_cl1, x_in, x_in0, x_in1, x_ofNat, Option.bind_some, Option.bind_none, h.1, h.2.1, h.2.2.1, h.2.2.2, bt_us, ite10]
  have h2 : ¬ 30 ≤ p := by omega
  have h4 : p * 4 + c < 120 := by omega
  cases bt (cI C r 1) p <;> simp [h2, hc, h4]
theorem rg_m {n : Nat} {C : AmC} {r : Nat} {c : Int32} : f_76 n r (-1) c C = some (-100000, C) := by
  unfold f_76
  rw [if_pos (by decide)]
theorem rg_eq {n : Nat} {C : AmC} {r p c cols : Nat} {T : Tab} (h : RwK C r) (hT : TabC cols C r T) (hp : p < 30) (hc : c < cols) (h4 : cols ≤ 4) : f_76 n r (nI p) (nI c) C = some (tg T p c, C) := by
  rw [rg_raw h hp (by omega), hT.1 p hp]
  unfold tg
  cases hb : T.1 p with
  | false => simp
  | true => simp [hT.2.2 p hp hb c hc]
theorem rp_raw {n : Nat} {C : AmC} {r p c : Nat} {v : Int32} (h : RwK C r) (hp : p < 30) (hc : c < 4) : f_77 n r (nI p) (nI c) v C = some ((), uI C (r + 1) (p * 4 + c) v) := by
  unfold f_77
  have h1 : ¬ p < 0 := by omega
  have h2 : ¬ 30 ≤ p := by omega
  have h3 : ¬ c < 0 := by omega
  have h4 : p * 4 + c < 120 := by omega
  have h5 : ¬ 4 ≤ c := by omega
  simp (disch := omega) only [↓reduceIte, n_2, n_3, n_4, n_5, n_6, n_7, n_8, n_10, n_12, n_20, n_30, n_40, n_100, n_120, n_150, n_200, n_230, n_320, n_450, n_900, x_le, x_lt, x_eq, x_lt0, x_le0, x_0le, x_0lt, x_eq0, x_eq1, x_1lt, x_le1, x_lt1, x_1le, x_eqm, x_add, x_a1, x_1a, x_a0, x_0a, x_mul, x_sub, x_s1, x_1s, x_div, x_cl, x_cl0, x_cl1, x_in, x_in0, x_in1, x_ofNat, Option.bind_some, Option.bind_none, h.1, h.2.1, h.2.2.1, h.2.2.2, h1, h2, h3, h4, h5, if_true, if_false]
theorem ra_raw {n : Nat} {C : AmC} {r p : Nat} (h : RwK C r) (hp : p < 30) : f_78 n r (nI p) C = some ((), uI C r 1 (cI C r 1 ||| ((1 : Int32) <<< (nI p &&& 31)))) := by
  unfold f_78
  have h1 : ¬ p < 0 := by omega
  have h2 : ¬ 30 ≤ p := by omega
  simp (disch := omega) only [↓reduceIte, n_2, n_3, n_4, n_5, n_6, n_7, n_8, n_10, n_12, n_20, n_30, n_40, n_100, n_120, n_150, n_200, n_230, n_320, n_450, n_900, x_le, x_lt, x_eq, x_lt0, x_le0, x_0le, x_0lt, x_eq0, x_eq1, x_1lt, x_le1, x_lt1, x_1le, x_eqm, x_add, x_a1, x_1a, x_a0, x_0a, x_mul, x_sub, x_s1, x_1s, x_div, x_cl, x_cl0, x_cl1, x_in, x_in0, x_in1, x_ofNat, h.1, h1, h2, if_true, if_false]
theorem rd_raw {n : Nat} {C : AmC} {r p : Nat} (h : RwK C r) (hp : p < 30) : f_79 n r (nI p) C = some ((), uI C r 1 (cI C r 1 &&& (((1 : Int32) <<< (nI p &&& 31)) ^^^ (-1)))) := by
  unfold f_79
  have h1 : ¬ p < 0 := by omega
  have h2 : ¬ 30 ≤ p := by omega
  simp (disch := omega) only [↓reduceIte, n_2, n_3, n_4, n_5, n_6, n_7, n_8, n_10, n_12, n_20, n_30, n_40, n_100, n_120, n_150, n_200, n_230, n_320, n_450, n_900, x_le, x_lt, x_eq, x_lt0, x_le0, x_0le, x_0lt, x_eq0, x_eq1, x_1lt, x_le1, x_lt1, x_1le, x_eqm, x_add, x_a1, x_1a, x_a0, x_0a, x_mul, x_sub, x_s1, x_1s, x_div, x_cl, x_cl0, x_cl1, x_in, x_in0, x_in1, x_ofNat, h.1, h1, h2, if_true, if_false]
theorem rf_lp {C : AmC} {r : Nat} (h : RwK C r) : ∀ k j n, j + k = 30 → k < n → lp_80_2 n r (nI j) C = some (match qf (fun p => !bt (cI C r 1) p) k j with
    | some p => .inl (nI p)
    | none => .inr (), C) := by
  intro k
  induction k with
  | zero =>
    intro j n h1 h2
    obtain ⟨n, rfl⟩ : ∃ m, n = m + 1 := ⟨n - 1, by omega⟩
    have h3 : 30 ≤ j := by omega
    simp (disch := omega) only [lp_80_2, ↓reduceIte, n_2, n_3, n_4, n_5, n_6, n_7, n_8, n_10, n_12, n_20, n_30, n_40, n_100, n_120, n_150, n_200, n_230, n_320, n_450, n_900, x_le, x_lt, x_eq, x_lt0, x_le0, x_0le, x_0lt, x_eq0, x_eq1, x_1lt, x_le1, x_lt1, x_1le, x_eqm, x_add, x_a1, x_1a, x_a0, x_0a, x_mul, x_sub, x_s1, x_1s, x_div, x_cl, x_cl0, x_cl1, x_in, x_in0, x_in1, x_ofNat, h3, if_true, qf]
  | succ k ih =>
    intro j n h1 h2
    obtain ⟨n, rfl⟩ : ∃ m, n = m + 1 := ⟨n - 1, by omega⟩
    have h3 : ¬ 30 ≤ j := by omega
    simp (disch := omega) only [lp_80_2, ↓reduceIte, n_2, n_3, n_4, n_5, n_6, n_7, n_8, n_10, n_12, n_20, n_30, n_40, n_100, n_120, n_150, n_200, n_230, n_320, n_450, n_900, x_le, x_lt, x_eq, x_lt0, x_le0, x_0le, x_0lt, x_eq0, x_eq1, x_1lt, x_le1, x_lt1, x_1le, x_eqm, x_add, x_a1, x_1a, x_a0, x_0a, x_mul, x_sub, x_s1, x_1s, x_div, x_cl, x_cl0, x_cl1, x_in, x_in0, x_in1, x_ofNat, h3, if_false, h.1, if_true, bt_us, ite10, qf]
    rcases bcs (bt (cI C r 1) j) with hb | hb
    · simp [hb]
    · simp only [↓reduceIte, hb, Bool.true_eq_false, not_false_iff, if_true, Bool.not_true, Bool.false_eq_true, if_false]
      exact ih (j + 1) n (by omega) (by omega)
theorem rf_raw {n : Nat} {C : AmC} {r : Nat} (h : RwK C r) (hn : 31 ≤ n) : f_80 n r C = some (oI (qf (fun p => !bt (cI C r 1) p) 30 0), C) := by
  unfold f_80
  have := rf_lp h 30 0 n rfl (by omega)
  rw [show nI 0 = (0 : Int32) from rfl] at this
  rw [this]
  cases qf (fun p => !bt (cI C r 1) p) 30 0 <;> rfl
theorem rf_eq {n : Nat} {C : AmC} {r cols : Nat} {T : Tab} (h : RwK C r) (hT : TabC cols C r T) (hn : 31 ≤ n) : f_80 n r C = some (oI (sFree T), C) := by
  rw [rf_raw h hn]
  unfold sFree
  rw [qf_cong (g := fun p => !T.1 p)]
  intro q _ h2
  rw [hT.1 q (by omega)]
theorem sFree_some {T : Tab} {p : Nat} (h : sFree T = some p) : p < 30 ∧ T.1 p = false ∧ ∀ q, q < p → T.1 q = true := by
  obtain ⟨h1, h2, h3, h4⟩ := qf_some h
  refine ⟨by omega, by simpa using h3, fun q hq => ?_⟩
  have := h4 q (by omega) hq
  simpa using this
theorem sFree_none {T : Tab} : sFree T = none ↔ ∀ p, p < 30 → T.1 p = true := by
  unfold sFree
  rw [qf_none]
  constructor
  · intro h p hp
    have := h p (by omega) (by omega)
    simpa using this
  · intro h q _ h2
    simp [h q (by omega)]
/-- what an atom asks of all rows -/
def sWhole (kd : Nat) (c : Nat) (T : Tab) : Int32 × Bool := qo (fun p (a : Int32 × Bool) => if T.1 p = true then (if kd = 6 then a.1 + 1 else if kd = 3 then a.1 + T.2 p c else if a.2 = true then T.2 p c else if kd = 4 then (if T.2 p c < a.1 then T.2 p c else a.1) else (if a.1 < T.2 p c then T.2 p c else a.1), false) else a) 30 0 (0, true)
