/-! What the class's pass makes and writes. -/
theorem stm_lt {st : Nat} (h : st ∈ stmsL) : st + 3 ≤ 82 := by
  have : ∀ z ∈ stmsL, z + 3 ≤ 82 := by decide
  exact this st h
theorem pas_ge {a : Nat} (h : a ∈ pasL) : 113 ≤ a ∧ a + 8 ≤ 129 := by
  have : ∀ z ∈ pasL, 113 ≤ z ∧ z + 8 ≤ 129 := by decide
  exact this a h
def PK (C : AmC) (a s st : Nat) (S : Scr) (t : Stm) : Prop := PInv C ∧ a ∈ pasL ∧ s ∈ scrL ∧ st ∈ stmsL ∧ cP C a 6 = some s ∧ cP C a 7 = some st ∧ ScrC C s S ∧ ScrOK S ∧ StmC (sCols S) C s st t ∧ StmOK (sCols S) t
theorem PK.fr {X : Nat → Prop} {C C1 : AmC} {a s st : Nat} {S : Scr} {t : Stm} (h : PK C a s st S t) (F : Fr X C C1) (hX : ∀ b, X b → 82 ≤ b) : PK C1 a s st S t := by
  obtain ⟨h1, h2, h3, h4, h5, h6, h7, h8, h9, h10⟩ := h
  have g1 := stm_lt h4
  have g2 := scr_lt h3
  have e : ∀ b, b < 82 → cI C1 b = cI C b := fun b hb => F.2.1 b (fun y => by have := hX b y; omega)
  exact ⟨h1.of F.1, h2, h3, h4, by rw [F.1]; exact h5, by rw [F.1]; exact h6, h7.fr h8 h3 F hX, h8, h9.of (fun b z1 z2 => e b (by omega)) (e _ (by omega)) (e _ (by omega)) (e _ (by omega)), h10⟩
theorem inR_lt (x : Int32) : (x < -9999) ↔ x.toInt < -9999 := by
  rw [Int32.lt_iff_toInt_lt, show (-9999 : Int32).toInt = -9999 from by decide]
theorem inR_le (x : Int32) : (x ≤ 9999) ↔ x.toInt ≤ 9999 := by
  rw [Int32.le_iff_toInt_le, show (9999 : Int32).toInt = 9999 from by decide]
theorem isNew_of {t : Stm} {cols : Nat} (hto : StmOK cols t) (pl : Option Nat) : isNewS t pl = (decide (tCh t = 3) || pl.isNone) := by
  unfold isNewS tCh
  have h1 := hto.1
  have h2 := hto.2.1
  by_cases e2 : tKd t = 2
  · simp [e2]
  · by_cases e0 : tKd t = 0
    · simp [e0]
    · by_cases e1 : tKd t = 1
      · simp [e1]
      · have : ¬ tHow t = 3 := by omega
        simp [e0, e1, e2, this]
theorem tCh_le {t : Stm} {cols : Nat} (hto : StmOK cols t) : tCh t ≤ 3 := by
  unfold tCh
  have h2 := hto.2.1
  split
  · omega
  · split
    · omega
    · split <;> omega
theorem c55 {n : Nat} {C : AmC} {a s st j : Nat} {S : Scr} {t : Stm} {pl : Option Nat} (h : PK C a s st S t) (hj : j < 40) (hp : ∀ p, pl = some p → p < 30) (e : cI C (a + 4) j = oI pl) : f_55 n a (nI j) C = some (if isNewS t pl = true then 1 else 0, C) := by
  obtain ⟨hP, h2, h3, h4, h5, h6, h7, h8, h9, h10⟩ := h
  have k := pa_of hP h2
  have ks := (st_of hP h4).1
  have c3 := tCh_le h10
  rw [isNew_of h10]
  unfold f_55
  have g1 : ¬ 40 ≤ j := by omega
  by_cases q : tCh t = 3
  · simp (disch := omega) only [k.k, if_true, ↓bd1 h6, ks, h9.2.2.1, ↓reduceIte, n_2, n_3, n_4, n_5, n_6, n_7, n_8, n_10, n_12, n_20, n_30, n_40, n_100, n_120, n_150, n_200, n_230, n_320, n_450, n_900, x_le, x_lt, x_eq, x_lt0, x_le0, x_0le, x_0lt, x_eq0, x_eq1, x_1lt, x_le1, x_lt1, x_1le, x_eqm, x_add, x_a1, x_1a, x_a0, x_0a, x_mul, x_sub, x_s1, x_1s, x_div, x_cl, x_cl0, x_cl1, x_in, x_in0, x_in1, x_ofNat, q, decide_true, Bool.true_or]
  · simp (disch := omega) only [k.k, if_true, if_false, ↓bd1 h6, ks, h9.2.2.1, ↓reduceIte, n_2, n_3, n_4, n_5, n_6, n_7, n_8, n_10, n_12, n_20, n_30, n_40, n_100, n_120, n_150, n_200, n_230, n_320, n_450, n_900, x_le, x_lt, x_eq, x_lt0, x_le0, x_0le, x_0lt, x_eq0, x_eq1, x_1lt, x_le1, x_lt1, x_1le, x_eqm, x_add, x_a1, x_1a, x_a0, x_0a, x_mul, x_sub, x_s1, x_1s, x_div, x_cl, x_cl0, x_cl1, x_in, x_in0, x_in1, x_ofNat, q, g1, ↓bd1 k.p2, k.k4, k.l4, hj, e, decide_false, Bool.false_or]
    cases pl with
    | none => simp [oI_n, oI_s]
    | some p =>
      have := hp p rfl
      simp (disch := omega) only [↓reduceIte, oI_n, oI_s, x_eqm, not_false_iff, if_true, Option.isNone_some, Bool.false_eq_true, if_false]
theorem c48 {n : Nat} {C : AmC} {a : Nat} {x y z : Int32} (h : isK a 3 = true) : f_48 n a x y z C = some ((), uI (uI (uI C a 11 x) a 12 y) a 13 z) := by
  unfold f_48
  simp only [↓reduceIte, h, if_true]
/-- what making leaves -/
def MkPost (C C' : AmC) (a j c k : Nat) (S : Scr) (T : Tab) (t : Stm) (pl o : Option Nat) : Prop :=
  Fr (fun b => b = a ∨ b = a + 6) C C' ∧ (∀ i, i < j * 4 + c ∨ j * 4 + 4 ≤ i → cI C' (a + 6) i = cI C (a + 6) i) ∧ (∀ f, f < 11 → cI C' a f = cI C a f) ∧ match qf (ovF S T t pl o) k c with
    | none => cI C' a = cI C a ∧ ∀ d, c ≤ d → d < c + k → (valsS t pl d).isSome = true → cI C' (a + 6) (j * 4 + d) = mkS S T t pl o d
    | some d => cI C' a 11 = 2 ∧ cI C' a 12 = oI pl ∧ cI C' a 13 = nI d
theorem c56_lp {a s st j : Nat} {S : Scr} {T : Tab} {t : Stm} {pl o : Option Nat} (hj : j < 40) (hp : ∀ p, pl = some p → p < 30) (ho : ∀ q, o = some q → q < (sOth S).length) : ∀ k c n C, c + k = sCols S → k + 620 < n → PK C a s st S t → TabC (sCols S) C (a + 1) T → cI C (a + 4) j = oI pl → cI C (a + 5) j = oI o → cI C a 11 = 0 → Rt (lp_56_12 n a (nI j) (if isNewS t pl = true then 1 else 0) (nI c) C) (fun _ C' => MkPost C C' a j c k S T t pl o) := by
  intro k
  induction k with
  | zero =>
    intro c n C h1 h2 h _ _ _ _
    obtain ⟨hP, g2, g3, g4, g5, g6, g7, g8, g9, g10⟩ := h
    obtain ⟨n, rfl⟩ : ∃ m, n = m + 1 := ⟨n - 1, by omega⟩
    have k3 := pa_of hP g2
    have ks := sc_of hP g3
    have h3 : sCols S ≤ c := by omega
    have h4 := g8.2.1
    simp (disch := omega) only [↓reduceIte, lp_56_12, k3.k, if_true, ↓bd1 g5, ks.k, g7.1, x_le, h3]
    exact rt_ret ⟨Fr.refl _ _, fun _ _ => rfl, fun _ _ => rfl, rfl, fun d z1 z2 => by omega⟩
  | succ k ih =>
    intro c n C h1 h2 h hT e1 e2 e3
    have hK := h
    obtain ⟨hP, g2, g3, g4, g5, g6, g7, g8, g9, g10⟩ := h
    obtain ⟨n, rfl⟩ : ∃ m, n = m + 1 := ⟨n - 1, by omega⟩
    have k3 := pa_of hP g2
    have ks := sc_of hP g3
    have kt := st_of hP g4
    obtain ⟨a1, a2⟩ := pas_ge g2
    have h4 := g8.2.1
    have h3 : ¬ sCols S ≤ c := by omega
    have h5 : ¬ 4 ≤ c := by omega
    have h6 : c < 4 := by omega
    have h7 : j * 4 + c < 160 := by omega
    have hr := rw_of hP k3.rw
    have step : (valsS t pl c = none → lp_56_12 (n + 1) a (nI j) (if isNewS t pl = true then 1 else 0) (nI c) C = lp_56_12 n a (nI j) (if isNewS t pl = true then 1 else 0) (nI (c + 1)) C) ∧ (∀ v, valsS t pl c = some v → lp_56_12 (n + 1) a (nI j) (if isNewS t pl = true then 1 else 0) (nI c) C = if inR (sVal S T pl o v) = true then lp_56_12 n a (nI j) (if isNewS t pl = true then 1 else 0) (nI (c + 1)) (uI C (a + 6) (j * 4 + c) (sVal S T pl o v)) else lp_56_12 n a (nI j) (if isNewS t pl = true then 1 else 0) (nI (c + 1)) (uI (uI (uI (uI C (a + 6) (j * 4 + c) (sVal S T pl o v)) a 11 2) a 12 (oI pl)) a 13 (nI c))) := by
      have ne1 : ¬ (1 : Int32) = 0 := by decide
      have key : ∀ (w : Nat) (ov : Option Val) (bb : Bool × Bool), isK w 12 = true → aLen w = 4 → VOC C s (cI C w c) ov → VoOK (sCols S) bb.1 bb.2 ov → (ov = none → cI C w c = -1) ∧ (∀ v, ov = some v → (∃ kk, cI C w c = nI kk ∧ kk < 450) ∧ f_102 n s (cI C w (Int32.toNatClampNeg (nI c))) (a + 1) (cI C (a + 4) (Int32.toNatClampNeg (nI j))) (cI C (a + 5) (Int32.toNatClampNeg (nI j))) C = some (sVal S T pl o v, C)) := by
        intro w ov bb _ _ hv hok
        refine ⟨fun e => by rw [e] at hv; exact hv, fun v e => ?_⟩
        rw [e] at hv
        obtain ⟨kk, q1, q2⟩ := hv
        refine ⟨⟨kk, q1, q2.lt⟩, ?_⟩
        rw [x_cl (by omega), x_cl (by omega), q1, e1, e2]
        exact c102 ks g7 g8 hr hT hp ho q2 (hok v e) (by omega)
      have q1 := fun x => inR_lt x
      have q2 := fun x => inR_le x
      have a64 : ¬ a + 4 = a + 6 := by omega
      have ki := g9.2.2.2.2.2.1 c h6
      have kn := g9.2.2.2.2.2.2.1 c h6
      rcases bcs (isNewS t pl) with b | b
      · have ev : valsS t pl c = tSet t c := by simp [valsS, b]
        obtain ⟨y1, y2⟩ := key (st + 1) (tSet t c) (decide (tKd t = 3), true) kt.2.2.2.1 kt.2.2.2.2.1 ki (g10.2.2.2.2.2.2.2.2.2.2.1 c)
        rw [ev, b]
        constructor
        · intro e
          simp (disch := omega) only [lp_56_12, k3.k, if_true, if_false, ↓bd1 g5, ks.k, g7.1, x_le, h3, ↓reduceIte, n_2, n_3, n_4, n_5, n_6, n_7, n_8, n_10, n_12, n_20, n_30, n_40, n_100, n_120, n_150, n_200, n_230, n_320, n_450, n_900, x_lt, x_eq, x_lt0, x_le0, x_0le, x_0lt, x_eq0, x_eq1, x_1lt, x_le1, x_lt1, x_1le, x_eqm, x_add, x_a1, x_1a, x_a0, x_0a, x_mul, x_sub, x_s1, x_1s, x_div, x_cl, x_cl0, x_cl1, x_in, x_in0, x_in1, x_ofNat, h5, e3, not_true, ↓bd1 g6, kt.1, ↓bd1 kt.2.1, kt.2.2.2.1, kt.2.2.2.2.1, h6, y1 e, Bool.false_eq_true]
        · intro v e
          obtain ⟨⟨kk, z1, z2⟩, z3⟩ := y2 v e
          have em : ¬ nI kk = (-1 : Int32) := by rw [x_eqm (by omega)]; exact id
          simp only [inR]
          by_cases i1 : (sVal S T pl o v).toInt < -9999
          · have i3 : ¬ -9999 ≤ (sVal S T pl o v).toInt := by omega
            simp (disch := omega) only [lp_56_12, k3.k, if_true, if_false, ↓bd1 g5, ks.k, g7.1, x_le, h3, ↓reduceIte, n_2, n_3, n_4, n_5, n_6, n_7, n_8, n_10, n_12, n_20, n_30, n_40, n_100, n_120, n_150, n_200, n_230, n_320, n_450, n_900, x_lt, x_eq, x_lt0, x_le0, x_0le, x_0lt, x_eq0, x_eq1, x_1lt, x_le1, x_lt1, x_1le, x_eqm, x_add, x_a1, x_1a, x_a0, x_0a, x_mul, x_sub, x_s1, x_1s, x_div, x_cl, x_cl0, x_cl1, x_in, x_in0, x_in1, x_ofNat, h5, e3, not_true, not_false_iff, ↓bd1 g6, kt.1, ↓bd1 kt.2.1, kt.2.2.2.1, kt.2.2.2.2.1, h6, ↓bd1 k3.p0, ↓bd1 k3.p2, ↓bd1 k3.p3, ↓bd1 k3.p4, k3.k4, k3.k5, k3.k6, k3.l4, k3.l5, k3.l6, hj, h7, ↓bd1 z3, q1, q2, i1, i3, ↓bp_I, c48 k3.k, r_I, a64, false_and, e1, Option.bind_some, decide_false, Bool.false_and, Bool.false_eq_true, z1, em]
          · have i3 : -9999 ≤ (sVal S T pl o v).toInt := by omega
            by_cases i2 : (sVal S T pl o v).toInt ≤ 9999
            · simp (disch := omega) only [lp_56_12, k3.k, if_true, if_false, ↓bd1 g5, ks.k, g7.1, x_le, h3, ↓reduceIte, n_2, n_3, n_4, n_5, n_6, n_7, n_8, n_10, n_12, n_20, n_30, n_40, n_100, n_120, n_150, n_200, n_230, n_320, n_450, n_900, x_lt, x_eq, x_lt0, x_le0, x_0le, x_0lt, x_eq0, x_eq1, x_1lt, x_le1, x_lt1, x_1le, x_eqm, x_add, x_a1, x_1a, x_a0, x_0a, x_mul, x_sub, x_s1, x_1s, x_div, x_cl, x_cl0, x_cl1, x_in, x_in0, x_in1, x_ofNat, h5, e3, not_true, not_false_iff, ↓bd1 g6, kt.1, ↓bd1 kt.2.1, kt.2.2.2.1, kt.2.2.2.2.1, h6, ↓bd1 k3.p0, ↓bd1 k3.p2, ↓bd1 k3.p3, ↓bd1 k3.p4, k3.k4, k3.k5, k3.k6, k3.l4, k3.l5, k3.l6, hj, h7, ↓bd1 z3, q1, q2, i1, i2, i3, decide_true, Bool.and_self, Bool.false_eq_true, z1, em]
            · simp (disch := omega) only [lp_56_12, k3.k, if_true, if_false, ↓bd1 g5, ks.k, g7.1, x_le, h3, ↓reduceIte, n_2, n_3, n_4, n_5, n_6, n_7, n_8, n_10, n_12, n_20, n_30, n_40, n_100, n_120, n_150, n_200, n_230, n_320, n_450, n_900, x_lt, x_eq, x_lt0, x_le0, x_0le, x_0lt, x_eq0, x_eq1, x_1lt, x_le1, x_lt1, x_1le, x_eqm, x_add, x_a1, x_1a, x_a0, x_0a, x_mul, x_sub, x_s1, x_1s, x_div, x_cl, x_cl0, x_cl1, x_in, x_in0, x_in1, x_ofNat, h5, e3, not_true, not_false_iff, ↓bd1 g6, kt.1, ↓bd1 kt.2.1, kt.2.2.2.1, kt.2.2.2.2.1, h6, ↓bd1 k3.p0, ↓bd1 k3.p2, ↓bd1 k3.p3, ↓bd1 k3.p4, k3.k4, k3.k5, k3.k6, k3.l4, k3.l5, k3.l6, hj, h7, ↓bd1 z3, q1, q2, i1, i2, i3, ↓bp_I, c48 k3.k, r_I, a64, false_and, e1, Option.bind_some, decide_false, Bool.and_false, Bool.false_eq_true, z1, em]
      · have ev : valsS t pl c = tNew t c := by simp [valsS, b]
        obtain ⟨y1, y2⟩ := key (st + 2) (tNew t c) (decide (tKd t = 3), decide (tKd t ≠ 3)) kt.2.2.2.2.2.1 kt.2.2.2.2.2.2 kn (g10.2.2.2.2.2.2.2.2.2.2.2.1 c)
        rw [ev, b]
        constructor
        · intro e
          simp (disch := omega) only [lp_56_12, k3.k, if_true, if_false, ↓bd1 g5, ks.k, g7.1, x_le, h3, ↓reduceIte, n_2, n_3, n_4, n_5, n_6, n_7, n_8, n_10, n_12, n_20, n_30, n_40, n_100, n_120, n_150, n_200, n_230, n_320, n_450, n_900, x_lt, x_eq, x_lt0, x_le0, x_0le, x_0lt, x_eq0, x_eq1, x_1lt, x_le1, x_lt1, x_1le, x_eqm, x_add, x_a1, x_1a, x_a0, x_0a, x_mul, x_sub, x_s1, x_1s, x_div, x_cl, x_cl0, x_cl1, x_in, x_in0, x_in1, x_ofNat, h5, e3, not_true, ↓bd1 g6, kt.1, ↓bd1 kt.2.2.1, kt.2.2.2.2.2.1, kt.2.2.2.2.2.2, h6, y1 e, ne1]
        · intro v e
          obtain ⟨⟨kk, z1, z2⟩, z3⟩ := y2 v e
          have em : ¬ nI kk = (-1 : Int32) := by rw [x_eqm (by omega)]; exact id
          simp only [inR]
          by_cases i1 : (sVal S T pl o v).toInt < -9999
          · have i3 : ¬ -9999 ≤ (sVal S T pl o v).toInt := by omega
            simp (disch := omega) only [lp_56_12, k3.k, if_true, if_false, ↓bd1 g5, ks.k, g7.1, x_le, h3, ↓reduceIte, n_2, n_3, n_4, n_5, n_6, n_7, n_8, n_10, n_12, n_20, n_30, n_40, n_100, n_120, n_150, n_200, n_230, n_320, n_450, n_900, x_lt, x_eq, x_lt0, x_le0, x_0le, x_0lt, x_eq0, x_eq1, x_1lt, x_le1, x_lt1, x_1le, x_eqm, x_add, x_a1, x_1a, x_a0, x_0a, x_mul, x_sub, x_s1, x_1s, x_div, x_cl, x_cl0, x_cl1, x_in, x_in0, x_in1, x_ofNat, h5, e3, not_true, not_false_iff, ↓bd1 g6, kt.1, ↓bd1 kt.2.2.1, kt.2.2.2.2.2.1, kt.2.2.2.2.2.2, h6, ↓bd1 k3.p0, ↓bd1 k3.p2, ↓bd1 k3.p3, ↓bd1 k3.p4, k3.k4, k3.k5, k3.k6, k3.l4, k3.l5, k3.l6, hj, h7, ↓bd1 z3, q1, q2, i1, i3, ↓bp_I, c48 k3.k, r_I, a64, false_and, e1, Option.bind_some, decide_false, Bool.false_and, Bool.false_eq_true, ne1, z1, em]
          · have i3 : -9999 ≤ (sVal S T pl o v).toInt := by omega
            by_cases i2 : (sVal S T pl o v).toInt ≤ 9999
            · simp (disch := omega) only [lp_56_12, k3.k, if_true, if_false, ↓bd1 g5, ks.k, g7.1, x_le, h3, ↓reduceIte, n_2, n_3, n_4, n_5, n_6, n_7, n_8, n_10, n_12, n_20, n_30, n_40, n_100, n_120, n_150, n_200, n_230, n_320, n_450, n_900, x_lt, x_eq, x_lt0, x_le0, x_0le, x_0lt, x_eq0, x_eq1, x_1lt, x_le1, x_lt1, x_1le, x_eqm, x_add, x_a1, x_1a, x_a0, x_0a, x_mul, x_sub, x_s1, x_1s, x_div, x_cl, x_cl0, x_cl1, x_in, x_in0, x_in1, x_ofNat, h5, e3, not_true, not_false_iff, ↓bd1 g6, kt.1, ↓bd1 kt.2.2.1, kt.2.2.2.2.2.1, kt.2.2.2.2.2.2, h6, ↓bd1 k3.p0, ↓bd1 k3.p2, ↓bd1 k3.p3, ↓bd1 k3.p4, k3.k4, k3.k5, k3.k6, k3.l4, k3.l5, k3.l6, hj, h7, ↓bd1 z3, q1, q2, i1, i2, i3, decide_true, Bool.and_self, ne1, z1, em]
            · simp (disch := omega) only [lp_56_12, k3.k, if_true, if_false, ↓bd1 g5, ks.k, g7.1, x_le, h3, ↓reduceIte, n_2, n_3, n_4, n_5, n_6, n_7, n_8, n_10, n_12, n_20, n_30, n_40, n_100, n_120, n_150, n_200, n_230, n_320, n_450, n_900, x_lt, x_eq, x_lt0, x_le0, x_0le, x_0lt, x_eq0, x_eq1, x_1lt, x_le1, x_lt1, x_1le, x_eqm, x_add, x_a1, x_1a, x_a0, x_0a, x_mul, x_sub, x_s1, x_1s, x_div, x_cl, x_cl0, x_cl1, x_in, x_in0, x_in1, x_ofNat, h5, e3, not_true, not_false_iff, ↓bd1 g6, kt.1, ↓bd1 kt.2.2.1, kt.2.2.2.2.2.1, kt.2.2.2.2.2.2, h6, ↓bd1 k3.p0, ↓bd1 k3.p2, ↓bd1 k3.p3, ↓bd1 k3.p4, k3.k4, k3.k5, k3.k6, k3.l4, k3.l5, k3.l6, hj, h7, ↓bd1 z3, q1, q2, i1, i2, i3, ↓bp_I, c48 k3.k, r_I, a64, false_and, e1, Option.bind_some, decide_false, Bool.and_false, Bool.false_eq_true, ne1, z1, em]
    have PKF : ∀ C1, Fr (fun b => b = a ∨ b = a + 6) C C1 → PK C1 a s st S t := fun C1 F => hK.fr F (fun b hb => by omega)
    have TF : ∀ C1, Fr (fun b => b = a ∨ b = a + 6) C C1 → TabC (sCols S) C1 (a + 1) T := fun C1 F => hT.of (F.2.1 _ (by omega)) (F.2.1 _ (by omega))
    cases hv : valsS t pl c with
    | none =>
      rw [step.1 hv]
      have ov : ovF S T t pl o c = false := by simp [ovF, hv]
      refine rt_mono (ih (c + 1) n C (by omega) (by omega) hK hT e1 e2 e3) (fun _ C' H => ?_)
      obtain ⟨H1, H2, H3, H4⟩ := H
      refine ⟨H1, fun i hi => H2 i (by omega), H3, ?_⟩
      unfold qf
      rw [if_neg (by rw [ov]; decide)]
      revert H4
      cases qf (ovF S T t pl o) k (c + 1) with
      | some d => exact id
      | none =>
        intro H4
        refine ⟨H4.1, fun d z1 z2 z3 => ?_⟩
        by_cases ed : d = c
        · subst ed; rw [hv] at z3; cases z3
        · exact H4.2 d (by omega) (by omega) z3
    | some v =>
      rw [step.2 v hv]
      rcases bcs (inR (sVal S T pl o v)) with b | b
      · have ov : ovF S T t pl o c = true := by simp [ovF, hv, b]
        rw [b]
        simp only [↓reduceIte, Bool.false_eq_true, if_false]
        obtain ⟨n, rfl⟩ : ∃ m, n = m + 1 := ⟨n - 1, by omega⟩
        have F : Fr (fun b => b = a ∨ b = a + 6) C (uI (uI (uI (uI C (a + 6) (j * 4 + c) (sVal S T pl o v)) a 11 2) a 12 (oI pl)) a 13 (nI c)) := ((((Fr.refl (fun b => b = a ∨ b = a + 6) C).uI (a := a + 6) (Or.inr rfl)).uI (a := a) (Or.inl rfl)).uI (a := a) (Or.inl rfl)).uI (a := a) (Or.inl rfl)
        have K1 := PKF _ F
        generalize hC1 : uI (uI (uI (uI C (a + 6) (j * 4 + c) (sVal S T pl o v)) a 11 2) a 12 (oI pl)) a 13 (nI c) = C1 at F K1
        have v11 : cI C1 a 11 = 2 := by rw [← hC1]; simp [r_I]
        have v12 : cI C1 a 12 = oI pl := by rw [← hC1]; simp [r_I]
        have v13 : cI C1 a 13 = nI c := by rw [← hC1]; simp [r_I]
        have v6 : ∀ i, ¬ i = j * 4 + c → cI C1 (a + 6) i = cI C (a + 6) i := fun i hi => by rw [← hC1]; simp [r_I, hi]
        have va : ∀ f, f < 11 → cI C1 a f = cI C a f := fun f hf => by
          rw [← hC1, r_I, r_I, r_I, r_I]
          simp [show ¬ f = 13 by omega, show ¬ f = 12 by omega, show ¬ f = 11 by omega]
        have ks1 := sc_of K1.1 g3
        have kp1 := pa_of K1.1 g2
        have ne2 : ¬ (2 : Int32) = 0 := by decide
        have fin : lp_56_12 (n + 1) a (nI j) (if isNewS t pl = true then 1 else 0) (nI (c + 1)) C1 = some ((), C1) := by
          by_cases y : sCols S ≤ c + 1
          · simp (disch := omega) only [↓reduceIte, lp_56_12, kp1.k, if_true, ↓bd1 K1.2.2.2.2.1, ks1.k, K1.2.2.2.2.2.2.1.1, x_le, y]
          · have y4 : ¬ 4 ≤ c + 1 := by omega
            simp (disch := omega) only [↓reduceIte, lp_56_12, kp1.k, if_true, if_false, ↓bd1 K1.2.2.2.2.1, ks1.k, K1.2.2.2.2.2.2.1.1, n_4, x_le, y, y4, v11, ne2, not_false_iff]
        rw [fin]
        refine rt_ret ⟨F, fun i hi => v6 i (by omega), va, ?_⟩
        unfold qf
        rw [if_pos ov]
        exact ⟨v11, v12, v13⟩
      · have ov : ovF S T t pl o c = false := by simp [ovF, hv, b]
        rw [b]
        simp only [↓reduceIte, if_true]
        have F : Fr (fun b => b = a ∨ b = a + 6) C (uI C (a + 6) (j * 4 + c) (sVal S T pl o v)) := (Fr.refl (fun b => b = a ∨ b = a + 6) C).uI (a := a + 6) (Or.inr rfl)
        have z1 : cI (uI C (a + 6) (j * 4 + c) (sVal S T pl o v)) (a + 4) = cI C (a + 4) := r_In (by omega)
        have z2 : cI (uI C (a + 6) (j * 4 + c) (sVal S T pl o v)) (a + 5) = cI C (a + 5) := r_In (by omega)
        have z3 : cI (uI C (a + 6) (j * 4 + c) (sVal S T pl o v)) a = cI C a := r_In (by omega)
        refine rt_mono (ih (c + 1) n _ (by omega) (by omega) (PKF _ F) (TF _ F) (by rw [z1]; exact e1) (by rw [z2]; exact e2) (by rw [z3]; exact e3)) (fun _ C' H => ?_)
        obtain ⟨H1, H2, H3, H4⟩ := H
        refine ⟨F.trans H1, fun i hi => ?_, fun f hf => by rw [H3 f hf, z3], ?_⟩
        · rw [H2 i (by omega), r_I]
          simp [show ¬ i = j * 4 + c by omega]
        · unfold qf
          rw [if_neg (by rw [ov]; decide)]
          rw [z3] at H4
          revert H4
          cases qf (ovF S T t pl o) k (c + 1) with
          | some d => exact id
          | none =>
            intro H4
            refine ⟨H4.1, fun d y1 y2 y3 => ?_⟩
            by_cases ed : d = c
            · subst ed
              rw [H2 (j * 4 + d) (by omega), r_I]
              simp [mkS, hv]
            · exact H4.2 d (by omega) (by omega) y3
theorem c56 {n : Nat} {C : AmC} {a s st j : Nat} {S : Scr} {T : Tab} {t : Stm} {pl o : Option Nat} (hj : j < 40) (hp : ∀ p, pl = some p → p < 30) (ho : ∀ q, o = some q → q < (sOth S).length) (h : PK C a s st S t) (hT : TabC (sCols S) C (a + 1) T) (e1 : cI C (a + 4) j = oI pl) (e2 : cI C (a + 5) j = oI o) (e3 : cI C a 11 = 0) (hn : 700 ≤ n) : Rt (f_56 n a (nI j) C) (fun _ C' => MkPost C C' a j 0 (sCols S) S T t pl o) := by
  have k := pa_of h.1 h.2.1
  have h4 := h.2.2.2.2.2.2.2.1.2.1
  have L := c56_lp (a := a) (s := s) (st := st) (T := T) (t := t) hj hp ho (sCols S) 0 n C (by omega) (by omega) h hT e1 e2 e3
  unfold f_56
  simp (disch := omega) only [↓reduceIte, n_2, n_3, n_4, n_5, n_6, n_7, n_8, n_10, n_12, n_20, n_30, n_40, n_100, n_120, n_150, n_200, n_230, n_320, n_450, n_900, x_le, x_lt, x_eq, x_lt0, x_le0, x_0le, x_0lt, x_eq0, x_eq1, x_1lt, x_le1, x_lt1, x_1le, x_eqm, x_add, x_a1, x_1a, x_a0, x_0a, x_mul, x_sub, x_s1, x_1s, x_div, x_cl, x_cl0, x_cl1, x_in, x_in0, x_in1, x_ofNat, hj, if_true, if_false, k.k, ↓bd1 (c55 (n := n) h hj hp e1)]
  rw [x_0] at L
  refine rt_bind (rt_mono L (fun _ C' H => ?_))
  exact rt_ret H
/-! applying what was made -/
theorem TabC.put {cols r p c : Nat} {C : AmC} {T : Tab} {v : Int32} (h : TabC cols C r T) (h4 : cols ≤ 4) (hp : p < 30) (hc : c < cols) : TabC cols (uI C (r + 1) (p * 4 + c) v) r (T.1, va_up T.2 p (va_up (T.2 p) c v)) := by
  obtain ⟨h1, h2, h3⟩ := h
  have e : cI (uI C (r + 1) (p * 4 + c) v) r = cI C r := r_In (by omega)
  refine ⟨by rw [e]; exact h1, by rw [e]; exact h2, fun q hq tq d hd => ?_⟩
  rw [r_I]
  dsimp only at tq ⊢
  have := h3 q hq tq d hd
  unfold va_up
  by_cases e1 : q = p
  · subst e1
    by_cases e2 : d = c
    · subst e2; simp
    · simp only [↓reduceIte, if_true, e2, if_false, true_and, show ¬ q * 4 + d = q * 4 + c by omega]
      exact this
  · simp only [↓reduceIte, e1, if_false, true_and, show ¬ q * 4 + d = p * 4 + c by omega]
    exact this
theorem c58_lp {a s st j r p : Nat} {S : Scr} {t : Stm} {pl : Option Nat} (hj : j < 40) (hp : p < 30) (hr : r ∈ rowsL) (hra : r + 1 < a ∨ a + 1 ≤ r ∧ r ≤ a + 1 ∨ a + 8 ≤ r) (hr8 : 82 ≤ r) (hnew : isNewS t pl = true → ∀ c, c < sCols S → (tNew t c).isSome = true) : ∀ k c n C T, c + k = sCols S → k < n → PK C a s st S t → TabC (sCols S) C r T → Rt (lp_58_40 n a r (nI j) (if isNewS t pl = true then 1 else 0) (nI p) (nI c) C) (fun z C' => z = (r, nI p) ∧ Fr (fun b => b = r + 1) C C' ∧ TabC (sCols S) C' r (T.1, va_up T.2 p (fun d => if c ≤ d ∧ d < sCols S ∧ (valsS t pl d).isSome = true then cI C (a + 6) (j * 4 + d) else T.2 p d)) ∧ (∀ d, d < c → cI C' (r + 1) (p * 4 + d) = cI C (r + 1) (p * 4 + d)) ∧ ∀ d, c ≤ d → d < sCols S → (valsS t pl d).isSome = true → cI C' (r + 1) (p * 4 + d) = cI C (a + 6) (j * 4 + d)) := by
  intro k
  induction k with
  | zero =>
    intro c n C T h1 h2 h hT
    obtain ⟨hP, g2, g3, g4, g5, g6, g7, g8, g9, g10⟩ := h
    obtain ⟨n, rfl⟩ : ∃ m, n = m + 1 := ⟨n - 1, by omega⟩
    have k3 := pa_of hP g2
    have ks := sc_of hP g3
    have h3 : sCols S ≤ c := by omega
    have h4 := g8.2.1
    simp (disch := omega) only [↓reduceIte, lp_58_40, k3.k, if_true, ↓bd1 g5, ks.k, g7.1, x_le, h3]
    refine rt_ret ⟨rfl, Fr.refl _ _, ⟨hT.1, hT.2.1, fun q hq tq d hd => ?_⟩, fun _ _ => rfl, fun d z1 z2 => by omega⟩
    rw [hT.2.2 q hq tq d hd]
    unfold va_up
    by_cases e : q = p
    · subst e
      simp [show ¬ c ≤ d by omega]
    · simp [e]
  | succ k ih =>
    intro c n C T h1 h2 h hT
    have hK := h
    obtain ⟨hP, g2, g3, g4, g5, g6, g7, g8, g9, g10⟩ := h
    obtain ⟨n, rfl⟩ : ∃ m, n = m + 1 := ⟨n - 1, by omega⟩
    have k3 := pa_of hP g2
    have ks := sc_of hP g3
    have kt := st_of hP g4
    obtain ⟨a1, a2⟩ := pas_ge g2
    have h4 := g8.2.1
    have h3 : ¬ sCols S ≤ c := by omega
    have h5 : ¬ 4 ≤ c := by omega
    have h6 : c < 4 := by omega
    have h7 : j * 4 + c < 160 := by omega
    have hrw := rw_of hP hr
    have ne1 : ¬ (1 : Int32) = 0 := by decide
    have w := rp_raw (n := n) (v := cI C (a + 6) (Int32.toNatClampNeg (nI j * 4 + nI c))) hrw hp h6
    have cl : Int32.toNatClampNeg (nI j * 4 + nI c) = j * 4 + c := by
      rw [n_4, x_mul, x_add, x_cl (by omega)]
    rw [cl] at w
    have step : lp_58_40 (n + 1) a r (nI j) (if isNewS t pl = true then 1 else 0) (nI p) (nI c) C = if (valsS t pl c).isSome = true then lp_58_40 n a r (nI j) (if isNewS t pl = true then 1 else 0) (nI p) (nI (c + 1)) (uI C (r + 1) (p * 4 + c) (cI C (a + 6) (j * 4 + c))) else lp_58_40 n a r (nI j) (if isNewS t pl = true then 1 else 0) (nI p) (nI (c + 1)) C := by
      rcases bcs (isNewS t pl) with b | b
      · have ev : valsS t pl c = tSet t c := by simp [valsS, b]
        have ki := g9.2.2.2.2.2.1 c h6
        rw [ev, b]
        cases hv : tSet t c with
        | none =>
          rw [hv] at ki
          have ki : cI C (st + 1) c = -1 := ki
          simp (disch := omega) only [lp_58_40, k3.k, if_true, if_false, ↓bd1 g5, ks.k, g7.1, ↓reduceIte, n_2, n_3, n_4, n_5, n_6, n_7, n_8, n_10, n_12, n_20, n_30, n_40, n_100, n_120, n_150, n_200, n_230, n_320, n_450, n_900, x_le, x_lt, x_eq, x_lt0, x_le0, x_0le, x_0lt, x_eq0, x_eq1, x_1lt, x_le1, x_lt1, x_1le, x_eqm, x_add, x_a1, x_1a, x_a0, x_0a, x_mul, x_sub, x_s1, x_1s, x_div, x_cl, x_cl0, x_cl1, x_in, x_in0, x_in1, x_ofNat, h3, h5, not_true, ↓bd1 g6, kt.1, ↓bd1 kt.2.1, kt.2.2.2.1, kt.2.2.2.2.1, h6, ki, Bool.false_eq_true, Option.isSome_none]
        | some v =>
          rw [hv] at ki
          obtain ⟨kk, z1, z2⟩ := ki
          have z3 := z2.lt
          have em : ¬ nI kk = (-1 : Int32) := by rw [x_eqm (by omega)]; exact id
          simp (disch := omega) only [lp_58_40, k3.k, if_true, if_false, ↓bd1 g5, ks.k, g7.1, ↓reduceIte, n_2, n_3, n_4, n_5, n_6, n_7, n_8, n_10, n_12, n_20, n_30, n_40, n_100, n_120, n_150, n_200, n_230, n_320, n_450, n_900, x_le, x_lt, x_eq, x_lt0, x_le0, x_0le, x_0lt, x_eq0, x_eq1, x_1lt, x_le1, x_lt1, x_1le, x_eqm, x_add, x_a1, x_1a, x_a0, x_0a, x_mul, x_sub, x_s1, x_1s, x_div, x_cl, x_cl0, x_cl1, x_in, x_in0, x_in1, x_ofNat, h3, h5, not_true, ↓bd1 g6, kt.1, ↓bd1 kt.2.1, kt.2.2.2.1, kt.2.2.2.2.1, h6, z1, em, Bool.false_eq_true, Option.isSome_some, ↓bd1 k3.p4, k3.k6, k3.l6, h7, hrw.1, w, Option.bind_some]
      · have ev : valsS t pl c = tNew t c := by simp [valsS, b]
        rw [ev, b, hnew b c (by omega)]
        simp (disch := omega) only [lp_58_40, k3.k, if_true, if_false, ↓bd1 g5, ks.k, g7.1, ↓reduceIte, n_2, n_3, n_4, n_5, n_6, n_7, n_8, n_10, n_12, n_20, n_30, n_40, n_100, n_120, n_150, n_200, n_230, n_320, n_450, n_900, x_le, x_lt, x_eq, x_lt0, x_le0, x_0le, x_0lt, x_eq0, x_eq1, x_1lt, x_le1, x_lt1, x_1le, x_eqm, x_add, x_a1, x_1a, x_a0, x_0a, x_mul, x_sub, x_s1, x_1s, x_div, x_cl, x_cl0, x_cl1, x_in, x_in0, x_in1, x_ofNat, h3, h5, ne1, not_false_iff, ↓bd1 k3.p4, k3.k6, k3.l6, h7, hrw.1, w, Option.bind_some]
    rw [step]
    have F : Fr (fun b => b = r + 1) C (uI C (r + 1) (p * 4 + c) (cI C (a + 6) (j * 4 + c))) := (Fr.refl (fun b => b = r + 1) C).uI (a := r + 1) rfl
    rcases bcs ((valsS t pl c).isSome) with b | b
    · rw [b]
      simp only [↓reduceIte, Bool.false_eq_true, if_false]
      refine rt_mono (ih (c + 1) n C T (by omega) (by omega) hK hT) (fun z C' H => ⟨H.1, H.2.1, ?_, fun d hd => H.2.2.2.1 d (by omega), fun d z1 z2 z3 => ?_⟩)
      rotate_left
      · by_cases ed : d = c
        · subst ed; rw [b] at z3; cases z3
        · exact H.2.2.2.2 d (by omega) z2 z3
      have e : (fun d => if c ≤ d ∧ d < sCols S ∧ (valsS t pl d).isSome = true then cI C (a + 6) (j * 4 + d) else T.2 p d) = (fun d => if c + 1 ≤ d ∧ d < sCols S ∧ (valsS t pl d).isSome = true then cI C (a + 6) (j * 4 + d) else T.2 p d) := by
        funext d
        by_cases ed : d = c
        · subst ed
          simp [b, show ¬ d + 1 ≤ d by omega]
        · have : c ≤ d ↔ c + 1 ≤ d := by omega
          simp only [this]
      rw [e]
      exact H.2.2.1
    · rw [b]
      simp only [↓reduceIte, if_true]
      have e6 : cI (uI C (r + 1) (p * 4 + c) (cI C (a + 6) (j * 4 + c))) (a + 6) = cI C (a + 6) := r_In (by omega)
      refine rt_mono (ih (c + 1) n _ _ (by omega) (by omega) (hK.fr F (fun b hb => by omega)) (hT.put h4 hp (by omega))) (fun z C' H => ⟨H.1, F.trans H.2.1, ?_, fun d hd => ?_, fun d z1 z2 z3 => ?_⟩)
      rotate_left
      · rw [H.2.2.2.1 d (by omega), r_I, if_neg (by omega)]
      · by_cases ed : d = c
        · subst ed
          rw [H.2.2.2.1 d (by omega), r_I, if_pos ⟨rfl, rfl⟩]
        · rw [H.2.2.2.2 d (by omega) z2 z3, e6]
      have H3 := H.2.2.1
      rw [e6] at H3
      dsimp only at H3
      have e : va_up (va_up T.2 p (va_up (T.2 p) c (cI C (a + 6) (j * 4 + c)))) p (fun d => if c + 1 ≤ d ∧ d < sCols S ∧ (valsS t pl d).isSome = true then cI C (a + 6) (j * 4 + d) else va_up T.2 p (va_up (T.2 p) c (cI C (a + 6) (j * 4 + c))) p d) = va_up T.2 p (fun d => if c ≤ d ∧ d < sCols S ∧ (valsS t pl d).isSome = true then cI C (a + 6) (j * 4 + d) else T.2 p d) := by
        funext q d
        unfold va_up
        by_cases eq : q = p
        · simp only [↓reduceIte, eq, if_true]
          by_cases ed : d = c
          · subst ed
            simp [b, show ¬ d + 1 ≤ d by omega, show d < sCols S by omega]
          · have : c ≤ d ↔ c + 1 ≤ d := by omega
            simp only [↓reduceIte, this, ed, if_false]
        · simp only [↓reduceIte, eq, if_false]
      rw [e] at H3
      exact H3
theorem TabC.add {cols r p : Nat} {C : AmC} {T : Tab} {f : Nat → Int32} (h : TabC cols C r (T.1, va_up T.2 p f)) (hf : T.1 p = false → ∀ c, c < cols → cI C (r + 1) (p * 4 + c) = f c) (hp : p < 30) : TabC cols (uI C r 1 (cI C r 1 ||| ((1 : Int32) <<< (nI p &&& 31)))) r (va_up T.1 p true, va_up T.2 p f) := by
  obtain ⟨h1, h2, h3⟩ := h
  have e : cI (uI C r 1 (cI C r 1 ||| ((1 : Int32) <<< (nI p &&& 31)))) r 1 = (cI C r 1 ||| ((1 : Int32) <<< (nI p &&& 31))) := by rw [r_I]; simp
  have e2 : cI (uI C r 1 (cI C r 1 ||| ((1 : Int32) <<< (nI p &&& 31)))) (r + 1) = cI C (r + 1) := r_In (by omega)
  refine ⟨fun q hq => ?_, fun q hq => ?_, fun q hq tq c hc => ?_⟩
  · rw [e, b_set _ (by omega) q (by omega)]
    unfold va_up
    by_cases eq : q = p
    · simp [eq]
    · simp only [↓reduceIte, eq, if_false]
      exact h1 q hq
  · rw [e]
    by_cases hq2 : q < 32
    · rw [b_set _ (by omega) q hq2, if_neg (by omega)]
      exact h2 q hq
    · exact b_big (by omega)
  · rw [e2]
    dsimp only at tq ⊢
    by_cases eq : q = p
    · subst eq
      rcases bcs (T.1 q) with b | b
      · rw [hf b c hc]; simp [va_up]
      · exact h3 q hq b c hc
    · refine h3 q hq ?_ c hc
      simpa [va_up, eq] using tq
theorem TabC.drop {cols r p : Nat} {C : AmC} {T : Tab} (h : TabC cols C r T) (hp : p < 30) : TabC cols (uI C r 1 (cI C r 1 &&& (((1 : Int32) <<< (nI p &&& 31)) ^^^ (-1)))) r (va_up T.1 p false, T.2) := by
  obtain ⟨h1, h2, h3⟩ := h
  have e : cI (uI C r 1 (cI C r 1 &&& (((1 : Int32) <<< (nI p &&& 31)) ^^^ (-1)))) r 1 = (cI C r 1 &&& (((1 : Int32) <<< (nI p &&& 31)) ^^^ (-1))) := by rw [r_I]; simp
  have e2 : cI (uI C r 1 (cI C r 1 &&& (((1 : Int32) <<< (nI p &&& 31)) ^^^ (-1)))) (r + 1) = cI C (r + 1) := r_In (by omega)
  refine ⟨fun q hq => ?_, fun q hq => ?_, fun q hq tq c hc => ?_⟩
  · rw [e, b_clr _ (by omega) q (by omega)]
    unfold va_up
    by_cases eq : q = p
    · simp [eq]
    · simp only [↓reduceIte, eq, if_false]
      exact h1 q hq
  · rw [e]
    by_cases hq2 : q < 32
    · rw [b_clr _ (by omega) q hq2, if_neg (by omega)]
      exact h2 q hq
    · exact b_big (by omega)
  · rw [e2]
    dsimp only at tq ⊢
    refine h3 q hq ?_ c hc
    unfold va_up at tq
    by_cases eq : q = p
    · simp [eq] at tq
    · simpa [eq] using tq
/-- a slot of the pass bears an item that was made -/
def SlC (C : AmC) (a j : Nat) (S : Scr) (t : Stm) (pl : Option Nat) (mk : Nat → Int32) : Prop := cI C (a + 4) j = oI pl ∧ ∀ d, d < sCols S → (valsS t pl d).isSome = true → cI C (a + 6) (j * 4 + d) = mk d
theorem sAt_lt {T : Tab} {t : Stm} {pl : Option Nat} {q : Nat} (hp : ∀ p, pl = some p → p < 30) (h : sAt T t pl = some q) : q < 30 := by
  unfold sAt at h
  by_cases b : isNewS t pl = true
  · rw [if_pos b] at h; exact (sFree_some h).1
  · rw [if_neg b] at h; exact hp q h
theorem tCh1 {t : Stm} {cols : Nat} (hto : StmOK cols t) (h : tCh t = 1) : ∀ c, tSet t c = none := by
  have h1 := hto.1
  unfold tCh at h
  refine hto.2.2.2.2.2.2.1 ?_
  by_cases e0 : tKd t = 0
  · rw [if_pos e0] at h; omega
  · rw [if_neg e0] at h
    by_cases e1 : tKd t = 1
    · exact Or.inl e1
    · rw [if_neg e1] at h
      by_cases e2 : tKd t = 2
      · exact Or.inr (Or.inl e2)
      · rw [if_neg e2] at h
        exact Or.inr (Or.inr ⟨by omega, by omega⟩)
theorem TabC.cong {cols r : Nat} {C : AmC} {T T' : Tab} (h : TabC cols C r T) (e1 : ∀ p, p < 30 → T'.1 p = T.1 p) (e2 : ∀ p, p < 30 → T.1 p = true → ∀ c, c < cols → T'.2 p c = T.2 p c) : TabC cols C r T' := ⟨fun p hp => by rw [e1 p hp]; exact h.1 p hp, h.2.1, fun p hp tp c hc => by rw [e1 p hp] at tp; rw [e2 p hp tp c hc]; exact h.2.2 p hp tp c hc⟩
theorem c58 {n : Nat} {C : AmC} {a s st j r : Nat} {S : Scr} {T : Tab} {t : Stm} {pl : Option Nat} {mk : Nat → Int32} (hj : j < 40) (hp : ∀ p, pl = some p → p < 30) (hr : r ∈ rowsL) (hra : r + 1 < a ∨ a + 1 ≤ r ∧ r ≤ a + 1 ∨ a + 8 ≤ r) (hr8 : 82 ≤ r) (h : PK C a s st S t) (hT : TabC (sCols S) C r T) (hnew : isNewS t pl = true → ∀ c, c < sCols S → (tNew t c).isSome = true) (hh : ∀ p, pl = some p → isNewS t pl = false → T.1 p = true) (hs : SlC C a j S t pl mk) (hn : 100 ≤ n) : Rt (f_58 n a r (nI j) C) (fun z C' => z = oI (sAt T t pl) ∧ Fr (fun b => b = r ∨ b = r + 1) C C' ∧ TabC (sCols S) C' r (match sAt T t pl with
    | none => T
    | some q => sPut T t pl q mk)) := by
  have hK := h
  obtain ⟨hP, g2, g3, g4, g5, g6, g7, g8, g9, g10⟩ := h
  have k3 := pa_of hP g2
  have kt := st_of hP g4
  have hrw := rw_of hP hr
  have h4 := g8.2.1
  have c3 := tCh_le g10
  obtain ⟨a1, a2⟩ := pas_ge g2
  have w55 := c55 (n := n) hK hj hp hs.1
  have ne1 : ¬ (1 : Int32) = 0 := by decide
  have tail : ∀ q, q < 30 → (isNewS t pl = true ∨ ¬ tCh t = 1) → sAt T t pl = some q → (isNewS t pl = true → T.1 q = false) → Rt ((lp_58_40 n a r (nI j) (if isNewS t pl = true then 1 else 0) (nI q) 0 C).bind (fun z => match z with
      | ((u48, u49), C47) => if isK u48 5 = true then (f_78 n u48 u49 C47).bind (fun z => match z with
        | (_, C52) => some (u49, C52)) else none)) (fun z C' => z = oI (sAt T t pl) ∧ Fr (fun b => b = r ∨ b = r + 1) C C' ∧ TabC (sCols S) C' r (match sAt T t pl with
    | none => T
    | some q => sPut T t pl q mk)) := by
    intro q hq hb hat hfr
    have L := c58_lp (a := a) (s := s) (st := st) (S := S) (t := t) (pl := pl) hj hq hr hra hr8 hnew (sCols S) 0 n C T (by omega) (by omega) hK hT
    rw [x_0] at L
    refine rt_bind (rt_mono L (fun z C1 H => ?_))
    obtain ⟨e1, F1, T1, _, D1⟩ := H
    subst e1
    have hrw1 := rw_of (hP.of F1.1) hr
    dsimp only
    rw [if_pos hrw1.1, ra_raw hrw1 hq]
    refine rt_ret ⟨by rw [hat]; rfl, (F1.mono (fun b hb => Or.inr hb)).uI (a := r) (Or.inl rfl), ?_⟩
    have T2 := TabC.add T1 (fun hf c hc => ?_) hq
    · rw [hat]
      dsimp only
      refine T2.cong (fun p hp => ?_) (fun p hp tp c hc => ?_)
      · unfold sPut
        rcases hb with b | b
        · rw [if_pos b]
        · by_cases b2 : isNewS t pl = true
          · rw [if_pos b2]
          · rw [if_neg b2, if_neg b]
      · unfold sPut
        by_cases b : isNewS t pl = true
        · rw [if_pos b]
          dsimp only
          unfold va_up
          by_cases ep : p = q
          · simp only [↓reduceIte, ep, if_true]
            have v1 : (valsS t pl c).isSome = true := by rw [valsS, if_pos b]; exact hnew b c hc
            simp only [↓reduceIte, Nat.zero_le, hc, v1, and_self, if_true]
            exact (hs.2 c hc v1).symm
          · simp only [↓reduceIte, ep, if_false]
        · rw [if_neg b]
          rcases hb with b' | b'
          · exact absurd b' b
          · rw [if_neg b']
            dsimp only
            unfold va_up
            by_cases ep : p = q
            · simp only [↓reduceIte, ep, if_true]
              have ev : valsS t pl c = tSet t c := by rw [valsS, if_neg b]
              rw [ev]
              by_cases v1 : (tSet t c).isSome = true
              · simp only [↓reduceIte, Nat.zero_le, hc, v1, and_self, if_true]
                exact (hs.2 c hc (by rw [ev]; exact v1)).symm
              · simp [v1]
            · simp only [↓reduceIte, ep, if_false]
    · by_cases b : isNewS t pl = true
      · have v1 : (valsS t pl c).isSome = true := by rw [valsS, if_pos b]; exact hnew b c hc
        simp only [↓reduceIte, Nat.zero_le, hc, v1, and_self, if_true]
        exact D1 c (by omega) hc v1
      · exfalso
        have b9 : isNewS t pl = false := by simpa using b
        have e9 : sAt T t pl = pl := by rw [sAt, if_neg b]
        rw [e9] at hat
        rw [hh q hat b9] at hf
        cases hf
  unfold f_58
  have j0 : ¬ 40 ≤ j := by omega
  rcases bcs (isNewS t pl) with b | b
  · rw [b] at w55
    simp only [↓reduceIte, Bool.false_eq_true, if_false] at w55
    have e9 : sAt T t pl = pl := by rw [sAt, if_neg (by rw [b]; decide)]
    cases hpl : pl with
    | none => rw [hpl] at b; simp [isNewS] at b
    | some p =>
      have hp30 := hp p hpl
      have e4 := hs.1
      rw [hpl] at e4
      have e4 : cI C (a + 4) j = nI p := e4
      have em : ¬ nI p = (-1 : Int32) := by rw [x_eqm (by omega)]; exact id
      rw [← hpl]
      by_cases q1 : tCh t = 1
      · simp (disch := omega) only [↓reduceIte, n_2, n_3, n_4, n_5, n_6, n_7, n_8, n_10, n_12, n_20, n_30, n_40, n_100, n_120, n_150, n_200, n_230, n_320, n_450, n_900, x_le, x_lt, x_eq, x_lt0, x_le0, x_0le, x_0lt, x_eq0, x_eq1, x_1lt, x_le1, x_lt1, x_1le, x_eqm, x_add, x_a1, x_1a, x_a0, x_0a, x_mul, x_sub, x_s1, x_1s, x_div, x_cl, x_cl0, x_cl1, x_in, x_in0, x_in1, x_ofNat, hj, if_true, if_false, k3.k, ↓bd1 w55, ↓bd1 k3.p2, k3.k4, k3.l4, e4, em, not_true, not_false_iff, ↓bd1 g6, kt.1, g9.2.2.1, q1, hrw.1, rd_raw hrw hp30, Option.bind_some]
        refine rt_ret ⟨by rw [e9, hpl]; rfl, (Fr.refl (fun b => b = r ∨ b = r + 1) C).uI (a := r) (Or.inl rfl), ?_⟩
        have et : (match sAt T t pl with
          | none => T
          | some q => sPut T t pl q mk) = (va_up T.1 p false, T.2) := by
          rw [e9, hpl]
          dsimp only
          rw [← hpl]
          unfold sPut
          rw [if_neg (by rw [b]; decide), if_pos q1]
        rw [et]
        exact hT.drop hp30
      · have T0 := tail p hp30 (Or.inr q1) (by rw [e9, hpl]) (fun z => by rw [b] at z; cases z)
        rw [b] at T0
        simp only [↓reduceIte, Bool.false_eq_true, if_false] at T0
        simp (disch := omega) only [↓reduceIte, n_2, n_3, n_4, n_5, n_6, n_7, n_8, n_10, n_12, n_20, n_30, n_40, n_100, n_120, n_150, n_200, n_230, n_320, n_450, n_900, x_le, x_lt, x_eq, x_lt0, x_le0, x_0le, x_0lt, x_eq0, x_eq1, x_1lt, x_le1, x_lt1, x_1le, x_eqm, x_add, x_a1, x_1a, x_a0, x_0a, x_mul, x_sub, x_s1, x_1s, x_div, x_cl, x_cl0, x_cl1, x_in, x_in0, x_in1, x_ofNat, hj, if_true, if_false, k3.k, ↓bd1 w55, ↓bd1 k3.p2, k3.k4, k3.l4, e4, em, not_true, not_false_iff, ↓bd1 g6, kt.1, g9.2.2.1, q1]
        exact T0
  · rw [b] at w55
    simp only [↓reduceIte, if_true] at w55
    have e9 : sAt T t pl = sFree T := by rw [sAt, if_pos b]
    have w80 := rf_eq (n := n) hrw hT (by omega)
    cases hf : sFree T with
    | none =>
      rw [hf] at w80
      have w80 : f_80 n r C = some (-1, C) := w80
      simp (disch := omega) only [↓reduceIte, n_2, n_3, n_4, n_5, n_6, n_7, n_8, n_10, n_12, n_20, n_30, n_40, n_100, n_120, n_150, n_200, n_230, n_320, n_450, n_900, x_le, x_lt, x_eq, x_lt0, x_le0, x_0le, x_0lt, x_eq0, x_eq1, x_1lt, x_le1, x_lt1, x_1le, x_eqm, x_add, x_a1, x_1a, x_a0, x_0a, x_mul, x_sub, x_s1, x_1s, x_div, x_cl, x_cl0, x_cl1, x_in, x_in0, x_in1, x_ofNat, hj, if_true, if_false, k3.k, ↓bd1 w55, ne1, hrw.1, ↓bd1 w80, not_true]
      refine rt_ret ⟨by rw [e9, hf]; rfl, Fr.refl _ _, ?_⟩
      rw [e9, hf]
      exact hT
    | some q =>
      rw [hf] at w80
      have w80 : f_80 n r C = some (nI q, C) := w80
      obtain ⟨q1, q2, _⟩ := sFree_some hf
      have em : ¬ nI q = (-1 : Int32) := by rw [x_eqm (by omega)]; exact id
      have T0 := tail q q1 (Or.inl b) (by rw [e9, hf]) (fun _ => q2)
      rw [b] at T0
      simp only [↓reduceIte, if_true] at T0
      simp (disch := omega) only [↓reduceIte, n_2, n_3, n_4, n_5, n_6, n_7, n_8, n_10, n_12, n_20, n_30, n_40, n_100, n_120, n_150, n_200, n_230, n_320, n_450, n_900, x_le, x_lt, x_eq, x_lt0, x_le0, x_0le, x_0lt, x_eq0, x_eq1, x_1lt, x_le1, x_lt1, x_1le, x_eqm, x_add, x_a1, x_1a, x_a0, x_0a, x_mul, x_sub, x_s1, x_1s, x_div, x_cl, x_cl0, x_cl1, x_in, x_in0, x_in1, x_ofNat, hj, if_true, if_false, k3.k, ↓bd1 w55, ne1, hrw.1, ↓bd1 w80, em, not_false_iff]
      exact T0
