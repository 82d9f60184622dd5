/-! Paths: the order of the rows, by both. -/
def lexL (x y : Int32) (p : Nat) (x' y' : Int32) (p' : Nat) : Prop := x.toInt < x'.toInt ∨ (x.toInt = x'.toInt ∧ (y.toInt < y'.toInt ∨ (y.toInt = y'.toInt ∧ p < p')))
theorem lex_rk {path : Nat} {sec : Bool} {x y x' y' : Int32} {p p' : Nat} (h1 : okN x) (h2 : okN y) (h3 : okN x') (h4 : okN y') (hp : p < 30) (hp' : p' < 30) (hs : sec = false → y = 0 ∧ y' = 0) (h0 : path = 0 → x = 0 ∧ y = 0 ∧ x' = 0 ∧ y' = 0) : (rk3 path sec x y p < rk3 path sec x' y' p') ↔ if pDown path = true then lexL x' y' p' x y p else lexL x y p x' y' p' := by
  unfold rk3 lexL
  unfold okN at h1 h2 h3 h4
  by_cases e : path = 0
  · obtain ⟨rfl, rfl, rfl, rfl⟩ := h0 e
    have e2 : pDown path = false := by simp [pDown, e]
    rw [if_pos e, if_pos e, e2]
    simp
  · rw [if_neg e, if_neg e]
    cases sec with
    | false =>
      obtain ⟨rfl, rfl⟩ := hs rfl
      have z : (0 : Int32).toInt = 0 := by decide
      cases pDown path <;> simp only [↓reduceIte, Bool.false_eq_true, if_false, if_true, z, Int.lt_irrefl, false_or, true_and] <;> omega
    | true => cases pDown path <;> simp only [↓reduceIte, Bool.false_eq_true, if_false, if_true] <;> omega
theorem okN_0 : okN 0 := by unfold okN; decide
theorem i_eqT (x y : Int32) : x = y ↔ x.toInt = y.toInt := Int32.toInt_inj.symm
theorem m198 {n : Nat} {C : AmC} {x y x' y' : Int32} {p p' : Nat} (hp : p < 30) (hp' : p' < 30) : ∃ z, f_198 n x y (nI p) x' y' (nI p') C = some (z, C) ∧ (z < 0 ↔ lexL x y p x' y' p') ∧ (0 < z ↔ lexL x' y' p' x y p) := by
  unfold f_198 lexL
  have e1 : (nI p).toInt = (p : Int) := nI_toInt (by omega)
  have e2 : (nI p').toInt = (p' : Int) := nI_toInt (by omega)
  have L0 : ((-1 : Int32) < 0) = True := by decide
  have L1 : ((0 : Int32) < -1) = False := by decide
  have L2 : ((1 : Int32) < 0) = False := by decide
  have L3 : ((0 : Int32) < 1) = True := by decide
  have L4 : ((0 : Int32) < 0) = False := by decide
  simp only [i_eqT, Int32.le_iff_toInt_le, e1, e2]
  by_cases a : x.toInt = x'.toInt
  · simp only [↓reduceIte, a, if_true]
    by_cases b : y.toInt = y'.toInt
    · simp only [↓reduceIte, b, if_true]
      by_cases c : (p' : Int) ≤ p
      · rw [if_pos c]
        by_cases d : (p : Int) ≤ p'
        · rw [if_pos d]; exact ⟨_, rfl, by simp only [L4, false_iff, true_iff, Int.lt_irrefl, false_or, or_false, false_and, true_and]; omega, by simp only [L4, false_iff, true_iff, Int.lt_irrefl, false_or, or_false, false_and, true_and]; omega⟩
        · rw [if_neg d]; exact ⟨_, rfl, by simp only [L2, false_iff, true_iff, Int.lt_irrefl, false_or, or_false, false_and, true_and]; omega, by simp only [L3, false_iff, true_iff, Int.lt_irrefl, false_or, or_false, false_and, true_and]; omega⟩
      · rw [if_neg c]; exact ⟨_, rfl, by simp only [L0, false_iff, true_iff, Int.lt_irrefl, false_or, or_false, false_and, true_and]; omega, by simp only [L1, false_iff, true_iff, Int.lt_irrefl, false_or, or_false, false_and, true_and]; omega⟩
    · simp only [↓reduceIte, b, if_false]
      by_cases c : y'.toInt ≤ y.toInt
      · rw [if_pos c]
        by_cases d : y.toInt ≤ y'.toInt
        · omega
        · rw [if_neg d]; exact ⟨_, rfl, by simp only [L2, false_iff, true_iff, Int.lt_irrefl, false_or, or_false, false_and, true_and]; omega, by simp only [L3, false_iff, true_iff, Int.lt_irrefl, false_or, or_false, false_and, true_and]; omega⟩
      · rw [if_neg c]; exact ⟨_, rfl, by simp only [L0, false_iff, true_iff, Int.lt_irrefl, false_or, or_false, false_and, true_and]; omega, by simp only [L1, false_iff, true_iff, Int.lt_irrefl, false_or, or_false, false_and, true_and]; omega⟩
  · simp only [↓reduceIte, a, if_false]
    by_cases c : x'.toInt ≤ x.toInt
    · rw [if_pos c]
      by_cases d : x.toInt ≤ x'.toInt
      · omega
      · rw [if_neg d]; exact ⟨_, rfl, by simp only [L2, false_iff, true_iff, Int.lt_irrefl, false_or, or_false, false_and, true_and]; omega, by simp only [L3, false_iff, true_iff, Int.lt_irrefl, false_or, or_false, false_and, true_and]; omega⟩
    · rw [if_neg c]; exact ⟨_, rfl, by simp only [L0, false_iff, true_iff, Int.lt_irrefl, false_or, or_false, false_and, true_and]; omega, by simp only [L1, false_iff, true_iff, Int.lt_irrefl, false_or, or_false, false_and, true_and]; omega⟩
/-- a path of the script -/
def PathOK (S : Scr) (path : Nat) : Prop := path < 1 + 2 * (sIdx S).length
theorem PathOK.ix {S : Scr} {path : Nat} (h : PathOK S path) (h0 : ¬ path = 0) : (path - 1) / 2 < (sIdx S).length := by
  unfold PathOK at h
  omega
theorem PathOK.lt {S : Scr} {path : Nat} (h : PathOK S path) (hO : ScrOK S) : path < 7 := by
  unfold PathOK at h
  have := hO.2.2.1
  omega
theorem m194 {n : Nat} {C : AmC} {h path : Nat} {S : Scr} (hM : MC C h S) (hp : path < 100) : f_194 n 145 (nI path) C = some (if path = 0 then -1 else nI (3 * h + (path - 1) / 2), C) := by
  have h3 := hM.2.2.1.1
  unfold f_194
  simp (disch := omega) only [if_true, if_false, Option.bind_some, k_145, hM.2.1, ↓reduceIte, n_2, n_3, n_4, n_5, n_6, n_7, n_8, n_10, n_12, n_20, n_30, n_40, n_100, n_120, n_150, n_200, n_230, n_320, n_450, n_900, x_le, x_lt, x_eq, x_lt0, x_le0, x_0le, x_0lt, x_eq0, x_eq1, x_1lt, x_le1, x_lt1, x_1le, x_eqm, x_add, x_a1, x_1a, x_a0, x_0a, x_mul, x_sub, x_s1, x_1s, x_div, x_cl, x_cl0, x_cl1, x_in, x_in0, x_in1, x_ofNat]
  by_cases e : path = 0
  · simp [e]
  · rw [if_pos e, if_neg e]
theorem m195 {n : Nat} {C : AmC} {path : Nat} (hp : path < 2147483648) : f_195 n (nI path) C = some (if pDown path = true then 1 else 0, C) := c89 (n := n) hp
theorem m196 {n : Nat} {C : AmC} {h path p : Nat} {S : Scr} {T : Tab} (hM : MC C h S) (hT : TabM 30 (sCols S) C 180 0 T) (hpa : PathOK S path) (hp : p < 30) (tp : T.1 p = true) : f_196 n 145 (nI path) (nI p) C = some (pX S path T p, C) := by
  have hP := hM.1
  have h3 := hM.2.2.1.1
  have hl := hM.2.2.2.2.2.1
  have h4 := hM.2.2.2.2.1
  have h7 := hpa.lt hM.2.2.2
  unfold f_196 pX
  by_cases e : path = 0
  · simp [e, x_0]
  · have hi := hpa.ix e
    have hx := (ix_lt hM.2.2.2 hi).1
    have h6 : 3 * h + (path - 1) / 2 < 6 := by omega
    simp (disch := omega) only [if_true, if_false, Option.bind_some, k_145, ↓bd1 (w_145_29 hP), k_167, l_167, m194 hM, e, ↓reduceIte, n_2, n_3, n_4, n_5, n_6, n_7, n_8, n_10, n_12, n_20, n_30, n_40, n_100, n_120, n_150, n_200, n_230, n_320, n_450, n_900, x_le, x_lt, x_eq, x_lt0, x_le0, x_0le, x_0lt, x_eq0, x_eq1, x_1lt, x_le1, x_lt1, x_1le, x_eqm, x_add, x_a1, x_1a, x_a0, x_0a, x_mul, x_sub, x_s1, x_1s, x_div, x_cl, x_cl0, x_cl1, x_in, x_in0, x_in1, x_ofNat, not_false_iff, h6, (hM.2.2.1.2.2.2.1 _ hi).1, m193 hP hT hp tp hx h4]
theorem m197 {n : Nat} {C : AmC} {h path p : Nat} {S : Scr} {T : Tab} (hM : MC C h S) (hT : TabM 30 (sCols S) C 180 0 T) (hpa : PathOK S path) (hp : p < 30) (tp : T.1 p = true) : f_197 n 145 (nI path) (nI p) C = some (pY S path T p, C) := by
  have hP := hM.1
  have h3 := hM.2.2.1.1
  have hl := hM.2.2.2.2.2.1
  have h4 := hM.2.2.2.2.1
  have h7 := hpa.lt hM.2.2.2
  unfold f_197 pY
  by_cases e : path = 0
  · simp [e, x_0]
  · have hi := hpa.ix e
    have hx := (ix_lt hM.2.2.2 hi).2
    have h6 : 3 * h + (path - 1) / 2 < 6 := by omega
    simp (disch := omega) only [if_true, if_false, Option.bind_some, k_145, ↓bd1 (w_145_30 hP), k_168, l_168, m194 hM, e, ↓reduceIte, n_2, n_3, n_4, n_5, n_6, n_7, n_8, n_10, n_12, n_20, n_30, n_40, n_100, n_120, n_150, n_200, n_230, n_320, n_450, n_900, x_le, x_lt, x_eq, x_lt0, x_le0, x_0le, x_0lt, x_eq0, x_eq1, x_1lt, x_le1, x_lt1, x_1le, x_eqm, x_add, x_a1, x_1a, x_a0, x_0a, x_mul, x_sub, x_s1, x_1s, x_div, x_cl, x_cl0, x_cl1, x_in, x_in0, x_in1, x_ofNat, not_false_iff, h6, (hM.2.2.1.2.2.2.1 _ hi).2]
    cases hy : ix2 S ((path - 1) / 2) with
    | none => simp [oI_n, oI_s]
    | some c =>
      have hc := (hx c hy).1
      simp (disch := omega) only [↓reduceIte, oI_n, oI_s, x_eqm, not_false_iff, if_true, m193 hP hT hp tp hc h4, Option.bind_some]
theorem okX {S : Scr} {T : Tab} {path p : Nat} (hO : ScrOK S) (hN : TabN (sCols S) T) (hpa : PathOK S path) (hp : p < 30) (tp : T.1 p = true) : okN (pX S path T p) := by
  unfold pX
  by_cases e : path = 0
  · rw [if_pos e]; exact okN_0
  · rw [if_neg e]; exact hN p hp tp _ (ix_lt hO (hpa.ix e)).1
theorem okY {S : Scr} {T : Tab} {path p : Nat} (hO : ScrOK S) (hN : TabN (sCols S) T) (hpa : PathOK S path) (hp : p < 30) (tp : T.1 p = true) : okN (pY S path T p) := by
  unfold pY
  by_cases e : path = 0
  · rw [if_pos e]; exact okN_0
  · rw [if_neg e]
    cases hy : ix2 S ((path - 1) / 2) with
    | none => exact okN_0
    | some c => exact hN p hp tp _ ((ix_lt hO (hpa.ix e)).2 c hy).1
theorem secY {S : Scr} {T : Tab} {path p : Nat} (h : (ix2 S ((path - 1) / 2)).isSome = false) : pY S path T p = 0 := by
  unfold pY
  cases hy : ix2 S ((path - 1) / 2) with
  | none => simp
  | some c => rw [hy] at h; cases h
/-- where the last row stood, as the reference has it -/
def LastM (C : AmC) (S : Scr) (path : Nat) (last : Option Int) : Prop := match last with
  | none => cI C 145 61 = 0
  | some y => cI C 145 61 = 1 ∧ ∃ q, q < 30 ∧ cI C 145 64 = nI q ∧ okN (cI C 145 62) ∧ okN (cI C 145 63) ∧ (path = 0 → cI C 145 62 = 0 ∧ cI C 145 63 = 0) ∧ ((ix2 S ((path - 1) / 2)).isSome = false → cI C 145 63 = 0) ∧ y = rk3 path (ix2 S ((path - 1) / 2)).isSome (cI C 145 62) (cI C 145 63) q
theorem m199 {n : Nat} {C : AmC} {h path p : Nat} {S : Scr} {T : Tab} {last : Option Int} (hM : MC C h S) (hT : TabM 30 (sCols S) C 180 0 T) (hN : TabN (sCols S) T) (hpa : PathOK S path) (hp : p < 30) (tp : T.1 p = true) (hL : LastM C S path last) : f_199 n 145 (nI path) (nI p) C = some (if lOk last (sRk S path T p) = true then 1 else 0, C) := by
  have h7 := hpa.lt hM.2.2.2
  unfold f_199 lOk
  cases last with
  | none => simp [show cI C 145 61 = 0 from hL, k_145]
  | some y =>
    obtain ⟨e1, q, hq, e2, o1, o2, z0, z1, rfl⟩ := hL
    obtain ⟨z, ez, g1, g2⟩ := m198 (n := n) (C := C) (x := pX S path T p) (y := pY S path T p) (x' := cI C 145 62) (y' := cI C 145 63) hp hq
    have R := lex_rk (path := path) (sec := (ix2 S ((path - 1) / 2)).isSome) o1 o2 (okX hM.2.2.2 hN hpa hp tp) (okY hM.2.2.2 hN hpa hp tp) hq hp (fun w => ⟨z1 w, secY w⟩) (fun w => ⟨(z0 w).1, (z0 w).2, by simp [pX, w], by simp [pY, w]⟩)
    have ne : ¬ (1 : Int32) = 0 := by decide
    simp (disch := omega) only [↓reduceIte, if_true, if_false, Option.bind_some, k_145, e1, ne, not_false_iff, m196 hM hT hpa hp tp, m197 hM hT hpa hp tp, e2, ez, m195]
    unfold sRk
    simp only [decide_eq_true_eq]
    cases hd : pDown path with
    | true =>
      rw [hd] at R
      simp only [↓reduceIte, if_true] at R
      simp only [↓reduceIte, if_true, ne, if_false]
      by_cases c : (0 : Int32) ≤ z
      · rw [if_pos c, if_neg]
        rw [R, ← g1]
        exact Int32.not_lt.mpr c
      · rw [if_neg c, if_pos]
        rw [R, ← g1]
        exact Int32.not_le.mp c
    | false =>
      rw [hd] at R
      simp only [↓reduceIte, Bool.false_eq_true, if_false] at R
      simp only [↓reduceIte, Bool.false_eq_true, if_false, if_true]
      by_cases c : z ≤ 0
      · rw [if_pos c, if_neg]
        rw [R, ← g2]
        exact Int32.not_lt.mpr c
      · rw [if_neg c, if_pos]
        rw [R, ← g2]
        exact Int32.not_le.mp c
theorem m200 {n : Nat} {C : AmC} {h path p q : Nat} {S : Scr} {T : Tab} (hM : MC C h S) (hT : TabM 30 (sCols S) C 180 0 T) (hN : TabN (sCols S) T) (hpa : PathOK S path) (hp : p < 30) (tp : T.1 p = true) (hq : q < 30) (tq : T.1 q = true) : f_200 n 145 (nI path) (nI p) (nI q) C = some (if sRk S path T p < sRk S path T q then 1 else 0, C) := by
  have h7 := hpa.lt hM.2.2.2
  unfold f_200
  obtain ⟨z, ez, g1, g2⟩ := m198 (n := n) (C := C) (x := pX S path T p) (y := pY S path T p) (x' := pX S path T q) (y' := pY S path T q) hp hq
  have R := lex_rk (path := path) (sec := (ix2 S ((path - 1) / 2)).isSome) (okX hM.2.2.2 hN hpa hp tp) (okY hM.2.2.2 hN hpa hp tp) (okX hM.2.2.2 hN hpa hq tq) (okY hM.2.2.2 hN hpa hq tq) hp hq (fun w => ⟨secY w, secY w⟩) (fun w => ⟨by simp [pX, w], by simp [pY, w], by simp [pX, w], by simp [pY, w]⟩)
  have ne : ¬ (1 : Int32) = 0 := by decide
  simp (disch := omega) only [↓reduceIte, if_true, if_false, Option.bind_some, k_145, m196 hM hT hpa hp tp, m197 hM hT hpa hp tp, m196 hM hT hpa hq tq, m197 hM hT hpa hq tq, ez, m195]
  unfold sRk
  cases hd : pDown path with
  | true =>
    rw [hd] at R
    simp only [↓reduceIte, if_true] at R
    simp only [↓reduceIte, if_true, ne, if_false]
    by_cases c : z ≤ 0
    · rw [if_pos c, if_neg]
      rw [R, ← g2]
      exact Int32.not_lt.mpr c
    · rw [if_neg c, if_pos]
      rw [R, ← g2]
      exact Int32.not_le.mp c
  | false =>
    rw [hd] at R
    simp only [↓reduceIte, Bool.false_eq_true, if_false] at R
    simp only [↓reduceIte, Bool.false_eq_true, if_false, if_true]
    by_cases c : (0 : Int32) ≤ z
    · rw [if_pos c, if_neg]
      rw [R, ← g1]
      exact Int32.not_lt.mpr c
    · rw [if_neg c, if_pos]
      rw [R, ← g1]
      exact Int32.not_le.mp c
