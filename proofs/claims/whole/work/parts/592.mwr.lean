/-! The reference's run: what is written. -/
theorem bt_ss (w : Int32) {j : Nat} (hj : j < 32) : ((w >>> (nI j &&& 31)) &&& 1) = if bt w j = true then 1 else 0 := by
  refine b_ext (fun i hi => ?_)
  rw [b_and, b_sshr j hj _ hi]
  have h1 : bt (1 : Int32) i = decide (i = 0) := by
    revert i
    decide
  rw [h1]
  by_cases h : i = 0
  · subst h
    rw [if_pos (by omega)]
    cases hb : bt w j
    · simp [hb, b_0]
    · simpa [hb] using h1
  · cases hb : bt w j
    · simp [h, b_0]
    · simp [h, h1]
theorem m212_lp {C : AmC} {cols : Nat} {T : Tab} (hP : PInv C) (hT : TabM 30 cols C 180 0 T) : ∀ k j n, j + k = 30 → k < n → lp_212_2 n 145 (nI j) C = some (match qf (fun p => !T.1 p) k j with
    | some p => nI p
    | none => nI 30, C) := by
  intro k
  induction k with
  | zero =>
    intro j n h1 h2
    obtain ⟨n, rfl⟩ : ∃ m, n = m + 1 := ⟨n - 1, by omega⟩
    have h3 : 30 ≤ j := by omega
    have h4 : j = 30 := by omega
    simp (disch := omega) only [lp_212_2, ↓reduceIte, n_2, n_3, n_4, n_5, n_6, n_7, n_8, n_10, n_12, n_20, n_30, n_40, n_100, n_120, n_150, n_200, n_230, n_320, n_450, n_900, x_le, x_lt, x_eq, x_lt0, x_le0, x_0le, x_0lt, x_eq0, x_eq1, x_1lt, x_le1, x_lt1, x_1le, x_eqm, x_add, x_a1, x_1a, x_a0, x_0a, x_mul, x_sub, x_s1, x_1s, x_div, x_cl, x_cl0, x_cl1, x_in, x_in0, x_in1, x_ofNat, h3, if_true, qf]
    rw [h4]
  | succ k ih =>
    intro j n h1 h2
    obtain ⟨n, rfl⟩ : ∃ m, n = m + 1 := ⟨n - 1, by omega⟩
    have h3 : ¬ 30 ≤ j := by omega
    have h5 : j < 150 := by omega
    have e := hT.1 j (by omega)
    rw [Nat.zero_add] at e
    have ih1 := ih (j + 1) n (by omega) (by omega)
    simp (disch := omega) only [lp_212_2, if_true, if_false, Option.bind_some, k_145, ↓bd1 (w_145_57 hP), k_180, l_180, ↓reduceIte, n_2, n_3, n_4, n_5, n_6, n_7, n_8, n_10, n_12, n_20, n_30, n_40, n_100, n_120, n_150, n_200, n_230, n_320, n_450, n_900, x_le, x_lt, x_eq, x_lt0, x_le0, x_0le, x_0lt, x_eq0, x_eq1, x_1lt, x_le1, x_lt1, x_1le, x_eqm, x_add, x_a1, x_1a, x_a0, x_0a, x_mul, x_sub, x_s1, x_1s, x_div, x_cl, x_cl0, x_cl1, x_in, x_in0, x_in1, x_ofNat, h3, h5, e, ite10, qf]
    rcases bcs (T.1 j) with tj | tj
    · simp [tj]
    · simp only [↓reduceIte, tj, Bool.true_eq_false, if_false, Bool.not_true, Bool.false_eq_true]
      exact ih1
theorem m212 {n : Nat} {C : AmC} {cols : Nat} {T : Tab} (hP : PInv C) (hT : TabM 30 cols C 180 0 T) (hn : 31 ≤ n) : f_212 n 145 C = some (oI (sFree T), C) := by
  unfold f_212 sFree
  have L := m212_lp hP hT 30 0 n rfl (by omega)
  rw [x_0] at L
  rw [L]
  cases h : qf (fun p => !T.1 p) 30 0 with
  | none =>
    have z : (30 : Int32) ≤ nI 30 := by decide
    simp only [↓reduceIte, Option.bind_some, z, if_true, oI_n, oI_s]
  | some p =>
    obtain ⟨_, h2, _⟩ := qf_some h
    have z : ¬ (30 : Int32) ≤ nI p := by rw [n_30, x_le (by omega) (by omega)]; omega
    simp only [↓reduceIte, Option.bind_some, z, if_false, oI_n, oI_s]
/-- only the table's and the log's numbers have changed -/
def FrW (C C' : AmC) : Prop := cP C' = cP C ∧ cJ C' = cJ C ∧ ∀ b, ¬ b = 180 → ¬ b = 184 → cI C' b = cI C b
theorem m213_lp {q w wh : Nat} (hq : q < 30) (hw : w < 200) (hwh : wh ≤ 2) : ∀ k c n C, c + k = 4 → k < n → PInv C → cI C 145 65 = nI w → Rt (lp_213_62 n 145 (nI wh) (nI q) (nI c) C) (fun z C' => z = (145, nI q) ∧ FrW C C' ∧ (∀ j, cI C' 180 j = if 30 + 4 * q + c ≤ j ∧ j < 30 + 4 * q + 4 then (if (decide (wh ≠ 1) && bt (cI C 145 76) (j - (30 + 4 * q))) = true then cI C 187 (j - (30 + 4 * q)) else if wh = 2 then 0 else cI C 180 j) else cI C 180 j) ∧ ∀ j, cI C' 184 j = if 4 * w + c ≤ j ∧ j < 4 * w + 4 then (if (decide (wh ≠ 1) && bt (cI C 145 76) (j - 4 * w)) = true then cI C 187 (j - 4 * w) else 0) else cI C 184 j) := by
  intro k
  induction k with
  | zero =>
    intro c n C h1 h2 hP _
    obtain ⟨n, rfl⟩ : ∃ m, n = m + 1 := ⟨n - 1, by omega⟩
    have h3 : 4 ≤ c := by omega
    simp (disch := omega) only [lp_213_62, ↓reduceIte, n_2, n_3, n_4, n_5, n_6, n_7, n_8, n_10, n_12, n_20, n_30, n_40, n_100, n_120, n_150, n_200, n_230, n_320, n_450, n_900, x_le, x_lt, x_eq, x_lt0, x_le0, x_0le, x_0lt, x_eq0, x_eq1, x_1lt, x_le1, x_lt1, x_1le, x_eqm, x_add, x_a1, x_1a, x_a0, x_0a, x_mul, x_sub, x_s1, x_1s, x_div, x_cl, x_cl0, x_cl1, x_in, x_in0, x_in1, x_ofNat, h3, if_true]
    exact rt_ret ⟨rfl, ⟨rfl, rfl, fun _ _ _ => rfl⟩, fun j => by rw [if_neg (by omega)], fun j => by rw [if_neg (by omega)]⟩
  | succ k ih =>
    intro c n C h1 h2 hP e65
    obtain ⟨n, rfl⟩ : ∃ m, n = m + 1 := ⟨n - 1, by omega⟩
    have h3 : ¬ 4 ≤ c := by omega
    have c4 : c < 4 := by omega
    have i1 : 30 + 4 * q + c < 150 := by omega
    have i2 : 4 * w + c < 800 := by omega
    -- one column
    have go : ∀ (v180 v184 : Int32) (C1 : AmC), C1 = uI (uI C 180 (30 + 4 * q + c) v180) 184 (4 * w + c) v184 → v180 = (if (decide (wh ≠ 1) && bt (cI C 145 76) c) = true then cI C 187 c else if wh = 2 then 0 else cI C 180 (30 + 4 * q + c)) → v184 = (if (decide (wh ≠ 1) && bt (cI C 145 76) c) = true then cI C 187 c else 0) → Rt (lp_213_62 n 145 (nI wh) (nI q) (nI (c + 1)) C1) (fun z C' => z = (145, nI q) ∧ FrW C C' ∧ (∀ j, cI C' 180 j = if 30 + 4 * q + c ≤ j ∧ j < 30 + 4 * q + 4 then (if (decide (wh ≠ 1) && bt (cI C 145 76) (j - (30 + 4 * q))) = true then cI C 187 (j - (30 + 4 * q)) else if wh = 2 then 0 else cI C 180 j) else cI C 180 j) ∧ ∀ j, cI C' 184 j = if 4 * w + c ≤ j ∧ j < 4 * w + 4 then (if (decide (wh ≠ 1) && bt (cI C 145 76) (j - 4 * w)) = true then cI C 187 (j - 4 * w) else 0) else cI C 184 j) := by
      intro v180 v184 C1 hC1 e180 e184
      have b145 : cI C1 145 = cI C 145 := by rw [hC1, r_In (by decide), r_In (by decide)]
      have b187 : cI C1 187 = cI C 187 := by rw [hC1, r_In (by decide), r_In (by decide)]
      have b180 : ∀ j, cI C1 180 j = if j = 30 + 4 * q + c then v180 else cI C 180 j := fun j => by
        rw [hC1, r_In (by decide), r_I]; simp
      have b184 : ∀ j, cI C1 184 j = if j = 4 * w + c then v184 else cI C 184 j := fun j => by
        rw [hC1, r_I, r_In (by decide)]; simp
      have bp : cP C1 = cP C := by rw [hC1]; rfl
      have bj : cJ C1 = cJ C := by rw [hC1]; rfl
      refine rt_mono (ih (c + 1) n C1 (by omega) (by omega) (hP.of bp) (by rw [b145]; exact e65)) (fun z C' H => ?_)
      obtain ⟨H1, H2, H3, H4⟩ := H
      rw [b145, b187] at H3 H4
      refine ⟨H1, ⟨H2.1.trans bp, H2.2.1.trans bj, fun b z1 z2 => by rw [H2.2.2 b z1 z2, hC1, r_In z2, r_In z1]⟩, fun j => ?_, fun j => ?_⟩
      · rw [H3 j, b180 j]
        by_cases ej : j = 30 + 4 * q + c
        · subst ej
          rw [if_neg (by omega), if_pos rfl, if_pos (by omega), e180]
          simp only [Nat.add_sub_cancel_left]
        · rw [if_neg ej]
          by_cases z : 30 + 4 * q + (c + 1) ≤ j ∧ j < 30 + 4 * q + 4
          · have z' : 30 + 4 * q + c ≤ j ∧ j < 30 + 4 * q + 4 := by omega
            rw [if_pos z, if_pos z']
          · rw [if_neg z, if_neg (by omega)]
      · rw [H4 j, b184 j]
        by_cases ej : j = 4 * w + c
        · subst ej
          rw [if_neg (by omega), if_pos rfl, if_pos (by omega), e184]
          simp only [Nat.add_sub_cancel_left]
        · rw [if_neg ej]
          by_cases z : 4 * w + (c + 1) ≤ j ∧ j < 4 * w + 4
          · have z' : 4 * w + c ≤ j ∧ j < 4 * w + 4 := by omega
            rw [if_pos z, if_pos z']
          · rw [if_neg z, if_neg (by omega)]
    have s1 : ∀ v, cI (uI C 180 (30 + 4 * q + c) v) 145 65 = nI w := fun v => by rw [r_In (by decide)]; exact e65
    have s2 : ∀ v, cI (uI C 180 (30 + 4 * q + c) v) 187 = cI C 187 := fun v => r_In (by decide)
    have sf : uI C 184 (4 * w + c) 0 = uI (uI C 180 (30 + 4 * q + c) (cI C 180 (30 + 4 * q + c))) 184 (4 * w + c) 0 := by rw [uI_self]
    have w3 : wh = 0 ∨ wh = 1 ∨ wh = 2 := by omega
    have ne1 : ¬ (1 : Int32) = 0 := by decide
    rcases w3 with rfl | rfl | rfl
    · rcases bcs (bt (cI C 145 76) c) with b | b
      · have G := go _ 0 _ sf (by simp [b]) (by simp [b])
        simp (disch := omega) only [lp_213_62, if_true, if_false, Option.bind_some, k_145, ↓reduceIte, n_2, n_3, n_4, n_5, n_6, n_7, n_8, n_10, n_12, n_20, n_30, n_40, n_100, n_120, n_150, n_200, n_230, n_320, n_450, n_900, x_le, x_lt, x_eq, x_lt0, x_le0, x_0le, x_0lt, x_eq0, x_eq1, x_1lt, x_le1, x_lt1, x_1le, x_eqm, x_add, x_a1, x_1a, x_a0, x_0a, x_mul, x_sub, x_s1, x_1s, x_div, x_cl, x_cl0, x_cl1, x_in, x_in0, x_in1, x_ofNat, h3, show ¬ (0 : Nat) = 1 from by decide, show ¬ (0 : Nat) = 2 from by decide, not_false_iff, bt_ss, b, Bool.false_eq_true, show ¬ (0 : Int32) = 1 from by decide, ↓bd1 (w_145_72 hP), k_184, l_184, e65, i2]
        exact G
      · have G := go (cI C 187 c) (cI C 187 c) _ rfl (by simp [b]) (by simp [b])
        simp (disch := omega) only [lp_213_62, if_true, if_false, Option.bind_some, k_145, ↓reduceIte, n_2, n_3, n_4, n_5, n_6, n_7, n_8, n_10, n_12, n_20, n_30, n_40, n_100, n_120, n_150, n_200, n_230, n_320, n_450, n_900, x_le, x_lt, x_eq, x_lt0, x_le0, x_0le, x_0lt, x_eq0, x_eq1, x_1lt, x_le1, x_lt1, x_1le, x_eqm, x_add, x_a1, x_1a, x_a0, x_0a, x_mul, x_sub, x_s1, x_1s, x_div, x_cl, x_cl0, x_cl1, x_in, x_in0, x_in1, x_ofNat, h3, show ¬ (0 : Nat) = 1 from by decide, not_true, bt_ss, b, ↓bd1 (w_145_57 hP), k_180, l_180, ↓bd1 (w_145_75 hP), k_187, l_187, ↓bd1 (w_145_72 hP), k_184, l_184, ↓bp_I, c4, i1, i2, s1, s2]
        exact G
    · have G := go _ 0 _ sf (by simp) (by simp)
      simp (disch := omega) only [lp_213_62, if_true, if_false, Option.bind_some, k_145, ↓reduceIte, n_2, n_3, n_4, n_5, n_6, n_7, n_8, n_10, n_12, n_20, n_30, n_40, n_100, n_120, n_150, n_200, n_230, n_320, n_450, n_900, x_le, x_lt, x_eq, x_lt0, x_le0, x_0le, x_0lt, x_eq0, x_eq1, x_1lt, x_le1, x_lt1, x_1le, x_eqm, x_add, x_a1, x_1a, x_a0, x_0a, x_mul, x_sub, x_s1, x_1s, x_div, x_cl, x_cl0, x_cl1, x_in, x_in0, x_in1, x_ofNat, h3, show ¬ (1 : Nat) = 2 from by decide, not_false_iff, ↓bd1 (w_145_72 hP), k_184, l_184, e65, i2]
      exact G
    · rcases bcs (bt (cI C 145 76) c) with b | b
      · have G := go 0 0 _ rfl (by simp [b]) (by simp [b])
        simp (disch := omega) only [lp_213_62, if_true, if_false, Option.bind_some, k_145, ↓reduceIte, n_2, n_3, n_4, n_5, n_6, n_7, n_8, n_10, n_12, n_20, n_30, n_40, n_100, n_120, n_150, n_200, n_230, n_320, n_450, n_900, x_le, x_lt, x_eq, x_lt0, x_le0, x_0le, x_0lt, x_eq0, x_eq1, x_1lt, x_le1, x_lt1, x_1le, x_eqm, x_add, x_a1, x_1a, x_a0, x_0a, x_mul, x_sub, x_s1, x_1s, x_div, x_cl, x_cl0, x_cl1, x_in, x_in0, x_in1, x_ofNat, h3, show ¬ (2 : Nat) = 1 from by decide, not_true, not_false_iff, bt_ss, b, Bool.false_eq_true, show ¬ (0 : Int32) = 1 from by decide, ↓bd1 (w_145_57 hP), k_180, l_180, ↓bd1 (w_145_72 hP), k_184, l_184, ↓bp_I, i1, i2, s1]
        exact G
      · have G := go (cI C 187 c) (cI C 187 c) _ rfl (by simp [b]) (by simp [b])
        simp (disch := omega) only [lp_213_62, if_true, if_false, Option.bind_some, k_145, ↓reduceIte, n_2, n_3, n_4, n_5, n_6, n_7, n_8, n_10, n_12, n_20, n_30, n_40, n_100, n_120, n_150, n_200, n_230, n_320, n_450, n_900, x_le, x_lt, x_eq, x_lt0, x_le0, x_0le, x_0lt, x_eq0, x_eq1, x_1lt, x_le1, x_lt1, x_1le, x_eqm, x_add, x_a1, x_1a, x_a0, x_0a, x_mul, x_sub, x_s1, x_1s, x_div, x_cl, x_cl0, x_cl1, x_in, x_in0, x_in1, x_ofNat, h3, show ¬ (2 : Nat) = 1 from by decide, not_true, bt_ss, b, ↓bd1 (w_145_57 hP), k_180, l_180, ↓bd1 (w_145_75 hP), k_187, l_187, ↓bd1 (w_145_72 hP), k_184, l_184, ↓bp_I, c4, i1, i2, s1, s2]
        exact G
/-- an entry of the log -/
def LgM (C : AmC) (S : Scr) (t : Stm) (i : Nat) (e : Option Nat × Nat × (Nat → Int32)) : Prop := cI C 182 i = nI e.2.1 ∧ cI C 183 i = (if goneS t e.1 = true then 1 else if isNewS t e.1 = true then 2 else 0) ∧ (∀ c, c < 4 → bt (cI C 185 i) c = (decide (c < sCols S) && (valsS t e.1 c).isSome)) ∧ ∀ c, c < 4 → cI C 184 (4 * i + c) = if (decide (c < sCols S) && (valsS t e.1 c).isSome) = true then e.2.2 c else 0
/-- the reference's numbers of a run -/
def MrF (C : AmC) (S : Scr) (t : Stm) (r : RS) : Prop := TabM 30 (sCols S) C 180 0 (rT r) ∧ TabZ 30 (sCols S) C 180 0 (rT r) ∧ cI C 145 65 = nI (rL r).length ∧ cI C 145 66 = rE r ∧ cI C 145 67 = r1 r ∧ cI C 145 68 = r2 r ∧ (∀ p, p < 30 → cI C 186 p = nI (rC r p)) ∧ ∀ i (h : i < (rL r).length), LgM C S t i (rL r)[i]
theorem MrF.of {C C1 : AmC} {S : Scr} {t : Stm} {r : RS} (h : MrF C S t r) (e0 : ∀ f, 65 ≤ f → f ≤ 68 → cI C1 145 f = cI C 145 f) (e : ∀ b, b = 180 ∨ (182 ≤ b ∧ b ≤ 186) → cI C1 b = cI C b) : MrF C1 S t r := by
  obtain ⟨h1, h2, h3, h4, h5, h6, h7, h8⟩ := h
  refine ⟨h1.of (e 180 (by omega)), ?_, by rw [e0 65 (by omega) (by omega)]; exact h3, by rw [e0 66 (by omega) (by omega)]; exact h4, by rw [e0 67 (by omega) (by omega)]; exact h5, by rw [e0 68 (by omega) (by omega)]; exact h6, fun p hp => by rw [e 186 (by omega)]; exact h7 p hp, fun i hi => ?_⟩
  · unfold TabZ; rw [e 180 (by omega)]; exact h2
  · unfold LgM
    rw [e 182 (by omega), e 183 (by omega), e 184 (by omega), e 185 (by omega)]
    exact h8 i hi
theorem gone_eq {t : Stm} {cols : Nat} (k : StmOK cols t) {pl : Option Nat} (hp : ¬ tKd t = 3 → pl.isSome = true) : goneS t pl = (!isNewS t pl && decide (tCh t = 1)) := by
  have h1 := k.1
  unfold goneS isNewS tCh
  by_cases c0 : tKd t = 0
  · simp [c0]
  · by_cases c1 : tKd t = 1
    · have := hp (by omega)
      cases pl with
      | none => cases this
      | some p => simp [c1]
    · by_cases c2 : tKd t = 2
      · simp [c2]
      · have c3 : tKd t = 3 := by omega
        cases pl <;> simp [c3]
/-- behind the head of a write -/
def wrH (C : AmC) (q w : Nat) (wh : Nat) : AmC := uI (uI (uI (uI C 180 q (if wh = 1 then 0 else 1)) 182 w (nI q)) 183 w (nI wh)) 185 w (if wh = 1 then 0 else cI C 145 76)
theorem m213 {n : Nat} {C : AmC} {h i wh : Nat} {S : Scr} {r : RS} {t : Stm} {pl : Option Nat} {mk : Nat → Int32} (hK : MK C h S i t) (hF : MrF C S t r) (hE : rE r = 0) (hr1 : r1 r = -1) (hr2 : r2 r = -1) (hw : (rL r).length ≤ 200) (hp : ∀ p, pl = some p → p < 30) (hwh : wh = if goneS t pl = true then 1 else if isNewS t pl = true then 2 else 0) (hs : ¬ tKd t = 3 → pl.isSome = true) (hh : ∀ p, pl = some p → isNewS t pl = false → (rT r).1 p = true) (hM : MdM C S t pl mk) (hnew : isNewS t pl = true → ∀ c, c < sCols S → (tNew t c).isSome = true) (hn : 100 ≤ n) : Rt (f_213 n 145 (oI pl) (nI wh) C) (fun _ C' => MrF C' S t (sWrite t pl mk r) ∧ FrM 65 C C' ∧ cI C' 145 76 = cI C 145 76 ∧ cI C' 145 80 = cI C 145 80 ∧ ∀ b, 187 ≤ b → cI C' b = cI C b) := by
  have hK0 := hK
  obtain ⟨⟨hP, hh2, hS, hO⟩, k2, k3, k4, k5⟩ := hK
  obtain ⟨f1, f2, f3, f4, f5, f6, f7, f8⟩ := id hF
  rw [hE] at f4
  have h4 := hO.2.1
  have ge := gone_eq k5 hs
  have gN : goneS t pl = true → isNewS t pl = false := fun z => by
    rw [ge] at z
    simp only [Bool.and_eq_true, Bool.not_eq_true'] at z
    exact z.1
  have gC : goneS t pl = true → tCh t = 1 := fun z => by
    rw [ge] at z
    simp only [Bool.and_eq_true, decide_eq_true_eq] at z
    exact z.2
  have w2 : (wh = 2) ↔ isNewS t pl = true := by
    rw [hwh]
    rcases bcs (goneS t pl) with b | b
    · rcases bcs (isNewS t pl) with c | c <;> simp [b, c]
    · simp [b, gN b]
  have w1 : (wh = 1) ↔ goneS t pl = true := by
    rw [hwh]
    rcases bcs (goneS t pl) with b | b
    · rcases bcs (isNewS t pl) with c | c <;> simp [b, c]
    · simp [b]
  have wle : wh ≤ 2 := by
    rw [hwh]
    split
    · omega
    · split <;> omega
  -- at the end: the place is known, there is room
  have tail : ∀ q, sAt (rT r) t pl = some q → (rL r).length < 200 → Rt ((lp_213_62 n 145 (nI wh) (nI q) 0 (wrH C q (rL r).length wh)).bind (fun z => match z with
      | ((u, v), C9) => if isK u 10 = true then (cP C9 u 74).bind (fun r1 => if isK r1 12 = true then if amIn v (aLen r1) = true then if amIn v (aLen r1) = true then some ((), uI (uI C9 r1 (Int32.toNatClampNeg v) (cI C9 r1 (Int32.toNatClampNeg v) + 1)) u 65 (cI (uI C9 r1 (Int32.toNatClampNeg v) (cI C9 r1 (Int32.toNatClampNeg v) + 1)) u 65 + 1)) else none else none else none) else none)) (fun _ C' => MrF C' S t (sWrite t pl mk r) ∧ FrM 65 C C' ∧ cI C' 145 76 = cI C 145 76 ∧ cI C' 145 80 = cI C 145 80 ∧ ∀ b, 187 ≤ b → cI C' b = cI C b) := by
    intro q hq hlen
    have q30 := sAt_lt hp hq
    have n1 : ¬ 200 ≤ (rL r).length := by omega
    have eW : sWrite t pl mk r = (sPut (rT r) t pl q mk, r.2.1, va_up (rC r) q (rC r q + 1), rL r ++ [(pl, q, mk)]) := by
      unfold sWrite
      rw [hq]
      dsimp only
      rw [if_neg n1]
    generalize hw9 : (rL r).length = w at hlen f3 n1
    have a145 : cI (wrH C q w wh) 145 = cI C 145 := by unfold wrH; rw [r_In (by decide), r_In (by decide), r_In (by decide), r_In (by decide)]
    have a187 : cI (wrH C q w wh) 187 = cI C 187 := by unfold wrH; rw [r_In (by decide), r_In (by decide), r_In (by decide), r_In (by decide)]
    have a184 : cI (wrH C q w wh) 184 = cI C 184 := by unfold wrH; rw [r_In (by decide), r_In (by decide), r_In (by decide), r_In (by decide)]
    have a180 : ∀ j, cI (wrH C q w wh) 180 j = if j = q then (if wh = 1 then 0 else 1) else cI C 180 j := fun j => by
      unfold wrH
      rw [r_In (by decide), r_In (by decide), r_In (by decide), r_I]
      simp
    have a182 : ∀ j, cI (wrH C q w wh) 182 j = if j = w then nI q else cI C 182 j := fun j => by
      unfold wrH
      rw [r_In (by decide), r_In (by decide), r_I, r_In (by decide)]
      simp
    have a183 : ∀ j, cI (wrH C q w wh) 183 j = if j = w then nI wh else cI C 183 j := fun j => by
      unfold wrH
      rw [r_In (by decide), r_I, r_In (by decide), r_In (by decide)]
      simp
    have a185 : ∀ j, cI (wrH C q w wh) 185 j = if j = w then (if wh = 1 then 0 else cI C 145 76) else cI C 185 j := fun j => by
      unfold wrH
      rw [r_I, r_In (by decide), r_In (by decide), r_In (by decide)]
      simp
    have ao : ∀ b, ¬ b = 180 → ¬ b = 182 → ¬ b = 183 → ¬ b = 185 → cI (wrH C q w wh) b = cI C b := fun b z1 z2 z3 z4 => by
      unfold wrH
      rw [r_In z4, r_In z3, r_In z2, r_In z1]
    have L := m213_lp (n := n) q30 hlen wle 4 0 (C := wrH C q w wh) rfl (by omega) (hP.of rfl) (by rw [a145]; exact f3)
    rw [x_0] at L
    refine rt_bind (rt_mono L (fun z C9 H => ?_))
    obtain ⟨ez, H1, H2, H3⟩ := H
    subst ez
    rw [a145, a187] at H2 H3
    have P9 : PInv C9 := hP.of H1.1
    have c145 : cI C9 145 = cI C 145 := by rw [H1.2.2 145 (by decide) (by decide), a145]
    have c186 : cI C9 186 = cI C 186 := by rw [H1.2.2 186 (by decide) (by decide), ao 186 (by decide) (by decide) (by decide) (by decide)]
    have cl : Int32.toNatClampNeg (nI q) = q := x_cl (by omega)
    dsimp only
    rw [if_pos k_145, bd1 (w_145_74 P9), if_pos k_186, l_186, if_pos ((x_in (by omega)).mpr q30), if_pos ((x_in (by omega)).mpr q30), cl]
    have d145 : ∀ f, ¬ f = 65 → cI (uI (uI C9 186 q (cI C9 186 q + 1)) 145 65 (cI (uI C9 186 q (cI C9 186 q + 1)) 145 65 + 1)) 145 f = cI C 145 f := fun f hf => by rw [r_I, if_neg (by omega), r_In (by decide), c145]
    have d65 : cI (uI (uI C9 186 q (cI C9 186 q + 1)) 145 65 (cI (uI C9 186 q (cI C9 186 q + 1)) 145 65 + 1)) 145 65 = nI (w + 1) := by rw [r_I, if_pos ⟨rfl, rfl⟩, r_In (by decide), c145, f3, x_a1]
    have dO : ∀ b, ¬ b = 145 → ¬ b = 186 → cI (uI (uI C9 186 q (cI C9 186 q + 1)) 145 65 (cI (uI C9 186 q (cI C9 186 q + 1)) 145 65 + 1)) b = cI C9 b := fun b z1 z2 => by rw [r_In z1, r_In z2]
    have d186 : ∀ p, cI (uI (uI C9 186 q (cI C9 186 q + 1)) 145 65 (cI (uI C9 186 q (cI C9 186 q + 1)) 145 65 + 1)) 186 p = if p = q then cI C 186 q + 1 else cI C 186 p := fun p => by
      rw [r_In (by decide), r_I, c186]; simp
    have dP : cP (uI (uI C9 186 q (cI C9 186 q + 1)) 145 65 (cI (uI C9 186 q (cI C9 186 q + 1)) 145 65 + 1)) = cP C := H1.1
    have dJ : cJ (uI (uI C9 186 q (cI C9 186 q + 1)) 145 65 (cI (uI C9 186 q (cI C9 186 q + 1)) 145 65 + 1)) = cJ C := H1.2.1
    generalize uI (uI C9 186 q (cI C9 186 q + 1)) 145 65 (cI (uI C9 186 q (cI C9 186 q + 1)) 145 65 + 1) = D at d145 d65 dO d186 dP dJ
    -- the table's cells
    have t180 : ∀ j, cI D 180 j = if 30 + 4 * q ≤ j ∧ j < 30 + 4 * q + 4 then (if (decide (wh ≠ 1) && bt (cI C 145 76) (j - (30 + 4 * q))) = true then cI C 187 (j - (30 + 4 * q)) else if wh = 2 then 0 else cI C 180 j) else if j = q then (if wh = 1 then 0 else 1) else cI C 180 j := fun j => by
      rw [dO 180 (by decide) (by decide), H2 j, a180 j, Nat.add_zero]
      by_cases z : 30 + 4 * q ≤ j ∧ j < 30 + 4 * q + 4
      · rw [if_pos z, if_pos z, if_neg (show ¬ j = q by omega)]
      · rw [if_neg z, if_neg z]
    have t184 : ∀ j, cI D 184 j = if 4 * w ≤ j ∧ j < 4 * w + 4 then (if (decide (wh ≠ 1) && bt (cI C 145 76) (j - 4 * w)) = true then cI C 187 (j - 4 * w) else 0) else cI C 184 j := fun j => by
      rw [dO 184 (by decide) (by decide), H3 j, a184]; rfl
    have B : ∀ c, c < 4 → (decide (wh ≠ 1) && bt (cI C 145 76) c) = (decide (c < sCols S) && (valsS t pl c).isSome) := fun c hc => by
      rcases bcs (goneS t pl) with b | b
      · have : ¬ wh = 1 := fun z => by rw [w1.mp z] at b; cases b
        rw [hM.1 c hc]
        simp [this]
      · have e1 : wh = 1 := w1.mpr b
        have e2 : valsS t pl c = none := by rw [valsS, if_neg (by rw [gN b]; decide)]; exact tCh1 k5 (gC b) c
        simp [e1, e2]
    rw [eW]
    refine rt_ret ⟨⟨⟨fun p hp3 => ?_, fun p hp3 tp c hc => ?_⟩, fun p hp3 tp c hc1 hc2 => ?_, ?_, ?_, ?_, ?_, fun p hp3 => ?_, fun j hj => ?_⟩, ⟨dP, dJ, fun b hb => ?_, fun f hf => d145 f (by omega)⟩, d145 76 (by decide), d145 80 (by decide), fun b hb => ?_⟩
    · rw [Nat.zero_add, t180 p, if_neg (by omega)]
      have fp := f1.1 p hp3
      rw [Nat.zero_add] at fp
      show _ = if (sPut (rT r) t pl q mk).1 p = true then 1 else 0
      unfold sPut
      by_cases b : isNewS t pl = true
      · have w1' : ¬ wh = 1 := fun z => by have := gN (w1.mp z); rw [b] at this; cases this
        rw [if_pos b]
        unfold va_up
        by_cases e : p = q
        · simp [e, w1']
        · simp only [↓reduceIte, e, if_false]; exact fp
      · rw [if_neg b]
        have b' : isNewS t pl = false := by simpa using b
        by_cases d : tCh t = 1
        · have w1' : wh = 1 := w1.mpr (by rw [ge, b', d]; rfl)
          rw [if_pos d]
          unfold va_up
          by_cases e : p = q
          · simp [e, w1']
          · simp only [↓reduceIte, e, if_false]; exact fp
        · have w1' : ¬ wh = 1 := fun z => d (gC (w1.mp z))
          rw [if_neg d]
          unfold va_up
          by_cases e : p = q
          · simp [e, w1']
          · simp only [↓reduceIte, e, if_false]; exact fp
    · have tp : (sPut (rT r) t pl q mk).1 p = true := tp
      show cI D 180 (0 + 30 + 4 * p + c) = (sPut (rT r) t pl q mk).2 p c
      rw [show 0 + 30 + 4 * p + c = 30 + 4 * p + c from by omega]
      by_cases e : p = q
      · subst e
        rw [t180, if_pos (by omega), show 30 + 4 * p + c - (30 + 4 * p) = c from by omega, B c (by omega)]
        unfold sPut at tp ⊢
        by_cases b : isNewS t pl = true
        · have v1 : (valsS t pl c).isSome = true := by rw [valsS, if_pos b]; exact hnew b c hc
          rw [if_pos b] at tp ⊢
          simp only [↓reduceIte, hc, v1, decide_true, Bool.and_self, if_true, va_up]
          exact hM.2 c hc v1
        · rw [if_neg b] at tp ⊢
          have b' : isNewS t pl = false := by simpa using b
          by_cases d : tCh t = 1
          · rw [if_pos d] at tp
            simp [va_up] at tp
          · rw [if_neg d] at tp ⊢
            have w2' : ¬ wh = 2 := fun z => b (w2.mp z)
            have ev : valsS t pl c = tSet t c := by rw [valsS, if_neg b]
            have hq2 : pl = some p := by rw [sAt, if_neg b] at hq; exact hq
            have old := f1.2 p hp3 (hh p hq2 b') c hc
            rw [show 0 + 30 + 4 * p + c = 30 + 4 * p + c from by omega] at old
            simp only [↓reduceIte, va_up, if_true, hc, decide_true, Bool.true_and, ev, w2', if_false, old]
            by_cases v1 : (tSet t c).isSome = true
            · simp only [↓reduceIte, v1, if_true]
              exact hM.2 c hc (by rw [ev]; exact v1)
            · simp [v1]
      · rw [t180, if_neg (by omega), if_neg (by omega)]
        have tp2 : (rT r).1 p = true := by
          unfold sPut at tp
          split at tp
          · simpa [va_up, e] using tp
          · split at tp
            · simpa [va_up, e] using tp
            · simpa [va_up, e] using tp
        have old := f1.2 p hp3 tp2 c hc
        rw [show 0 + 30 + 4 * p + c = 30 + 4 * p + c from by omega] at old
        rw [old]
        unfold sPut
        split
        · simp [va_up, e]
        · split
          · rfl
          · simp [va_up, e]
    · have tp : (sPut (rT r) t pl q mk).1 p = true := tp
      rw [show 0 + 30 + 4 * p + c = 30 + 4 * p + c from by omega]
      by_cases e : p = q
      · subst e
        rw [t180, if_pos (by omega), show 30 + 4 * p + c - (30 + 4 * p) = c from by omega, B c hc2]
        have nc : ¬ c < sCols S := by omega
        simp only [↓reduceIte, nc, decide_false, Bool.false_and, Bool.false_eq_true, if_false]
        by_cases b : isNewS t pl = true
        · rw [if_pos (w2.mpr b)]
        · have b' : isNewS t pl = false := by simpa using b
          rw [if_neg (fun z => b (w2.mp z))]
          have hq2 : pl = some p := by rw [sAt, if_neg b] at hq; exact hq
          have old := f2 p hp3 (hh p hq2 b') c hc1 hc2
          rw [show 0 + 30 + 4 * p + c = 30 + 4 * p + c from by omega] at old
          exact old
      · rw [t180, if_neg (by omega), if_neg (by omega)]
        have tp2 : (rT r).1 p = true := by
          unfold sPut at tp
          split at tp
          · simpa [va_up, e] using tp
          · split at tp
            · simpa [va_up, e] using tp
            · simpa [va_up, e] using tp
        have old := f2 p hp3 tp2 c hc1 hc2
        rw [show 0 + 30 + 4 * p + c = 30 + 4 * p + c from by omega] at old
        exact old
    · rw [d65]
      show _ = nI (rL r ++ [(pl, q, mk)]).length
      simp [hw9]
    · rw [d145 66 (by decide), f4]
      exact hE.symm
    · rw [d145 67 (by decide)]; exact f5
    · rw [d145 68 (by decide)]; exact f6
    · rw [d186 p]
      show _ = nI (va_up (rC r) q (rC r q + 1) p)
      unfold va_up
      by_cases e : p = q
      · simp only [↓reduceIte, e, if_true]; rw [f7 q q30, x_a1]
      · simp only [↓reduceIte, e, if_false]; exact f7 p hp3
    · have hj : j < (rL r ++ [(pl, q, mk)]).length := hj
      show LgM D S t j (rL r ++ [(pl, q, mk)])[j]
      by_cases e : j < w
      · have e' : j < (rL r).length := by omega
        rw [List.getElem_append_left e']
        obtain ⟨g1, g2, g3, g4⟩ := f8 j e'
        refine ⟨?_, ?_, fun c hc => ?_, fun c hc => ?_⟩
        · rw [dO 182 (by decide) (by decide), H1.2.2 182 (by decide) (by decide), a182, if_neg (by omega)]; exact g1
        · rw [dO 183 (by decide) (by decide), H1.2.2 183 (by decide) (by decide), a183, if_neg (by omega)]; exact g2
        · rw [dO 185 (by decide) (by decide), H1.2.2 185 (by decide) (by decide), a185, if_neg (by omega)]; exact g3 c hc
        · rw [t184, if_neg (by omega)]; exact g4 c hc
      · have ej : j = w := by
          simp only [List.length_append, List.length_cons, List.length_nil] at hj
          omega
        have e' : (rL r).length ≤ j := by omega
        rw [List.getElem_append_right e']
        have e2 : j - (rL r).length = 0 := by omega
        simp only [e2, List.getElem_cons_zero]
        subst ej
        refine ⟨?_, ?_, fun c hc => ?_, fun c hc => ?_⟩
        · rw [dO 182 (by decide) (by decide), H1.2.2 182 (by decide) (by decide), a182, if_pos rfl]
        · rw [dO 183 (by decide) (by decide), H1.2.2 183 (by decide) (by decide), a183, if_pos rfl, hwh]
          rcases bcs (goneS t pl) with b | b
          · rcases bcs (isNewS t pl) with c | c <;> simp [b, c] <;> rfl
          · simp [b]; rfl
        · rw [dO 185 (by decide) (by decide), H1.2.2 185 (by decide) (by decide), a185, if_pos rfl, ← B c hc]
          by_cases e1 : wh = 1
          · simp [e1, b_0]
          · simp [e1]
        · rw [t184, if_pos (by omega), show 4 * j + c - 4 * j = c from by omega, B c hc]
          by_cases v : (decide (c < sCols S) && (valsS t pl c).isSome) = true
          · rw [if_pos v, if_pos v]
            simp only [Bool.and_eq_true, decide_eq_true_eq] at v
            exact hM.2 c v.1 v.2
          · rw [if_neg v, if_neg v]
    · have : ¬ b = 145 ∧ ¬ b = 180 ∧ ¬ (182 ≤ b ∧ b ≤ 190) := by unfold MX at hb; omega
      rw [dO b (by omega) (by omega), H1.2.2 b (by omega) (by omega), ao b (by omega) (by omega) (by omega) (by omega)]
    · rw [dO b (by omega) (by omega), H1.2.2 b (by omega) (by omega), ao b (by omega) (by omega) (by omega) (by omega)]
  have fail : ∀ e : Int32, sWrite t pl mk r = rEnd r e (-1) (-1) → Rt (some ((), uI C 145 66 e)) (fun _ C' => MrF C' S t (sWrite t pl mk r) ∧ FrM 65 C C' ∧ cI C' 145 76 = cI C 145 76 ∧ cI C' 145 80 = cI C 145 80 ∧ ∀ b, 187 ≤ b → cI C' b = cI C b) := by
    intro e he
    rw [he]
    have d : ∀ f, ¬ f = 66 → cI (uI C 145 66 e) 145 f = cI C 145 f := fun f hf => by rw [r_I, if_neg (by omega)]
    have dO : ∀ b, ¬ b = 145 → cI (uI C 145 66 e) b = cI C b := fun b hb => r_In hb
    refine rt_ret ⟨⟨f1.of (dO 180 (by decide)), ?_, by rw [d 65 (by decide)]; exact f3, by rw [r_I, if_pos ⟨rfl, rfl⟩]; rfl, by rw [d 67 (by decide), f5, hr1]; rfl, by rw [d 68 (by decide), f6, hr2]; rfl, fun p hp => by rw [dO 186 (by decide)]; exact f7 p hp, fun i hi => ?_⟩, ⟨rfl, rfl, fun b hb => dO b (by unfold MX at hb; omega), fun f hf => d f (by omega)⟩, d 76 (by decide), d 80 (by decide), fun b hb => dO b (by omega)⟩
    · unfold TabZ; rw [dO 180 (by decide)]; exact f2
    · unfold LgM
      rw [dO 182 (by decide), dO 183 (by decide), dO 184 (by decide), dO 185 (by decide)]
      exact f8 i hi
  have w3 : wh = 0 ∨ wh = 1 ∨ wh = 2 := by omega
  have e3 : cI (uI C 145 66 3) 145 66 = 3 := by rw [r_I, if_pos ⟨rfl, rfl⟩]
  have e4 : cI (uI C 145 66 4) 145 66 = 4 := by rw [r_I, if_pos ⟨rfl, rfl⟩]
  have ne3 : ¬ (3 : Int32) = 0 := by decide
  have ne4 : ¬ (4 : Int32) = 0 := by decide
  have full : ∀ q, sAt (rT r) t pl = some q → (rL r).length = 200 → sWrite t pl mk r = rEnd r 4 (-1) (-1) := fun q hq hl => by
    unfold sWrite
    rw [hq]
    dsimp only
    rw [if_pos (by omega)]
  have L200 : (nI (rL r).length = (200 : Int32)) ↔ (rL r).length = 200 := by rw [n_200, x_eq (by omega) (by omega)]
  have v145 : ∀ (a j : Nat) (v : Int32) (X : AmC) (f : Nat), ¬ a = 145 → cI (uI X a j v) 145 f = cI X 145 f := fun a j v X f z => by rw [r_In (fun w => z w.symm)]
  have x65 : ∀ f, cI C 145 f = cI C 145 f := fun _ => rfl
  clear x65
  unfold f_213
  by_cases b : isNewS t pl = true
  · have hw2 := w2.mpr b
    have e9 : sAt (rT r) t pl = sFree (rT r) := by rw [sAt, if_pos b]
    have w212 := m212 (n := n) hP f1 (by omega)
    subst hw2
    have n22 : (nI 2 = (2 : Int32)) = True := by decide
    have n21 : (nI 2 = (1 : Int32)) = False := by decide
    cases hf : sFree (rT r) with
    | none =>
      rw [hf] at w212
      have w212 : f_212 n 145 C = some (-1, C) := w212
      have F := fail 3 (by unfold sWrite; rw [e9, hf])
      simp only [↓reduceIte, if_true, if_false, Option.bind_some, k_145, n22, not_true, ↓bd1 w212, e3, ne3]
      exact F
    | some q =>
      rw [hf] at w212 e9
      have w212 : f_212 n 145 C = some (nI q, C) := w212
      have q30 := (sFree_some hf).1
      have em : ¬ nI q = (-1 : Int32) := by rw [x_eqm (by omega)]; exact id
      by_cases l2 : (rL r).length = 200
      · have F := fail 4 (full q e9 l2)
        have y : (nI (rL r).length = (200 : Int32)) = True := by rw [L200]; simp [l2]
        simp only [↓reduceIte, if_true, if_false, Option.bind_some, k_145, n22, not_true, not_false_iff, ↓bd1 w212, em, f3, y, e4, ne4]
        exact F
      · have T0 := tail q e9 (by omega)
        have y : (nI (rL r).length = (200 : Int32)) = False := by rw [L200]; simp [l2]
        have q150 : q < 150 := by omega
        have w200 : (rL r).length < 200 := by omega
        have n21' : ¬ (2 : Nat) = 1 := by decide
        simp only [↓reduceIte, wrH, n21', if_false] at T0
        simp (disch := omega) only [↓reduceIte, if_true, if_false, Option.bind_some, k_145, n22, n21, not_true, not_false_iff, ↓bd1 w212, em, f3, y, f4, ↓bd1 (w_145_57 hP), k_180, l_180, ↓bd1 (w_145_70 hP), k_182, l_182, ↓bd1 (w_145_71 hP), k_183, l_183, ↓bd1 (w_145_73 hP), k_185, l_185, ↓bp_I, v145, x_in, x_cl, q150, w200]
        exact T0
  · have b' : isNewS t pl = false := by simpa using b
    have e9 : sAt (rT r) t pl = pl := by rw [sAt, if_neg b]
    have hw2 : ¬ wh = 2 := fun z => b (w2.mp z)
    cases hpl : pl with
    | none => rw [hpl] at b'; simp [isNewS] at b'
    | some p =>
      have hq : sAt (rT r) t pl = some p := by rw [e9, hpl]
      have hp3 := hp p hpl
      have em : ¬ nI p = (-1 : Int32) := by rw [x_eqm (by omega)]; exact id
      rw [← hpl]
      have eo : oI pl = nI p := by rw [hpl]; rfl
      rw [eo]
      have n22 : (nI wh = (2 : Int32)) = False := by rw [n_2, x_eq (by omega) (by omega)]; simp [hw2]
      by_cases l2 : (rL r).length = 200
      · have F := fail 4 (full p hq l2)
        have y : (nI (rL r).length = (200 : Int32)) = True := by rw [L200]; simp [l2]
        simp only [↓reduceIte, if_true, if_false, Option.bind_some, k_145, n22, not_true, not_false_iff, em, f3, y, e4, ne4]
        exact F
      · have T0 := tail p hq (by omega)
        have y : (nI (rL r).length = (200 : Int32)) = False := by rw [L200]; simp [l2]
        have q150 : p < 150 := by omega
        have w200 : (rL r).length < 200 := by omega
        by_cases h1 : wh = 1
        · subst h1
          have n21 : (nI 1 = (1 : Int32)) = True := by decide
          simp only [↓reduceIte, wrH, if_true] at T0
          simp (disch := omega) only [↓reduceIte, if_true, if_false, Option.bind_some, k_145, n22, n21, not_true, not_false_iff, em, f3, y, f4, ↓bd1 (w_145_57 hP), k_180, l_180, ↓bd1 (w_145_70 hP), k_182, l_182, ↓bd1 (w_145_71 hP), k_183, l_183, ↓bd1 (w_145_73 hP), k_185, l_185, ↓bp_I, v145, x_in, x_cl, q150, w200]
          exact T0
        · have n21 : (nI wh = (1 : Int32)) = False := by rw [x_eq1 (by omega)]; simp [h1]
          simp only [↓reduceIte, wrH, h1, if_false] at T0
          simp (disch := omega) only [↓reduceIte, if_true, if_false, Option.bind_some, k_145, n22, n21, not_true, not_false_iff, em, f3, y, f4, ↓bd1 (w_145_57 hP), k_180, l_180, ↓bd1 (w_145_70 hP), k_182, l_182, ↓bd1 (w_145_71 hP), k_183, l_183, ↓bd1 (w_145_73 hP), k_185, l_185, ↓bp_I, v145, x_in, x_cl, q150, w200]
          exact T0
