/-! Rows that are alike in an index, by the class. -/
theorem ix_lt {S : Scr} (hO : ScrOK S) {i : Nat} (hi : i < (sIdx S).length) : ix1 S i < sCols S ∧ ∀ c, ix2 S i = some c → c < sCols S ∧ c ≠ ix1 S i := by
  have h := hO.2.2.2.1 ((sIdx S)[i]) (List.getElem_mem hi)
  unfold ix1 ix2
  rw [show (sIdx S).getD i (0, none) = (sIdx S)[i] from by simp [List.getD, hi]]
  exact h
theorem c104 {n : Nat} {C : AmC} {s r p q i : Nat} {S : Scr} {T : Tab} (h : ScK C s) (hS : ScrC C s S) (hO : ScrOK S) (hr : RwK C r) (hT : TabC (sCols S) C r T) (hp : p < 30) (hq : q < 30) (tp : T.1 p = true) (tq : T.1 q = true) (hi : i < (sIdx S).length) : f_104 n s r (nI p) (nI q) (nI i) C = some (if kEq S T i p q = true then 1 else 0, C) := by
  have hl := hO.2.2.1
  have h4 := hO.2.1
  obtain ⟨g1, g2⟩ := ix_lt hO hi
  unfold f_104
  have e1 : tg T p (ix1 S i) = T.2 p (ix1 S i) := by simp [tg, tp]
  have e2 : tg T q (ix1 S i) = T.2 q (ix1 S i) := by simp [tg, tq]
  simp (disch := omega) only [↓reduceIte, h.k, if_true, c93 h hS hO, c94 h hS hO, hi, Option.bind_some, hr.1, rg_eq hr hT hp g1 h4, rg_eq hr hT hq g1 h4, e1, e2]
  unfold kEq
  by_cases c : T.2 p (ix1 S i) = T.2 q (ix1 S i)
  · cases hx : ix2 S i with
    | none => simp [c, oI_n, oI_s]
    | some d =>
      have hd := (g2 d hx).1
      have e3 : tg T p d = T.2 p d := by simp [tg, tp]
      have e4 : tg T q d = T.2 q d := by simp [tg, tq]
      simp (disch := omega) only [oI_n, oI_s, x_eqm, rg_eq hr hT hp hd h4, rg_eq hr hT hq hd h4, Option.bind_some, e3, e4]
      by_cases c2 : T.2 p d = T.2 q d <;> simp [c, c2]
  · simp [c]
theorem c105_in {C : AmC} {s r p i : Nat} {S : Scr} {T : Tab} (h : ScK C s) (hS : ScrC C s S) (hO : ScrOK S) (hr : RwK C r) (hT : TabC (sCols S) C r T) (hp : p < 30) (tp : T.1 p = true) (hi : i < (sIdx S).length) : ∀ k j n, j + k = 30 → k < n → lp_105_14 n s r (nI i) (nI p) (nI j) C = some (match qf (fun q => T.1 q && kEq S T i p q) k j with
    | some q => .inl (nI p, nI q)
    | none => .inr (s, r, nI i, nI p), C) := by
  have hl := hO.2.2.1
  intro k
  induction k with
  | zero =>
    intro j n h1 h2
    obtain ⟨n, rfl⟩ : ∃ m, n = m + 1 := ⟨n - 1, by omega⟩
    have h3 : 30 ≤ j := by omega
    simp (disch := omega) only [lp_105_14, ↓reduceIte, n_2, n_3, n_4, n_5, n_6, n_7, n_8, n_10, n_12, n_20, n_30, n_40, n_100, n_120, n_150, n_200, n_230, n_320, n_450, n_900, x_le, x_lt, x_eq, x_lt0, x_le0, x_0le, x_0lt, x_eq0, x_eq1, x_1lt, x_le1, x_lt1, x_1le, x_eqm, x_add, x_a1, x_1a, x_a0, x_0a, x_mul, x_sub, x_s1, x_1s, x_div, x_cl, x_cl0, x_cl1, x_in, x_in0, x_in1, x_ofNat, h3, if_true, qf]
  | succ k ih =>
    intro j n h1 h2
    obtain ⟨n, rfl⟩ : ∃ m, n = m + 1 := ⟨n - 1, by omega⟩
    have h3 : ¬ 30 ≤ j := by omega
    have hj : j < 30 := by omega
    have ih1 := ih (j + 1) n (by omega) (by omega)
    simp (disch := omega) only [lp_105_14, ↓reduceIte, n_2, n_3, n_4, n_5, n_6, n_7, n_8, n_10, n_12, n_20, n_30, n_40, n_100, n_120, n_150, n_200, n_230, n_320, n_450, n_900, x_le, x_lt, x_eq, x_lt0, x_le0, x_0le, x_0lt, x_eq0, x_eq1, x_1lt, x_le1, x_lt1, x_1le, x_eqm, x_add, x_a1, x_1a, x_a0, x_0a, x_mul, x_sub, x_s1, x_1s, x_div, x_cl, x_cl0, x_cl1, x_in, x_in0, x_in1, x_ofNat, h3, if_false, hr.1, if_true, rh_eq hr hT hj, Option.bind_some, ite10, qf, h.k]
    rcases bcs (T.1 j) with tj | tj
    · simpa [tj] using ih1
    · simp (disch := omega) only [tj, Bool.true_eq_false, ↓reduceIte, c104 h hS hO hr hT hp hj tp tj hi, Option.bind_some, ite10, Bool.true_and]
      rcases bcs (kEq S T i p j) with tk | tk
      · simpa [tk] using ih1
      · simp [tk]
def twI (o : Option (Nat × Nat)) : Int32 := match o with
  | some (p, q) => nI (100 * p + q)
  | none => -1
theorem c105_lp {C : AmC} {s r i : Nat} {S : Scr} {T : Tab} (h : ScK C s) (hS : ScrC C s S) (hO : ScrOK S) (hr : RwK C r) (hT : TabC (sCols S) C r T) (hi : i < (sIdx S).length) : ∀ k j n, j + k = 30 → k + 32 < n → lp_105_2 n s r (nI i) (nI j) C = some (match (qf (fun p => T.1 p && (twQ 30 S T i p).isSome) k j).bind (fun p => (twQ 30 S T i p).map (fun q => (p, q))) with
    | some (p, q) => .inl (nI p, nI q)
    | none => .inr (), C) := by
  have hl := hO.2.2.1
  intro k
  induction k with
  | zero =>
    intro j n h1 h2
    obtain ⟨n, rfl⟩ : ∃ m, n = m + 1 := ⟨n - 1, by omega⟩
    have h3 : 30 ≤ j := by omega
    simp (disch := omega) only [lp_105_2, ↓reduceIte, n_2, n_3, n_4, n_5, n_6, n_7, n_8, n_10, n_12, n_20, n_30, n_40, n_100, n_120, n_150, n_200, n_230, n_320, n_450, n_900, x_le, x_lt, x_eq, x_lt0, x_le0, x_0le, x_0lt, x_eq0, x_eq1, x_1lt, x_le1, x_lt1, x_1le, x_eqm, x_add, x_a1, x_1a, x_a0, x_0a, x_mul, x_sub, x_s1, x_1s, x_div, x_cl, x_cl0, x_cl1, x_in, x_in0, x_in1, x_ofNat, h3, if_true, qf, Option.bind_none]
  | succ k ih =>
    intro j n h1 h2
    obtain ⟨n, rfl⟩ : ∃ m, n = m + 1 := ⟨n - 1, by omega⟩
    have h3 : ¬ 30 ≤ j := by omega
    have hj : j < 30 := by omega
    have ih1 := ih (j + 1) n (by omega) (by omega)
    simp (disch := omega) only [lp_105_2, ↓reduceIte, n_2, n_3, n_4, n_5, n_6, n_7, n_8, n_10, n_12, n_20, n_30, n_40, n_100, n_120, n_150, n_200, n_230, n_320, n_450, n_900, x_le, x_lt, x_eq, x_lt0, x_le0, x_0le, x_0lt, x_eq0, x_eq1, x_1lt, x_le1, x_lt1, x_1le, x_eqm, x_add, x_a1, x_1a, x_a0, x_0a, x_mul, x_sub, x_s1, x_1s, x_div, x_cl, x_cl0, x_cl1, x_in, x_in0, x_in1, x_ofNat, h3, if_false, hr.1, if_true, rh_eq hr hT hj, Option.bind_some, ite10, qf]
    rcases bcs (T.1 j) with tj | tj
    · simpa [tj] using ih1
    · have L := c105_in h hS hO hr hT hj tj hi (30 - (j + 1)) (j + 1) n (by omega) (by omega)
      have e : twQ 30 S T i j = qf (fun q => T.1 q && kEq S T i j q) (30 - (j + 1)) (j + 1) := rfl
      rw [← e] at L
      simp only [↓reduceIte, tj, Bool.true_eq_false, not_false_iff, if_true, L, Bool.true_and]
      cases ht : twQ 30 S T i j with
      | none => simpa [ht, x_a1] using ih1
      | some q => simp [ht]
theorem twQ_some {N : Nat} {S : Scr} {T : Tab} {i p q : Nat} (h : twQ N S T i p = some q) : p < q ∧ q < N ∧ T.1 q = true ∧ kEq S T i p q = true := by
  obtain ⟨h1, h2, h3, _⟩ := qf_some h
  simp only [Bool.and_eq_true] at h3
  refine ⟨by omega, ?_, h3.1, h3.2⟩
  by_cases hp : p + 1 ≤ N
  · omega
  · omega
theorem sTwin_some {N : Nat} {S : Scr} {T : Tab} {i p q : Nat} (h : sTwin N S T i = some (p, q)) : p < q ∧ q < N ∧ T.1 p = true ∧ T.1 q = true ∧ kEq S T i p q = true := by
  unfold sTwin at h
  cases hp : twP N S T i with
  | none => rw [hp] at h; cases h
  | some p' =>
    rw [hp] at h
    simp only [Option.bind_some, Option.map_eq_some_iff] at h
    obtain ⟨q', hq, e⟩ := h
    cases e
    obtain ⟨_, _, h3, _⟩ := qf_some hp
    simp only [Bool.and_eq_true] at h3
    obtain ⟨g1, g2, g3, g4⟩ := twQ_some hq
    exact ⟨g1, g2, h3.1, g3, g4⟩
theorem c105 {n : Nat} {C : AmC} {s r i : Nat} {S : Scr} {T : Tab} (h : ScK C s) (hS : ScrC C s S) (hO : ScrOK S) (hr : RwK C r) (hT : TabC (sCols S) C r T) (hi : i < (sIdx S).length) (hn : 70 ≤ n) : f_105 n s r (nI i) C = some (twI (sTwin 30 S T i), C) := by
  unfold f_105
  have L := c105_lp h hS hO hr hT hi 30 0 n rfl (by omega)
  rw [x_0] at L
  rw [L]
  unfold sTwin twP
  cases (qf (fun p => T.1 p && (twQ 30 S T i p).isSome) 30 0).bind (fun p => (twQ 30 S T i p).map (fun q => (p, q))) with
  | none => rfl
  | some z =>
    obtain ⟨p, q⟩ := z
    simp only [Option.bind_some, ↓reduceIte, n_2, n_3, n_4, n_5, n_6, n_7, n_8, n_10, n_12, n_20, n_30, n_40, n_100, n_120, n_150, n_200, n_230, n_320, n_450, n_900, x_le, x_lt, x_eq, x_lt0, x_le0, x_0le, x_0lt, x_eq0, x_eq1, x_1lt, x_le1, x_lt1, x_1le, x_eqm, x_add, x_a1, x_1a, x_a0, x_0a, x_mul, x_sub, x_s1, x_1s, x_div, x_cl, x_cl0, x_cl1, x_in, x_in0, x_in1, x_ofNat, twI]
theorem c107_lp {C : AmC} {s r : Nat} {S : Scr} {T : Tab} (h : ScK C s) (hS : ScrC C s S) (hO : ScrOK S) (hr : RwK C r) (hT : TabC (sCols S) C r T) : ∀ k j n, j + k = (sIdx S).length → k + 70 < n → lp_107_2 n s r (nI j) C = some (match qf (fun i => bt (sKeys S) i && (sTwin 30 S T i).isSome) k j with
    | some i => .inl (nI i)
    | none => .inr (), C) := by
  have hl := hO.2.2.1
  intro k
  induction k with
  | zero =>
    intro j n h1 h2
    obtain ⟨n, rfl⟩ : ∃ m, n = m + 1 := ⟨n - 1, by omega⟩
    have h3 : (sIdx S).length ≤ j := by omega
    simp (disch := omega) only [↓reduceIte, lp_107_2, h.k, hS.2.1, x_le, h3, if_true, qf]
  | succ k ih =>
    intro j n h1 h2
    obtain ⟨n, rfl⟩ : ∃ m, n = m + 1 := ⟨n - 1, by omega⟩
    have h3 : ¬ (sIdx S).length ≤ j := by omega
    have hj : j < (sIdx S).length := by omega
    have ih1 := ih (j + 1) n (by omega) (by omega)
    simp (disch := omega) only [lp_107_2, h.k, hS.2.1, x_le, h3, if_false, if_true, hS.2.2.2.1, bt_us, ite11, qf, ↓reduceIte, n_2, n_3, n_4, n_5, n_6, n_7, n_8, n_10, n_12, n_20, n_30, n_40, n_100, n_120, n_150, n_200, n_230, n_320, n_450, n_900, x_lt, x_eq, x_lt0, x_le0, x_0le, x_0lt, x_eq0, x_eq1, x_1lt, x_le1, x_lt1, x_1le, x_eqm, x_add, x_a1, x_1a, x_a0, x_0a, x_mul, x_sub, x_s1, x_1s, x_div, x_cl, x_cl0, x_cl1, x_in, x_in0, x_in1, x_ofNat]
    rcases bcs (bt (sKeys S) j) with tj | tj
    · simpa [tj] using ih1
    · simp (disch := omega) only [↓reduceIte, tj, not_true, if_false, c105 h hS hO hr hT hj, Option.bind_some, Bool.true_and]
      cases ht : sTwin 30 S T j with
      | none => simpa [twI] using ih1
      | some z =>
        obtain ⟨p, q⟩ := z
        obtain ⟨g1, g2, _⟩ := sTwin_some ht
        have e : ¬ twI (some (p, q)) = -1 := by
          simp only [twI]
          rw [x_eqm (by omega)]
          exact id
        rw [if_neg e]
        simp
theorem c107 {n : Nat} {C : AmC} {s r : Nat} {S : Scr} {T : Tab} (h : ScK C s) (hS : ScrC C s S) (hO : ScrOK S) (hr : RwK C r) (hT : TabC (sCols S) C r T) (hn : 80 ≤ n) : f_107 n s r C = some (oI (sClash 30 S T), C) := by
  unfold f_107
  have hl := hO.2.2.1
  have L := c107_lp h hS hO hr hT (sIdx S).length 0 n (by omega) (by omega)
  rw [x_0] at L
  rw [L]
  unfold sClash
  cases qf (fun i => bt (sKeys S) i && (sTwin 30 S T i).isSome) (sIdx S).length 0 <;> rfl
theorem c106_in {C : AmC} {s r p q : Nat} {S : Scr} {T : Tab} (h : ScK C s) (hS : ScrC C s S) (hO : ScrOK S) (hr : RwK C r) (hT : TabC (sCols S) C r T) (hp : p < 30) (tp : T.1 p = true) (hq : q < 30) : ∀ k j n, j + k = (sIdx S).length → k < n → lp_106_11 n s r (nI p) (nI q) (nI j) C = some (if (T.1 q && decide (q ≠ p) && (qf (fun i => bt (sKeys S) i && kEq S T i p q) k j).isSome) = true then .inl () else .inr (s, r, nI p, nI q), C) := by
  have hl := hO.2.2.1
  intro k
  induction k with
  | zero =>
    intro j n h1 h2
    obtain ⟨n, rfl⟩ : ∃ m, n = m + 1 := ⟨n - 1, by omega⟩
    have h3 : (sIdx S).length ≤ j := by omega
    simp (disch := omega) only [↓reduceIte, lp_106_11, h.k, hS.2.1, x_le, h3, if_true, qf, Option.isSome_none, Bool.and_false, Bool.false_eq_true, if_false]
  | succ k ih =>
    intro j n h1 h2
    obtain ⟨n, rfl⟩ : ∃ m, n = m + 1 := ⟨n - 1, by omega⟩
    have h3 : ¬ (sIdx S).length ≤ j := by omega
    have hj : j < (sIdx S).length := by omega
    have ih1 := ih (j + 1) n (by omega) (by omega)
    simp (disch := omega) only [lp_106_11, h.k, hS.2.1, x_le, h3, if_false, if_true, hS.2.2.2.1, bt_us, ite11, qf, ↓reduceIte, n_2, n_3, n_4, n_5, n_6, n_7, n_8, n_10, n_12, n_20, n_30, n_40, n_100, n_120, n_150, n_200, n_230, n_320, n_450, n_900, x_lt, x_eq, x_lt0, x_le0, x_0le, x_0lt, x_eq0, x_eq1, x_1lt, x_le1, x_lt1, x_1le, x_eqm, x_add, x_a1, x_1a, x_a0, x_0a, x_mul, x_sub, x_s1, x_1s, x_div, x_cl, x_cl0, x_cl1, x_in, x_in0, x_in1, x_ofNat, hr.1, rh_eq hr hT hq, Option.bind_some, ite10]
    cases tq : T.1 q with
    | false => simp
    | true =>
      by_cases e : q = p
      · simp [e]
      · simp only [↓reduceIte, e, if_false, Bool.true_eq_false]
        rw [tq] at ih1
        rcases bcs (bt (sKeys S) j) with tj | tj
        · simpa [e, tj] using ih1
        · simp (disch := omega) only [↓reduceIte, tj, not_true, if_false, c104 h hS hO hr hT hp hq tp tq hj, Option.bind_some, Bool.true_and, ite10]
          rcases bcs (kEq S T j p q) with tk | tk
          · simpa [e, tk] using ih1
          · simp [e, tk]
theorem c106_lp {C : AmC} {s r p : Nat} {S : Scr} {T : Tab} (h : ScK C s) (hS : ScrC C s S) (hO : ScrOK S) (hr : RwK C r) (hT : TabC (sCols S) C r T) (hp : p < 30) (tp : T.1 p = true) : ∀ k j n, j + k = 30 → k + 10 < n → lp_106_2 n s r (nI p) (nI j) C = some (if (qf (fun q => T.1 q && decide (q ≠ p) && (qf (fun i => bt (sKeys S) i && kEq S T i p q) (sIdx S).length 0).isSome) k j).isSome = true then .inl () else .inr (), C) := by
  have hl := hO.2.2.1
  intro k
  induction k with
  | zero =>
    intro j n h1 h2
    obtain ⟨n, rfl⟩ : ∃ m, n = m + 1 := ⟨n - 1, by omega⟩
    have h3 : 30 ≤ j := by omega
    simp (disch := omega) only [lp_106_2, ↓reduceIte, n_2, n_3, n_4, n_5, n_6, n_7, n_8, n_10, n_12, n_20, n_30, n_40, n_100, n_120, n_150, n_200, n_230, n_320, n_450, n_900, x_le, x_lt, x_eq, x_lt0, x_le0, x_0le, x_0lt, x_eq0, x_eq1, x_1lt, x_le1, x_lt1, x_1le, x_eqm, x_add, x_a1, x_1a, x_a0, x_0a, x_mul, x_sub, x_s1, x_1s, x_div, x_cl, x_cl0, x_cl1, x_in, x_in0, x_in1, x_ofNat, h3, if_true, qf, Option.isSome_none, Bool.false_eq_true, if_false]
  | succ k ih =>
    intro j n h1 h2
    obtain ⟨n, rfl⟩ : ∃ m, n = m + 1 := ⟨n - 1, by omega⟩
    have h3 : ¬ 30 ≤ j := by omega
    have hj : j < 30 := by omega
    have ih1 := ih (j + 1) n (by omega) (by omega)
    have L := c106_in h hS hO hr hT hp tp hj (sIdx S).length 0 n (by omega) (by omega)
    rw [x_0] at L
    simp (disch := omega) only [lp_106_2, ↓reduceIte, n_2, n_3, n_4, n_5, n_6, n_7, n_8, n_10, n_12, n_20, n_30, n_40, n_100, n_120, n_150, n_200, n_230, n_320, n_450, n_900, x_le, x_lt, x_eq, x_lt0, x_le0, x_0le, x_0lt, x_eq0, x_eq1, x_1lt, x_le1, x_lt1, x_1le, x_eqm, x_add, x_a1, x_1a, x_a0, x_0a, x_mul, x_sub, x_s1, x_1s, x_div, x_cl, x_cl0, x_cl1, x_in, x_in0, x_in1, x_ofNat, h3, if_false, hr.1, if_true, rh_eq hr hT hp, tp, Option.bind_some, ite10, qf, L, Bool.true_eq_false]
    rcases bcs (T.1 j && decide (j ≠ p) && (qf (fun i => bt (sKeys S) i && kEq S T i p j) (sIdx S).length 0).isSome) with tj | tj
    · simp only [↓reduceIte, tj, Bool.false_eq_true, if_false, Option.bind_some, x_a1]
      exact ih1
    · simp only [↓reduceIte, tj, if_true, Option.bind_some, Option.isSome_some]
      rfl
theorem c106 {n : Nat} {C : AmC} {s r p : Nat} {S : Scr} {T : Tab} (h : ScK C s) (hS : ScrC C s S) (hO : ScrOK S) (hr : RwK C r) (hT : TabC (sCols S) C r T) (hp : p < 30) (hn : 50 ≤ n) : f_106 n s r (nI p) C = some (if sHasTwin 30 S T p = true then 1 else 0, C) := by
  unfold f_106 sHasTwin
  cases tp : T.1 p with
  | false =>
    obtain ⟨n, rfl⟩ : ∃ m, n = m + 1 := ⟨n - 1, by omega⟩
    have e : ¬ (30 : Int32) ≤ 0 := by decide
    simp (disch := omega) only [↓reduceIte, lp_106_2, e, if_false, hr.1, if_true, rh_eq hr hT hp, tp, Option.bind_some, ite10]
    simp
  | true =>
    have L := c106_lp h hS hO hr hT hp tp 30 0 n rfl (by omega)
    rw [x_0] at L
    rw [L, Bool.true_and]
    cases (qf (fun q => T.1 q && decide (q ≠ p) && (qf (fun i => bt (sKeys S) i && kEq S T i p q) (sIdx S).length 0).isSome) 30 0).isSome <;> rfl
