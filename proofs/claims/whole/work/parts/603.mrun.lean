/-! The reference's run. -/
theorem m223_st {n : Nat} {C : AmC} {h i p o : Nat} {S : Scr} {T : Tab} {t : Stm} {fst : Int32} (hK : MK C h S i t) (hT : TabM 30 (sCols S) C 180 0 T) (h3 : tKd t = 3) (hp : p < 30) (tp : T.1 p = true) (ho : o < (sOth S).length) : lp_223_25 (n + 1) 145 (nI p) fst (nI o) C = if isMat S t o T p = true then (if ¬ fst = (-1 : Int32) then some (.inl (145, nI p, fst, nI o), C) else lp_223_25 n 145 (nI p) (nI o) (nI (o + 1)) C) else lp_223_25 n 145 (nI p) fst (nI (o + 1)) C := by
  have hK0 := hK
  obtain ⟨⟨hP, hh, hS, hO⟩, k2, k3, k4, k5⟩ := hK
  have hl := hO.2.2.2.2.2.1
  have hb := hS.1
  obtain ⟨k6, k7⟩ := k4.2.2.1 h3
  have b1 : ¬ (sOth S).length ≤ o := by omega
  have p150 : p < 150 := by omega
  have w180 := hT.1 p hp
  rw [Nat.zero_add, tp] at w180
  simp only [↓reduceIte, if_true] at w180
  have w206 := m206 (n := n) hK0.1 ho k5.2.2.2.2.1
  have w193 := m193 (n := n) hP hT hp tp k5.2.2.2.1 hO.2.1
  have own4 := k5.2.2.2.1
  have oth4 := k5.2.2.2.2.1
  have hcol := hO.2.1
  by_cases c : isMat S t o T p = true
  · have cq : T.2 p (tOwn t) = othN S o (tOth t) := by simpa [isMat] using c
    simp (disch := omega) only [↓reduceIte, lp_223_25, if_true, if_false, Option.bind_some, k_145, ↓bd1 (w_145_24 hP), k_162, l_162, hh, x_in, x_cl, hb, hS.2.2.2.2.2.1, x_le, b1, ↓bd1 (w_145_57 hP), k_180, l_180, p150, w180, not_true, ↓bd1 (w_145_35 hP), k_173, l_173, ↓bd1 (w_145_34 hP), k_172, l_172, k2, k3, k7, k6, w206, w193, cq, c, x_a1]
  · have cq : ¬ othN S o (tOth t) = T.2 p (tOwn t) := by
      have : ¬ T.2 p (tOwn t) = othN S o (tOth t) := by simpa [isMat] using c
      exact fun z => this z.symm
    simp (disch := omega) only [↓reduceIte, lp_223_25, if_true, if_false, Option.bind_some, k_145, ↓bd1 (w_145_24 hP), k_162, l_162, hh, x_in, x_cl, hb, hS.2.2.2.2.2.1, x_le, b1, ↓bd1 (w_145_57 hP), k_180, l_180, p150, w180, not_true, ↓bd1 (w_145_35 hP), k_173, l_173, ↓bd1 (w_145_34 hP), k_172, l_172, k2, k3, k7, k6, w206, w193, cq, c, x_a1, Bool.false_eq_true]
theorem m223_e {n : Nat} {C : AmC} {h i o : Nat} {S : Scr} {t : Stm} {p fst : Int32} (hK : MK C h S i t) (ho : (sOth S).length ≤ o) (ho2 : o < 100) : lp_223_25 (n + 1) 145 p fst (nI o) C = some (.inr (145, p), C) := by
  obtain ⟨⟨hP, hh, hS, hO⟩, k2, k3, k4, k5⟩ := hK
  have hl := hO.2.2.2.2.2.1
  have hb := hS.1
  simp (disch := omega) only [↓reduceIte, lp_223_25, if_true, if_false, Option.bind_some, k_145, ↓bd1 (w_145_24 hP), k_162, l_162, hh, x_in, x_cl, hb, hS.2.2.2.2.2.1, x_le, ho]
theorem m223_s {C : AmC} {h i p f : Nat} {S : Scr} {T : Tab} {t : Stm} (hK : MK C h S i t) (hT : TabM 30 (sCols S) C 180 0 T) (h3 : tKd t = 3) (hp : p < 30) (tp : T.1 p = true) (hf : f < 10) : ∀ k o n, o + k = (sOth S).length → k < n → lp_223_25 n 145 (nI p) (nI f) (nI o) C = some (match qf (fun o => isMat S t o T p) k o with
    | none => .inr (145, nI p)
    | some y => .inl (145, nI p, nI f, nI y), C) := by
  have hl := hK.1.2.2.2.2.2.2.2.2.1
  intro k
  induction k with
  | zero =>
    intro o n h1 h2
    obtain ⟨n, rfl⟩ : ∃ m, n = m + 1 := ⟨n - 1, by omega⟩
    rw [m223_e hK (by omega) (by omega)]
    rfl
  | succ k ih =>
    intro o n h1 h2
    obtain ⟨n, rfl⟩ : ∃ m, n = m + 1 := ⟨n - 1, by omega⟩
    have em : ¬ nI f = (-1 : Int32) := by rw [x_eqm (by omega)]; exact id
    rw [m223_st hK hT h3 hp tp (by omega)]
    by_cases c : isMat S t o T p = true
    · rw [if_pos c, if_pos em]
      have q0 : qf (fun o => isMat S t o T p) (k + 1) o = some o := by rw [qf, if_pos c]
      rw [q0]
    · rw [if_neg c]
      have q0 : qf (fun o => isMat S t o T p) (k + 1) o = qf (fun o => isMat S t o T p) k (o + 1) := by rw [qf, if_neg c]
      rw [q0]
      exact ih (o + 1) n (by omega) (by omega)
theorem m223_n {C : AmC} {h i p : Nat} {S : Scr} {T : Tab} {t : Stm} (hK : MK C h S i t) (hT : TabM 30 (sCols S) C 180 0 T) (h3 : tKd t = 3) (hp : p < 30) (tp : T.1 p = true) : ∀ k o n, o + k = (sOth S).length → k + 15 < n → lp_223_25 n 145 (nI p) (-1) (nI o) C = some (match (qf (fun o => isMat S t o T p) k o).bind (fun o => (qf (fun o' => isMat S t o' T p) ((sOth S).length - (o + 1)) (o + 1)).map (fun o' => (o, o'))) with
    | none => .inr (145, nI p)
    | some (a, b) => .inl (145, nI p, nI a, nI b), C) := by
  have hl := hK.1.2.2.2.2.2.2.2.2.1
  intro k
  induction k with
  | zero =>
    intro o n h1 h2
    obtain ⟨n, rfl⟩ : ∃ m, n = m + 1 := ⟨n - 1, by omega⟩
    rw [m223_e hK (by omega) (by omega)]
    rfl
  | succ k ih =>
    intro o n h1 h2
    obtain ⟨n, rfl⟩ : ∃ m, n = m + 1 := ⟨n - 1, by omega⟩
    rw [m223_st hK hT h3 hp tp (by omega)]
    by_cases c : isMat S t o T p = true
    · rw [if_pos c, if_neg (by simp), m223_s hK hT h3 hp tp (by omega) ((sOth S).length - (o + 1)) (o + 1) n (by omega) (by omega)]
      have q0 : qf (fun o => isMat S t o T p) (k + 1) o = some o := by rw [qf, if_pos c]
      rw [q0]
      simp only [Option.bind_some]
      cases qf (fun o' => isMat S t o' T p) ((sOth S).length - (o + 1)) (o + 1) <;> rfl
    · rw [if_neg c]
      have q0 : qf (fun o => isMat S t o T p) (k + 1) o = qf (fun o => isMat S t o T p) k (o + 1) := by rw [qf, if_neg c]
      rw [q0]
      exact ih (o + 1) n (by omega) (by omega)
theorem m223_o {C : AmC} {h i : Nat} {S : Scr} {T : Tab} {t : Stm} (hK : MK C h S i t) (hT : TabM 30 (sCols S) C 180 0 T) (h3 : tKd t = 3) : ∀ k p n, p + k = 30 → k + 40 < n → lp_223_18 n 145 (nI p) C = some (match (qf (fun p => T.1 p && (sDbl S t T p).isSome) k p).bind (fun q => (sDbl S t T q).map (fun z => (q, z))) with
    | none => .inr ()
    | some (q, a, b) => .inl (145, nI q, nI a, nI b), C) := by
  have hl := hK.1.2.2.2.2.2.2.2.2.1
  have hP := hK.1.1
  intro k
  induction k with
  | zero =>
    intro p n h1 h2
    obtain ⟨n, rfl⟩ : ∃ m, n = m + 1 := ⟨n - 1, by omega⟩
    have b1 : 30 ≤ p := by omega
    simp (disch := omega) only [lp_223_18, ↓reduceIte, n_2, n_3, n_4, n_5, n_6, n_7, n_8, n_10, n_12, n_20, n_30, n_40, n_100, n_120, n_150, n_200, n_230, n_320, n_450, n_900, x_le, x_lt, x_eq, x_lt0, x_le0, x_0le, x_0lt, x_eq0, x_eq1, x_1lt, x_le1, x_lt1, x_1le, x_eqm, x_add, x_a1, x_1a, x_a0, x_0a, x_mul, x_sub, x_s1, x_1s, x_div, x_cl, x_cl0, x_cl1, x_in, x_in0, x_in1, x_ofNat, b1, if_true, qf, Option.bind_none]
  | succ k ih =>
    intro p n h1 h2
    obtain ⟨n, rfl⟩ : ∃ m, n = m + 1 := ⟨n - 1, by omega⟩
    have b1 : ¬ 30 ≤ p := by omega
    have ih1 := ih (p + 1) n (by omega) (by omega)
    rcases bcs (T.1 p) with tp | tp
    · have q0 : qf (fun p => T.1 p && (sDbl S t T p).isSome) (k + 1) p = qf (fun p => T.1 p && (sDbl S t T p).isSome) k (p + 1) := by rw [qf, if_neg (by simp [tp])]
      rw [q0]
      have w : lp_223_25 n 145 (nI p) (-1) 0 C = some (.inr (145, nI p), C) := by
        obtain ⟨n, rfl⟩ : ∃ m, n = m + 1 := ⟨n - 1, by omega⟩
        by_cases e : (sOth S).length = 0
        · have := m223_e (n := n) (p := nI p) (fst := -1) hK (o := 0) (by omega) (by omega)
          rw [x_0] at this
          exact this
        · obtain ⟨⟨_, hh, hS, hO⟩, k2, k3, k4, k5⟩ := hK
          have hb := hS.1
          have y0 : ¬ nI (sOth S).length ≤ (0 : Int32) := by rw [x_le0 (by omega)]; exact e
          have w180 := hT.1 p (by omega)
          rw [Nat.zero_add, tp] at w180
          simp only [↓reduceIte, Bool.false_eq_true, if_false] at w180
          have p150 : p < 150 := by omega
          have n01 : ¬ (0 : Int32) = 1 := by decide
          simp (disch := omega) only [↓reduceIte, lp_223_25, if_true, if_false, Option.bind_some, k_145, ↓bd1 (w_145_24 hP), k_162, l_162, hh, x_in, x_cl, hb, hS.2.2.2.2.2.1, y0, ↓bd1 (w_145_57 hP), k_180, l_180, p150, w180, n01, not_false_iff]
      simp (disch := omega) only [lp_223_18, ↓reduceIte, n_2, n_3, n_4, n_5, n_6, n_7, n_8, n_10, n_12, n_20, n_30, n_40, n_100, n_120, n_150, n_200, n_230, n_320, n_450, n_900, x_le, x_lt, x_eq, x_lt0, x_le0, x_0le, x_0lt, x_eq0, x_eq1, x_1lt, x_le1, x_lt1, x_1le, x_eqm, x_add, x_a1, x_1a, x_a0, x_0a, x_mul, x_sub, x_s1, x_1s, x_div, x_cl, x_cl0, x_cl1, x_in, x_in0, x_in1, x_ofNat, b1, if_false, ↓bd1 w]
      exact ih1
    · have L := m223_n hK hT h3 (show p < 30 by omega) tp (sOth S).length 0 n (by omega) (by omega)
      rw [x_0] at L
      have es : sDbl S t T p = (qf (fun o => isMat S t o T p) (sOth S).length 0).bind (fun o => (qf (fun o' => isMat S t o' T p) ((sOth S).length - (o + 1)) (o + 1)).map (fun o' => (o, o'))) := rfl
      rw [← es] at L
      cases hd : sDbl S t T p with
      | none =>
        rw [hd] at L
        have L : lp_223_25 n 145 (nI p) (-1) 0 C = some (.inr (145, nI p), C) := L
        have q0 : qf (fun p => T.1 p && (sDbl S t T p).isSome) (k + 1) p = qf (fun p => T.1 p && (sDbl S t T p).isSome) k (p + 1) := by rw [qf, if_neg (by simp [hd])]
        rw [q0]
        simp (disch := omega) only [lp_223_18, ↓reduceIte, n_2, n_3, n_4, n_5, n_6, n_7, n_8, n_10, n_12, n_20, n_30, n_40, n_100, n_120, n_150, n_200, n_230, n_320, n_450, n_900, x_le, x_lt, x_eq, x_lt0, x_le0, x_0le, x_0lt, x_eq0, x_eq1, x_1lt, x_le1, x_lt1, x_1le, x_eqm, x_add, x_a1, x_1a, x_a0, x_0a, x_mul, x_sub, x_s1, x_1s, x_div, x_cl, x_cl0, x_cl1, x_in, x_in0, x_in1, x_ofNat, b1, if_false, ↓bd1 L]
        exact ih1
      | some z =>
        obtain ⟨a, b⟩ := z
        rw [hd] at L
        have L : lp_223_25 n 145 (nI p) (-1) 0 C = some (.inl (145, nI p, nI a, nI b), C) := L
        have q0 : qf (fun p => T.1 p && (sDbl S t T p).isSome) (k + 1) p = some p := by rw [qf, if_pos (by simp [hd, tp])]
        rw [q0]
        simp (disch := omega) only [lp_223_18, ↓reduceIte, n_2, n_3, n_4, n_5, n_6, n_7, n_8, n_10, n_12, n_20, n_30, n_40, n_100, n_120, n_150, n_200, n_230, n_320, n_450, n_900, x_le, x_lt, x_eq, x_lt0, x_le0, x_0le, x_0lt, x_eq0, x_eq1, x_1lt, x_le1, x_lt1, x_1le, x_eqm, x_add, x_a1, x_1a, x_a0, x_0a, x_mul, x_sub, x_s1, x_1s, x_div, x_cl, x_cl0, x_cl1, x_in, x_in0, x_in1, x_ofNat, b1, if_false, ↓bd1 L, Option.bind_some, hd, Option.map_some]
def dbM (C : AmC) (S : Scr) (t : Stm) (T : Tab) : AmC := match sDblP S t T with
  | none => C
  | some q => uI (uI (uI C 145 66 1) 145 67 (nI q)) 145 68 (dblI (sDbl S t T q))
theorem m223 {n : Nat} {C : AmC} {h i : Nat} {S : Scr} {T : Tab} {t : Stm} (hK : MK C h S i t) (hT : TabM 30 (sCols S) C 180 0 T) (hn : 100 ≤ n) : f_223 n 145 C = some (if (sDblP S t T).isSome = true then 1 else 0, dbM C S t T) := by
  have hK0 := hK
  obtain ⟨⟨hP, hh, hS, hO⟩, k2, k3, k4, k5⟩ := hK
  have hkd := k5.1
  have hhw := k5.2.1
  unfold f_223 dbM
  by_cases h3 : tKd t = 3
  · by_cases e : tHow t = 2
    · have hd : sDblP S t T = none := by unfold sDblP; rw [if_neg (fun z => z.2 e)]
      rw [hd]
      have n3 : (nI (tKd t) = (3 : Int32)) = True := by rw [h3]; decide
      have n2 : (nI (tHow t) = (2 : Int32)) = True := by rw [e]; decide
      simp (disch := omega) only [↓reduceIte, if_true, if_false, Option.bind_some, k_145, ↓bd1 (w_145_32 hP), k_170, l_170, ↓bd1 (w_145_33 hP), k_171, l_171, k2, x_in, x_cl, k3, k4.1, k4.2.1, n3, n2, not_true]
      rfl
    · have hd : sDblP S t T = qf (fun p => T.1 p && (sDbl S t T p).isSome) 30 0 := by unfold sDblP; rw [if_pos ⟨h3, e⟩]
      have n3 : (nI (tKd t) = (3 : Int32)) = True := by rw [h3]; decide
      have n2 : (nI (tHow t) = (2 : Int32)) = False := by rw [n_2, x_eq (by omega) (by omega)]; simp [e]
      have L := m223_o hK0 hT h3 30 0 n rfl (by omega)
      rw [x_0, ← hd] at L
      simp (disch := omega) only [↓reduceIte, if_true, if_false, Option.bind_some, k_145, ↓bd1 (w_145_32 hP), k_170, l_170, ↓bd1 (w_145_33 hP), k_171, l_171, k2, x_in, x_cl, k3, k4.1, k4.2.1, n3, n2, not_true, not_false_iff, L]
      cases hq : sDblP S t T with
      | none => rfl
      | some q =>
        rw [hd] at hq
        obtain ⟨_, _, h5, _⟩ := qf_some hq
        simp only [Bool.and_eq_true] at h5
        cases hz : sDbl S t T q with
        | none => rw [hz] at h5; cases h5.2
        | some z =>
          obtain ⟨a, b⟩ := z
          simp only [↓reduceIte, Option.bind_some, hz, Option.map_some, k_145, if_true, n_100, x_mul, x_add, dblI, Option.isSome_some]
  · have hd : sDblP S t T = none := by unfold sDblP; rw [if_neg (fun z => h3 z.1)]
    rw [hd]
    have n3 : (nI (tKd t) = (3 : Int32)) = False := by rw [n_3, x_eq (by omega) (by omega)]; simp [h3]
    simp (disch := omega) only [↓reduceIte, if_true, if_false, Option.bind_some, k_145, ↓bd1 (w_145_32 hP), k_170, l_170, k2, x_in, x_cl, k3, k4.1, n3, not_false_iff]
    rfl
theorem m220 {n : Nat} {C : AmC} {h i stage N : Nat} {S : Scr} {t : Stm} {x : RS × List Itm} (hst : stage ≤ 3) (hK : MK C h S i t) (hF : MasC C S t stage N x) (hN : N ≤ 320 * min stage 1) (hX : XOK S t stage x) (hn : 2000 ≤ n) : Rt (f_220 n 145 (nI stage) C) (fun _ C' => MrF C' S t (x.2.foldl (sItem S t stage) x.1) ∧ FrM 65 C C') := by
  have core : Rt (lp_220_13 n 145 (nI stage) (if tKd t = 3 then 1 else 0) 0 C) (fun _ C' => MrF C' S t (x.2.foldl (sItem S t stage) x.1) ∧ FrM 65 C C') := by
    by_cases e : rE x.1 = 0
    · obtain ⟨e1, e2, L, gL, gf, gN, gV⟩ := hF.2 e
      by_cases s0 : stage = 0
      · have l0 : L = [] := List.eq_nil_of_length_eq_zero (by rw [s0] at hN; omega)
        have x0 := hX.2.1 s0
        rw [l0] at gL
        have g80 : cI C 145 80 = 0 := gL.1
        obtain ⟨n, rfl⟩ : ∃ m, n = m + 1 := ⟨n - 1, by omega⟩
        have l00 : (0 : Int32) ≤ 0 := by decide
        simp only [↓reduceIte, lp_220_13, if_true, if_false, Option.bind_some, k_145, g80, l00]
        rw [x0]
        exact rt_ret ⟨hF.1, FrM.refl _ _⟩
      · have hl := gL.2.1
        have R := m220_lp (h := h) (i := i) hst s0 L 0 n C x.1 (by omega) hK hF.1 (fun _ => ⟨e1, e2, by rw [Nat.zero_add]; exact gL.1, by omega, fun j hj => by rw [Nat.zero_add]; exact gL.2.2 j hj⟩) hX.1 (fun q hq => ⟨gV q hq, fun z => hX.2.2 q (by rw [← gf]; exact List.mem_filter.mpr ⟨hq, z⟩)⟩) (by omega)
        rw [x_0, gf] at R
        exact R
    · by_cases s0 : stage = 0
      · have x0 := hX.2.1 s0
        have e66 : ¬ cI C 145 66 = 0 := by rw [hF.1.2.2.2.1]; exact e
        obtain ⟨n, rfl⟩ : ∃ m, n = m + 1 := ⟨n - 1, by omega⟩
        rw [x0]
        unfold lp_220_13
        rw [if_pos k_145]
        by_cases c1 : cI C 145 80 ≤ 0
        · rw [if_pos c1]; exact rt_ret ⟨hF.1, FrM.refl _ _⟩
        · rw [if_neg c1, if_pos e66]; exact rt_ret ⟨hF.1, FrM.refl _ _⟩
      · have R := m220_lp (h := h) (i := i) hst s0 [] 0 n C x.1 (by simp only [List.length_nil]; omega) hK hF.1 (fun z => absurd z e) hX.1 (fun q hq => by cases hq) (by simp)
        rw [x_0] at R
        rw [fold_ne e]
        exact R
  obtain ⟨⟨hP, hh, hS, hO⟩, k2, k3, k4, k5⟩ := hK
  have hkd := k5.1
  unfold f_220
  by_cases h3 : tKd t = 3
  · have n3 : (nI (tKd t) = (3 : Int32)) = True := by rw [h3]; decide
    simp (disch := omega) only [↓reduceIte, if_true, if_false, Option.bind_some, k_145, ↓bd1 (w_145_32 hP), k_170, l_170, k2, x_in, x_cl, k3, k4.1, n3, not_true]
    rw [if_pos h3] at core
    exact rt_bind (rt_mono core (fun _ C' H => rt_ret H))
  · have n3 : (nI (tKd t) = (3 : Int32)) = False := by rw [n_3, x_eq (by omega) (by omega)]; simp [h3]
    simp (disch := omega) only [↓reduceIte, if_true, if_false, Option.bind_some, k_145, ↓bd1 (w_145_32 hP), k_170, l_170, k2, x_in, x_cl, k3, k4.1, n3, not_false_iff]
    rw [if_neg h3] at core
    exact rt_bind (rt_mono core (fun _ C' H => rt_ret H))
theorem m225_lp {f : Nat} (hf : f + 150 ≤ 12500) : ∀ k j n C, j + k = 150 → k < n → PInv C → Rt (lp_225_2 n 145 (nI f) (nI j) C) (fun _ C' => cP C' = cP C ∧ cJ C' = cJ C ∧ (∀ b, ¬ b = 180 → cI C' b = cI C b) ∧ ∀ m, cI C' 180 m = if j ≤ m ∧ m < 150 then cI C 146 (f + m) else cI C 180 m) := by
  intro k
  induction k with
  | zero =>
    intro j n C h1 h2 hP
    obtain ⟨n, rfl⟩ : ∃ m, n = m + 1 := ⟨n - 1, by omega⟩
    have b1 : 150 ≤ j := by omega
    simp (disch := omega) only [lp_225_2, ↓reduceIte, n_2, n_3, n_4, n_5, n_6, n_7, n_8, n_10, n_12, n_20, n_30, n_40, n_100, n_120, n_150, n_200, n_230, n_320, n_450, n_900, x_le, x_lt, x_eq, x_lt0, x_le0, x_0le, x_0lt, x_eq0, x_eq1, x_1lt, x_le1, x_lt1, x_1le, x_eqm, x_add, x_a1, x_1a, x_a0, x_0a, x_mul, x_sub, x_s1, x_1s, x_div, x_cl, x_cl0, x_cl1, x_in, x_in0, x_in1, x_ofNat, b1, if_true]
    exact rt_ret ⟨rfl, rfl, fun _ _ => rfl, fun m => by rw [if_neg (by omega)]⟩
  | succ k ih =>
    intro j n C h1 h2 hP
    obtain ⟨n, rfl⟩ : ∃ m, n = m + 1 := ⟨n - 1, by omega⟩
    have b1 : ¬ 150 ≤ j := by omega
    have b2 : j < 150 := by omega
    have b3 : f + j < 12500 := by omega
    simp (disch := omega) only [lp_225_2, if_true, if_false, Option.bind_some, k_145, ↓reduceIte, n_2, n_3, n_4, n_5, n_6, n_7, n_8, n_10, n_12, n_20, n_30, n_40, n_100, n_120, n_150, n_200, n_230, n_320, n_450, n_900, x_le, x_lt, x_eq, x_lt0, x_le0, x_0le, x_0lt, x_eq0, x_eq1, x_1lt, x_le1, x_lt1, x_1le, x_eqm, x_add, x_a1, x_1a, x_a0, x_0a, x_mul, x_sub, x_s1, x_1s, x_div, x_cl, x_cl0, x_cl1, x_in, x_in0, x_in1, x_ofNat, b1, ↓bd1 (w_145_57 hP), k_180, l_180, ↓bd1 (w_145_0 hP), k_146, l_146, b2, b3]
    refine rt_mono (ih (j + 1) n _ (by omega) (by omega) (hP.of rfl)) (fun _ C' H => ?_)
    obtain ⟨H1, H2, H3, H4⟩ := H
    refine ⟨H1, H2, fun b hb => by rw [H3 b hb, r_In hb], fun m => ?_⟩
    rw [H4 m, r_In (by decide), r_I]
    by_cases e : m = j
    · subst e
      rw [if_neg (by omega), if_pos ⟨rfl, rfl⟩, if_pos (by omega)]
    · by_cases z : j + 1 ≤ m ∧ m < 150
      · have z' : j ≤ m ∧ m < 150 := by omega
        rw [if_pos z, if_pos z']
      · rw [if_neg z, if_neg (by omega), if_neg (by omega)]
theorem m225 {n : Nat} {C : AmC} {f cols : Nat} {T : Tab} (hP : PInv C) (hf : f + 150 ≤ 12500) (hT : TabM 30 cols C 146 f T) (hZ : TabZ 30 cols C 146 f T) (h4 : cols ≤ 4) (hn : 200 ≤ n) : Rt (f_225 n 145 (nI f) C) (fun _ C' => FrM 81 C C' ∧ cI C' 145 = cI C 145 ∧ (∀ b, ¬ b = 180 → cI C' b = cI C b) ∧ TabM 30 cols C' 180 0 T ∧ TabZ 30 cols C' 180 0 T) := by
  have L := m225_lp hf 150 0 n C rfl (by omega) hP
  rw [x_0] at L
  unfold f_225
  refine rt_bind (rt_mono L (fun _ C' H => ?_))
  obtain ⟨H1, H2, H3, H4⟩ := H
  refine rt_ret ⟨⟨H1, H2, fun b hb => H3 b (by unfold MX at hb; omega), fun g _ => by rw [H3 145 (by decide)]⟩, H3 145 (by decide), H3, ⟨fun p hp => ?_, fun p hp tp c hc => ?_⟩, fun p hp tp c hc1 hc2 => ?_⟩
  · rw [H4, if_pos (by omega), Nat.zero_add]; exact hT.1 p hp
  · rw [H4, if_pos (by omega), show f + (0 + 30 + 4 * p + c) = f + 30 + 4 * p + c from by omega]; exact hT.2 p hp tp c hc
  · rw [H4, if_pos (by omega), show f + (0 + 30 + 4 * p + c) = f + 30 + 4 * p + c from by omega]; exact hZ p hp tp c hc1 hc2
theorem m224_z {i path stage : Int32} : ∀ k p n C, p + k = 30 → k < n → PInv C → Rt (lp_224_23 n 145 i path stage (nI p) C) (fun z C' => z = (145, i, path, stage) ∧ cP C' = cP C ∧ cJ C' = cJ C ∧ (∀ b, ¬ b = 186 → cI C' b = cI C b) ∧ (∀ q, q < p → cI C' 186 q = cI C 186 q) ∧ ∀ q, p ≤ q → q < 30 → cI C' 186 q = 0) := by
  intro k
  induction k with
  | zero =>
    intro p n C h1 hn hP
    obtain ⟨n, rfl⟩ : ∃ m, n = m + 1 := ⟨n - 1, by omega⟩
    have b1 : 30 ≤ p := by omega
    simp (disch := omega) only [lp_224_23, ↓reduceIte, n_2, n_3, n_4, n_5, n_6, n_7, n_8, n_10, n_12, n_20, n_30, n_40, n_100, n_120, n_150, n_200, n_230, n_320, n_450, n_900, x_le, x_lt, x_eq, x_lt0, x_le0, x_0le, x_0lt, x_eq0, x_eq1, x_1lt, x_le1, x_lt1, x_1le, x_eqm, x_add, x_a1, x_1a, x_a0, x_0a, x_mul, x_sub, x_s1, x_1s, x_div, x_cl, x_cl0, x_cl1, x_in, x_in0, x_in1, x_ofNat, b1, if_true]
    exact rt_ret ⟨rfl, rfl, rfl, fun _ _ => rfl, fun _ _ => rfl, fun q z1 z2 => by omega⟩
  | succ k ih =>
    intro p n C h1 hn hP
    obtain ⟨n, rfl⟩ : ∃ m, n = m + 1 := ⟨n - 1, by omega⟩
    have b1 : ¬ 30 ≤ p := by omega
    have b2 : p < 30 := by omega
    simp (disch := omega) only [lp_224_23, if_true, if_false, Option.bind_some, k_145, ↓reduceIte, n_2, n_3, n_4, n_5, n_6, n_7, n_8, n_10, n_12, n_20, n_30, n_40, n_100, n_120, n_150, n_200, n_230, n_320, n_450, n_900, x_le, x_lt, x_eq, x_lt0, x_le0, x_0le, x_0lt, x_eq0, x_eq1, x_1lt, x_le1, x_lt1, x_1le, x_eqm, x_add, x_a1, x_1a, x_a0, x_0a, x_mul, x_sub, x_s1, x_1s, x_div, x_cl, x_cl0, x_cl1, x_in, x_in0, x_in1, x_ofNat, b1, ↓bd1 (w_145_74 hP), k_186, l_186, b2]
    refine rt_mono (ih (p + 1) n _ (by omega) (by omega) (hP.of rfl)) (fun z C' H => ⟨H.1, H.2.1, H.2.2.1, fun b hb => by rw [H.2.2.2.1 b hb, r_In hb], fun q hq => ?_, fun q z1 z2 => ?_⟩)
    · rw [H.2.2.2.2.1 q (by omega), r_I, if_neg (by omega)]
    · by_cases e : q = p
      · subst e
        rw [H.2.2.2.2.1 q (by omega), r_I, if_pos ⟨rfl, rfl⟩]
      · exact H.2.2.2.2.2 q (by omega) z2
