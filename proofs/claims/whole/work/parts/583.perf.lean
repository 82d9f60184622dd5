/-! The class's pass: doubles, the spool, the clash; a whole run. -/
def uE (C : AmC) (a : Nat) (e x y : Int32) : AmC := uI (uI (uI C a 11 e) a 12 x) a 13 y
theorem uE_fr (C : AmC) (a : Nat) (e x y : Int32) : Fr (fun b => b = a) C (uE C a e x y) := (((Fr.refl (fun b => b = a) C).uI (a := a) rfl).uI (a := a) rfl).uI (a := a) rfl
theorem uE_11 (C : AmC) (a : Nat) (e x y : Int32) : cI (uE C a e x y) a 11 = e ∧ cI (uE C a e x y) a 12 = x ∧ cI (uE C a e x y) a 13 = y ∧ ∀ f, f < 11 → cI (uE C a e x y) a f = cI C a f := by
  unfold uE
  refine ⟨by simp [r_I], by simp [r_I], by simp [r_I], fun f hf => ?_⟩
  rw [r_I, r_I, r_I, if_neg (by omega), if_neg (by omega), if_neg (by omega)]
theorem PsF.uE {C : AmC} {a stage : Nat} {S : Scr} {r : RS} (h : PsF C a S stage r) (e x y : Int32) : PsF (uE C a e x y) a S stage (rEnd r e x y) := by
  have F := uE_fr C a e x y
  obtain ⟨q1, q2, q3, q4⟩ := uE_11 C a e x y
  obtain ⟨h1, h2, h3, h4, h5, h6, h7⟩ := h
  exact ⟨h1.of (F.2.1 _ (by omega)) (F.2.1 _ (by omega)), by rw [q4 8 (by omega)]; exact h2, by rw [q4 10 (by omega)]; exact h3, q1, q2, q3, fun p hp => by rw [F.2.1 _ (by omega)]; exact h7 p hp⟩
theorem c50_s {a s st p f : Nat} {S : Scr} {t : Stm} {T : Tab} (hp : p < 30) (hf : f < 10) : ∀ k o n C, o + k = (sOth S).length → k + 2 < n → PK C a s st S t → cI C a 11 = 0 → lp_50_12 n a (nI p) (T.2 p (tOwn t)) (nI f) (nI o) C = some ((), match qf (fun o => isMat S t o T p) k o with
    | none => C
    | some y => uE C a 1 (nI p) (nI (100 * f + y))) := by
  intro k
  induction k with
  | zero =>
    intro o n C h1 h2 hK _
    obtain ⟨n, rfl⟩ : ∃ m, n = m + 1 := ⟨n - 1, by omega⟩
    have k3 := pa_of hK.1 hK.2.1
    have ks := sc_of hK.1 hK.2.2.1
    have hl := hK.2.2.2.2.2.2.2.1.2.2.2.2.2.1
    have b1 : (sOth S).length ≤ o := by omega
    simp (disch := omega) only [↓reduceIte, lp_50_12, k3.k, if_true, ↓bd1 hK.2.2.2.2.1, ks.k, hK.2.2.2.2.2.2.1.2.2.2.2.1, x_le, b1, qf]
  | succ k ih =>
    intro o n C h1 h2 hK e11
    obtain ⟨n, rfl⟩ : ∃ m, n = m + 1 := ⟨n - 1, by omega⟩
    have hK0 := hK
    obtain ⟨hP, g2, g3, g4, g5, g6, g7, g8, g9, g10⟩ := hK
    have k3 := pa_of hP g2
    have ks := sc_of hP g3
    have kt := st_of hP g4
    have a12 := pas_ge g2
    have hl := g8.2.2.2.2.2.1
    have b1 : ¬ (sOth S).length ≤ o := by omega
    have ho : o < (sOth S).length := by omega
    have w95 : f_95 n s (nI o) (nI (tOth t)) C = some (othN S o (tOth t), C) := c95 (o := some o) ks g7 g8 (fun q z => by cases z; exact ho) g10.2.2.2.2.1
    have fm : ¬ nI f = (-1 : Int32) := by rw [x_eqm (by omega)]; exact id
    by_cases c : othN S o (tOth t) = T.2 p (tOwn t)
    · have cm : isMat S t o T p = true := by simp [isMat, c]
      have q0 : qf (fun o => isMat S t o T p) (k + 1) o = some o := by rw [qf, if_pos cm]
      rw [q0]
      simp (disch := omega) only [↓reduceIte, lp_50_12, k3.k, if_true, if_false, ↓bd1 g5, ks.k, g7.2.2.2.2.1, x_le, b1, e11, not_true, ↓bd1 g6, kt.1, g9.2.2.2.2.1, w95, Option.bind_some, c, fm, not_false_iff, c48 k3.k, n_100, x_mul, x_add, x_a1]
      obtain ⟨n, rfl⟩ : ∃ m, n = m + 1 := ⟨n - 1, by omega⟩
      have F := uE_fr C a 1 (nI p) (nI (100 * f + o))
      have K1 := hK0.fr F (fun b hb => by omega)
      have ks1 := sc_of K1.1 g3
      have e1 := (uE_11 C a 1 (nI p) (nI (100 * f + o))).1
      have ne1 : ¬ (1 : Int32) = 0 := by decide
      show lp_50_12 (n + 1) a (nI p) (T.2 p (tOwn t)) (nI f) (nI (o + 1)) (uE C a 1 (nI p) (nI (100 * f + o))) = _
      by_cases y : (sOth S).length ≤ o + 1
      · simp (disch := omega) only [↓reduceIte, lp_50_12, k3.k, if_true, ↓bd1 K1.2.2.2.2.1, ks1.k, K1.2.2.2.2.2.2.1.2.2.2.2.1, x_le, y]
      · simp (disch := omega) only [↓reduceIte, lp_50_12, k3.k, if_true, if_false, ↓bd1 K1.2.2.2.2.1, ks1.k, K1.2.2.2.2.2.2.1.2.2.2.2.1, x_le, y, e1, ne1, not_false_iff]
    · have cm : ¬ isMat S t o T p = true := by
        simp only [isMat, decide_eq_true_eq]
        exact fun z => c z.symm
      have q0 : qf (fun o => isMat S t o T p) (k + 1) o = qf (fun o => isMat S t o T p) k (o + 1) := by rw [qf, if_neg cm]
      rw [q0]
      simp (disch := omega) only [↓reduceIte, lp_50_12, k3.k, if_true, if_false, ↓bd1 g5, ks.k, g7.2.2.2.2.1, x_le, b1, e11, not_true, ↓bd1 g6, kt.1, g9.2.2.2.2.1, w95, Option.bind_some, c, x_a1]
      exact ih (o + 1) n C (by omega) (by omega) hK0 e11
theorem c50_n {a s st p : Nat} {S : Scr} {t : Stm} {T : Tab} (hp : p < 30) : ∀ k o n C, o + k = (sOth S).length → k + 15 < n → PK C a s st S t → cI C a 11 = 0 → lp_50_12 n a (nI p) (T.2 p (tOwn t)) (-1) (nI o) C = some ((), match (qf (fun o => isMat S t o T p) k o).bind (fun o => (qf (fun o' => isMat S t o' T p) ((sOth S).length - (o + 1)) (o + 1)).map (fun o' => (o, o'))) with
    | none => C
    | some z => uE C a 1 (nI p) (dblI (some z))) := by
  intro k
  induction k with
  | zero =>
    intro o n C h1 h2 hK _
    obtain ⟨n, rfl⟩ : ∃ m, n = m + 1 := ⟨n - 1, by omega⟩
    have k3 := pa_of hK.1 hK.2.1
    have ks := sc_of hK.1 hK.2.2.1
    have hl := hK.2.2.2.2.2.2.2.1.2.2.2.2.2.1
    have b1 : (sOth S).length ≤ o := by omega
    simp (disch := omega) only [↓reduceIte, lp_50_12, k3.k, if_true, ↓bd1 hK.2.2.2.2.1, ks.k, hK.2.2.2.2.2.2.1.2.2.2.2.1, x_le, b1, qf, Option.bind_none]
  | succ k ih =>
    intro o n C h1 h2 hK e11
    obtain ⟨n, rfl⟩ : ∃ m, n = m + 1 := ⟨n - 1, by omega⟩
    have hK0 := hK
    obtain ⟨hP, g2, g3, g4, g5, g6, g7, g8, g9, g10⟩ := hK
    have k3 := pa_of hP g2
    have ks := sc_of hP g3
    have kt := st_of hP g4
    have hl := g8.2.2.2.2.2.1
    have b1 : ¬ (sOth S).length ≤ o := by omega
    have ho : o < (sOth S).length := by omega
    have w95 : f_95 n s (nI o) (nI (tOth t)) C = some (othN S o (tOth t), C) := c95 (o := some o) ks g7 g8 (fun q z => by cases z; exact ho) g10.2.2.2.2.1
    by_cases c : othN S o (tOth t) = T.2 p (tOwn t)
    · have cm : isMat S t o T p = true := by simp [isMat, c]
      have q0 : qf (fun o => isMat S t o T p) (k + 1) o = some o := by rw [qf, if_pos cm]
      rw [q0]
      simp (disch := omega) only [↓reduceIte, lp_50_12, k3.k, if_true, if_false, ↓bd1 g5, ks.k, g7.2.2.2.2.1, x_le, b1, e11, not_true, ↓bd1 g6, kt.1, g9.2.2.2.2.1, w95, Option.bind_some, c, x_a1]
      rw [c50_s hp (by omega) ((sOth S).length - (o + 1)) (o + 1) n C (by omega) (by omega) hK0 e11]
      cases qf (fun o' => isMat S t o' T p) ((sOth S).length - (o + 1)) (o + 1) <;> rfl
    · have cm : ¬ isMat S t o T p = true := by
        simp only [isMat, decide_eq_true_eq]
        exact fun z => c z.symm
      have q0 : qf (fun o => isMat S t o T p) (k + 1) o = qf (fun o => isMat S t o T p) k (o + 1) := by rw [qf, if_neg cm]
      rw [q0]
      simp (disch := omega) only [↓reduceIte, lp_50_12, k3.k, if_true, if_false, ↓bd1 g5, ks.k, g7.2.2.2.2.1, x_le, b1, e11, not_true, ↓bd1 g6, kt.1, g9.2.2.2.2.1, w95, Option.bind_some, c, x_a1]
      exact ih (o + 1) n C (by omega) (by omega) hK0 e11
theorem c50 {n : Nat} {C : AmC} {a s st p : Nat} {S : Scr} {t : Stm} {T : Tab} (hp : p < 30) (tp : T.1 p = true) (hK : PK C a s st S t) (hT : TabC (sCols S) C (a + 1) T) (e11 : cI C a 11 = 0) (hn : 40 ≤ n) : f_50 n a (nI p) C = some ((), match sDbl S t T p with
    | none => C
    | some z => uE C a 1 (nI p) (dblI (some z))) := by
  have hK0 := hK
  obtain ⟨hP, g2, g3, g4, g5, g6, g7, g8, g9, g10⟩ := hK
  have k3 := pa_of hP g2
  have kt := st_of hP g4
  have hl := g8.2.2.2.2.2.1
  have w76 : f_76 n (a + 1) (nI p) (nI (tOwn t)) C = some (T.2 p (tOwn t), C) := by
    rw [rg_eq (rw_of hP k3.rw) hT hp g10.2.2.2.1 g8.2.1]
    simp [tg, tp]
  have L := c50_n (a := a) (s := s) (st := st) (T := T) hp (sOth S).length 0 n C (by omega) (by omega) hK0 e11
  rw [x_0] at L
  unfold f_50
  simp (disch := omega) only [↓reduceIte, k3.k, if_true, ↓bd1 k3.p0, ↓bd1 g6, kt.1, g9.2.2.2.1, (rw_of hP k3.rw).1, w76, Option.bind_some, L]
  rfl
theorem c49_lp {a s st : Nat} {S : Scr} {t : Stm} {T : Tab} : ∀ k p n C, p + k = 30 → k + 50 < n → PK C a s st S t → TabC (sCols S) C (a + 1) T → cI C a 11 = 0 → lp_49_8 n a (nI p) C = some ((), match qf (fun p => T.1 p && (sDbl S t T p).isSome) k p with
    | none => C
    | some q => uE C a 1 (nI q) (dblI (sDbl S t T q))) := by
  intro k
  induction k with
  | zero =>
    intro p n C h1 h2 hK _ _
    obtain ⟨n, rfl⟩ : ∃ m, n = m + 1 := ⟨n - 1, by omega⟩
    have b1 : 30 ≤ p := by omega
    simp (disch := omega) only [lp_49_8, ↓reduceIte, n_2, n_3, n_4, n_5, n_6, n_7, n_8, n_10, n_12, n_20, n_30, n_40, n_100, n_120, n_150, n_200, n_230, n_320, n_450, n_900, x_le, x_lt, x_eq, x_lt0, x_le0, x_0le, x_0lt, x_eq0, x_eq1, x_1lt, x_le1, x_lt1, x_1le, x_eqm, x_add, x_a1, x_1a, x_a0, x_0a, x_mul, x_sub, x_s1, x_1s, x_div, x_cl, x_cl0, x_cl1, x_in, x_in0, x_in1, x_ofNat, b1, if_true, qf]
  | succ k ih =>
    intro p n C h1 h2 hK hT e11
    obtain ⟨n, rfl⟩ : ∃ m, n = m + 1 := ⟨n - 1, by omega⟩
    have k3 := pa_of hK.1 hK.2.1
    have a12 := pas_ge hK.2.1
    have hrw := rw_of hK.1 k3.rw
    have b1 : ¬ 30 ≤ p := by omega
    have hp : p < 30 := by omega
    rcases bcs (T.1 p) with tp | tp
    · have q0 : qf (fun p => T.1 p && (sDbl S t T p).isSome) (k + 1) p = qf (fun p => T.1 p && (sDbl S t T p).isSome) k (p + 1) := by rw [qf, if_neg (by simp [tp])]
      rw [q0]
      have w : f_75 n (a + 1) (nI p) C = some (0, C) := by rw [rh_eq hrw hT hp, tp]; rfl
      simp (disch := omega) only [lp_49_8, ↓reduceIte, n_2, n_3, n_4, n_5, n_6, n_7, n_8, n_10, n_12, n_20, n_30, n_40, n_100, n_120, n_150, n_200, n_230, n_320, n_450, n_900, x_le, x_lt, x_eq, x_lt0, x_le0, x_0le, x_0lt, x_eq0, x_eq1, x_1lt, x_le1, x_lt1, x_1le, x_eqm, x_add, x_a1, x_1a, x_a0, x_0a, x_mul, x_sub, x_s1, x_1s, x_div, x_cl, x_cl0, x_cl1, x_in, x_in0, x_in1, x_ofNat, b1, if_true, if_false, k3.k, e11, not_true, ↓bd1 k3.p0, hrw.1, ↓bd1 w]
      exact ih (p + 1) n C (by omega) (by omega) hK hT e11
    · have w : f_75 n (a + 1) (nI p) C = some (1, C) := by rw [rh_eq hrw hT hp, tp]; rfl
      have ne1 : ¬ (1 : Int32) = 0 := by decide
      have w50 := c50 (n := n) hp tp hK hT e11 (by omega)
      cases hd : sDbl S t T p with
      | none =>
        rw [hd] at w50
        have w50 : f_50 n a (nI p) C = some ((), C) := w50
        have q0 : qf (fun p => T.1 p && (sDbl S t T p).isSome) (k + 1) p = qf (fun p => T.1 p && (sDbl S t T p).isSome) k (p + 1) := by rw [qf, if_neg (by simp [hd])]
        rw [q0]
        simp (disch := omega) only [lp_49_8, ↓reduceIte, n_2, n_3, n_4, n_5, n_6, n_7, n_8, n_10, n_12, n_20, n_30, n_40, n_100, n_120, n_150, n_200, n_230, n_320, n_450, n_900, x_le, x_lt, x_eq, x_lt0, x_le0, x_0le, x_0lt, x_eq0, x_eq1, x_1lt, x_le1, x_lt1, x_1le, x_eqm, x_add, x_a1, x_1a, x_a0, x_0a, x_mul, x_sub, x_s1, x_1s, x_div, x_cl, x_cl0, x_cl1, x_in, x_in0, x_in1, x_ofNat, b1, if_true, if_false, k3.k, e11, not_true, ↓bd1 k3.p0, hrw.1, ↓bd1 w, ne1, ↓bd1 w50]
        exact ih (p + 1) n C (by omega) (by omega) hK hT e11
      | some z =>
        rw [hd] at w50
        have w50 : f_50 n a (nI p) C = some ((), uE C a 1 (nI p) (dblI (some z))) := w50
        have q0 : qf (fun p => T.1 p && (sDbl S t T p).isSome) (k + 1) p = some p := by rw [qf, if_pos (by simp [hd, tp])]
        rw [q0]
        dsimp only
        rw [hd]
        simp (disch := omega) only [lp_49_8, ↓reduceIte, n_2, n_3, n_4, n_5, n_6, n_7, n_8, n_10, n_12, n_20, n_30, n_40, n_100, n_120, n_150, n_200, n_230, n_320, n_450, n_900, x_le, x_lt, x_eq, x_lt0, x_le0, x_0le, x_0lt, x_eq0, x_eq1, x_1lt, x_le1, x_lt1, x_1le, x_eqm, x_add, x_a1, x_1a, x_a0, x_0a, x_mul, x_sub, x_s1, x_1s, x_div, x_cl, x_cl0, x_cl1, x_in, x_in0, x_in1, x_ofNat, b1, if_true, if_false, k3.k, e11, not_true, ↓bd1 k3.p0, hrw.1, ↓bd1 w, ne1, ↓bd1 w50]
        obtain ⟨n, rfl⟩ : ∃ m, n = m + 1 := ⟨n - 1, by omega⟩
        have e1 := (uE_11 C a 1 (nI p) (dblI (some z))).1
        by_cases y : 30 ≤ p + 1
        · simp (disch := omega) only [lp_49_8, ↓reduceIte, n_2, n_3, n_4, n_5, n_6, n_7, n_8, n_10, n_12, n_20, n_30, n_40, n_100, n_120, n_150, n_200, n_230, n_320, n_450, n_900, x_le, x_lt, x_eq, x_lt0, x_le0, x_0le, x_0lt, x_eq0, x_eq1, x_1lt, x_le1, x_lt1, x_1le, x_eqm, x_add, x_a1, x_1a, x_a0, x_0a, x_mul, x_sub, x_s1, x_1s, x_div, x_cl, x_cl0, x_cl1, x_in, x_in0, x_in1, x_ofNat, y, if_true]
        · simp (disch := omega) only [lp_49_8, ↓reduceIte, n_2, n_3, n_4, n_5, n_6, n_7, n_8, n_10, n_12, n_20, n_30, n_40, n_100, n_120, n_150, n_200, n_230, n_320, n_450, n_900, x_le, x_lt, x_eq, x_lt0, x_le0, x_0le, x_0lt, x_eq0, x_eq1, x_1lt, x_le1, x_lt1, x_1le, x_eqm, x_add, x_a1, x_1a, x_a0, x_0a, x_mul, x_sub, x_s1, x_1s, x_div, x_cl, x_cl0, x_cl1, x_in, x_in0, x_in1, x_ofNat, y, if_true, if_false, k3.k, e1, ne1, not_false_iff]
theorem c49 {n : Nat} {C : AmC} {a s st : Nat} {S : Scr} {t : Stm} {T : Tab} (h3 : tKd t = 3) (hK : PK C a s st S t) (hT : TabC (sCols S) C (a + 1) T) (e11 : cI C a 11 = 0) (hn : 100 ≤ n) : f_49 n a C = some ((), match sDblP S t T with
    | none => C
    | some q => uE C a 1 (nI q) (dblI (sDbl S t T q))) := by
  have k3 := pa_of hK.1 hK.2.1
  have kt := st_of hK.1 hK.2.2.2.1
  have g10 := hK.2.2.2.2.2.2.2.2.2
  have c3 := tCh_le g10
  have eC : tCh t = tHow t := by unfold tCh; simp [h3]
  unfold f_49
  by_cases e : tHow t = 2
  · have n2 : nI (tCh t) = (2 : Int32) := by rw [eC, e]; rfl
    have hd : sDblP S t T = none := by unfold sDblP; rw [if_neg (fun z => z.2 e)]
    rw [hd]
    simp only [↓reduceIte, k3.k, if_true, if_false, ↓bd1 hK.2.2.2.2.2.1, kt.1, hK.2.2.2.2.2.2.2.2.1.2.2.1, n2, not_true]
  · have n2 : ¬ nI (tCh t) = (2 : Int32) := by rw [eC, n_2, x_eq (by omega) (by omega)]; exact e
    have hd : sDblP S t T = qf (fun p => T.1 p && (sDbl S t T p).isSome) 30 0 := by unfold sDblP; rw [if_pos ⟨h3, e⟩]
    rw [hd]
    have L := c49_lp (a := a) (s := s) (st := st) (T := T) 30 0 n C rfl (by omega) hK hT e11
    rw [x_0] at L
    simp only [↓reduceIte, k3.k, if_true, ↓bd1 hK.2.2.2.2.2.1, kt.1, hK.2.2.2.2.2.2.2.2.1.2.2.1, n2, not_false_iff, L, Option.bind_some]
