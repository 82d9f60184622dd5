/-! Planner.heldAt, and the choice of a stage (class). -/
/-- ((reads, rows that hold), new rows of a merge) -/
def sPm (S : Scr) (t : Stm) (path : Nat) (T : Tab) : (Nat × Nat) × Nat := if tKd t = 3 then sMeasM S t path T else (sMeas S t path T, 0)
/-- what a spool of that stage holds -/
def sHeld (S : Scr) (t : Stm) (y : (Nat × Nat) × Nat) (k : Nat) : Nat := if k = 1 then (if tKd t = 3 then y.1.2 + y.2 else y.1.1) else if k = 2 then y.1.2 + y.2 else y.1.2 * sEach S t + y.2 * (1 + sCols S)
theorem sEach_le {S : Scr} {t : Stm} (hO : ScrOK S) : sEach S t ≤ 5 := by
  have := sSets_le (N := 4) (t := t)
  have := hO.2.1
  unfold sEach
  split
  · omega
  · split
    · omega
    · split <;> omega
def PlV (C : AmC) (y : (Nat × Nat) × Nat) : Prop := cI C 102 1 = nI y.1.1 ∧ cI C 102 2 = nI y.1.2 ∧ cI C 102 3 = nI y.2 ∧ y.1.1 ≤ 300 ∧ y.1.2 ≤ 300 ∧ y.2 ≤ 10
theorem c64 {n : Nat} {C : AmC} {s st k : Nat} {S : Scr} {t : Stm} {y : (Nat × Nat) × Nat} (hP : PInv C) (hs : s ∈ scrL) (hst : st ∈ stmsL) (hS : ScrC C s S) (hO : ScrOK S) (ht : StmC (sCols S) C s st t) (hto : StmOK (sCols S) t) (hy : PlV C y) (h1 : 1 ≤ k) (h3 : k ≤ 3) (hn : 5 ≤ n) : f_64 n 102 s st (nI k) C = some (nI (sHeld S t y k), C) := by
  obtain ⟨e1, e2, e3, y1, y2, y3⟩ := hy
  have kt := st_of hP hst
  have ks := sc_of hP hs
  have s4 := hO.2.1
  have w116 := c116 (n := n) kt ht hn
  have ss := sSets_le (N := 4) (t := t)
  have t3 := tCh_le hto
  have se := sEach_le (t := t) hO
  have ec := hS.1
  unfold f_64 sHeld
  by_cases k1 : k = 1
  · have q1 : (nI k = (1 : Int32)) = True := by rw [k1]; decide
    rw [if_pos k1]
    by_cases c3 : tKd t = 3
    · have e0 : ¬ cI C st 0 = 0 := by rw [ht.1, if_pos c3]; decide
      rw [if_pos c3]
      simp (disch := omega) only [↓reduceIte, q1, not_true, if_true, if_false, kt.1, e0, k_102, e2, e3, x_add]
    · have e0 : cI C st 0 = 0 := by rw [ht.1, if_neg c3]
      rw [if_neg c3]
      simp (disch := omega) only [↓reduceIte, q1, not_true, if_true, if_false, kt.1, e0, k_102, e1]
  · have q1 : ¬ nI k = (1 : Int32) := by rw [x_eq1 (by omega)]; exact k1
    rw [if_neg k1]
    by_cases k2 : k = 2
    · have q2 : (nI k = (2 : Int32)) = True := by rw [k2]; decide
      rw [if_pos k2]
      simp (disch := omega) only [↓reduceIte, q1, q2, not_true, not_false_iff, if_true, if_false, k_102, e2, e3, x_add]
    · have q2 : ¬ nI k = (2 : Int32) := by rw [n_2, x_eq (by omega) (by omega)]; exact k2
      rw [if_neg k2]
      have m2 : y.2 * (1 + sCols S) ≤ 10 * 5 := Nat.mul_le_mul (by omega) (by omega)
      have m1 : y.1.2 * sEach S t ≤ 300 * 5 := Nat.mul_le_mul (by omega) (by omega)
      have A : (1 : Int32) + nI (sCols S) = nI (1 + sCols S) := by rw [show (1 : Int32) = nI 1 from rfl, x_add]
      have M2 : nI y.2 * nI (1 + sCols S) = nI (y.2 * (1 + sCols S)) := by rw [x_mul]
      have c : tCh t = 0 ∨ tCh t = 1 ∨ tCh t = 2 ∨ tCh t = 3 := by omega
      rcases c with c | c | c | c
      · have f0 : (nI (tCh t) = (0 : Int32)) = True := by rw [c]; decide
        have B : (1 : Int32) + nI (sSets 4 t) = nI (1 + sSets 4 t) := by rw [show (1 : Int32) = nI 1 from rfl, x_add]
        have M1 : nI y.1.2 * nI (1 + sSets 4 t) = nI (y.1.2 * sEach S t) := by rw [x_mul]; simp [sEach, c]
        simp (disch := omega) only [↓reduceIte, q1, q2, not_true, not_false_iff, if_true, if_false, kt.1, ht.2.2.1, f0, ↓bd1 w116, k_102, ks.k, e2, e3, ec, A, B, M1, M2, x_add]
      · have f0 : ¬ nI (tCh t) = (0 : Int32) := by rw [c]; decide
        have f1 : (nI (tCh t) = (1 : Int32)) = True := by rw [c]; decide
        have M1 : nI y.1.2 * (1 : Int32) = nI (y.1.2 * sEach S t) := by rw [show (1 : Int32) = nI 1 from rfl, x_mul]; simp [sEach, c]
        simp (disch := omega) only [↓reduceIte, q1, q2, not_true, not_false_iff, if_true, if_false, kt.1, ht.2.2.1, f0, f1, k_102, ks.k, e2, e3, ec, A, M1, M2, x_add]
      · have f0 : ¬ nI (tCh t) = (0 : Int32) := by rw [c]; decide
        have f1 : ¬ nI (tCh t) = (1 : Int32) := by rw [c]; decide
        have f2 : (nI (tCh t) = (2 : Int32)) = True := by rw [c]; decide
        have M1 : nI y.1.2 * (0 : Int32) = nI (y.1.2 * sEach S t) := by rw [show (0 : Int32) = nI 0 from rfl, x_mul]; simp [sEach, c]
        simp (disch := omega) only [↓reduceIte, q1, q2, not_true, not_false_iff, if_true, if_false, kt.1, ht.2.2.1, f0, f1, f2, k_102, ks.k, e2, e3, ec, A, M1, M2, x_add]
      · have f0 : ¬ nI (tCh t) = (0 : Int32) := by rw [c]; decide
        have f1 : ¬ nI (tCh t) = (1 : Int32) := by rw [c]; decide
        have f2 : ¬ nI (tCh t) = (2 : Int32) := by rw [c]; decide
        have f3 : (nI (tCh t) = (3 : Int32)) = True := by rw [c]; decide
        have M1 : nI y.1.2 * nI (1 + sCols S) = nI (y.1.2 * sEach S t) := by rw [x_mul]; simp [sEach, c]
        simp (disch := omega) only [↓reduceIte, q1, q2, not_true, not_false_iff, if_true, if_false, kt.1, ht.2.2.1, f0, f1, f2, f3, k_102, ks.k, e2, e3, ec, A, M1, M2, x_add]
/-- a stage tried: the first of the least -/
def stF (S : Scr) (t : Stm) (y : (Nat × Nat) × Nat) (k : Nat) (z : Nat × Nat) : Nat × Nat := if z.1 = 0 ∨ sHeld S t y k < z.2 then (k, sHeld S t y k) else z
theorem sHeld_le {S : Scr} {t : Stm} {y : (Nat × Nat) × Nat} {k : Nat} (hO : ScrOK S) (y1 : y.1.1 ≤ 300) (y2 : y.1.2 ≤ 300) (y3 : y.2 ≤ 10) : sHeld S t y k ≤ 2000 := by
  have se := sEach_le (t := t) hO
  have s4 := hO.2.1
  have m2 : y.2 * (1 + sCols S) ≤ 10 * 5 := Nat.mul_le_mul (by omega) (by omega)
  have m1 : y.1.2 * sEach S t ≤ 300 * 5 := Nat.mul_le_mul (by omega) (by omega)
  unfold sHeld
  split
  · split <;> omega
  · split <;> omega
theorem c61_lp {s st : Nat} {S : Scr} {t : Stm} {y : (Nat × Nat) × Nat} (hs : s ∈ scrL) (hst : st ∈ stmsL) (hO : ScrOK S) (hto : StmOK (sCols S) t) : ∀ m k n C (z : Nat × Nat), k + m = 4 → 1 ≤ k → m + 10 < n → PInv C → ScrC C s S → StmC (sCols S) C s st t → PlV C y → cI C 102 5 = nI z.1 → cI C 102 6 = nI z.2 → z.1 ≤ 3 → z.2 ≤ 2000 → Rt (lp_61_85 n 102 s st (nI k) C) (fun _ C' => cI C' 102 5 = nI (qo (stF S t y) m k z).1 ∧ cI C' 102 6 = nI (qo (stF S t y) m k z).2 ∧ (∀ j, j < 5 → cI C' 102 j = cI C 102 j) ∧ Fr PnX C C') := by
  intro m
  induction m with
  | zero =>
    intro k n C z h1 hk hn hP hS ht hy e5 e6 z1 z2
    obtain ⟨n, rfl⟩ : ∃ m, n = m + 1 := ⟨n - 1, by omega⟩
    have b1 : 4 ≤ k := by omega
    simp (disch := omega) only [↓reduceIte, lp_61_85, n_4, x_le, b1, if_true]
    exact rt_ret ⟨e5, e6, fun _ _ => rfl, Fr.refl _ _⟩
  | succ m ih =>
    intro k n C z h1 hk hn hP hS ht hy e5 e6 z1 z2
    obtain ⟨n, rfl⟩ : ∃ m, n = m + 1 := ⟨n - 1, by omega⟩
    have b1 : ¬ 4 ≤ k := by omega
    have w := c64 (n := n) (k := k) hP hs hst hS hO ht hto hy hk (by omega) (by omega)
    have hle := sHeld_le (t := t) (k := k) hO hy.2.2.2.1 hy.2.2.2.2.1 hy.2.2.2.2.2
    have g1 := stm_lt hst
    have g2 := scr_lt hs
    have ew : qo (stF S t y) (m + 1) k z = qo (stF S t y) m (k + 1) (stF S t y k z) := rfl
    rw [ew]
    -- the stage is taken
    have tk : stF S t y k z = (k, sHeld S t y k) → Rt (lp_61_85 n 102 s st (nI k + 1) (uI (uI C 102 5 (nI k)) 102 6 (nI (sHeld S t y k)))) (fun _ C' => cI C' 102 5 = nI (qo (stF S t y) m (k + 1) (stF S t y k z)).1 ∧ cI C' 102 6 = nI (qo (stF S t y) m (k + 1) (stF S t y k z)).2 ∧ (∀ j, j < 5 → cI C' 102 j = cI C 102 j) ∧ Fr PnX C C') := by
      intro q
      rw [q, x_a1]
      have F : Fr PnX C (uI (uI C 102 5 (nI k)) 102 6 (nI (sHeld S t y k))) := ((Fr.refl PnX C).uI (Or.inl rfl)).uI (Or.inl rfl)
      have e : ∀ b, b < 82 → cI (uI (uI C 102 5 (nI k)) 102 6 (nI (sHeld S t y k))) b = cI C b := fun b hb => F.2.1 b (fun y => by have := PnX.ge b y; omega)
      have lo : ∀ j, j < 5 → cI (uI (uI C 102 5 (nI k)) 102 6 (nI (sHeld S t y k))) 102 j = cI C 102 j := fun j hj => by rw [r_I, if_neg (by omega), r_I, if_neg (by omega)]
      obtain ⟨v1, v2, v3, v4⟩ := hy
      have I := ih (k + 1) n (uI (uI C 102 5 (nI k)) 102 6 (nI (sHeld S t y k))) (k, sHeld S t y k) (by omega) (by omega) (by omega) (hP.of F.1) (hS.fr hO hs F PnX.ge) (ht.of (fun b z1 z2 => e b (by omega)) (e _ (by omega)) (e _ (by omega)) (e _ (by omega))) ⟨by rw [lo 1 (by omega)]; exact v1, by rw [lo 2 (by omega)]; exact v2, by rw [lo 3 (by omega)]; exact v3, v4⟩ (by rw [r_I, if_neg (by omega), r_I, if_pos ⟨rfl, rfl⟩]) (by rw [r_I, if_pos ⟨rfl, rfl⟩]) (by simp only; omega) hle
      exact rt_mono I (fun _ C' H => ⟨H.1, H.2.1, fun j hj => by rw [H.2.2.1 j hj, lo j hj], F.trans H.2.2.2⟩)
    by_cases c0 : z.1 = 0
    · have q5 : (cI C 102 5 = 0) = True := eq_true (by rw [e5, c0]; rfl)
      simp (disch := omega) only [↓reduceIte, lp_61_85, n_4, x_le, b1, if_true, if_false, k_102, ↓bd1 w, q5]
      exact tk (by simp [stF, c0])
    · have q5 : ¬ cI C 102 5 = 0 := by rw [e5, x_eq0 (by omega)]; exact c0
      by_cases c1 : sHeld S t y k < z.2
      · have q6 : ¬ cI C 102 6 ≤ nI (sHeld S t y k) := by rw [e6, x_le (by omega) (by omega)]; omega
        simp (disch := omega) only [↓reduceIte, lp_61_85, n_4, b1, if_true, if_false, k_102, ↓bd1 w, q5, q6, x_le]
        exact tk (by simp [stF, c1])
      · have q6 : cI C 102 6 ≤ nI (sHeld S t y k) := by rw [e6, x_le (by omega) (by omega)]; omega
        have q : stF S t y k z = z := by simp [stF, c0, c1]
        rw [q]
        simp (disch := omega) only [↓reduceIte, lp_61_85, n_4, b1, if_true, if_false, k_102, ↓bd1 w, q5, q6, x_le]
        rw [x_a1]
        exact ih (k + 1) n C z (by omega) (by omega) (by omega) hP hS ht hy e5 e6 z1 z2
