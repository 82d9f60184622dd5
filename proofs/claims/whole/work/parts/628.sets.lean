/-! How many columns are set; what a change holds. -/
def sSets (N : Nat) (t : Stm) : Nat := qo (fun c s => if sSetB t c = true then s + 1 else s) N 0 0
theorem qo_le {f : Nat → Bool} : ∀ k j x, qo (fun p s => if f p = true then s + 1 else s) k j x ≤ x + k := by
  intro k
  induction k with
  | zero => intro j x; exact Nat.le_refl _
  | succ k ih =>
    intro j x
    rw [qo]
    have := ih (j + 1) (if f j = true then x + 1 else x)
    split at this <;> rename_i g <;> simp only [↓reduceIte, g, if_true, if_false, Bool.false_eq_true] at this ⊢ <;> omega
theorem sSets_le {N : Nat} {t : Stm} : sSets N t ≤ N := by
  have := qo_le (f := sSetB t) N 0 0
  unfold sSets
  omega
theorem qo_idn {α : Type} {g : Nat → α → α} : ∀ k j a, (∀ p b, j ≤ p → g p b = b) → qo g k j a = a := by
  intro k
  induction k with
  | zero => intro j a _; rfl
  | succ k ih =>
    intro j a h
    rw [qo, h j a (Nat.le_refl _)]
    exact ih (j + 1) a (fun p b hp => h p b (by omega))
theorem sSets_4 {cols : Nat} {t : Stm} (hto : StmOK cols t) (hcol : cols ≤ 4) : sSets cols t = sSets 4 t := by
  obtain ⟨d, hd⟩ : ∃ d, 4 = cols + d := ⟨4 - cols, by omega⟩
  unfold sSets
  rw [hd, qo_add]
  refine (qo_idn d _ _ ?_).symm
  intro p b hp
  have := (hto.2.2.2.2.2.1 p (by omega)).1
  simp [sSetB, this]
theorem c116_lp {C : AmC} {s st cols : Nat} {t : Stm} (hk : StK C st) (ht : StmC cols C s st t) : ∀ k c x n, c + k = 4 → x ≤ c → k < n → lp_116_4 n st (nI x) (nI c) C = some (nI (qo (fun c s => if sSetB t c = true then s + 1 else s) k c x), C) := by
  intro k
  induction k with
  | zero =>
    intro c x n h1 hx h2
    obtain ⟨n, rfl⟩ : ∃ m, n = m + 1 := ⟨n - 1, by omega⟩
    have b1 : 4 ≤ c := by omega
    simp (disch := omega) only [lp_116_4, ↓reduceIte, n_2, n_3, n_4, n_5, n_6, n_7, n_8, n_10, n_12, n_20, n_30, n_40, n_100, n_120, n_150, n_200, n_230, n_320, n_450, n_900, x_le, x_lt, x_eq, x_lt0, x_le0, x_0le, x_0lt, x_eq0, x_eq1, x_1lt, x_le1, x_lt1, x_1le, x_eqm, x_add, x_a1, x_1a, x_a0, x_0a, x_mul, x_sub, x_s1, x_1s, x_div, x_cl, x_cl0, x_cl1, x_in, x_in0, x_in1, x_ofNat, b1, if_true, qo]
  | succ k ih =>
    intro c x n h1 hx h2
    obtain ⟨n, rfl⟩ : ∃ m, n = m + 1 := ⟨n - 1, by omega⟩
    have b1 : ¬ 4 ≤ c := by omega
    have c4 : c < 4 := by omega
    have m := (ht.2.2.2.2.2.1 c c4).m1
    rw [qo]
    by_cases e : tSet t c = none
    · have m' : (cI C (st + 1) c = -1) = True := eq_true (m.mpr e)
      have z : sSetB t c = false := by simp [sSetB, e]
      rw [z]
      have ihx := ih (c + 1) x n (by omega) (by omega) (by omega)
      simp (disch := omega) only [lp_116_4, ↓reduceIte, n_2, n_3, n_4, n_5, n_6, n_7, n_8, n_10, n_12, n_20, n_30, n_40, n_100, n_120, n_150, n_200, n_230, n_320, n_450, n_900, x_le, x_lt, x_eq, x_lt0, x_le0, x_0le, x_0lt, x_eq0, x_eq1, x_1lt, x_le1, x_lt1, x_1le, x_eqm, x_add, x_a1, x_1a, x_a0, x_0a, x_mul, x_sub, x_s1, x_1s, x_div, x_cl, x_cl0, x_cl1, x_in, x_in0, x_in1, x_ofNat, b1, if_true, if_false, hk.1, ↓bd1 hk.2.1, hk.2.2.2.1, hk.2.2.2.2.1, c4, m', Bool.false_eq_true]
      exact ihx
    · have m' : ¬ cI C (st + 1) c = -1 := fun z => e (m.mp z)
      have z : sSetB t c = true := by
        unfold sSetB
        cases hh : tSet t c with
        | none => exact absurd hh e
        | some _ => rfl
      rw [z]
      have ihx := ih (c + 1) (x + 1) n (by omega) (by omega) (by omega)
      simp (disch := omega) only [lp_116_4, ↓reduceIte, n_2, n_3, n_4, n_5, n_6, n_7, n_8, n_10, n_12, n_20, n_30, n_40, n_100, n_120, n_150, n_200, n_230, n_320, n_450, n_900, x_le, x_lt, x_eq, x_lt0, x_le0, x_0le, x_0lt, x_eq0, x_eq1, x_1lt, x_le1, x_lt1, x_1le, x_eqm, x_add, x_a1, x_1a, x_a0, x_0a, x_mul, x_sub, x_s1, x_1s, x_div, x_cl, x_cl0, x_cl1, x_in, x_in0, x_in1, x_ofNat, b1, if_true, if_false, hk.1, ↓bd1 hk.2.1, hk.2.2.2.1, hk.2.2.2.2.1, c4, m']
      exact ihx
theorem c116 {n : Nat} {C : AmC} {s st cols : Nat} {t : Stm} (hk : StK C st) (ht : StmC cols C s st t) (hn : 5 ≤ n) : f_116 n st C = some (nI (sSets 4 t), C) := by
  have L := c116_lp hk ht 4 0 0 n rfl (Nat.le_refl _) (by omega)
  rw [x_0] at L
  unfold f_116 sSets
  rw [L]
  rfl
theorem m239_lp {C : AmC} {h i : Nat} {S : Scr} {t : Stm} (hM : MC C h S) (hi : i < 16) (ht : StmM C i t) : ∀ k c x n, c + k = sCols S → x ≤ c → k < n → lp_239_4 n 145 (nI i) (nI x) (nI c) C = some (nI (qo (fun c s => if sSetB t c = true then s + 1 else s) k c x), C) := by
  have hP := hM.1
  have hh : h < 2 := hM.2.2.1.1
  have ec := hM.2.2.1.2.1
  have s4 := hM.2.2.2.2.1
  have n01 : ¬ (1 : Int32) = 0 := by decide
  intro k
  induction k with
  | zero =>
    intro c x n h1 hx h2
    obtain ⟨n, rfl⟩ : ∃ m, n = m + 1 := ⟨n - 1, by omega⟩
    have b1 : sCols S ≤ c := by omega
    simp (disch := omega) only [↓reduceIte, lp_239_4, if_true, if_false, Option.bind_some, k_145, ↓bd1 (w_145_21 hP), k_159, l_159, hM.2.1, x_in, x_cl, hh, ec, x_le, b1, qo]
  | succ k ih =>
    intro c x n h1 hx h2
    obtain ⟨n, rfl⟩ : ∃ m, n = m + 1 := ⟨n - 1, by omega⟩
    have b1 : ¬ sCols S ≤ c := by omega
    have w := m227 (n := n) hP hi ht (show c < 4 by omega)
    rw [qo]
    rcases bcs (sSetB t c) with z | z
    · rw [z] at w ⊢
      simp only [↓reduceIte, Bool.false_eq_true, if_false] at w
      have ihx := ih (c + 1) x n (by omega) (by omega) (by omega)
      simp (disch := omega) only [↓reduceIte, lp_239_4, if_true, if_false, Option.bind_some, k_145, ↓bd1 (w_145_21 hP), k_159, l_159, hM.2.1, x_in, x_cl, hh, ec, x_le, b1, ↓bd1 w, x_a1, x_a0, Bool.false_eq_true]
      exact ihx
    · rw [z] at w ⊢
      simp only [↓reduceIte, if_true] at w
      have ihx := ih (c + 1) (x + 1) n (by omega) (by omega) (by omega)
      simp (disch := omega) only [↓reduceIte, lp_239_4, if_true, if_false, Option.bind_some, k_145, ↓bd1 (w_145_21 hP), k_159, l_159, hM.2.1, x_in, x_cl, hh, ec, x_le, b1, ↓bd1 w, x_a1, n01]
      exact ihx
theorem m239 {n : Nat} {C : AmC} {h i : Nat} {S : Scr} {t : Stm} (hM : MC C h S) (hi : i < 16) (ht : StmM C i t) (hto : StmOK (sCols S) t) (hn : 5 ≤ n) : f_239 n 145 (nI i) C = some (nI (sSets 4 t), C) := by
  have s4 := hM.2.2.2.2.1
  have L := m239_lp hM hi ht (sCols S) 0 0 n (by omega) (Nat.le_refl _) (by omega)
  rw [x_0] at L
  rw [← sSets_4 hto s4]
  unfold f_239 sSets
  rw [L]
  rfl
/-- what one row that holds needs of a spool of stage 3 -/
def sEach (S : Scr) (t : Stm) : Nat := if tCh t = 0 then 1 + sSets 4 t else if tCh t = 3 then 1 + sCols S else if tCh t = 1 then 1 else 0
theorem m240 {n : Nat} {C : AmC} {h i : Nat} {S : Scr} {t : Stm} (hM : MC C h S) (hi : i < 16) (ht : StmM C i t) (hto : StmOK (sCols S) t) (k3 : ¬ tKd t = 3) (hn : 5 ≤ n) : f_240 n 145 (nI i) C = some (nI (sEach S t), C) := by
  have hP := hM.1
  have hh : h < 2 := hM.2.2.1.1
  have ec := hM.2.2.1.2.1
  have s4 := hM.2.2.2.2.1
  have k4 := hto.1
  have ss := sSets_le (N := 4) (t := t)
  have w := m239 (n := n) hM hi ht hto hn
  unfold f_240
  by_cases c2 : tKd t = 2
  · have e2 : (nI (tKd t) = (2 : Int32)) = True := by rw [c2]; decide
    have e : sEach S t = 1 + sCols S := by simp [sEach, tCh, c2]
    rw [e]
    simp (disch := omega) only [↓reduceIte, if_true, if_false, Option.bind_some, k_145, ↓bd1 (w_145_32 hP), k_170, l_170, ↓bd1 (w_145_21 hP), k_159, l_159, hM.2.1, x_in, x_cl, hi, hh, ht.1, e2, not_true, ec, x_1a]
  · have e2 : ¬ nI (tKd t) = (2 : Int32) := by rw [n_2, x_eq (by omega) (by omega)]; exact c2
    by_cases c1 : tKd t = 1
    · have e1 : (nI (tKd t) = (1 : Int32)) = True := by rw [c1]; decide
      have e : sEach S t = 1 := by simp [sEach, tCh, c1]
      rw [e]
      simp (disch := omega) only [↓reduceIte, if_true, if_false, Option.bind_some, k_145, ↓bd1 (w_145_32 hP), k_170, l_170, x_in, x_cl, hi, ht.1, e1, e2, not_true, not_false_iff]
      rfl
    · have e1 : ¬ nI (tKd t) = (1 : Int32) := by rw [x_eq1 (by omega)]; exact c1
      have e : sEach S t = 1 + sSets 4 t := by simp [sEach, tCh, show tKd t = 0 by omega]
      rw [e]
      simp (disch := omega) only [↓reduceIte, if_true, if_false, Option.bind_some, k_145, ↓bd1 (w_145_32 hP), k_170, l_170, x_in, x_cl, hi, ht.1, e1, e2, not_true, not_false_iff, ↓bd1 w, x_1a]
