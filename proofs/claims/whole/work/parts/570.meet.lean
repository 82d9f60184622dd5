/-! The class's pass: a write, a row that is met. -/
def PX (a : Nat) (b : Nat) : Prop := b = a ∨ b = a + 1 ∨ b = a + 2 ∨ b = a + 4 ∨ b = a + 5 ∨ b = a + 6 ∨ b = a + 7
/-- the pass's numbers -/
def PsF (C : AmC) (a : Nat) (S : Scr) (stage : Nat) (r : RS) : Prop := TabC (sCols S) C (a + 1) (rT r) ∧ cI C a 8 = nI stage ∧ cI C a 10 = nI (rL r).length ∧ cI C a 11 = rE r ∧ cI C a 12 = r1 r ∧ cI C a 13 = r2 r ∧ ∀ p, p < 30 → cI C (a + 7) p = nI (rC r p)
/-- the pass's spool -/
def ItC (C : AmC) (a : Nat) (S : Scr) (t : Stm) (stage : Nat) (its : List Itm) : Prop := cI C a 9 = nI its.length ∧ its.length ≤ 40 ∧ ∀ i (h : i < its.length), cI C (a + 4) i = oI its[i].1 ∧ cI C (a + 5) i = oI its[i].2.1 ∧ (stage = 3 → SlC C a i S t its[i].1 its[i].2.2)
def PasC (C : AmC) (a : Nat) (S : Scr) (t : Stm) (stage : Nat) (x : RS × List Itm) : Prop := PsF C a S stage x.1 ∧ (rE x.1 = 0 → ItC C a S t stage x.2)
/-- what holds of a run -/
def RSok (S : Scr) (r : RS) : Prop := TabN (sCols S) (rT r) ∧ (rL r).length ≤ 200
theorem c57 {n : Nat} {C : AmC} {a s st j stage : Nat} {S : Scr} {r : RS} {t : Stm} {pl : Option Nat} {mk : Nat → Int32} (hj : j < 40) (hp : ∀ p, pl = some p → p < 30) (h : PK C a s st S t) (hF : PsF C a S stage r) (hw : (rL r).length ≤ 200) (hnew : isNewS t pl = true → ∀ c, c < sCols S → (tNew t c).isSome = true) (hh : ∀ p, pl = some p → isNewS t pl = false → (rT r).1 p = true) (hs : SlC C a j S t pl mk) (hn : 200 ≤ n) : Rt (f_57 n a (nI j) C) (fun _ C' => PsF C' a S stage (sWrite t pl mk r) ∧ Fr (fun b => b = a ∨ b = a + 1 ∨ b = a + 2 ∨ b = a + 7) C C' ∧ cI C' a 9 = cI C a 9) := by
  have hK := h
  obtain ⟨hP, g2, g3, g4, g5, g6, g7, g8, g9, g10⟩ := h
  have k3 := pa_of hP g2
  have hrw := rw_of hP k3.rw
  obtain ⟨a1, a2⟩ := pas_ge g2
  have w55 := c55 (n := n) hK hj hp hs.1
  have ne1 : ¬ (1 : Int32) = 0 := by decide
  obtain ⟨f1, f2, f3, f4, f5, f6, f7⟩ := hF
  have w80 := rf_eq (n := n) hrw f1 (by omega)
  have w58 := c58 (n := n) (r := a + 1) hj hp k3.rw (by omega) (by omega) hK f1 hnew hh hs (by omega)
  have fail : ∀ e : Int32, Rt ((f_48 n a e (-1) (-1) C).bind (fun z => match z with
      | (_, C20) => some ((), C20))) (fun _ C' => PsF C' a S stage (rEnd r e (-1) (-1)) ∧ Fr (fun b => b = a ∨ b = a + 1 ∨ b = a + 2 ∨ b = a + 7) C C' ∧ cI C' a 9 = cI C a 9) := by
    intro e
    rw [c48 k3.k]
    refine rt_ret ⟨⟨?_, ?_, ?_, ?_, ?_, ?_, ?_⟩, (((Fr.refl (fun b => b = a ∨ b = a + 1 ∨ b = a + 2 ∨ b = a + 7) C).uI (a := a) (Or.inl rfl)).uI (a := a) (Or.inl rfl)).uI (a := a) (Or.inl rfl), by simp [r_I]⟩
    · refine TabC.of f1 ?_ ?_
      · rw [r_In (by omega), r_In (by omega), r_In (by omega)]
      · rw [r_In (by omega), r_In (by omega), r_In (by omega)]
    · simp [r_I, f2]
    · simp [r_I, f3, rL, rEnd]
    · simp [r_I, rE, rEnd]
    · simp [r_I, r1, rEnd]
    · simp [r_I, r2, rEnd]
    · intro p hp
      rw [r_In (by omega), r_In (by omega), r_In (by omega)]
      exact f7 p hp
  have tail : ∀ q, sAt (rT r) t pl = some q → (rL r).length < 200 → Rt ((f_58 n a (a + 1) (nI j) C).bind (fun z => match z with
      | (q9, C10) => (if q9 < 0 then some ((), uI C10 a 10 ((cI C10 a 10) + (1 : Int32))) else (if (30 : Int32) ≤ q9 then some ((), uI C10 a 10 ((cI C10 a 10) + (1 : Int32))) else (cP (uI C10 a 10 ((cI C10 a 10) + (1 : Int32))) a 5).bind (fun r14 => if isK r14 12 = true then if amIn q9 (aLen r14) = true then if amIn q9 (aLen r14) = true then some ((), uI (uI C10 a 10 ((cI C10 a 10) + (1 : Int32))) r14 (Int32.toNatClampNeg q9) ((cI (uI C10 a 10 ((cI C10 a 10) + (1 : Int32))) r14 (Int32.toNatClampNeg q9)) + (1 : Int32))) else none else none else none))))) (fun _ C' => PsF C' a S stage (sWrite t pl mk r) ∧ Fr (fun b => b = a ∨ b = a + 1 ∨ b = a + 2 ∨ b = a + 7) C C' ∧ cI C' a 9 = cI C a 9) := by
    intro q hq hlen
    have q30 := sAt_lt hp hq
    refine rt_bind (rt_mono w58 (fun z C1 H => ?_))
    obtain ⟨e1, F1, T1⟩ := H
    rw [hq] at e1 T1
    dsimp only at T1
    have e1 : z = nI q := e1
    subst e1
    have k4 := pa_of (hP.of F1.1) g2
    have b1 : ¬ 30 ≤ q := by omega
    have ea : cI C1 a = cI C a := F1.2.1 a (by omega)
    have e7 : cI C1 (a + 7) = cI C (a + 7) := F1.2.1 (a + 7) (by omega)
    simp (disch := omega) only [↓reduceIte, n_2, n_3, n_4, n_5, n_6, n_7, n_8, n_10, n_12, n_20, n_30, n_40, n_100, n_120, n_150, n_200, n_230, n_320, n_450, n_900, x_le, x_lt, x_eq, x_lt0, x_le0, x_0le, x_0lt, x_eq0, x_eq1, x_1lt, x_le1, x_lt1, x_1le, x_eqm, x_add, x_a1, x_1a, x_a0, x_0a, x_mul, x_sub, x_s1, x_1s, x_div, x_cl, x_cl0, x_cl1, x_in, x_in0, x_in1, x_ofNat, if_true, if_false, b1, ↓bp_I, ↓bd1 k4.p5, k4.k7, k4.l7, q30]
    have n1 : ¬ 200 ≤ (rL r).length := by omega
    have eW : sWrite t pl mk r = (sPut (rT r) t pl q mk, r.2.1, va_up (rC r) q (rC r q + 1), rL r ++ [(pl, q, mk)]) := by
      unfold sWrite
      rw [hq]
      dsimp only
      rw [if_neg n1]
    rw [eW]
    refine rt_ret ⟨⟨?_, ?_, ?_, ?_, ?_, ?_, ?_⟩, ((F1.mono (fun b hb => by omega)).uI (a := a) (Or.inl rfl)).uI (a := a + 7) (by omega), ?_⟩
    · refine TabC.of T1 ?_ ?_
      · rw [r_In (by omega), r_In (by omega)]
      · rw [r_In (by omega), r_In (by omega)]
    · simp [r_I, ea, f2]
    · simp [r_I, ea, f3, rL, x_a1]
    · simp [r_I, ea, f4, rE]
    · simp [r_I, ea, f5, r1]
    · simp [r_I, ea, f6, r2]
    · intro p hp
      rw [r_I]
      by_cases ep : p = q
      · subst ep
        rw [if_pos ⟨rfl, rfl⟩, r_I, if_neg (by omega), e7, f7 p hp, x_a1]
        simp [rC, va_up]
      · rw [if_neg (by omega), r_I, if_neg (by omega), e7, f7 p hp]
        simp [rC, va_up, ep]
    · simp [r_I, ea]
  unfold f_57
  have fe : rEnd r 4 (-1) (-1) = sWrite t pl mk r ∨ (rL r).length < 200 ∨ sAt (rT r) t pl = none := by
    by_cases y : (rL r).length < 200
    · exact Or.inr (Or.inl y)
    · cases hq : sAt (rT r) t pl with
      | none => exact Or.inr (Or.inr rfl)
      | some q =>
        refine Or.inl ?_
        unfold sWrite
        rw [hq]
        dsimp only
        rw [if_pos (by omega)]
  rcases bcs (isNewS t pl) with b | b
  · rw [b] at w55
    simp only [↓reduceIte, Bool.false_eq_true, if_false] at w55
    have e9 : sAt (rT r) t pl = pl := by rw [sAt, if_neg (by rw [b]; decide)]
    cases hpl : pl with
    | none => rw [hpl] at b; simp [isNewS] at b
    | some p =>
      rw [hpl] at e9
      have hq : sAt (rT r) t pl = some p := by rw [hpl]; exact e9
      rw [← hpl]
      by_cases y : (rL r).length < 200
      · simp (disch := omega) only [k3.k, if_true, ↓bd1 w55, f3, ↓reduceIte, n_2, n_3, n_4, n_5, n_6, n_7, n_8, n_10, n_12, n_20, n_30, n_40, n_100, n_120, n_150, n_200, n_230, n_320, n_450, n_900, x_le, x_lt, x_eq, x_lt0, x_le0, x_0le, x_0lt, x_eq0, x_eq1, x_1lt, x_le1, x_lt1, x_1le, x_eqm, x_add, x_a1, x_1a, x_a0, x_0a, x_mul, x_sub, x_s1, x_1s, x_div, x_cl, x_cl0, x_cl1, x_in, x_in0, x_in1, x_ofNat, y, ↓bd1 k3.p0]
        exact tail p hq y
      · have y2 : ¬ (rL r).length < 200 := y
        simp (disch := omega) only [k3.k, if_true, if_false, ↓bd1 w55, f3, ↓reduceIte, n_2, n_3, n_4, n_5, n_6, n_7, n_8, n_10, n_12, n_20, n_30, n_40, n_100, n_120, n_150, n_200, n_230, n_320, n_450, n_900, x_le, x_lt, x_eq, x_lt0, x_le0, x_0le, x_0lt, x_eq0, x_eq1, x_1lt, x_le1, x_lt1, x_1le, x_eqm, x_add, x_a1, x_1a, x_a0, x_0a, x_mul, x_sub, x_s1, x_1s, x_div, x_cl, x_cl0, x_cl1, x_in, x_in0, x_in1, x_ofNat, y2]
        rcases fe with z | z | z
        · rw [← z]; exact fail 4
        · exact absurd z y
        · rw [hq] at z; cases z
  · rw [b] at w55
    simp only [↓reduceIte, if_true] at w55
    have e9 : sAt (rT r) t pl = sFree (rT r) := by rw [sAt, if_pos b]
    cases hf : sFree (rT r) with
    | none =>
      rw [hf] at w80
      have w80 : f_80 n (a + 1) C = some (-1, C) := w80
      have z : sWrite t pl mk r = rEnd r 3 (-1) (-1) := by
        unfold sWrite
        rw [e9, hf]
      rw [z]
      simp (disch := omega) only [↓reduceIte, k3.k, if_true, if_false, ↓bd1 w55, ne1, ↓bd1 k3.p0, hrw.1, ↓bd1 w80, not_true]
      exact fail 3
    | some q =>
      rw [hf] at w80 e9
      have w80 : f_80 n (a + 1) C = some (nI q, C) := w80
      have q30 := (sFree_some hf).1
      have em : ¬ nI q = (-1 : Int32) := by rw [x_eqm (by omega)]; exact id
      by_cases y : (rL r).length < 200
      · simp (disch := omega) only [k3.k, if_true, if_false, ↓bd1 w55, ne1, ↓bd1 k3.p0, hrw.1, ↓bd1 w80, em, not_false_iff, f3, ↓reduceIte, n_2, n_3, n_4, n_5, n_6, n_7, n_8, n_10, n_12, n_20, n_30, n_40, n_100, n_120, n_150, n_200, n_230, n_320, n_450, n_900, x_le, x_lt, x_eq, x_lt0, x_le0, x_0le, x_0lt, x_eq0, x_eq1, x_1lt, x_le1, x_lt1, x_1le, x_eqm, x_add, x_a1, x_1a, x_a0, x_0a, x_mul, x_sub, x_s1, x_1s, x_div, x_cl, x_cl0, x_cl1, x_in, x_in0, x_in1, x_ofNat, y]
        exact tail q e9 y
      · have y2 : ¬ (rL r).length < 200 := y
        simp (disch := omega) only [k3.k, if_true, if_false, ↓bd1 w55, ne1, ↓bd1 k3.p0, hrw.1, ↓bd1 w80, em, not_false_iff, f3, ↓reduceIte, n_2, n_3, n_4, n_5, n_6, n_7, n_8, n_10, n_12, n_20, n_30, n_40, n_100, n_120, n_150, n_200, n_230, n_320, n_450, n_900, x_le, x_lt, x_eq, x_lt0, x_le0, x_0le, x_0lt, x_eq0, x_eq1, x_1lt, x_le1, x_lt1, x_1le, x_eqm, x_add, x_a1, x_1a, x_a0, x_0a, x_mul, x_sub, x_s1, x_1s, x_div, x_cl, x_cl0, x_cl1, x_in, x_in0, x_in1, x_ofNat, y2]
        rcases fe with z | z | z
        · rw [← z]; exact fail 4
        · exact absurd z y
        · rw [e9] at z; cases z
