/-! Reason 1, the reference: whole; the reasons. -/
theorem m232 {n : Nat} {C : AmC} {h i path : Nat} {S : Scr} {t : Stm} {b : Bool} (hM : MC C h S) (hi : i < 16) (ht : StmM C i t) (hto : StmOK (sCols S) t) (hpa : PathOK S path) (p0 : ¬ path = 0) (hs : ∀ c, sSrc t c = srcB t b c) : ∃ o : Option Nat, f_232 n 145 (nI i) (nI path) (if b = true then 1 else 0) C = some (oI o, C) ∧ ((o = none ∧ sMot S t path = some 0) ∨ ∃ c, o = some c ∧ c < 4 ∧ sMot S t path = sMv c (srcB t b c) ∧ ¬ sMot S t path = some 0) := by
  have hP := hM.1
  have hO := hM.2.2.2
  have p7 := hpa.lt hO
  have ix := hpa.ix p0
  have s4 := hO.2.1
  have l3 := hO.2.2.1
  have hh : h < 2 := hM.2.2.1.1
  obtain ⟨i1, i2⟩ := ix_lt hO ix
  obtain ⟨y1, y2⟩ := hM.2.2.1.2.2.2.1 _ ix
  have w1 : f_194 n 145 (nI path) C = some (nI (3 * h + (path - 1) / 2), C) := by rw [m194 hM (by omega), if_neg p0]
  have j6 : 3 * h + (path - 1) / 2 < 6 := by omega
  have wa := m230 (n := n) (b := b) hP hi ht hto (show ix1 S ((path - 1) / 2) < 4 by omega)
  rw [← y1, ← x_cl (j := 3 * h + (path - 1) / 2) (by omega)] at wa
  have n01 : ¬ (1 : Int32) = 0 := by decide
  unfold f_232 sMot
  rw [hs]
  by_cases g1 : sMv (ix1 S ((path - 1) / 2)) (srcB t b (ix1 S ((path - 1) / 2))) = some 0
  · rw [if_pos g1] at wa ⊢
    cases e : ix2 S ((path - 1) / 2) with
    | none =>
      rw [e] at y2
      refine ⟨none, ?_, Or.inl ⟨rfl, rfl⟩⟩
      have y2' : cI C 168 (3 * h + (path - 1) / 2) = -1 := y2
      simp (disch := omega) only [↓reduceIte, if_true, if_false, Option.bind_some, k_145, ↓bd1 w1, ↓bd1 (w_145_29 hP), k_167, l_167, ↓bd1 (w_145_30 hP), k_168, l_168, x_in, x_cl, j6, ↓bd1 wa, y2', oI_n]
    | some c =>
      rw [e] at y2
      have c4 := (i2 c e).1
      have y2' : cI C 168 (3 * h + (path - 1) / 2) = nI c := y2
      have wb := m230 (n := n) (b := b) hP hi ht hto (show c < 4 by omega)
      rw [← y2', ← x_cl (j := 3 * h + (path - 1) / 2) (by omega)] at wb
      have nc : ¬ nI c = (-1 : Int32) := by rw [x_eqm (by omega)]; exact id
      have em : sMvO t (some c) = sMv c (srcB t b c) := by rw [← hs]; rfl
      rw [em]
      by_cases g2 : sMv c (srcB t b c) = some 0
      · rw [if_pos g2] at wb
        refine ⟨none, ?_, Or.inl ⟨rfl, g2⟩⟩
        simp (disch := omega) only [↓reduceIte, if_true, if_false, Option.bind_some, k_145, ↓bd1 w1, ↓bd1 (w_145_29 hP), k_167, l_167, ↓bd1 (w_145_30 hP), k_168, l_168, x_in, x_cl, j6, ↓bd1 wa, y2', nc, ↓bd1 wb, oI_n]
      · rw [if_neg g2] at wb
        refine ⟨some c, ?_, Or.inr ⟨c, rfl, by omega, rfl, g2⟩⟩
        simp (disch := omega) only [↓reduceIte, if_true, if_false, Option.bind_some, k_145, ↓bd1 w1, ↓bd1 (w_145_29 hP), k_167, l_167, ↓bd1 (w_145_30 hP), k_168, l_168, x_in, x_cl, j6, ↓bd1 wa, y2', nc, ↓bd1 wb, n01, oI_s]
  · rw [if_neg g1] at wa ⊢
    refine ⟨some (ix1 S ((path - 1) / 2)), ?_, Or.inr ⟨_, rfl, by omega, rfl, g1⟩⟩
    simp (disch := omega) only [↓reduceIte, if_true, if_false, Option.bind_some, k_145, ↓bd1 w1, ↓bd1 (w_145_29 hP), k_167, l_167, x_in, x_cl, j6, ↓bd1 wa, n01, y1, oI_s]
theorem m233 {n : Nat} {C : AmC} {h i path : Nat} {S : Scr} {t : Stm} (hM : MC C h S) (hi : i < 16) (ht : StmM C i t) (hto : StmOK (sCols S) t) (hpa : PathOK S path) : f_233 n 145 (nI i) (nI path) C = some (if sSelf S t path = true then 1 else 0, C) := by
  have hP := hM.1
  have hO := hM.2.2.2
  have p7 := hpa.lt hO
  have s4 := hO.2.1
  have l3 := hO.2.2.1
  have hh : h < 2 := hM.2.2.1.1
  have k3 := hto.1
  have n01 : ¬ (1 : Int32) = 0 := by decide
  have ow := hto.2.2.2.1
  unfold f_233 sSelf
  by_cases c3 : tKd t = 3
  · rw [if_pos c3]
    have e1 : ¬ nI (tKd t) = (1 : Int32) := by rw [c3]; decide
    have e3 : (nI (tKd t) = (3 : Int32)) = True := by rw [c3]; decide
    have b1 : 4 * i < 64 := by omega
    have m := (ht.2.2.2.2.1 0 (by omega)).m1
    rw [Nat.add_zero] at m
    have wo := m227 (n := n) hP hi ht (show tOwn t < 4 by omega)
    rw [← (ht.2.2.1 c3).1] at wo
    have wo : f_227 n 145 (nI i) (cI C 172 (Int32.toNatClampNeg (nI i))) C = some (if sSetB t (tOwn t) = true then 1 else 0, C) := by rw [x_cl (by omega)]; exact wo
    by_cases a : tNew t 0 = none
    · have ta : tAdds t = false := by simp [tAdds, a]
      have m' : (cI C 177 (4 * i) = -1) = True := eq_true (m.mpr a)
      rw [ta, Bool.false_or]
      rcases bcs (sSetB t (tOwn t)) with d | d
      · rw [d] at wo ⊢
        simp only [↓reduceIte, Bool.false_eq_true, if_false] at wo
        rw [Bool.false_or]
        by_cases p0 : path = 0
        · have w1 : f_194 n 145 (nI path) C = some (-1, C) := by rw [m194 hM (by omega), if_pos p0]
          have l0 : (nI path ≤ 0) = True := by rw [p0]; decide
          have dp : (!decide (path = 0)) = false := by simp [p0]
          rw [dp, Bool.false_and]
          simp (disch := omega) only [↓reduceIte, if_true, if_false, Option.bind_some, k_145, ↓bd1 (w_145_32 hP), k_170, l_170, ↓bd1 (w_145_39 hP), k_177, l_177, ↓bd1 (w_145_34 hP), k_172, l_172, x_in, x_cl, hi, ht.1, e1, e3, not_true, not_false_iff, n_4, x_mul, b1, m', ↓bd1 wo, ↓bd1 w1, l0, Bool.false_eq_true]
        · have ix := hpa.ix p0
          obtain ⟨i1, i2⟩ := ix_lt hO ix
          obtain ⟨y1, y2⟩ := hM.2.2.1.2.2.2.1 _ ix
          have w1 : f_194 n 145 (nI path) C = some (nI (3 * h + (path - 1) / 2), C) := by rw [m194 hM (by omega), if_neg p0]
          have j6 : 3 * h + (path - 1) / 2 < 6 := by omega
          have l0 : ¬ nI path ≤ 0 := by rw [x_le0 (by omega)]; exact p0
          have wa := m227 (n := n) hP hi ht (show ix1 S ((path - 1) / 2) < 4 by omega)
          rw [← y1, ← x_cl (j := 3 * h + (path - 1) / 2) (by omega)] at wa
          have dp : (!decide (path = 0)) = true := by simp [p0]
          rw [dp, Bool.true_and]
          rcases bcs (sSetB t (ix1 S ((path - 1) / 2))) with f | f
          · rw [f] at wa ⊢
            simp only [↓reduceIte, Bool.false_eq_true, if_false] at wa
            rw [Bool.false_or]
            cases e : ix2 S ((path - 1) / 2) with
            | none =>
              rw [e] at y2
              have y2' : cI C 168 (3 * h + (path - 1) / 2) = -1 := y2
              simp (disch := omega) only [↓reduceIte, if_true, if_false, Option.bind_some, k_145, ↓bd1 (w_145_32 hP), k_170, l_170, ↓bd1 (w_145_39 hP), k_177, l_177, ↓bd1 (w_145_34 hP), k_172, l_172, ↓bd1 (w_145_29 hP), k_167, l_167, ↓bd1 (w_145_30 hP), k_168, l_168, x_in, x_cl, hi, ht.1, e1, e3, not_true, not_false_iff, n_4, x_mul, b1, m', ↓bd1 wo, ↓bd1 w1, l0, j6, y1, ↓bd1 wa, y2', sSetO, Bool.false_eq_true]
            | some c =>
              rw [e] at y2
              have c4 := (i2 c e).1
              have y2' : cI C 168 (3 * h + (path - 1) / 2) = nI c := y2
              have nc : ¬ nI c = (-1 : Int32) := by rw [x_eqm (by omega)]; exact id
              have wb := m227 (n := n) hP hi ht (show c < 4 by omega)
              rw [← y2', ← x_cl (j := 3 * h + (path - 1) / 2) (by omega)] at wb
              rw [show sSetO t (some c) = sSetB t c from rfl]
              rcases bcs (sSetB t c) with g | g
              · rw [g] at wb ⊢
                simp only [↓reduceIte, Bool.false_eq_true, if_false] at wb
                simp (disch := omega) only [↓reduceIte, if_true, if_false, Option.bind_some, k_145, ↓bd1 (w_145_32 hP), k_170, l_170, ↓bd1 (w_145_39 hP), k_177, l_177, ↓bd1 (w_145_34 hP), k_172, l_172, ↓bd1 (w_145_29 hP), k_167, l_167, ↓bd1 (w_145_30 hP), k_168, l_168, x_in, x_cl, hi, ht.1, e1, e3, not_true, not_false_iff, n_4, x_mul, b1, m', ↓bd1 wo, ↓bd1 w1, l0, j6, y1, ↓bd1 wa, y2', nc, ↓bd1 wb, Bool.false_eq_true]
              · rw [g] at wb ⊢
                simp only [↓reduceIte, if_true] at wb
                simp (disch := omega) only [↓reduceIte, if_true, if_false, Option.bind_some, k_145, ↓bd1 (w_145_32 hP), k_170, l_170, ↓bd1 (w_145_39 hP), k_177, l_177, ↓bd1 (w_145_34 hP), k_172, l_172, ↓bd1 (w_145_29 hP), k_167, l_167, ↓bd1 (w_145_30 hP), k_168, l_168, x_in, x_cl, hi, ht.1, e1, e3, not_true, not_false_iff, n_4, x_mul, b1, m', ↓bd1 wo, ↓bd1 w1, l0, j6, y1, ↓bd1 wa, y2', nc, ↓bd1 wb, n01]
          · rw [f] at wa ⊢
            simp only [↓reduceIte, if_true] at wa
            simp (disch := omega) only [↓reduceIte, if_true, if_false, Option.bind_some, k_145, ↓bd1 (w_145_32 hP), k_170, l_170, ↓bd1 (w_145_39 hP), k_177, l_177, ↓bd1 (w_145_34 hP), k_172, l_172, ↓bd1 (w_145_29 hP), k_167, l_167, ↓bd1 (w_145_30 hP), k_168, l_168, x_in, x_cl, hi, ht.1, e1, e3, not_true, not_false_iff, n_4, x_mul, b1, m', ↓bd1 wo, ↓bd1 w1, l0, j6, y1, ↓bd1 wa, n01, Bool.true_or]
      · rw [d] at wo ⊢
        simp only [↓reduceIte, if_true] at wo
        simp (disch := omega) only [↓reduceIte, if_true, if_false, Option.bind_some, k_145, ↓bd1 (w_145_32 hP), k_170, l_170, ↓bd1 (w_145_39 hP), k_177, l_177, ↓bd1 (w_145_34 hP), k_172, l_172, x_in, x_cl, hi, ht.1, e1, e3, not_true, not_false_iff, n_4, x_mul, b1, m', ↓bd1 wo, n01, Bool.true_or]
    · have ta : tAdds t = true := by
        unfold tAdds
        cases hh : tNew t 0 with
        | none => exact absurd hh a
        | some _ => rfl
      have m' : ¬ cI C 177 (4 * i) = -1 := fun z => a (m.mp z)
      rw [ta]
      simp (disch := omega) only [↓reduceIte, if_true, if_false, Option.bind_some, k_145, ↓bd1 (w_145_32 hP), k_170, l_170, ↓bd1 (w_145_39 hP), k_177, l_177, x_in, x_cl, hi, ht.1, e1, e3, not_true, not_false_iff, n_4, x_mul, b1, m', Bool.true_or]
  · rw [if_neg c3]
    have e3 : ¬ nI (tKd t) = (3 : Int32) := by rw [n_3, x_eq (by omega) (by omega)]; exact c3
    by_cases c1 : tKd t = 1
    · rw [if_pos c1]
      have e1 : (nI (tKd t) = (1 : Int32)) = True := by rw [c1]; decide
      simp (disch := omega) only [↓reduceIte, if_true, if_false, Option.bind_some, k_145, ↓bd1 (w_145_32 hP), k_170, l_170, x_in, x_cl, hi, ht.1, e1, not_true, Bool.false_eq_true]
    · rw [if_neg c1]
      have e1 : ¬ nI (tKd t) = (1 : Int32) := by rw [x_eq1 (by omega)]; exact c1
      have fin : ∀ (b : Bool) (o : Option Nat), (∀ c, sSrc t c = srcB t b c) → ((o = none ∧ sMot S t path = some 0) ∨ ∃ c, o = some c ∧ c < 4 ∧ sMot S t path = sMv c (srcB t b c) ∧ ¬ sMot S t path = some 0) → (if ¬ oI o = (-1 : Int32) then (f_231 n 145 (nI i) (oI o) (if b = true then 1 else 0) (nI path) C).bind (fun z => match z with | (q22, C23) => (if ¬ q22 = 0 then some ((0 : Int32), C23) else some ((1 : Int32), C23))) else some ((if b = true then 1 else 0 : Int32), C)) = some (if (if sMot S t path = some 0 then b else !sBk (pDown path) (sMot S t path)) = true then 1 else 0, C) := by
        intro b o hs ho
        rcases ho with ⟨rfl, z⟩ | ⟨c, rfl, hc, z, nz⟩
        · rw [if_pos z]
          have q : (oI none = (-1 : Int32)) = True := eq_true rfl
          simp only [↓reduceIte, q, not_true, if_false]
        · rw [if_neg nz]
          have q : ¬ oI (some c) = (-1 : Int32) := by rw [oI_s, x_eqm (by omega)]; exact id
          have w := m231 (n := n) (b := b) (path := path) hP hi ht hto hc (by omega) (by rw [← z]; exact nz)
          rw [← z] at w
          simp only [oI_s] at q ⊢
          simp only [↓reduceIte, q, not_false_iff, if_true, ↓bd1 w]
          rcases bcs (sBk (pDown path) (sMot S t path)) with g | g <;> rw [g] <;> simp
      by_cases c2 : tKd t = 2
      · have e2 : (nI (tKd t) = (2 : Int32)) = True := by rw [c2]; decide
        have dd : decide (tKd t = 2) = true := by simp [c2]
        have hs : ∀ c, sSrc t c = srcB t true c := fun c => by simp [sSrc, srcB, tCh, c2]
        rw [dd]
        by_cases p0 : path = 0
        · have q0 : (nI path = 0) = True := by rw [p0]; decide
          rw [if_pos p0]
          simp (disch := omega) only [↓reduceIte, if_true, if_false, Option.bind_some, k_145, ↓bd1 (w_145_32 hP), k_170, l_170, x_in, x_cl, hi, ht.1, e1, e2, e3, q0, not_true, not_false_iff]
        · have q0 : ¬ nI path = 0 := by rw [x_eq0 (by omega)]; exact p0
          rw [if_neg p0]
          obtain ⟨o, w, ho⟩ := m232 (n := n) (b := true) hM hi ht hto hpa p0 hs
          have F := fin true o hs ho
          simp only [↓reduceIte, if_true] at w F
          simp (disch := omega) only [↓reduceIte, if_true, if_false, Option.bind_some, k_145, ↓bd1 (w_145_32 hP), k_170, l_170, x_in, x_cl, hi, ht.1, e1, e2, e3, q0, not_true, not_false_iff, ↓bd1 w]
          exact F
      · have e2 : ¬ nI (tKd t) = (2 : Int32) := by rw [n_2, x_eq (by omega) (by omega)]; exact c2
        have dd : decide (tKd t = 2) = false := by simp [c2]
        have hs : ∀ c, sSrc t c = srcB t false c := fun c => by simp [sSrc, srcB, tCh, show tKd t = 0 by omega]
        rw [dd]
        by_cases p0 : path = 0
        · have q0 : (nI path = 0) = True := by rw [p0]; decide
          rw [if_pos p0]
          simp (disch := omega) only [↓reduceIte, if_true, if_false, Option.bind_some, k_145, ↓bd1 (w_145_32 hP), k_170, l_170, x_in, x_cl, hi, ht.1, e1, e2, e3, q0, not_true, not_false_iff, Bool.false_eq_true]
        · have q0 : ¬ nI path = 0 := by rw [x_eq0 (by omega)]; exact p0
          rw [if_neg p0]
          obtain ⟨o, w, ho⟩ := m232 (n := n) (b := false) hM hi ht hto hpa p0 hs
          have F := fin false o hs ho
          simp only [↓reduceIte, Bool.false_eq_true, if_false] at w F
          simp (disch := omega) only [↓reduceIte, if_true, if_false, Option.bind_some, k_145, ↓bd1 (w_145_32 hP), k_170, l_170, x_in, x_cl, hi, ht.1, e1, e2, e3, q0, not_true, not_false_iff, ↓bd1 w]
          simpa only [↓reduceIte, Bool.false_eq_true, if_false] using F
/-- the reasons -/
def sRsn (S : Scr) (t : Stm) (path : Nat) : Nat := (if sSelf S t path = true then 1 else 0) + (if sTstAsk t = true then 2 else 0) + (if sMkAsk 4 t = true then 4 else 0)
theorem m238 {n : Nat} {C : AmC} {h i path : Nat} {S : Scr} {t : Stm} (hM : MC C h S) (hi : i < 16) (ht : StmM C i t) (hto : StmOK (sCols S) t) (hpa : PathOK S path) (hn : 900 ≤ n) : f_238 n 145 (nI i) (nI path) C = some (nI (sRsn S t path), C) := by
  have w1 := m233 (n := n) hM hi ht hto hpa
  have w2 := m236 (n := n) hM.1 hi ht hto hM.2.2.2.1 hM.2.2.2.2.1 hn
  have w3 := m237 (n := n) hM hi ht hto (by omega)
  have n01 : ¬ (1 : Int32) = 0 := by decide
  unfold f_238 sRsn
  generalize sSelf S t path = A at w1
  generalize sTstAsk t = B at w2
  generalize sMkAsk 4 t = D at w3
  cases A <;> cases B <;> cases D <;> simp only [↓reduceIte, Bool.false_eq_true, if_true, if_false] at w1 w2 w3 <;> simp only [↓reduceIte, k_145, if_true, if_false, ↓bd1 w1, ↓bd1 w2, ↓bd1 w3, n01, Bool.false_eq_true] <;> rfl
