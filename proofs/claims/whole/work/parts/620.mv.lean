/-! How a column is moved: the class. -/
/-- by how much a column is moved (none: astray) -/
def sMv (c : Nat) (ov : Option Val) : Option Int32 := match ov with
  | none => some 0
  | some [] => some 0
  | some [a] => if a.2.1 = 1 ∧ a.2.2 = nI c then some 0 else none
  | some [a, b] => if a.2.1 = 1 ∧ a.2.2 = nI c then (if b.2.1 = 0 ∧ b.1 ≠ 42 then some (if b.1 = 45 then -b.2.2 else b.2.2) else none) else none
  | some (_ :: _ :: _ :: _) => none
def mvK (o : Option Int32) : Int32 := match o with
  | none => 3
  | some d => if d = 0 then 0 else if 0 ≤ d then 2 else 1
def sSrc (t : Stm) (c : Nat) : Option Val := if tCh t = 3 then tNew t c else tSet t c
theorem kC_x : ∀ k, k ≤ 6 → (kC k = 130 ↔ k = 1) ∧ (kC k = 128 ↔ k = 0) := by decide
theorem mvk_if (d : Int32) (C : AmC) : (if ¬ d = 0 then (if 0 ≤ d then some ((2 : Int32), C) else some (1, C)) else some (0, C)) = some (if d = 0 then 0 else if 0 ≤ d then 2 else 1, C) := by
  by_cases e : d = 0 <;> by_cases f : 0 ≤ d <;> simp [e, f]
theorem n4542 : ((45 : Int32) = 42) = False := by decide
theorem c66 {n : Nat} {C : AmC} {s st c cols : Nat} {t : Stm} (h : ScK C s) (hk : StK C st) (ht : StmC cols C s st t) (hto : StmOK cols t) (hc : c < 4) : f_66 n s st (nI c) C = some (mvK (sMv c (sSrc t c)), C) := by
  have t3 := tCh_le hto
  unfold sSrc
  by_cases c3 : tCh t = 3
  · rw [if_pos c3]
    have e3 : (nI (tCh t) = (3 : Int32)) = True := by rw [c3]; decide
    have hx := ht.2.2.2.2.2.2.1 c hc
    have ho := hto.2.2.2.2.2.2.2.2.2.2.2.1 c
    generalize tNew t c = ov at hx ho
    cases ov with
    | none =>
      have e : cI C (st + 2) c = -1 := hx
      simp (disch := omega) only [↓reduceIte, f_66, n_4, x_lt0, x_lt, hc, if_true, if_false, hk.1, ht.2.2.1, e3, not_true, not_false_iff, ↓bd1 hk.2.2.1, hk.2.2.2.2.2.1, hk.2.2.2.2.2.2, x_in, x_cl, e, sMv, mvK]
    | some v =>
      obtain ⟨k, e, hV⟩ := hx
      have kl := hV.lt
      obtain ⟨a, a1, a2, a3, a4⟩ := vc_at h hV
      have okv := ho v rfl
      have em : ¬ cI C (st + 2) c = -1 := by rw [e, x_eqm (by omega)]; exact id
      have w0 : 1 ≤ v.length → f_101 n s (cI C (st + 2) (Int32.toNatClampNeg (nI c))) 0 C = some (nI a, C) := fun g => by
        have := a4 n 0 (by omega)
        rw [x_0, if_pos (by omega), Nat.add_zero] at this
        rw [x_cl (by omega), e]
        exact this
      have w1 : f_101 n s (cI C (st + 2) (Int32.toNatClampNeg (nI c))) 1 C = some (if 1 < v.length then nI (a + 1) else -1, C) := by
        have := a4 n 1 (by omega)
        rw [show nI 1 = (1 : Int32) from rfl] at this
        rw [x_cl (by omega), e]
        exact this
      have wl : f_100 n s (cI C (st + 2) (Int32.toNatClampNeg (nI c))) C = some (nI v.length, C) := by
        rw [x_cl (by omega), e]
        exact a3 n
      rcases v with _ | ⟨b0, v⟩
      · exact absurd rfl okv.1
      have g0 := w0 (by simp)
      obtain ⟨y1, y2, y3⟩ := a2 0 (by simp)
      simp only [Nat.add_zero, List.getElem_cons_zero] at y1 y2 y3
      have al : a < 450 := by simp only [List.length_cons] at a1; omega
      have ok0 := (okv.2.2 b0 (by simp)).1
      have k6 : b0.2.1 ≤ 6 := by rcases ok0.2 with ⟨z, _⟩ | ⟨_, z, _⟩ <;> omega
      obtain ⟨q1, q0⟩ := kC_x b0.2.1 k6
      have na : ¬ nI a = (-1 : Int32) := by rw [x_eqm (by omega)]; exact id
      by_cases d1 : b0.2.1 = 1
      · have f1 : (kC b0.2.1 = 130) = True := eq_true (q1.mpr d1)
        by_cases d2 : b0.2.2 = nI c
        · have f2 : (b0.2.2 = nI c) = True := eq_true d2
          rcases v with _ | ⟨b1, v⟩
          · have nl : (nI [b0].length = (1 : Int32)) = True := eq_true rfl
            have z : sMv c (some [b0]) = some 0 := by simp [sMv, d1, d2]
            rw [z]
            simp (disch := omega) only [↓reduceIte, f_66, n_4, x_lt0, x_lt, hc, if_true, if_false, hk.1, ht.2.2.1, e3, not_true, not_false_iff, ↓bd1 hk.2.2.1, hk.2.2.2.2.2.1, hk.2.2.2.2.2.2, x_in, x_cl, em, h.k, ↓bd1 g0, na, ↓bd1 h.p13, h.k11, h.l11, al, y2, f1, ↓bd1 h.p14, h.k12, h.l12, y3, f2, ↓bd1 wl, ↓bd1 w1, nl, mvK]
          · have bl : a + 1 < 450 := by simp only [List.length_cons] at a1; omega
            have n1 : ¬ nI (b0 :: b1 :: v).length = (1 : Int32) := by simp only [List.length_cons] at a1 ⊢; rw [x_eq1 (by omega)]; omega
            have nb : ¬ nI (a + 1) = (-1 : Int32) := by rw [x_eqm (by omega)]; exact id
            have w1' : f_101 n s (cI C (st + 2) (Int32.toNatClampNeg (nI c))) 1 C = some (nI (a + 1), C) := by rw [w1, if_pos (by simp)]
            rcases v with _ | ⟨b2, v⟩
            · have n2 : ¬ (2 : Int32) < nI [b0, b1].length := by show ¬ (2 : Int32) < nI 2; decide
              obtain ⟨u1, u2, u3⟩ := a2 1 (by simp)
              simp only [List.getElem_cons_succ, List.getElem_cons_zero] at u1 u2 u3
              have ok1 := (okv.2.2 b1 (by simp)).1
              have k61 : b1.2.1 ≤ 6 := by rcases ok1.2 with ⟨z, _⟩ | ⟨_, z, _⟩ <;> omega
              obtain ⟨q1', q0'⟩ := kC_x b1.2.1 k61
              by_cases d3 : b1.2.1 = 0
              · have f3 : (kC b1.2.1 = 128) = True := eq_true (q0'.mpr d3)
                by_cases d4 : b1.1 = 42
                · have z : sMv c (some [b0, b1]) = none := by simp [sMv, d4]
                  rw [z]
                  simp (disch := omega) only [↓reduceIte, f_66, n_4, x_lt0, x_lt, hc, if_true, if_false, hk.1, ht.2.2.1, e3, not_true, not_false_iff, ↓bd1 hk.2.2.1, hk.2.2.2.2.2.1, hk.2.2.2.2.2.2, x_in, x_cl, em, h.k, ↓bd1 g0, na, ↓bd1 h.p13, h.k11, h.l11, al, y2, f1, ↓bd1 h.p14, h.k12, h.l12, y3, f2, ↓bd1 wl, ↓bd1 w1', n1, nb, n2, bl, u2, f3, ↓bd1 h.p12, h.k10, h.l10, u1, d4, mvK]
                · by_cases d5 : b1.1 = 45
                  · have z : sMv c (some [b0, b1]) = some (-b1.2.2) := by simp [sMv, d1, d2, d3, d4, d5]
                    rw [z]
                    simp (disch := omega) only [↓reduceIte, f_66, n_4, x_lt0, x_lt, hc, if_true, if_false, hk.1, ht.2.2.1, e3, not_true, not_false_iff, ↓bd1 hk.2.2.1, hk.2.2.2.2.2.1, hk.2.2.2.2.2.2, x_in, x_cl, em, h.k, ↓bd1 g0, na, ↓bd1 h.p13, h.k11, h.l11, al, y2, f1, ↓bd1 h.p14, h.k12, h.l12, y3, f2, ↓bd1 wl, ↓bd1 w1', n1, nb, n2, bl, u2, f3, ↓bd1 h.p12, h.k10, h.l10, u1, d4, d5, u3, mvK, n4542]
                    exact mvk_if _ _
                  · have z : sMv c (some [b0, b1]) = some b1.2.2 := by simp [sMv, d1, d2, d3, d4, d5]
                    rw [z]
                    simp (disch := omega) only [↓reduceIte, f_66, n_4, x_lt0, x_lt, hc, if_true, if_false, hk.1, ht.2.2.1, e3, not_true, not_false_iff, ↓bd1 hk.2.2.1, hk.2.2.2.2.2.1, hk.2.2.2.2.2.2, x_in, x_cl, em, h.k, ↓bd1 g0, na, ↓bd1 h.p13, h.k11, h.l11, al, y2, f1, ↓bd1 h.p14, h.k12, h.l12, y3, f2, ↓bd1 wl, ↓bd1 w1', n1, nb, n2, bl, u2, f3, ↓bd1 h.p12, h.k10, h.l10, u1, d4, d5, u3, mvK]
                    exact mvk_if _ _
              · have f3 : ¬ kC b1.2.1 = 128 := fun z => d3 (q0'.mp z)
                have z : sMv c (some [b0, b1]) = none := by simp [sMv, d3]
                rw [z]
                simp (disch := omega) only [↓reduceIte, f_66, n_4, x_lt0, x_lt, hc, if_true, if_false, hk.1, ht.2.2.1, e3, not_true, not_false_iff, ↓bd1 hk.2.2.1, hk.2.2.2.2.2.1, hk.2.2.2.2.2.2, x_in, x_cl, em, h.k, ↓bd1 g0, na, ↓bd1 h.p13, h.k11, h.l11, al, y2, f1, ↓bd1 h.p14, h.k12, h.l12, y3, f2, ↓bd1 wl, ↓bd1 w1', n1, nb, n2, bl, u2, f3, mvK]
            · have n2 : (2 : Int32) < nI (b0 :: b1 :: b2 :: v).length := by simp only [List.length_cons] at a1 ⊢; rw [n_2, x_lt (by omega) (by omega)]; omega
              simp (disch := omega) only [↓reduceIte, f_66, n_4, x_lt0, x_lt, hc, if_true, if_false, hk.1, ht.2.2.1, e3, not_true, not_false_iff, ↓bd1 hk.2.2.1, hk.2.2.2.2.2.1, hk.2.2.2.2.2.2, x_in, x_cl, em, h.k, ↓bd1 g0, na, ↓bd1 h.p13, h.k11, h.l11, al, y2, f1, ↓bd1 h.p14, h.k12, h.l12, y3, f2, ↓bd1 wl, ↓bd1 w1', n1, nb, n2, sMv, mvK]
        · have z : sMv c (some (b0 :: v)) = none := by
            rcases v with _ | ⟨b1, _ | ⟨b2, v⟩⟩ <;> simp [sMv, d2]
          rw [z]
          simp (disch := omega) only [↓reduceIte, f_66, n_4, x_lt0, x_lt, hc, if_true, if_false, hk.1, ht.2.2.1, e3, not_true, not_false_iff, ↓bd1 hk.2.2.1, hk.2.2.2.2.2.1, hk.2.2.2.2.2.2, x_in, x_cl, em, h.k, ↓bd1 g0, na, ↓bd1 h.p13, h.k11, h.l11, al, y2, f1, ↓bd1 h.p14, h.k12, h.l12, y3, d2, mvK]
      · have f1 : ¬ kC b0.2.1 = 130 := fun z => d1 (q1.mp z)
        have z : sMv c (some (b0 :: v)) = none := by
          rcases v with _ | ⟨b1, _ | ⟨b2, v⟩⟩ <;> simp [sMv, d1]
        rw [z]
        simp (disch := omega) only [↓reduceIte, f_66, n_4, x_lt0, x_lt, hc, if_true, if_false, hk.1, ht.2.2.1, e3, not_true, not_false_iff, ↓bd1 hk.2.2.1, hk.2.2.2.2.2.1, hk.2.2.2.2.2.2, x_in, x_cl, em, h.k, ↓bd1 g0, na, ↓bd1 h.p13, h.k11, h.l11, al, y2, f1, mvK]
  · rw [if_neg c3]
    have e3 : ¬ nI (tCh t) = (3 : Int32) := by rw [n_3, x_eq (by omega) (by omega)]; exact c3
    have hx := ht.2.2.2.2.2.1 c hc
    have ho := hto.2.2.2.2.2.2.2.2.2.2.1 c
    generalize tSet t c = ov at hx ho
    cases ov with
    | none =>
      have e : cI C (st + 1) c = -1 := hx
      simp (disch := omega) only [↓reduceIte, f_66, n_4, x_lt0, x_lt, hc, if_true, if_false, hk.1, ht.2.2.1, e3, not_true, not_false_iff, ↓bd1 hk.2.1, hk.2.2.2.1, hk.2.2.2.2.1, x_in, x_cl, e, sMv, mvK]
    | some v =>
      obtain ⟨k, e, hV⟩ := hx
      have kl := hV.lt
      obtain ⟨a, a1, a2, a3, a4⟩ := vc_at h hV
      have okv := ho v rfl
      have em : ¬ cI C (st + 1) c = -1 := by rw [e, x_eqm (by omega)]; exact id
      have w0 : 1 ≤ v.length → f_101 n s (cI C (st + 1) (Int32.toNatClampNeg (nI c))) 0 C = some (nI a, C) := fun g => by
        have := a4 n 0 (by omega)
        rw [x_0, if_pos (by omega), Nat.add_zero] at this
        rw [x_cl (by omega), e]
        exact this
      have w1 : f_101 n s (cI C (st + 1) (Int32.toNatClampNeg (nI c))) 1 C = some (if 1 < v.length then nI (a + 1) else -1, C) := by
        have := a4 n 1 (by omega)
        rw [show nI 1 = (1 : Int32) from rfl] at this
        rw [x_cl (by omega), e]
        exact this
      have wl : f_100 n s (cI C (st + 1) (Int32.toNatClampNeg (nI c))) C = some (nI v.length, C) := by
        rw [x_cl (by omega), e]
        exact a3 n
      rcases v with _ | ⟨b0, v⟩
      · exact absurd rfl okv.1
      have g0 := w0 (by simp)
      obtain ⟨y1, y2, y3⟩ := a2 0 (by simp)
      simp only [Nat.add_zero, List.getElem_cons_zero] at y1 y2 y3
      have al : a < 450 := by simp only [List.length_cons] at a1; omega
      have ok0 := (okv.2.2 b0 (by simp)).1
      have k6 : b0.2.1 ≤ 6 := by rcases ok0.2 with ⟨z, _⟩ | ⟨_, z, _⟩ <;> omega
      obtain ⟨q1, q0⟩ := kC_x b0.2.1 k6
      have na : ¬ nI a = (-1 : Int32) := by rw [x_eqm (by omega)]; exact id
      by_cases d1 : b0.2.1 = 1
      · have f1 : (kC b0.2.1 = 130) = True := eq_true (q1.mpr d1)
        by_cases d2 : b0.2.2 = nI c
        · have f2 : (b0.2.2 = nI c) = True := eq_true d2
          rcases v with _ | ⟨b1, v⟩
          · have nl : (nI [b0].length = (1 : Int32)) = True := eq_true rfl
            have z : sMv c (some [b0]) = some 0 := by simp [sMv, d1, d2]
            rw [z]
            simp (disch := omega) only [↓reduceIte, f_66, n_4, x_lt0, x_lt, hc, if_true, if_false, hk.1, ht.2.2.1, e3, not_true, not_false_iff, ↓bd1 hk.2.1, hk.2.2.2.1, hk.2.2.2.2.1, x_in, x_cl, em, h.k, ↓bd1 g0, na, ↓bd1 h.p13, h.k11, h.l11, al, y2, f1, ↓bd1 h.p14, h.k12, h.l12, y3, f2, ↓bd1 wl, ↓bd1 w1, nl, mvK]
          · have bl : a + 1 < 450 := by simp only [List.length_cons] at a1; omega
            have n1 : ¬ nI (b0 :: b1 :: v).length = (1 : Int32) := by simp only [List.length_cons] at a1 ⊢; rw [x_eq1 (by omega)]; omega
            have nb : ¬ nI (a + 1) = (-1 : Int32) := by rw [x_eqm (by omega)]; exact id
            have w1' : f_101 n s (cI C (st + 1) (Int32.toNatClampNeg (nI c))) 1 C = some (nI (a + 1), C) := by rw [w1, if_pos (by simp)]
            rcases v with _ | ⟨b2, v⟩
            · have n2 : ¬ (2 : Int32) < nI [b0, b1].length := by show ¬ (2 : Int32) < nI 2; decide
              obtain ⟨u1, u2, u3⟩ := a2 1 (by simp)
              simp only [List.getElem_cons_succ, List.getElem_cons_zero] at u1 u2 u3
              have ok1 := (okv.2.2 b1 (by simp)).1
              have k61 : b1.2.1 ≤ 6 := by rcases ok1.2 with ⟨z, _⟩ | ⟨_, z, _⟩ <;> omega
              obtain ⟨q1', q0'⟩ := kC_x b1.2.1 k61
              by_cases d3 : b1.2.1 = 0
              · have f3 : (kC b1.2.1 = 128) = True := eq_true (q0'.mpr d3)
                by_cases d4 : b1.1 = 42
                · have z : sMv c (some [b0, b1]) = none := by simp [sMv, d4]
                  rw [z]
                  simp (disch := omega) only [↓reduceIte, f_66, n_4, x_lt0, x_lt, hc, if_true, if_false, hk.1, ht.2.2.1, e3, not_true, not_false_iff, ↓bd1 hk.2.1, hk.2.2.2.1, hk.2.2.2.2.1, x_in, x_cl, em, h.k, ↓bd1 g0, na, ↓bd1 h.p13, h.k11, h.l11, al, y2, f1, ↓bd1 h.p14, h.k12, h.l12, y3, f2, ↓bd1 wl, ↓bd1 w1', n1, nb, n2, bl, u2, f3, ↓bd1 h.p12, h.k10, h.l10, u1, d4, mvK]
                · by_cases d5 : b1.1 = 45
                  · have z : sMv c (some [b0, b1]) = some (-b1.2.2) := by simp [sMv, d1, d2, d3, d4, d5]
                    rw [z]
                    simp (disch := omega) only [↓reduceIte, f_66, n_4, x_lt0, x_lt, hc, if_true, if_false, hk.1, ht.2.2.1, e3, not_true, not_false_iff, ↓bd1 hk.2.1, hk.2.2.2.1, hk.2.2.2.2.1, x_in, x_cl, em, h.k, ↓bd1 g0, na, ↓bd1 h.p13, h.k11, h.l11, al, y2, f1, ↓bd1 h.p14, h.k12, h.l12, y3, f2, ↓bd1 wl, ↓bd1 w1', n1, nb, n2, bl, u2, f3, ↓bd1 h.p12, h.k10, h.l10, u1, d4, d5, u3, mvK, n4542]
                    exact mvk_if _ _
                  · have z : sMv c (some [b0, b1]) = some b1.2.2 := by simp [sMv, d1, d2, d3, d4, d5]
                    rw [z]
                    simp (disch := omega) only [↓reduceIte, f_66, n_4, x_lt0, x_lt, hc, if_true, if_false, hk.1, ht.2.2.1, e3, not_true, not_false_iff, ↓bd1 hk.2.1, hk.2.2.2.1, hk.2.2.2.2.1, x_in, x_cl, em, h.k, ↓bd1 g0, na, ↓bd1 h.p13, h.k11, h.l11, al, y2, f1, ↓bd1 h.p14, h.k12, h.l12, y3, f2, ↓bd1 wl, ↓bd1 w1', n1, nb, n2, bl, u2, f3, ↓bd1 h.p12, h.k10, h.l10, u1, d4, d5, u3, mvK]
                    exact mvk_if _ _
              · have f3 : ¬ kC b1.2.1 = 128 := fun z => d3 (q0'.mp z)
                have z : sMv c (some [b0, b1]) = none := by simp [sMv, d3]
                rw [z]
                simp (disch := omega) only [↓reduceIte, f_66, n_4, x_lt0, x_lt, hc, if_true, if_false, hk.1, ht.2.2.1, e3, not_true, not_false_iff, ↓bd1 hk.2.1, hk.2.2.2.1, hk.2.2.2.2.1, x_in, x_cl, em, h.k, ↓bd1 g0, na, ↓bd1 h.p13, h.k11, h.l11, al, y2, f1, ↓bd1 h.p14, h.k12, h.l12, y3, f2, ↓bd1 wl, ↓bd1 w1', n1, nb, n2, bl, u2, f3, mvK]
            · have n2 : (2 : Int32) < nI (b0 :: b1 :: b2 :: v).length := by simp only [List.length_cons] at a1 ⊢; rw [n_2, x_lt (by omega) (by omega)]; omega
              simp (disch := omega) only [↓reduceIte, f_66, n_4, x_lt0, x_lt, hc, if_true, if_false, hk.1, ht.2.2.1, e3, not_true, not_false_iff, ↓bd1 hk.2.1, hk.2.2.2.1, hk.2.2.2.2.1, x_in, x_cl, em, h.k, ↓bd1 g0, na, ↓bd1 h.p13, h.k11, h.l11, al, y2, f1, ↓bd1 h.p14, h.k12, h.l12, y3, f2, ↓bd1 wl, ↓bd1 w1', n1, nb, n2, sMv, mvK]
        · have z : sMv c (some (b0 :: v)) = none := by
            rcases v with _ | ⟨b1, _ | ⟨b2, v⟩⟩ <;> simp [sMv, d2]
          rw [z]
          simp (disch := omega) only [↓reduceIte, f_66, n_4, x_lt0, x_lt, hc, if_true, if_false, hk.1, ht.2.2.1, e3, not_true, not_false_iff, ↓bd1 hk.2.1, hk.2.2.2.1, hk.2.2.2.2.1, x_in, x_cl, em, h.k, ↓bd1 g0, na, ↓bd1 h.p13, h.k11, h.l11, al, y2, f1, ↓bd1 h.p14, h.k12, h.l12, y3, d2, mvK]
      · have f1 : ¬ kC b0.2.1 = 130 := fun z => d1 (q1.mp z)
        have z : sMv c (some (b0 :: v)) = none := by
          rcases v with _ | ⟨b1, _ | ⟨b2, v⟩⟩ <;> simp [sMv, d1]
        rw [z]
        simp (disch := omega) only [↓reduceIte, f_66, n_4, x_lt0, x_lt, hc, if_true, if_false, hk.1, ht.2.2.1, e3, not_true, not_false_iff, ↓bd1 hk.2.1, hk.2.2.2.1, hk.2.2.2.2.1, x_in, x_cl, em, h.k, ↓bd1 g0, na, ↓bd1 h.p13, h.k11, h.l11, al, y2, f1, mvK]
