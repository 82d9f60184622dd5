/-! Reason 1: the reference. -/
def mvM (o : Option Int32) : Int32 := match o with
  | none => 99999
  | some d => d
theorem m229 {n : Nat} {C : AmC} {k c cols : Nat} {v : Val} {b1 b2 : Bool} (hP : PInv C) (hV : VM C k v) (okv : ValOK cols b1 b2 v) (hc : c < 4) : f_229 n 145 (nI k) (nI c) C = some (mvM (sMv c (some v)), C) := by
  obtain ⟨hk, a, e1, e2, h1, h2⟩ := hV
  rcases v with _ | ⟨b0, v⟩
  · exact absurd rfl okv.1
  obtain ⟨y1, y2, y3⟩ := h2 0 (by simp)
  simp only [Nat.add_zero, List.getElem_cons_zero] at y1 y2 y3
  have al : a < 920 := by simp only [List.length_cons] at h1; omega
  have ok0 := (okv.2.2 b0 (by simp)).1
  have k6 : b0.2.1 ≤ 6 := by rcases ok0.2 with ⟨z, _⟩ | ⟨_, z, _⟩ <;> omega
  by_cases d1 : b0.2.1 = 1
  · have f1 : (nI b0.2.1 = (1 : Int32)) = True := by rw [d1]; decide
    by_cases d2 : b0.2.2 = nI c
    · have f2 : (b0.2.2 = nI c) = True := eq_true d2
      rcases v with _ | ⟨b1, v⟩
      · have nl : (nI [b0].length = (1 : Int32)) = True := eq_true rfl
        have nl2 : (nI [b0].length ≤ (2 : Int32)) = True := eq_true (by show nI 1 ≤ (2 : Int32); decide)
        have z : sMv c (some [b0]) = some 0 := by simp [sMv, d1, d2]
        rw [z]
        simp (disch := omega) only [↓reduceIte, f_229, if_true, if_false, Option.bind_some, k_145, ↓bd1 (w_145_16 hP), k_154, l_154, ↓bd1 (w_145_14 hP), k_152, l_152, ↓bd1 (w_145_15 hP), k_153, l_153, ↓bd1 (w_145_17 hP), k_155, l_155, x_in, x_cl, hk, e1, e2, al, y2, y3, f1, f2, nl, nl2, not_true, mvM]
      · have bl : a + 1 < 920 := by simp only [List.length_cons] at h1; omega
        have n1 : ¬ nI (b0 :: b1 :: v).length = (1 : Int32) := by have := okv.2.1; simp only [List.length_cons] at this ⊢; rw [x_eq1 (by omega)]; omega
        rcases v with _ | ⟨b2, v⟩
        · have nl2 : (nI [b0, b1].length ≤ (2 : Int32)) = True := eq_true (by show nI 2 ≤ (2 : Int32); decide)
          obtain ⟨u1, u2, u3⟩ := h2 1 (by simp)
          simp only [List.getElem_cons_succ, List.getElem_cons_zero] at u1 u2 u3
          have ok1 := (okv.2.2 b1 (by simp)).1
          have k61 : b1.2.1 ≤ 6 := by rcases ok1.2 with ⟨z, _⟩ | ⟨_, z, _⟩ <;> omega
          by_cases d3 : b1.2.1 = 0
          · have f3 : (nI b1.2.1 = (0 : Int32)) = True := by rw [d3]; decide
            rcases ok1.1 with s1 | s1 | s1
            · have z : sMv c (some [b0, b1]) = none := by simp [sMv, s1]
              rw [z]
              simp (disch := omega) only [↓reduceIte, f_229, if_true, if_false, Option.bind_some, k_145, ↓bd1 (w_145_16 hP), k_154, l_154, ↓bd1 (w_145_14 hP), k_152, l_152, ↓bd1 (w_145_15 hP), k_153, l_153, ↓bd1 (w_145_17 hP), k_155, l_155, ↓bd1 (w_145_13 hP), k_151, l_151, x_in, x_cl, x_a1, hk, e1, e2, al, bl, y2, y3, u1, u2, u3, f1, f2, f3, n1, nl2, s1, not_true, not_false_iff, mvM]
            · have z : sMv c (some [b0, b1]) = some b1.2.2 := by simp [sMv, d1, d2, d3, s1]
              have g1 : ¬ (43 : Int32) = 42 := by decide
              rw [z]
              simp (disch := omega) only [↓reduceIte, f_229, if_true, if_false, Option.bind_some, k_145, ↓bd1 (w_145_16 hP), k_154, l_154, ↓bd1 (w_145_14 hP), k_152, l_152, ↓bd1 (w_145_15 hP), k_153, l_153, ↓bd1 (w_145_17 hP), k_155, l_155, ↓bd1 (w_145_13 hP), k_151, l_151, x_in, x_cl, x_a1, hk, e1, e2, al, bl, y2, y3, u1, u2, u3, f1, f2, f3, n1, nl2, s1, g1, not_true, not_false_iff, mvM]
            · have z : sMv c (some [b0, b1]) = some (-b1.2.2) := by simp [sMv, d1, d2, d3, s1]
              have g1 : ¬ (45 : Int32) = 42 := by decide
              have g2 : ¬ (45 : Int32) = 43 := by decide
              rw [z]
              simp (disch := omega) only [↓reduceIte, f_229, if_true, if_false, Option.bind_some, k_145, ↓bd1 (w_145_16 hP), k_154, l_154, ↓bd1 (w_145_14 hP), k_152, l_152, ↓bd1 (w_145_15 hP), k_153, l_153, ↓bd1 (w_145_17 hP), k_155, l_155, ↓bd1 (w_145_13 hP), k_151, l_151, x_in, x_cl, x_a1, hk, e1, e2, al, bl, y2, y3, u1, u2, u3, f1, f2, f3, n1, nl2, s1, g1, g2, not_true, not_false_iff, mvM]
          · have f3 : ¬ nI b1.2.1 = (0 : Int32) := by rw [x_eq0 (by omega)]; exact d3
            have z : sMv c (some [b0, b1]) = none := by simp [sMv, d3]
            rw [z]
            simp (disch := omega) only [↓reduceIte, f_229, if_true, if_false, Option.bind_some, k_145, ↓bd1 (w_145_16 hP), k_154, l_154, ↓bd1 (w_145_14 hP), k_152, l_152, ↓bd1 (w_145_15 hP), k_153, l_153, ↓bd1 (w_145_17 hP), k_155, l_155, ↓bd1 (w_145_13 hP), k_151, l_151, x_in, x_cl, x_a1, hk, e1, e2, al, bl, y2, y3, u1, u2, u3, f1, f2, f3, n1, nl2, not_true, not_false_iff, mvM]
        · have nl2 : ¬ nI (b0 :: b1 :: b2 :: v).length ≤ (2 : Int32) := by have := okv.2.1; simp only [List.length_cons] at this ⊢; rw [n_2, x_le (by omega) (by omega)]; omega
          simp (disch := omega) only [↓reduceIte, f_229, if_true, if_false, Option.bind_some, k_145, ↓bd1 (w_145_16 hP), k_154, l_154, ↓bd1 (w_145_14 hP), k_152, l_152, ↓bd1 (w_145_15 hP), k_153, l_153, ↓bd1 (w_145_17 hP), k_155, l_155, x_in, x_cl, hk, e1, e2, al, y2, y3, f1, f2, nl2, not_true, sMv, mvM]
    · have z : sMv c (some (b0 :: v)) = none := by
        rcases v with _ | ⟨b1, _ | ⟨b2, v⟩⟩ <;> simp [sMv, d2]
      rw [z]
      simp (disch := omega) only [↓reduceIte, f_229, if_true, if_false, Option.bind_some, k_145, ↓bd1 (w_145_16 hP), k_154, l_154, ↓bd1 (w_145_14 hP), k_152, l_152, ↓bd1 (w_145_15 hP), k_153, l_153, x_in, x_cl, hk, e1, al, y2, y3, f1, d2, not_true, not_false_iff, mvM]
  · have f1 : ¬ nI b0.2.1 = (1 : Int32) := by rw [x_eq1 (by omega)]; exact d1
    have z : sMv c (some (b0 :: v)) = none := by
      rcases v with _ | ⟨b1, _ | ⟨b2, v⟩⟩ <;> simp [sMv, d1]
    rw [z]
    simp (disch := omega) only [↓reduceIte, f_229, if_true, if_false, Option.bind_some, k_145, ↓bd1 (w_145_16 hP), k_154, l_154, ↓bd1 (w_145_14 hP), k_152, l_152, x_in, x_cl, hk, e1, al, y2, f1, not_false_iff, mvM]
def srcB (t : Stm) (b : Bool) (c : Nat) : Option Val := if b = true then tNew t c else tSet t c
theorem m228 {n : Nat} {C : AmC} {i c : Nat} {t : Stm} {b : Bool} (hP : PInv C) (hi : i < 16) (ht : StmM C i t) (hc : c < 4) : ∃ x, f_228 n 145 (nI i) (nI c) (if b = true then 1 else 0) C = some (x, C) ∧ VOM C x (srcB t b c) := by
  have b1 : 4 * i + c < 64 := by omega
  have ne1 : ¬ (1 : Int32) = 0 := by decide
  cases b with
  | false =>
    refine ⟨_, ?_, ht.2.2.2.1 c hc⟩
    simp (disch := omega) only [f_228, Bool.false_eq_true, if_true, if_false, Option.bind_some, k_145, ↓bd1 (w_145_38 hP), k_176, l_176, ↓reduceIte, n_2, n_3, n_4, n_5, n_6, n_7, n_8, n_10, n_12, n_20, n_30, n_40, n_100, n_120, n_150, n_200, n_230, n_320, n_450, n_900, x_le, x_lt, x_eq, x_lt0, x_le0, x_0le, x_0lt, x_eq0, x_eq1, x_1lt, x_le1, x_lt1, x_1le, x_eqm, x_add, x_a1, x_1a, x_a0, x_0a, x_mul, x_sub, x_s1, x_1s, x_div, x_cl, x_cl0, x_cl1, x_in, x_in0, x_in1, x_ofNat, b1]
  | true =>
    refine ⟨_, ?_, ht.2.2.2.2.1 c hc⟩
    simp (disch := omega) only [f_228, ne1, if_true, if_false, Option.bind_some, k_145, ↓bd1 (w_145_39 hP), k_177, l_177, ↓reduceIte, n_2, n_3, n_4, n_5, n_6, n_7, n_8, n_10, n_12, n_20, n_30, n_40, n_100, n_120, n_150, n_200, n_230, n_320, n_450, n_900, x_le, x_lt, x_eq, x_lt0, x_le0, x_0le, x_0lt, x_eq0, x_eq1, x_1lt, x_le1, x_lt1, x_1le, x_eqm, x_add, x_a1, x_1a, x_a0, x_0a, x_mul, x_sub, x_s1, x_1s, x_div, x_cl, x_cl0, x_cl1, x_in, x_in0, x_in1, x_ofNat, b1]
theorem srcB_ok {cols : Nat} {t : Stm} {b : Bool} {c : Nat} {v : Val} (hto : StmOK cols t) (h : srcB t b c = some v) : ∃ b1 b2, ValOK cols b1 b2 v := by
  cases b with
  | false => exact ⟨_, _, hto.2.2.2.2.2.2.2.2.2.2.1 c v h⟩
  | true => exact ⟨_, _, hto.2.2.2.2.2.2.2.2.2.2.2.1 c v h⟩
theorem mvM0 {m : Option Int32} : (mvM m = 0) ↔ m = some 0 := by
  cases m with
  | none => simp only [mvM]; constructor <;> intro z <;> revert z <;> simp
  | some d => simp [mvM]
theorem m230 {n : Nat} {C : AmC} {i c cols : Nat} {t : Stm} {b : Bool} (hP : PInv C) (hi : i < 16) (ht : StmM C i t) (hto : StmOK cols t) (hc : c < 4) : f_230 n 145 (nI i) (nI c) (if b = true then 1 else 0) C = some (if sMv c (srcB t b c) = some 0 then 0 else 1, C) := by
  obtain ⟨x, w, hx⟩ := m228 (n := n) (b := b) hP hi ht hc
  unfold f_230
  cases e : srcB t b c with
  | none =>
    rw [e] at hx
    have hx : x = -1 := hx
    rw [hx] at w
    simp only [↓reduceIte, k_145, if_true, ↓bd1 w, sMv]
  | some v =>
    rw [e] at hx
    obtain ⟨k, rfl, hV⟩ := hx
    have kl := hV.1
    obtain ⟨b1, b2, ok⟩ := srcB_ok hto e
    have w2 := m229 (n := n) hP hV ok hc
    have nk : ¬ nI k = (-1 : Int32) := by rw [x_eqm (by omega)]; exact id
    simp only [↓reduceIte, k_145, if_true, ↓bd1 w, nk, if_false, ↓bd1 w2, mvM0]
    by_cases g : sMv c (some v) = some 0 <;> simp [g]
theorem sMv_ok {cols c : Nat} {v : Val} {b1 b2 : Bool} {d : Int32} (ok : ValOK cols b1 b2 v) (h : sMv c (some v) = some d) : okN d := by
  have z0 : okN 0 := by unfold okN; decide
  rcases v with _ | ⟨x0, _ | ⟨x1, _ | ⟨x2, v⟩⟩⟩
  · exact absurd rfl ok.1
  · simp only [sMv] at h
    split at h
    · cases h; exact z0
    · cases h
  · simp only [sMv] at h
    split at h
    · split at h
      · rename_i g1 g2
        have o1 := (ok.2.2 x1 (by simp)).1
        have on : okN x1.2.2 := by
          rcases o1.2 with ⟨_, z⟩ | ⟨z, _⟩
          · exact z
          · omega
        cases h
        split
        · unfold okN at on ⊢
          rw [Int32.toInt_neg]
          have : (-x1.2.2.toInt).bmod (2 ^ 32) = -x1.2.2.toInt := by
            rw [Int.bmod_eq_of_le] <;> omega
          rw [this]
          omega
        · exact on
      · cases h
    · cases h
  · cases h
theorem i_sgn (d : Int32) : ((d = 0) ↔ d.toInt = 0) ∧ ((0 ≤ d) ↔ 0 ≤ d.toInt) ∧ ((d ≤ 0) ↔ d.toInt ≤ 0) := by
  refine ⟨?_, ?_, ?_⟩
  · rw [← Int32.toInt_inj]; rfl
  · rw [Int32.le_iff_toInt_le]; rfl
  · rw [Int32.le_iff_toInt_le]; rfl
theorem m231 {n : Nat} {C : AmC} {i c cols path : Nat} {t : Stm} {b : Bool} (hP : PInv C) (hi : i < 16) (ht : StmM C i t) (hto : StmOK cols t) (hc : c < 4) (hp : path < 100) (hm : ¬ sMv c (srcB t b c) = some 0) : f_231 n 145 (nI i) (nI c) (if b = true then 1 else 0) (nI path) C = some (if sBk (pDown path) (sMv c (srcB t b c)) = true then 1 else 0, C) := by
  obtain ⟨x, w, hx⟩ := m228 (n := n) (b := b) hP hi ht hc
  have w9 := m195 (n := n) (C := C) (path := path) (by omega)
  have ne1 : ¬ (1 : Int32) = 0 := by decide
  unfold f_231
  cases e : srcB t b c with
  | none =>
    rw [e] at hm
    exact absurd rfl hm
  | some v =>
    rw [e] at hx hm
    obtain ⟨k, rfl, hV⟩ := hx
    obtain ⟨b1, b2, ok⟩ := srcB_ok hto e
    have w2 := m229 (n := n) hP hV ok hc
    cases g : sMv c (some v) with
    | none =>
      rw [g] at w2
      simp only [mvM] at w2
      simp only [↓reduceIte, k_145, if_true, ↓bd1 w, ↓bd1 w2, sBk, Bool.false_eq_true, if_false]
    | some d =>
      rw [g] at w2
      simp only [mvM] at w2
      have od := sMv_ok ok g
      have nd : ¬ d = (99999 : Int32) := by
        intro z
        rw [z] at od
        revert od
        unfold okN
        decide
      obtain ⟨s1, s2, s3⟩ := i_sgn d
      rcases bcs (pDown path) with p | p
      · rw [p] at w9 ⊢
        simp only [↓reduceIte, Bool.false_eq_true, if_false] at w9
        simp only [↓reduceIte, k_145, if_true, ↓bd1 w, ↓bd1 w2, nd, if_false, ↓bd1 w9, sBk, Bool.false_eq_true]
        by_cases q : 0 ≤ d
        · simp [q]
        · have : ¬ d = 0 := by rw [s1]; rw [s2] at q; omega
          simp [q, this]
      · rw [p] at w9 ⊢
        simp only [↓reduceIte, if_true] at w9
        simp only [↓reduceIte, k_145, if_true, ↓bd1 w, ↓bd1 w2, nd, if_false, ↓bd1 w9, sBk, ne1]
        by_cases q : d ≤ 0
        · by_cases q0 : d = 0
          · simp [q0]
          · have : ¬ 0 ≤ d := by rw [s2]; rw [s3] at q; rw [s1] at q0; omega
            simp [q, this]
        · have q1 : ¬ d = 0 := by rw [s1]; rw [s3] at q; omega
          have q2 : 0 ≤ d := by rw [s2]; rw [s3] at q; omega
          simp [q, q1, q2]
