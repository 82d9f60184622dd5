/-! What the reference's small methods tell. -/
def MC (C : AmC) (h : Nat) (S : Scr) : Prop := PInv C ∧ cI C 145 40 = nI h ∧ ScrM C h S ∧ ScrOK S
theorem m193 {n : Nat} {C : AmC} {p c cols : Nat} {T : Tab} (hP : PInv C) (hT : TabM 30 cols C 180 0 T) (hp : p < 30) (tp : T.1 p = true) (hc : c < cols) (h4 : cols ≤ 4) : f_193 n 145 (nI p) (nI c) C = some (T.2 p c, C) := by
  unfold f_193
  have e := hT.2 p hp tp c hc
  rw [Nat.zero_add] at e
  have h1 : 30 + 4 * p + c < 150 := by omega
  simp (disch := omega) only [if_true, if_false, Option.bind_some, k_145, ↓bd1 (w_145_57 hP), k_180, l_180, ↓reduceIte, n_2, n_3, n_4, n_5, n_6, n_7, n_8, n_10, n_12, n_20, n_30, n_40, n_100, n_120, n_150, n_200, n_230, n_320, n_450, n_900, x_le, x_lt, x_eq, x_lt0, x_le0, x_0le, x_0lt, x_eq0, x_eq1, x_1lt, x_le1, x_lt1, x_1le, x_eqm, x_add, x_a1, x_1a, x_a0, x_0a, x_mul, x_sub, x_s1, x_1s, x_div, x_cl, x_cl0, x_cl1, x_in, x_in0, x_in1, x_ofNat, h1, e]
theorem m206 {n : Nat} {C : AmC} {h o c : Nat} {S : Scr} (hM : MC C h S) (ho : o < (sOth S).length) (hc : c < sCols S) : f_206 n 145 (nI o) (nI c) C = some (othN S o c, C) := by
  obtain ⟨hP, hh, hS, hO⟩ := hM
  have h1 := hO.2.2.2.2.2.1
  have h2 := hO.2.1
  have h3 := hS.1
  have e := hS.2.2.2.2.2.2.1 o ho c hc
  unfold f_206
  have h5 : 4 * (10 * h + o) + c < 80 := by omega
  simp (disch := omega) only [if_true, if_false, Option.bind_some, k_145, ↓bd1 (w_145_31 hP), k_169, l_169, hh, ↓reduceIte, n_2, n_3, n_4, n_5, n_6, n_7, n_8, n_10, n_12, n_20, n_30, n_40, n_100, n_120, n_150, n_200, n_230, n_320, n_450, n_900, x_le, x_lt, x_eq, x_lt0, x_le0, x_0le, x_0lt, x_eq0, x_eq1, x_1lt, x_le1, x_lt1, x_1le, x_eqm, x_add, x_a1, x_1a, x_a0, x_0a, x_mul, x_sub, x_s1, x_1s, x_div, x_cl, x_cl0, x_cl1, x_in, x_in0, x_in1, x_ofNat, h5, e]
theorem m203 {n : Nat} {C : AmC} {x sg y : Int32} (hs : sg = 60 ∨ sg = 61 ∨ sg = 62) : f_203 n x sg y C = some (if sSo x sg y = true then 1 else 0, C) := by
  unfold f_203 sSo
  rcases hs with rfl | rfl | rfl
  · by_cases g : x < y
    · simp [g, Int32.not_le.mpr g]
    · simp [g, Int32.not_lt.mp g]
  · by_cases g : x = y <;> simp [g]
  · by_cases g : y < x
    · simp [g, Int32.not_le.mpr g]
    · simp [g, Int32.not_lt.mp g]
theorem m207_lp {C : AmC} {c cols kd : Nat} {T : Tab} (hP : PInv C) (hT : TabM 30 cols C 180 0 T) (hc : c < cols) (h4 : cols ≤ 4) (hk : kd = 3 ∨ kd = 4 ∨ kd = 5 ∨ kd = 6) : ∀ k j n m (v : Int32) (a : Int32 × Bool), j + k = 30 → k < n → m ≤ j → a.2 = decide (m = 0) → (if kd = 6 then a.1 = nI m else a.1 = v) → ∃ m' v', lp_207_6 n 145 (nI kd) (nI c) (nI m) v (nI j) C = some ((nI kd, nI m', v'), C) ∧ (if kd = 6 then (qo (whS kd c T) k j a).1 = nI m' else (qo (whS kd c T) k j a).1 = v') := by
  intro k
  induction k with
  | zero =>
    intro j n m v a h1 h2 hm e1 e2
    obtain ⟨n, rfl⟩ : ∃ m, n = m + 1 := ⟨n - 1, by omega⟩
    have h3 : 30 ≤ j := by omega
    refine ⟨m, v, ?_, ?_⟩
    · simp (disch := omega) only [lp_207_6, ↓reduceIte, n_2, n_3, n_4, n_5, n_6, n_7, n_8, n_10, n_12, n_20, n_30, n_40, n_100, n_120, n_150, n_200, n_230, n_320, n_450, n_900, x_le, x_lt, x_eq, x_lt0, x_le0, x_0le, x_0lt, x_eq0, x_eq1, x_1lt, x_le1, x_lt1, x_1le, x_eqm, x_add, x_a1, x_1a, x_a0, x_0a, x_mul, x_sub, x_s1, x_1s, x_div, x_cl, x_cl0, x_cl1, x_in, x_in0, x_in1, x_ofNat, h3, if_true]
    · exact e2
  | succ k ih =>
    intro j n m v a h1 h2 hm e1 e2
    obtain ⟨n, rfl⟩ : ∃ m, n = m + 1 := ⟨n - 1, by omega⟩
    have h3 : ¬ 30 ≤ j := by omega
    have h5 : j < 150 := by omega
    have hj : j < 30 := by omega
    have e := hT.1 j hj
    rw [Nat.zero_add] at e
    obtain ⟨x, b⟩ := a
    dsimp only at e1 e2
    subst e1
    have u : lp_207_6 (n + 1) 145 (nI kd) (nI c) (nI m) v (nI j) C = (if T.1 j = true then (if ¬ kd = 3 then (if ¬ kd = 4 then (if m = 0 then lp_207_6 n 145 (nI kd) (nI c) (nI (m + 1)) (T.2 j c) (nI (j + 1)) C else (if T.2 j c ≤ v then lp_207_6 n 145 (nI kd) (nI c) (nI (m + 1)) v (nI (j + 1)) C else lp_207_6 n 145 (nI kd) (nI c) (nI (m + 1)) (T.2 j c) (nI (j + 1)) C)) else (if m = 0 then lp_207_6 n 145 (nI kd) (nI c) (nI (m + 1)) (T.2 j c) (nI (j + 1)) C else (if v ≤ T.2 j c then lp_207_6 n 145 (nI kd) (nI c) (nI (m + 1)) v (nI (j + 1)) C else lp_207_6 n 145 (nI kd) (nI c) (nI (m + 1)) (T.2 j c) (nI (j + 1)) C))) else lp_207_6 n 145 (nI kd) (nI c) (nI (m + 1)) (v + T.2 j c) (nI (j + 1)) C) else lp_207_6 n 145 (nI kd) (nI c) (nI m) v (nI (j + 1)) C) := by
      simp (disch := omega) only [lp_207_6, if_true, if_false, Option.bind_some, k_145, ↓bd1 (w_145_57 hP), k_180, l_180, ↓reduceIte, n_2, n_3, n_4, n_5, n_6, n_7, n_8, n_10, n_12, n_20, n_30, n_40, n_100, n_120, n_150, n_200, n_230, n_320, n_450, n_900, x_le, x_lt, x_eq, x_lt0, x_le0, x_0le, x_0lt, x_eq0, x_eq1, x_1lt, x_le1, x_lt1, x_1le, x_eqm, x_add, x_a1, x_1a, x_a0, x_0a, x_mul, x_sub, x_s1, x_1s, x_div, x_cl, x_cl0, x_cl1, x_in, x_in0, x_in1, x_ofNat, h3, h5, e, ite10]
      rcases bcs (T.1 j) with tj | tj
      · simp [tj]
      · simp (disch := omega) only [↓reduceIte, tj, m193 hP hT hj tj hc h4, Option.bind_some, Bool.true_eq_false, not_false_iff, if_true]
    rw [u]
    have go : ∀ (m' : Nat) (v' : Int32) (a' : Int32 × Bool), qo (whS kd c T) (k + 1) j (x, decide (m = 0)) = qo (whS kd c T) k (j + 1) a' → m' ≤ j + 1 → a'.2 = decide (m' = 0) → (if kd = 6 then a'.1 = nI m' else a'.1 = v') → ∃ m2 v2, lp_207_6 n 145 (nI kd) (nI c) (nI m') v' (nI (j + 1)) C = some ((nI kd, nI m2, v2), C) ∧ (if kd = 6 then (qo (whS kd c T) (k + 1) j (x, decide (m = 0))).1 = nI m2 else (qo (whS kd c T) (k + 1) j (x, decide (m = 0))).1 = v2) := by
      intro m' v' a' z1 z2 z3 z4
      rw [z1]
      exact ih (j + 1) n m' v' a' (by omega) (by omega) z2 z3 z4
    cases tj : T.1 j with
    | false =>
      simp only [↓reduceIte, Bool.false_eq_true, if_false]
      exact go m v (x, decide (m = 0)) (by simp [qo, whS, tj]) (by omega) rfl e2
    | true =>
      simp only [↓reduceIte, if_true]
      rcases hk with rfl | rfl | rfl | rfl
      · simp only [↓reduceIte, not_true, if_false]
        simp only [↓reduceIte, show ¬ (3 : Nat) = 6 from by decide, if_false] at e2
        subst e2
        exact go _ _ (x + T.2 j c, false) (by simp [qo, whS, tj]) (by omega) (by simp) (by simp)
      · simp only [↓reduceIte, show ¬ (4 : Nat) = 3 from by decide, not_false_iff, if_true, not_true, if_false]
        simp only [↓reduceIte, show ¬ (4 : Nat) = 6 from by decide, if_false] at e2
        subst e2
        by_cases hm0 : m = 0
        · rw [if_pos hm0]
          exact go _ _ (T.2 j c, false) (by simp [qo, whS, tj, hm0]) (by omega) (by simp) (by simp)
        · rw [if_neg hm0, ite_le]
          by_cases hlt : T.2 j c < x
          · rw [if_pos hlt]
            exact go _ _ (T.2 j c, false) (by simp [qo, whS, tj, hm0, hlt]) (by omega) (by simp) (by simp)
          · rw [if_neg hlt]
            exact go _ _ (x, false) (by simp [qo, whS, tj, hm0, hlt]) (by omega) (by simp) (by simp)
      · simp only [↓reduceIte, show ¬ (5 : Nat) = 3 from by decide, show ¬ (5 : Nat) = 4 from by decide, not_false_iff, if_true]
        simp only [↓reduceIte, show ¬ (5 : Nat) = 6 from by decide, if_false] at e2
        subst e2
        by_cases hm0 : m = 0
        · rw [if_pos hm0]
          exact go _ _ (T.2 j c, false) (by simp [qo, whS, tj, hm0]) (by omega) (by simp) (by simp)
        · rw [if_neg hm0, ite_le]
          by_cases hlt : x < T.2 j c
          · rw [if_pos hlt]
            exact go _ _ (T.2 j c, false) (by simp [qo, whS, tj, hm0, hlt]) (by omega) (by simp) (by simp)
          · rw [if_neg hlt]
            exact go _ _ (x, false) (by simp [qo, whS, tj, hm0, hlt]) (by omega) (by simp) (by simp)
      · simp only [↓reduceIte, show ¬ (6 : Nat) = 3 from by decide, show ¬ (6 : Nat) = 4 from by decide, not_false_iff, if_true]
        simp only [↓reduceIte, if_true] at e2
        subst e2
        have z : qo (whS 6 c T) (k + 1) j (nI m, decide (m = 0)) = qo (whS 6 c T) k (j + 1) (nI (m + 1), false) := by simp [qo, whS, tj, nI_1]
        have g := fun w => go (m + 1) w (nI (m + 1), false) z (by omega) (by simp) (by simp)
        by_cases hm0 : m = 0
        · rw [if_pos hm0]; exact g _
        · rw [if_neg hm0]
          by_cases hlt : T.2 j c ≤ v
          · rw [if_pos hlt]; exact g _
          · rw [if_neg hlt]; exact g _
theorem m207 {n : Nat} {C : AmC} {c cols kd : Nat} {T : Tab} (hP : PInv C) (hT : TabM 30 cols C 180 0 T) (hc : c < cols) (h4 : cols ≤ 4) (hk : kd = 3 ∨ kd = 4 ∨ kd = 5 ∨ kd = 6) (hn : 31 ≤ n) : f_207 n 145 (nI kd) (nI c) C = some ((sWhole kd c T).1, C) := by
  obtain ⟨m, v, e1, e2⟩ := m207_lp hP hT hc h4 hk 30 0 n 0 0 (0, true) rfl (by omega) (by omega) (by simp) (by by_cases g : kd = 6 <;> simp [g, x_0])
  unfold f_207
  rw [x_0] at e1
  rw [e1, sWhole_eq]
  simp (disch := omega) only [Option.bind_some, ↓reduceIte, n_2, n_3, n_4, n_5, n_6, n_7, n_8, n_10, n_12, n_20, n_30, n_40, n_100, n_120, n_150, n_200, n_230, n_320, n_450, n_900, x_le, x_lt, x_eq, x_lt0, x_le0, x_0le, x_0lt, x_eq0, x_eq1, x_1lt, x_le1, x_lt1, x_1le, x_eqm, x_add, x_a1, x_1a, x_a0, x_0a, x_mul, x_sub, x_s1, x_1s, x_div, x_cl, x_cl0, x_cl1, x_in, x_in0, x_in1, x_ofNat]
  by_cases g : kd = 6
  · rw [if_pos g] at e2
    rw [if_neg (by simpa using g), e2]
  · rw [if_neg g] at e2
    rw [if_pos g, e2]
/-- a row is there wherever a column of it is asked -/
def PlOK (T : Tab) (pl : Option Nat) (v : Val) : Prop := ∀ a ∈ v, a.2.1 = 1 → ∃ p, pl = some p ∧ p < 30 ∧ T.1 p = true
def OtOK (S : Scr) (o : Option Nat) (v : Val) : Prop := ∀ a ∈ v, a.2.1 = 2 → ∃ q, o = some q ∧ q < (sOth S).length
theorem m208 {n : Nat} {C : AmC} {h j : Nat} {S : Scr} {T : Tab} {pl o : Option Nat} {o' : Int32} {a : Atom} (hM : MC C h S) (hT : TabM 30 (sCols S) C 180 0 T) (hj : j < 920) (ha : AtM C j a) (hok : AtomOK (sCols S) a) (h1 : a.2.1 = 1 → ∃ p, pl = some p ∧ p < 30 ∧ T.1 p = true) (h2 : a.2.1 = 2 → ∃ q, o = some q ∧ q < (sOth S).length ∧ o' = nI q) (hn : 31 ≤ n) : f_208 n 145 (nI j) (oI pl) o' C = some (aVal S T pl o a, C) := by
  have hP := hM.1
  have hcol := hM.2.2.2.2.1
  obtain ⟨a1, a2, a3⟩ := ha
  unfold f_208 aVal
  simp (disch := omega) only [↓reduceIte, if_true, if_false, Option.bind_some, k_145, ↓bd1 (w_145_14 hP), k_152, l_152, ↓bd1 (w_145_15 hP), k_153, l_153, x_in, x_cl, hj, a2, a3]
  rcases hok.2 with ⟨e0, _⟩ | ⟨e1, e2, c, hc, ec⟩
  · simp only [e0]
    rfl
  · have ecl : a.2.2.toNatClampNeg = c := by rw [ec]; exact nI_clamp (by omega)
    simp (disch := omega) only [↓reduceIte, n_2, n_3, n_4, n_5, n_6, n_7, n_8, n_10, n_12, n_20, n_30, n_40, n_100, n_120, n_150, n_200, n_230, n_320, n_450, n_900, x_le, x_lt, x_eq, x_lt0, x_le0, x_0le, x_0lt, x_eq0, x_eq1, x_1lt, x_le1, x_lt1, x_1le, x_eqm, x_add, x_a1, x_1a, x_a0, x_0a, x_mul, x_sub, x_s1, x_1s, x_div, x_cl, x_cl0, x_cl1, x_in, x_in0, x_in1, x_ofNat]
    have n0 : ¬ a.2.1 = 0 := by omega
    rw [if_neg n0, if_neg n0]
    by_cases q1 : a.2.1 = 1
    · obtain ⟨p, rfl, hp, tp⟩ := h1 q1
      simp (disch := omega) only [↓reduceIte, q1, if_true, ec, oI_n, oI_s, m193 hP hT hp tp hc, Option.bind_some, x_cl]
      simp [tgo, tg, tp]
    · rw [if_neg q1, if_neg q1]
      by_cases q2 : a.2.1 = 2
      · obtain ⟨q, rfl, hq, rfl⟩ := h2 q2
        simp (disch := omega) only [↓reduceIte, q2, if_true, ec, m206 hM hq hc, Option.bind_some, x_cl]
        rfl
      · have hk4 : a.2.1 = 3 ∨ a.2.1 = 4 ∨ a.2.1 = 5 ∨ a.2.1 = 6 := by omega
        rw [if_neg q2, if_neg q2, ec, m207 hP hT hc hcol hk4 hn]
        simp (disch := omega) only [Option.bind_some, x_cl]
theorem m209_lp {C : AmC} {h k : Nat} {S : Scr} {T : Tab} {pl o : Option Nat} {o' : Int32} (hM : MC C h S) (hT : TabM 30 (sCols S) C 180 0 T) (hk : k < 640) {a0 N : Nat} (e1 : cI C 154 k = nI a0) (e2 : cI C 155 k = nI N) (hN : a0 + N ≤ 920) : ∀ (l : Val) (j n : Nat) (x : Int32), (∀ i (g : i < l.length), AtM C (j + i) l[i]) → (∀ a ∈ l, AtomOK (sCols S) a ∧ (a.2.1 = 1 → ∃ p, pl = some p ∧ p < 30 ∧ T.1 p = true) ∧ (a.2.1 = 2 → ∃ q, o = some q ∧ q < (sOth S).length ∧ o' = nI q)) → l.length + 40 < n → a0 + N = j + l.length → lp_209_7 n 145 (nI k) (oI pl) o' x (nI j) C = some (l.foldl (aStep S T pl o) x, C) := by
  have hP := hM.1
  intro l
  induction l with
  | nil =>
    intro j n x _ _ hn hj
    obtain ⟨n, rfl⟩ : ∃ m, n = m + 1 := ⟨n - 1, by omega⟩
    simp only [List.length_nil, Nat.add_zero] at hj
    have h1 : a0 + N ≤ j := by omega
    simp (disch := omega) only [↓reduceIte, lp_209_7, if_true, if_false, Option.bind_some, k_145, ↓bd1 (w_145_16 hP), k_154, l_154, ↓bd1 (w_145_17 hP), k_155, l_155, x_in, x_cl, hk, e1, e2, x_add, x_le, h1, List.foldl_nil]
  | cons a l ih =>
    intro j n x hat hok hn hj
    obtain ⟨n, rfl⟩ : ∃ m, n = m + 1 := ⟨n - 1, by omega⟩
    simp only [List.length_cons] at hj hn
    have h1 : ¬ a0 + N ≤ j := by omega
    have ha := hat 0 (by simp)
    simp only [Nat.add_zero, List.getElem_cons_zero] at ha
    obtain ⟨hsg, hpl, hot⟩ := hok a List.mem_cons_self
    have ihx := fun y => ih (j + 1) n y (fun i g => by
      have := hat (i + 1) (by simpa using g)
      simpa [Nat.add_assoc, Nat.add_comm 1 i] using this) (fun b hb => hok b (List.mem_cons_of_mem _ hb)) (by omega) (by omega)
    have hj9 : j < 920 := by omega
    simp (disch := omega) only [lp_209_7, if_true, if_false, Option.bind_some, k_145, ↓bd1 (w_145_16 hP), k_154, l_154, ↓bd1 (w_145_17 hP), k_155, l_155, ↓bd1 (w_145_13 hP), k_151, l_151, x_in, x_cl, hk, e1, e2, x_add, x_le, h1, m208 hM hT hj9 ha hsg hpl hot, hj9, ha.1, ↓reduceIte, n_2, n_3, n_4, n_5, n_6, n_7, n_8, n_10, n_12, n_20, n_30, n_40, n_100, n_120, n_150, n_200, n_230, n_320, n_450, n_900, x_lt, x_eq, x_lt0, x_le0, x_0le, x_0lt, x_eq0, x_eq1, x_1lt, x_le1, x_lt1, x_1le, x_eqm, x_a1, x_1a, x_a0, x_0a, x_mul, x_sub, x_s1, x_1s, x_div, x_cl0, x_cl1, x_in0, x_in1, x_ofNat, List.foldl_cons]
    unfold aStep
    rcases hsg.1 with e | e | e <;> simp only [e]
    · exact ihx _
    · exact ihx _
    · exact ihx _
theorem m209 {n : Nat} {C : AmC} {h k : Nat} {S : Scr} {T : Tab} {pl o : Option Nat} {o' : Int32} {v : Val} (hM : MC C h S) (hT : TabM 30 (sCols S) C 180 0 T) (hV : VM C k v) (hl : v.length ≤ 450) (hok : ∀ a ∈ v, AtomOK (sCols S) a ∧ (a.2.1 = 1 → ∃ p, pl = some p ∧ p < 30 ∧ T.1 p = true) ∧ (a.2.1 = 2 → ∃ q, o = some q ∧ q < (sOth S).length ∧ o' = nI q)) (hn : 600 ≤ n) : f_209 n 145 (nI k) (oI pl) o' C = some (sVal S T pl o v, C) := by
  have hP := hM.1
  obtain ⟨hk, a, e1, e2, h1, h2⟩ := hV
  have L := m209_lp hM hT hk e1 e2 h1 v a n 0 h2 hok (by omega) rfl
  unfold f_209
  simp (disch := omega) only [↓reduceIte, if_true, if_false, Option.bind_some, k_145, ↓bd1 (w_145_16 hP), k_154, l_154, x_in, x_cl, hk, e1, L]
  rfl
theorem m210_lp {C : AmC} {h i p f N : Nat} {S : Scr} {T : Tab} (hM : MC C h S) (hT : TabM 30 (sCols S) C 180 0 T) (hp : p < 30) (tp : T.1 p = true) (hr : cI C 145 59 = nI i) (hi : i < 16) (e1 : cI C 174 i = nI f) (e2 : cI C 175 i = nI N) (hN : f + N ≤ 320) : ∀ (l : List Tst) (j n : Nat), (∀ i (g : i < l.length), cI C 157 (j + i) = l[i].2.1 ∧ (∃ k, cI C 156 (j + i) = nI k ∧ VM C k l[i].1) ∧ ∃ k, cI C 158 (j + i) = nI k ∧ VM C k l[i].2.2) → (∀ q ∈ l, ValOK (sCols S) false true q.1 ∧ (q.2.1 = 60 ∨ q.2.1 = 61 ∨ q.2.1 = 62) ∧ ValOK (sCols S) false true q.2.2) → l.length + 610 < n → f + N = j + l.length → lp_210_6 n 145 (nI p) (nI j) C = some (if l.all (fun q => sSo (sVal S T (some p) none q.1) q.2.1 (sVal S T (some p) none q.2.2)) = true then .inr () else .inl (), C) := by
  have hP := hM.1
  intro l
  induction l with
  | nil =>
    intro j n _ _ hn hj
    obtain ⟨n, rfl⟩ : ∃ m, n = m + 1 := ⟨n - 1, by omega⟩
    simp only [List.length_nil, Nat.add_zero] at hj
    have h1 : f + N ≤ j := by omega
    simp (disch := omega) only [↓reduceIte, lp_210_6, if_true, if_false, Option.bind_some, k_145, ↓bd1 (w_145_36 hP), k_174, l_174, ↓bd1 (w_145_37 hP), k_175, l_175, x_in, x_cl, hr, hi, e1, e2, x_add, x_le, h1, List.all_nil]
  | cons q l ih =>
    intro j n hat hok hn hj
    obtain ⟨n, rfl⟩ : ∃ m, n = m + 1 := ⟨n - 1, by omega⟩
    simp only [List.length_cons] at hj hn
    have h1 : ¬ f + N ≤ j := by omega
    have hj3 : j < 320 := by omega
    have ha := hat 0 (by simp)
    simp only [Nat.add_zero, List.getElem_cons_zero] at ha
    obtain ⟨a1, ⟨k1, a2, v1⟩, k2, a3, v2⟩ := ha
    obtain ⟨o1, o2, o3⟩ := hok q List.mem_cons_self
    have ihx := ih (j + 1) n (fun i g => by
      have := hat (i + 1) (by simpa using g)
      simpa [Nat.add_assoc, Nat.add_comm 1 i] using this) (fun b hb => hok b (List.mem_cons_of_mem _ hb)) (by omega) (by omega)
    have cv : ∀ v, ValOK (sCols S) false true v → ∀ a ∈ v, AtomOK (sCols S) a ∧ (a.2.1 = 1 → ∃ p', some p = some p' ∧ p' < 30 ∧ T.1 p' = true) ∧ (a.2.1 = 2 → ∃ q, (none : Option Nat) = some q ∧ q < (sOth S).length ∧ (0 : Int32) = nI q) := fun v hv a hx => ⟨(hv.2.2 a hx).1, fun _ => ⟨p, rfl, hp, tp⟩, fun z => by have := (hv.2.2 a hx).2.1 z; cases this⟩
    have w1 := m209 (pl := some p) hM hT v1 o1.2.1 (cv _ o1) (n := n) (by omega)
    have w2 := m209 (pl := some p) hM hT v2 o3.2.1 (cv _ o3) (n := n) (by omega)
    simp only [oI_n, oI_s] at w1 w2
    simp (disch := omega) only [lp_210_6, if_true, if_false, Option.bind_some, k_145, ↓bd1 (w_145_36 hP), k_174, l_174, ↓bd1 (w_145_37 hP), k_175, l_175, ↓bd1 (w_145_18 hP), k_156, l_156, ↓bd1 (w_145_19 hP), k_157, l_157, ↓bd1 (w_145_20 hP), k_158, l_158, x_in, x_cl, hr, hi, e1, e2, x_add, x_le, h1, hj3, a1, a2, a3, w1, w2, m203 o2, ite10, ↓reduceIte, n_2, n_3, n_4, n_5, n_6, n_7, n_8, n_10, n_12, n_20, n_30, n_40, n_100, n_120, n_150, n_200, n_230, n_320, n_450, n_900, x_lt, x_eq, x_lt0, x_le0, x_0le, x_0lt, x_eq0, x_eq1, x_1lt, x_le1, x_lt1, x_1le, x_eqm, x_a1, x_1a, x_a0, x_0a, x_mul, x_sub, x_s1, x_1s, x_div, x_cl0, x_cl1, x_in0, x_in1, x_ofNat, ihx, List.all_cons, Bool.and_eq_true]
    generalize (l.all fun q => sSo (sVal S T (some p) none q.1) q.2.1 (sVal S T (some p) none q.2.2)) = B
    cases sSo (sVal S T (some p) none q.1) q.2.1 (sVal S T (some p) none q.2.2) <;> cases B <;> simp
theorem m210 {n : Nat} {C : AmC} {h i p : Nat} {S : Scr} {T : Tab} {t : Stm} (hM : MC C h S) (hT : TabM 30 (sCols S) C 180 0 T) (hp : p < 30) (tp : T.1 p = true) (hr : cI C 145 59 = nI i) (hi : i < 16) (ht : StmM C i t) (hto : StmOK (sCols S) t) (hn : 1200 ≤ n) : f_210 n 145 (nI p) C = some (if sHolds S T (some p) t = true then 1 else 0, C) := by
  have hP := hM.1
  obtain ⟨f, e1, e2, h1, h2⟩ := ht.2.2.2.2.2
  have L := m210_lp hM hT hp tp hr hi e1 e2 h1 (tTst t) f n h2 hto.2.2.2.2.2.2.2.2.2.2.2.2.2 (by omega) rfl
  unfold f_210
  simp (disch := omega) only [↓reduceIte, if_true, if_false, Option.bind_some, k_145, ↓bd1 (w_145_36 hP), k_174, l_174, x_in, x_cl, hr, hi, e1, L]
  unfold sHolds
  cases (tTst t).all (fun q => sSo (sVal S T (some p) none q.1) q.2.1 (sVal S T (some p) none q.2.2)) <;> rfl
