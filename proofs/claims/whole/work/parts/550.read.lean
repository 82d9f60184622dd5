/-! Reading along a path, by the reference. -/
/-- what is run, as the reference has it -/
def RunM (C : AmC) (S : Scr) (st : Option Stm) : Prop := match st with
  | none => cI C 145 59 = -1
  | some t => ∃ i, i < 16 ∧ cI C 145 59 = nI i ∧ StmM C i t ∧ StmOK (sCols S) t
def aloneK (v : Val) (k : Nat) : Bool := match v with
  | [a] => decide (a.2.1 = k)
  | _ => false
theorem m202 {n : Nat} {C : AmC} {k d : Nat} {v : Val} (hP : PInv C) (hV : VM C k v) (hne : v ≠ []) (hd : d < 7) (hk : ∀ a ∈ v, a.2.1 ≤ 6) : f_202 n 145 (nI k) (nI d) C = some (if aloneK v d = true then 1 else 0, C) := by
  obtain ⟨hk6, a, e1, e2, h1, h2⟩ := hV
  unfold f_202 aloneK
  simp (disch := omega) only [if_true, if_false, Option.bind_some, k_145, ↓bd1 (w_145_17 hP), k_155, l_155, ↓bd1 (w_145_14 hP), k_152, l_152, ↓bd1 (w_145_16 hP), k_154, l_154, x_in, x_cl, hk6, e1, e2, ↓reduceIte, n_2, n_3, n_4, n_5, n_6, n_7, n_8, n_10, n_12, n_20, n_30, n_40, n_100, n_120, n_150, n_200, n_230, n_320, n_450, n_900, x_le, x_lt, x_eq, x_lt0, x_le0, x_0le, x_0lt, x_eq0, x_eq1, x_1lt, x_le1, x_lt1, x_1le, x_eqm, x_add, x_a1, x_1a, x_a0, x_0a, x_mul, x_sub, x_s1, x_1s, x_div, x_cl0, x_cl1, x_in0, x_in1, x_ofNat]
  match v, hne with
  | [b], _ =>
    have hb := h2 0 (by simp)
    simp only [Nat.add_zero, List.getElem_cons_zero] at hb
    have hb6 := hk b List.mem_cons_self
    simp only [List.length_cons, List.length_nil] at h1
    have h9 : a < 920 := by omega
    simp (disch := omega) only [↓reduceIte, List.length_cons, List.length_nil, not_true, if_false, h9, if_true, hb.2.1, x_eq]
    by_cases e : b.2.1 = d <;> simp [e]
  | b :: b' :: v, _ =>
    simp
theorem alone_some {v : Val} {k : Nat} (h : aloneK v k = true) : ∃ a, v = [a] ∧ a.2.1 = k := by
  unfold aloneK at h
  match v with
  | [] => simp at h
  | [a] => exact ⟨a, rfl, by simpa using h⟩
  | a :: b :: v => simp at h
theorem rgT_n1 {c : Nat} {q : Tst} (h : aloneK q.1 1 = false) : rgT c q = none := by
  unfold rgT
  unfold aloneK at h
  obtain ⟨v, sg, w⟩ := q
  match v, w with
  | [], _ => rfl
  | [a], [] => rfl
  | [a], [b] =>
    have h1 : ¬ a.2.1 = 1 := by simpa using h
    simp [h1]
  | [a], b :: b' :: w => rfl
  | a :: a' :: v, _ => rfl
theorem rgT_n2 {c : Nat} {q : Tst} (h : aloneK q.2.2 0 = false) : rgT c q = none := by
  unfold rgT
  unfold aloneK at h
  obtain ⟨v, sg, w⟩ := q
  match v, w with
  | [], _ => rfl
  | [a], [] => rfl
  | [a], [b] =>
    have h1 : ¬ b.2.1 = 0 := by simpa using h
    simp [h1]
  | [a], b :: b' :: w => rfl
  | a :: a' :: v, _ => rfl
theorem rgT_s {c : Nat} {q : Tst} {a d : Atom} (h1 : q.1 = [a]) (h2 : q.2.2 = [d]) (h3 : a.2.1 = 1) (h4 : d.2.1 = 0) : rgT c q = if a.2.2 = nI c then some (q.2.1, d.2.2) else none := by
  unfold rgT
  rw [h1, h2]
  by_cases e : a.2.2 = nI c <;> simp [h3, h4, e]
theorem m201_lp {C : AmC} {h i p f N c : Nat} {S : Scr} {T : Tab} (hM : MC C h S) (hT : TabM 30 (sCols S) C 180 0 T) (hp : p < 30) (tp : T.1 p = true) (hc : c < sCols S) (hr : cI C 145 59 = nI i) (hi : i < 16) (e1 : cI C 174 i = nI f) (e2 : cI C 175 i = nI N) (hN : f + N ≤ 320) : ∀ (l : List Tst) (j n : Nat) (b : Bool), (∀ i (g : i < l.length), cI C 157 (j + i) = l[i].2.1 ∧ (∃ k, cI C 156 (j + i) = nI k ∧ VM C k l[i].1) ∧ ∃ k, cI C 158 (j + i) = nI k ∧ VM C k l[i].2.2) → (∀ q ∈ l, ValOK (sCols S) false true q.1 ∧ (q.2.1 = 60 ∨ q.2.1 = 61 ∨ q.2.1 = 62) ∧ ValOK (sCols S) false true q.2.2) → l.length < n → f + N = j + l.length → lp_201_54 n 145 (nI p) (nI c) (if b = true then 1 else 0) (nI j) C = some (if (b && l.all (fun q => match rgT c q with
    | none => true
    | some (sg, x) => sSo (T.2 p c) sg x)) = true then 1 else 0, C) := by
  have hP := hM.1
  have h4 := hM.2.2.2.2.1
  intro l
  induction l with
  | nil =>
    intro j n b _ _ hn hj
    obtain ⟨n, rfl⟩ : ∃ m, n = m + 1 := ⟨n - 1, by omega⟩
    simp only [List.length_nil, Nat.add_zero] at hj
    have h1 : f + N ≤ j := by omega
    simp (disch := omega) only [↓reduceIte, lp_201_54, if_true, if_false, Option.bind_some, k_145, ↓bd1 (w_145_36 hP), k_174, l_174, ↓bd1 (w_145_37 hP), k_175, l_175, x_in, x_cl, hr, hi, e1, e2, x_add, x_le, h1, List.all_nil, Bool.and_true]
  | cons q l ih =>
    intro j n b hat hok hn hj
    obtain ⟨n, rfl⟩ : ∃ m, n = m + 1 := ⟨n - 1, by omega⟩
    simp only [List.length_cons] at hj hn
    have h1 : ¬ f + N ≤ j := by omega
    have hj3 : j < 320 := by omega
    have ha := hat 0 (by simp)
    simp only [Nat.add_zero, List.getElem_cons_zero] at ha
    obtain ⟨a1, ⟨k1, a2, v1⟩, k2, a3, v2⟩ := ha
    obtain ⟨o1, o2, o3⟩ := hok q List.mem_cons_self
    have ihx := fun b => ih (j + 1) n b (fun i g => by
      have := hat (i + 1) (by simpa using g)
      simpa [Nat.add_assoc, Nat.add_comm 1 i] using this) (fun b hb => hok b (List.mem_cons_of_mem _ hb)) (by omega) (by omega)
    have k6 : ∀ v, ValOK (sCols S) false true v → ∀ a ∈ v, a.2.1 ≤ 6 := fun v hv a hx => by
      rcases (hv.2.2 a hx).1.2 with ⟨z, _⟩ | ⟨_, z, _⟩ <;> omega
    have w1 := m202 (n := n) (d := 1) hP v1 o1.1 (by decide) (k6 _ o1)
    have w2 := m202 (n := n) (d := 0) hP v2 o3.1 (by decide) (k6 _ o3)
    rw [show nI 1 = (1 : Int32) from rfl] at w1
    rw [show nI 0 = (0 : Int32) from rfl] at w2
    have hk1 := v1.1
    have hk2 := v2.1
    have w1' : f_202 n 145 (cI C 156 (Int32.toNatClampNeg (nI j))) (1 : Int32) C = some (if aloneK q.1 1 = true then 1 else 0, C) := by rw [x_cl (by omega), a2]; exact w1
    have w2' : f_202 n 145 (cI C 158 (Int32.toNatClampNeg (nI j))) (0 : Int32) C = some (if aloneK q.2.2 0 = true then 1 else 0, C) := by rw [x_cl (by omega), a3]; exact w2
    rw [List.all_cons]
    cases A1 : aloneK q.1 1 with
    | false =>
      simp only [↓reduceIte, A1, Bool.false_eq_true, if_false] at w1'
      simp (disch := omega) only [lp_201_54, if_true, if_false, Option.bind_some, k_145, ↓bd1 (w_145_36 hP), k_174, l_174, ↓bd1 (w_145_37 hP), k_175, l_175, ↓bd1 (w_145_18 hP), k_156, l_156, ↓bd1 (w_145_20 hP), k_158, l_158, x_in, x_cl, hr, hi, e1, e2, x_add, x_le, h1, hj3, ↓bd1 w1', ↓reduceIte, n_2, n_3, n_4, n_5, n_6, n_7, n_8, n_10, n_12, n_20, n_30, n_40, n_100, n_120, n_150, n_200, n_230, n_320, n_450, n_900, x_lt, x_eq, x_lt0, x_le0, x_0le, x_0lt, x_eq0, x_eq1, x_1lt, x_le1, x_lt1, x_1le, x_eqm, x_a1, x_1a, x_a0, x_0a, x_mul, x_sub, x_s1, x_1s, x_div, x_cl0, x_cl1, x_in0, x_in1, x_ofNat]
      simpa [-List.all_eq_true, rgT_n1 A1] using ihx b
    | true =>
      simp only [↓reduceIte, A1, if_true] at w1'
      have ne : ¬ (1 : Int32) = 0 := by decide
      cases A2 : aloneK q.2.2 0 with
      | false =>
        simp only [↓reduceIte, A2, Bool.false_eq_true, if_false] at w2'
        simp (disch := omega) only [lp_201_54, if_true, if_false, Option.bind_some, k_145, ↓bd1 (w_145_36 hP), k_174, l_174, ↓bd1 (w_145_37 hP), k_175, l_175, ↓bd1 (w_145_18 hP), k_156, l_156, ↓bd1 (w_145_20 hP), k_158, l_158, x_in, x_cl, hr, hi, e1, e2, x_add, x_le, h1, hj3, ↓bd1 w1', ↓bd1 w2', ne, ↓reduceIte, n_2, n_3, n_4, n_5, n_6, n_7, n_8, n_10, n_12, n_20, n_30, n_40, n_100, n_120, n_150, n_200, n_230, n_320, n_450, n_900, x_lt, x_eq, x_lt0, x_le0, x_0le, x_0lt, x_eq0, x_eq1, x_1lt, x_le1, x_lt1, x_1le, x_eqm, x_a1, x_1a, x_a0, x_0a, x_mul, x_sub, x_s1, x_1s, x_div, x_cl0, x_cl1, x_in0, x_in1, x_ofNat]
        simpa [-List.all_eq_true, rgT_n2 A2] using ihx b
      | true =>
        simp only [↓reduceIte, A2, if_true] at w2'
        obtain ⟨a, ea, ka⟩ := alone_some A1
        obtain ⟨d, ed, kd⟩ := alone_some A2
        obtain ⟨_, s1, f1, g1, l1, t1⟩ := v1
        obtain ⟨_, s2, f2, g2, l2, t2⟩ := v2
        simp only [ea, ed, List.length_cons, List.length_nil] at t1 t2 l1 l2
        have u1 := (t1 0 (by simp)).2.2
        have u2 := (t2 0 (by simp)).2.2
        simp only [Nat.add_zero, List.getElem_cons_zero] at u1 u2
        have y1 : s1 < 920 := by omega
        have y2 : s2 < 920 := by omega
        rw [rgT_s ea ed ka kd]
        have z2 : cI C 153 (Int32.toNatClampNeg (cI C 154 (Int32.toNatClampNeg (cI C 158 (Int32.toNatClampNeg (nI j)))))) = d.2.2 := by
          simp (disch := omega) only [x_cl, a3, f2, u2]
        have w3 : f_203 n (T.2 p c) (cI C 157 (Int32.toNatClampNeg (nI j))) (cI C 153 (Int32.toNatClampNeg (cI C 154 (Int32.toNatClampNeg (cI C 158 (Int32.toNatClampNeg (nI j))))))) C = some (if sSo (T.2 p c) q.2.1 d.2.2 = true then 1 else 0, C) := by
          rw [z2, x_cl (by omega), a1]
          exact m203 o2
        by_cases ec : a.2.2 = nI c
        · cases b with
          | false =>
            have e00 : (if false = true then (1 : Int32) else 0) = 0 := rfl
            simp (disch := omega) only [lp_201_54, if_true, if_false, Option.bind_some, k_145, ↓bd1 (w_145_36 hP), k_174, l_174, ↓bd1 (w_145_37 hP), k_175, l_175, ↓bd1 (w_145_18 hP), k_156, l_156, ↓bd1 (w_145_20 hP), k_158, l_158, ↓bd1 (w_145_15 hP), k_153, l_153, ↓bd1 (w_145_16 hP), k_154, l_154, x_in, x_cl, hr, hi, e1, e2, x_add, x_le, h1, hj3, ↓bd1 w1', ↓bd1 w2', ne, ↓reduceIte, n_2, n_3, n_4, n_5, n_6, n_7, n_8, n_10, n_12, n_20, n_30, n_40, n_100, n_120, n_150, n_200, n_230, n_320, n_450, n_900, x_lt, x_eq, x_lt0, x_le0, x_0le, x_0lt, x_eq0, x_eq1, x_1lt, x_le1, x_lt1, x_1le, x_eqm, x_a1, x_1a, x_a0, x_0a, x_mul, x_sub, x_s1, x_1s, x_div, x_cl0, x_cl1, x_in0, x_in1, x_ofNat, hk1, hk2, a1, a2, a3, f1, f2, y1, y2, u1, u2, ec, e00]
            simpa using ihx false
          | true =>
            cases hs : sSo (T.2 p c) q.2.1 d.2.2 with
            | false =>
              simp only [↓reduceIte, hs, Bool.false_eq_true, if_false] at w3
              simp (disch := omega) only [lp_201_54, if_true, if_false, Option.bind_some, k_145, ↓bd1 (w_145_36 hP), k_174, l_174, ↓bd1 (w_145_37 hP), k_175, l_175, ↓bd1 (w_145_18 hP), k_156, l_156, ↓bd1 (w_145_19 hP), k_157, l_157, ↓bd1 (w_145_20 hP), k_158, l_158, ↓bd1 (w_145_15 hP), k_153, l_153, ↓bd1 (w_145_16 hP), k_154, l_154, x_in, x_cl, hr, hi, e1, e2, x_add, x_le, h1, hj3, ↓bd1 w1', ↓bd1 w2', ↓bd1 (m193 (n := n) hP hT hp tp hc h4), ↓bd1 w3, ne, ↓reduceIte, n_2, n_3, n_4, n_5, n_6, n_7, n_8, n_10, n_12, n_20, n_30, n_40, n_100, n_120, n_150, n_200, n_230, n_320, n_450, n_900, x_lt, x_eq, x_lt0, x_le0, x_0le, x_0lt, x_eq0, x_eq1, x_1lt, x_le1, x_lt1, x_1le, x_eqm, x_a1, x_1a, x_a0, x_0a, x_mul, x_sub, x_s1, x_1s, x_div, x_cl0, x_cl1, x_in0, x_in1, x_ofNat, hk1, hk2, a1, a2, a3, f1, f2, y1, y2, u1, u2, ec]
              simpa [hs] using ihx false
            | true =>
              simp only [↓reduceIte, hs, if_true] at w3
              simp (disch := omega) only [lp_201_54, if_true, if_false, Option.bind_some, k_145, ↓bd1 (w_145_36 hP), k_174, l_174, ↓bd1 (w_145_37 hP), k_175, l_175, ↓bd1 (w_145_18 hP), k_156, l_156, ↓bd1 (w_145_19 hP), k_157, l_157, ↓bd1 (w_145_20 hP), k_158, l_158, ↓bd1 (w_145_15 hP), k_153, l_153, ↓bd1 (w_145_16 hP), k_154, l_154, x_in, x_cl, hr, hi, e1, e2, x_add, x_le, h1, hj3, ↓bd1 w1', ↓bd1 w2', ↓bd1 (m193 (n := n) hP hT hp tp hc h4), ↓bd1 w3, ne, ↓reduceIte, n_2, n_3, n_4, n_5, n_6, n_7, n_8, n_10, n_12, n_20, n_30, n_40, n_100, n_120, n_150, n_200, n_230, n_320, n_450, n_900, x_lt, x_eq, x_lt0, x_le0, x_0le, x_0lt, x_eq0, x_eq1, x_1lt, x_le1, x_lt1, x_1le, x_eqm, x_a1, x_1a, x_a0, x_0a, x_mul, x_sub, x_s1, x_1s, x_div, x_cl0, x_cl1, x_in0, x_in1, x_ofNat, hk1, hk2, a1, a2, a3, f1, f2, y1, y2, u1, u2, ec]
              simpa [-List.all_eq_true, hs] using ihx true
        · simp (disch := omega) only [lp_201_54, if_true, if_false, Option.bind_some, k_145, ↓bd1 (w_145_36 hP), k_174, l_174, ↓bd1 (w_145_37 hP), k_175, l_175, ↓bd1 (w_145_18 hP), k_156, l_156, ↓bd1 (w_145_20 hP), k_158, l_158, ↓bd1 (w_145_15 hP), k_153, l_153, ↓bd1 (w_145_16 hP), k_154, l_154, x_in, x_cl, hr, hi, e1, e2, x_add, x_le, h1, hj3, ↓bd1 w1', ↓bd1 w2', ne, ↓reduceIte, n_2, n_3, n_4, n_5, n_6, n_7, n_8, n_10, n_12, n_20, n_30, n_40, n_100, n_120, n_150, n_200, n_230, n_320, n_450, n_900, x_lt, x_eq, x_lt0, x_le0, x_0le, x_0lt, x_eq0, x_eq1, x_1lt, x_le1, x_lt1, x_1le, x_eqm, x_a1, x_1a, x_a0, x_0a, x_mul, x_sub, x_s1, x_1s, x_div, x_cl0, x_cl1, x_in0, x_in1, x_ofNat, hk1, hk2, a1, a2, a3, f1, f2, y1, y2, u1, u2, ec]
          simpa [-List.all_eq_true, ec] using ihx b
theorem m201 {n : Nat} {C : AmC} {h path p o : Nat} {S : Scr} {T : Tab} {st : Option Stm} (hM : MC C h S) (hT : TabM 30 (sCols S) C 180 0 T) (hpa : PathOK S path) (hp : p < 30) (tp : T.1 p = true) (hR : RunM C S st) (ho : (∃ t, st = some t ∧ tKd t = 3) → o < (sOth S).length) (hn : 400 ≤ n) : f_201 n 145 (nI path) (nI p) (nI o) C = some (if sRng S st path (some o) T p = true then 1 else 0, C) := by
  have hP := hM.1
  have h3 := hM.2.2.1.1
  have hl := hM.2.2.2.2.2.1
  have h4 := hM.2.2.2.2.1
  have h7 := hpa.lt hM.2.2.2
  unfold f_201 sRng
  by_cases e : path = 0
  · simp [e, x_0]
  · have hi := hpa.ix e
    have hx := (ix_lt hM.2.2.2 hi).1
    have h6 : 3 * h + (path - 1) / 2 < 6 := by omega
    have e0 : ¬ nI path = 0 := by
      rw [← x_0, x_eq (by omega) (by omega)]
      exact e
    cases st with
    | none =>
      have hR1 : cI C 145 59 = -1 := hR
      simp only [↓reduceIte, e0, e, k_145, hR1, not_true, if_false, if_true, rgX]
    | some t =>
      obtain ⟨i, hi16, er, ht, hto⟩ := hR
      have em : ¬ nI i = (-1 : Int32) := by
        rw [x_eqm (by omega)]
        exact id
      obtain ⟨f, g1, g2, g3, g4⟩ := ht.2.2.2.2.2
      have hkd := hto.1
      simp (maxSteps := 4000000) (disch := omega) only [e0, e, if_true, if_false, Option.bind_some, k_145, er, em, not_false_iff, ↓bd1 (w_145_29 hP), k_167, l_167, ↓bd1 (w_145_32 hP), k_170, l_170, ↓bd1 (w_145_36 hP), k_174, l_174, ↓bd1 (w_145_34 hP), k_172, l_172, ↓bd1 (w_145_35 hP), k_173, l_173, m194 hM, x_in, h6, x_cl, (hM.2.2.1.2.2.2.1 _ hi).1, hi16, ht.1, ↓reduceIte, n_2, n_3, n_4, n_5, n_6, n_7, n_8, n_10, n_12, n_20, n_30, n_40, n_100, n_120, n_150, n_200, n_230, n_320, n_450, n_900, x_le, x_lt, x_eq, x_lt0, x_le0, x_0le, x_0lt, x_eq0, x_eq1, x_1lt, x_le1, x_lt1, x_1le, x_eqm, x_add, x_a1, x_1a, x_a0, x_0a, x_mul, x_sub, x_s1, x_1s, x_div, x_cl0, x_cl1, x_in0, x_in1, x_ofNat, rgX, g1]
      by_cases k3 : tKd t = 3
      · obtain ⟨q1, q2⟩ := ht.2.2.1 k3
        have hown := hto.2.2.2.1
        have hoth := hto.2.2.2.2.1
        simp (disch := omega) only [↓reduceIte, k3, not_true, if_false, if_true, q1, q2, x_eq]
        by_cases c : ix1 S ((path - 1) / 2) = tOwn t
        · simp (disch := omega) only [↓reduceIte, c, not_true, if_false, if_true, m193 hP hT hp tp hown h4, Option.bind_some, ↓bd1 (w_145_35 hP), k_173, l_173, k_145, x_in, x_cl, hi16, er, q2, m206 hM (ho ⟨t, rfl, k3⟩) hoth, Option.getD_some]
          by_cases c2 : T.2 p (tOwn t) = othN S o (tOth t) <;> simp [c2]
        · simp [c]
      · have L := m201_lp hM hT hp tp hx er hi16 g1 g2 g3 (tTst t) f n true g4 hto.2.2.2.2.2.2.2.2.2.2.2.2.2 (by omega) rfl
        simp only [↓reduceIte, if_true, Bool.true_and] at L
        simp only [↓reduceIte, k3, not_false_iff, if_true, if_false, L, Option.bind_some]
        generalize ((tTst t).all fun q => match rgT (ix1 S ((path - 1) / 2)) q with
          | none => true
          | some (sg, b) => sSo (T.2 p (ix1 S ((path - 1) / 2))) sg b) = B
        cases B <;> simp
/-- the reference behind a read -/
def rdM (C : AmC) (S : Scr) (path : Nat) (T : Tab) (b : Option Nat) : AmC := match b with
  | none => C
  | some p => uI (uI (uI (uI C 145 61 1) 145 62 (pX S path T p)) 145 63 (pY S path T p)) 145 64 (nI p)
theorem nx_ok {ok : Nat → Bool} {rk : Nat → Int} {last : Option Int} : ∀ {k j : Nat} {b : Option Nat}, (∀ q, b = some q → q < j ∧ ok q = true) → ∀ q, qo (nxS ok rk last) k j b = some q → q < j + k ∧ ok q = true := by
  intro k
  induction k with
  | zero => intro j b hb q h; exact ⟨by have := (hb q h).1; omega, (hb q h).2⟩
  | succ k ih =>
    intro j b hb q h
    have := ih (j := j + 1) (b := nxS ok rk last j b) (fun q hq => by
      unfold nxS at hq
      by_cases z : nxC ok rk last j b = true
      · rw [if_pos z] at hq
        cases hq
        simp only [nxC, Bool.and_eq_true] at z
        exact ⟨by omega, z.1.1⟩
      · rw [if_neg z] at hq
        have := hb q hq
        exact ⟨by omega, this.2⟩) q h
    exact ⟨by omega, this.2⟩
theorem sNext_ok {ok : Nat → Bool} {rk : Nat → Int} {last : Option Int} {q : Nat} (h : sNext ok rk last = some q) : q < 30 ∧ ok q = true := by
  have := nx_ok (k := 30) (j := 0) (b := none) (fun q z => by cases z) q h
  exact ⟨by omega, this.2⟩
theorem m205_lp {C : AmC} {h path o : Nat} {S : Scr} {T : Tab} {st : Option Stm} {last : Option Int} (hM : MC C h S) (hT : TabM 30 (sCols S) C 180 0 T) (hN : TabN (sCols S) T) (hpa : PathOK S path) (hR : RunM C S st) (ho : (∃ t, st = some t ∧ tKd t = 3) → o < (sOth S).length) (hL : LastM C S path last) (hon : cI C 145 60 = nI path) : ∀ k j n b, j + k = 30 → k + 400 < n → (∀ q, b = some q → q < j ∧ (T.1 q && sRng S st path (some o) T q) = true) → lp_205_4 n 145 (nI o) (oI b) (nI j) C = some ((145, oI (qo (nxS (fun p => T.1 p && sRng S st path (some o) T p) (sRk S path T) last) k j b)), C) := by
  have hP := hM.1
  have h7 := hpa.lt hM.2.2.2
  intro k
  induction k with
  | zero =>
    intro j n b h1 h2 _
    obtain ⟨n, rfl⟩ : ∃ m, n = m + 1 := ⟨n - 1, by omega⟩
    have h3 : 30 ≤ j := by omega
    simp (disch := omega) only [lp_205_4, ↓reduceIte, n_2, n_3, n_4, n_5, n_6, n_7, n_8, n_10, n_12, n_20, n_30, n_40, n_100, n_120, n_150, n_200, n_230, n_320, n_450, n_900, x_le, x_lt, x_eq, x_lt0, x_le0, x_0le, x_0lt, x_eq0, x_eq1, x_1lt, x_le1, x_lt1, x_1le, x_eqm, x_add, x_a1, x_1a, x_a0, x_0a, x_mul, x_sub, x_s1, x_1s, x_div, x_cl, x_cl0, x_cl1, x_in, x_in0, x_in1, x_ofNat, h3, if_true, qo]
  | succ k ih =>
    intro j n b h1 h2 hb
    obtain ⟨n, rfl⟩ : ∃ m, n = m + 1 := ⟨n - 1, by omega⟩
    have h3 : ¬ 30 ≤ j := by omega
    have h5 : j < 150 := by omega
    have hj : j < 30 := by omega
    have e := hT.1 j hj
    rw [Nat.zero_add] at e
    have keep := ih (j + 1) n b (by omega) (by omega) (fun q hq => ⟨by have := (hb q hq).1; omega, (hb q hq).2⟩)
    simp (disch := omega) only [lp_205_4, if_true, if_false, Option.bind_some, k_145, ↓bd1 (w_145_57 hP), k_180, l_180, ↓reduceIte, n_2, n_3, n_4, n_5, n_6, n_7, n_8, n_10, n_12, n_20, n_30, n_40, n_100, n_120, n_150, n_200, n_230, n_320, n_450, n_900, x_le, x_lt, x_eq, x_lt0, x_le0, x_0le, x_0lt, x_eq0, x_eq1, x_1lt, x_le1, x_lt1, x_1le, x_eqm, x_add, x_a1, x_1a, x_a0, x_0a, x_mul, x_sub, x_s1, x_1s, x_div, x_cl, x_cl0, x_cl1, x_in, x_in0, x_in1, x_ofNat, h3, h5, e, ite10, hon]
    unfold qo
    cases tj : T.1 j with
    | false =>
      have e2 : nxS (fun p => T.1 p && sRng S st path (some o) T p) (sRk S path T) last j b = b := by simp [nxS, nxC, bLt, tj]
      rw [e2]
      simpa using keep
    | true =>
      simp only [↓reduceIte, Bool.true_eq_false, if_false]
      rw [m199 hM hT hN hpa hj tj hL]
      simp only [Option.bind_some, ite10, hon]
      cases hl : lOk last (sRk S path T j) with
      | false =>
        have e2 : nxS (fun p => T.1 p && sRng S st path (some o) T p) (sRk S path T) last j b = b := by simp [nxS, nxC, bLt, hl]
        rw [e2]
        simpa using keep
      | true =>
        simp only [↓reduceIte, Bool.true_eq_false, if_false]
        rw [m201 hM hT hpa hj tj hR ho (by omega)]
        simp only [Option.bind_some, ite10, hon]
        cases hg : sRng S st path (some o) T j with
        | false =>
          have e2 : nxS (fun p => T.1 p && sRng S st path (some o) T p) (sRk S path T) last j b = b := by simp [nxS, nxC, bLt, hg]
          rw [e2]
          simpa using keep
        | true =>
          simp only [↓reduceIte, Bool.true_eq_false, not_false_iff, if_true]
          have take := ih (j + 1) n (some j) (by omega) (by omega) (fun q hq => by cases hq; exact ⟨by omega, by simp [tj, hg]⟩)
          cases b with
          | none =>
            have e2 : nxS (fun p => T.1 p && sRng S st path (some o) T p) (sRk S path T) last j none = some j := by simp [nxS, nxC, bLt, tj, hl, hg]
            rw [e2]
            simpa [oI_n, oI_s] using take
          | some q =>
            obtain ⟨hq1, hq2⟩ := hb q rfl
            simp only [Bool.and_eq_true] at hq2
            have em : ¬ nI q = (-1 : Int32) := by
              rw [x_eqm (by omega)]
              exact id
            simp only [↓reduceIte, oI_n, oI_s, em, if_false]
            rw [m200 hM hT hN hpa hj tj (by omega) hq2.1]
            by_cases c : sRk S path T j < sRk S path T q
            · have e2 : nxS (fun p => T.1 p && sRng S st path (some o) T p) (sRk S path T) last j (some q) = some j := by simp [nxS, nxC, bLt, tj, hl, hg, c]
              rw [e2]
              simpa [c, oI_n, oI_s] using take
            · have e2 : nxS (fun p => T.1 p && sRng S st path (some o) T p) (sRk S path T) last j (some q) = some q := by simp [nxS, nxC, bLt, c]
              rw [e2]
              simpa [c, oI_n, oI_s] using keep
theorem MC.of {C C1 : AmC} {h : Nat} {S : Scr} (hM : MC C h S) (hp : cP C1 = cP C) (h0 : cI C1 145 40 = cI C 145 40) (hc : ∀ a, 151 ≤ a → a < 178 → cI C1 a = cI C a) : MC C1 h S := by
  obtain ⟨hP, hh, hS, hO⟩ := hM
  refine ⟨hP.of hp, h0.trans hh, ?_, hO⟩
  unfold ScrM StmM VOM VM AtM at hS ⊢
  simp only [hc 159 (by decide) (by decide), hc 160 (by decide) (by decide), hc 161 (by decide) (by decide), hc 162 (by decide) (by decide), hc 163 (by decide) (by decide), hc 167 (by decide) (by decide), hc 168 (by decide) (by decide), hc 169 (by decide) (by decide), hc 170 (by decide) (by decide), hc 171 (by decide) (by decide), hc 172 (by decide) (by decide), hc 173 (by decide) (by decide), hc 174 (by decide) (by decide), hc 175 (by decide) (by decide), hc 176 (by decide) (by decide), hc 177 (by decide) (by decide), hc 151 (by decide) (by decide), hc 152 (by decide) (by decide), hc 153 (by decide) (by decide), hc 154 (by decide) (by decide), hc 155 (by decide) (by decide), hc 156 (by decide) (by decide), hc 157 (by decide) (by decide), hc 158 (by decide) (by decide)]
  exact hS
theorem TabM.of {N cols a f : Nat} {C C1 : AmC} {T : Tab} (h : TabM N cols C a f T) (e : cI C1 a = cI C a) : TabM N cols C1 a f T := by
  unfold TabM
  rw [e]
  exact h
theorem m205 {n : Nat} {C : AmC} {h path o : Nat} {S : Scr} {T : Tab} {st : Option Stm} {last : Option Int} (hM : MC C h S) (hT : TabM 30 (sCols S) C 180 0 T) (hN : TabN (sCols S) T) (hpa : PathOK S path) (hR : RunM C S st) (ho : (∃ t, st = some t ∧ tKd t = 3) → o < (sOth S).length) (hL : LastM C S path last) (hon : cI C 145 60 = nI path) (hn : 500 ≤ n) : f_205 n 145 (nI o) C = some (oI (sNext (fun p => T.1 p && sRng S st path (some o) T p) (sRk S path T) last), rdM C S path T (sNext (fun p => T.1 p && sRng S st path (some o) T p) (sRk S path T) last)) := by
  have L := m205_lp hM hT hN hpa hR ho hL hon 30 0 n none rfl (by omega) (fun q hq => by cases hq)
  have e : qo (nxS (fun p => T.1 p && sRng S st path (some o) T p) (sRk S path T) last) 30 0 none = sNext (fun p => T.1 p && sRng S st path (some o) T p) (sRk S path T) last := rfl
  rw [e] at L
  unfold f_205
  rw [show (-1 : Int32) = oI none from rfl, ← x_0, L]
  simp only [Option.bind_some]
  cases hs : sNext (fun p => T.1 p && sRng S st path (some o) T p) (sRk S path T) last with
  | none => simp [oI_n, oI_s, rdM]
  | some p =>
    obtain ⟨hp, hok⟩ := sNext_ok hs
    simp only [Bool.and_eq_true] at hok
    have em : ¬ nI p = (-1 : Int32) := by
      rw [x_eqm (by omega)]
      exact id
    have q1 : cI (uI C 145 61 1) 145 60 = nI path := by rw [r_I]; simp [hon]
    have q2 : cI (uI (uI C 145 61 1) 145 62 (pX S path T p)) 145 60 = nI path := by rw [r_I, r_I]; simp [hon]
    have M1 : MC (uI C 145 61 1) h S := hM.of rfl (by rw [r_I]; simp) (fun a h1 h2 => r_In (by omega))
    have M2 : MC (uI (uI C 145 61 1) 145 62 (pX S path T p)) h S := M1.of rfl (by rw [r_I]; simp) (fun a h1 h2 => r_In (by omega))
    have T1 : TabM 30 (sCols S) (uI C 145 61 1) 180 0 T := hT.of (r_In (by decide))
    have T2 : TabM 30 (sCols S) (uI (uI C 145 61 1) 145 62 (pX S path T p)) 180 0 T := T1.of (r_In (by decide))
    simp only [↓reduceIte, oI_n, oI_s, em, not_false_iff, if_true, k_145, q1]
    rw [m196 M1 T1 hpa hp hok.1]
    simp only [Option.bind_some, q2]
    rw [m197 M2 T2 hpa hp hok.1]
    rfl
