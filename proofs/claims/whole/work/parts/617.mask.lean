/-! What a statement asks of the whole table: the reference. -/
theorem VOM.m1 {C : AmC} {x : Int32} {v : Option Val} (h : VOM C x v) : (x = -1) ↔ v = none := by
  cases v with
  | none => simp [show x = -1 from h]
  | some w =>
    obtain ⟨k, rfl, hk⟩ := h
    have := hk.1
    rw [x_eqm (by omega)]
    simp
theorem m227 {n : Nat} {C : AmC} {i c : Nat} {t : Stm} (hP : PInv C) (hi : i < 16) (ht : StmM C i t) (hc : c < 4) : f_227 n 145 (nI i) (nI c) C = some (if sSetB t c = true then 1 else 0, C) := by
  have m := (ht.2.2.2.1 c hc).m1
  have b1 : 4 * i + c < 64 := by omega
  unfold f_227 sSetB
  simp (disch := omega) only [if_true, if_false, Option.bind_some, k_145, ↓bd1 (w_145_38 hP), k_176, l_176, ↓reduceIte, n_2, n_3, n_4, n_5, n_6, n_7, n_8, n_10, n_12, n_20, n_30, n_40, n_100, n_120, n_150, n_200, n_230, n_320, n_450, n_900, x_le, x_lt, x_eq, x_lt0, x_le0, x_0le, x_0lt, x_eq0, x_eq1, x_1lt, x_le1, x_lt1, x_1le, x_eqm, x_add, x_a1, x_1a, x_a0, x_0a, x_mul, x_sub, x_s1, x_1s, x_div, x_cl, x_cl0, x_cl1, x_in, x_in0, x_in1, x_ofNat, b1, m]
  cases tSet t c <;> simp
theorem m235 {n : Nat} {C : AmC} {i cols : Nat} {t : Stm} (hP : PInv C) (hi : i < 16) (ht : StmM C i t) (hto : StmOK cols t) (hcol : 1 ≤ cols) : f_235 n 145 (nI i) C = some (if anyCh t = true then 1 else 0, C) := by
  obtain ⟨g1, g2, g3, g4⟩ := ht
  have m := (g4.2.1 0 (by omega)).m1
  rw [Nat.add_zero] at m
  have b1 : 4 * i < 64 := by omega
  have k3 := hto.1
  unfold f_235 anyCh
  by_cases c1 : tKd t = 1
  · have e : (nI (tKd t) = (1 : Int32)) = True := by rw [c1]; decide
    have r : (tAdds t || decide (tCh t = 1)) = true := by simp [tCh, c1]
    rw [r]
    simp (disch := omega) only [↓reduceIte, if_true, if_false, Option.bind_some, k_145, ↓bd1 (w_145_32 hP), k_170, l_170, x_in, x_cl, hi, g1, e]
  · have e : ¬ nI (tKd t) = (1 : Int32) := by rw [x_eq1 (by omega)]; exact c1
    by_cases c2 : tKd t = 2
    · have e2 : (nI (tKd t) = (2 : Int32)) = True := by rw [c2]; decide
      have a := hto.2.2.2.2.2.2.2.2.1 c2 0 hcol
      have r : (tAdds t || decide (tCh t = 1)) = true := by simp [tAdds, a]
      rw [r]
      simp (disch := omega) only [↓reduceIte, if_true, if_false, Option.bind_some, k_145, ↓bd1 (w_145_32 hP), k_170, l_170, x_in, x_cl, hi, g1, e, e2]
    · have e2 : ¬ nI (tKd t) = (2 : Int32) := by
        rw [n_2, x_eq (by omega) (by omega)]; exact c2
      by_cases c3 : tKd t = 3
      · have e3 : (nI (tKd t) = (3 : Int32)) = True := by rw [c3]; decide
        have tc : tCh t = tHow t := by simp [tCh, c3]
        have h2 := hto.2.1
        by_cases c4 : tHow t = 1
        · have e4 : (nI (tHow t) = (1 : Int32)) = True := by rw [c4]; decide
          have r : (tAdds t || decide (tCh t = 1)) = true := by simp [tc, c4]
          rw [r]
          simp (disch := omega) only [↓reduceIte, if_true, if_false, Option.bind_some, k_145, ↓bd1 (w_145_32 hP), k_170, l_170, ↓bd1 (w_145_33 hP), k_171, l_171, x_in, x_cl, hi, g1, g2, e, e2, e3, e4, not_true]
        · have e4 : ¬ nI (tHow t) = (1 : Int32) := by rw [x_eq1 (by omega)]; exact c4
          have r : (tAdds t || decide (tCh t = 1)) = (tNew t 0).isSome := by simp [tc, c4, tAdds]
          rw [r]
          simp (disch := omega) only [if_true, if_false, Option.bind_some, k_145, ↓bd1 (w_145_32 hP), k_170, l_170, ↓bd1 (w_145_33 hP), k_171, l_171, ↓bd1 (w_145_39 hP), k_177, l_177, x_in, x_cl, hi, g1, g2, e, e2, e3, e4, not_true, ↓reduceIte, n_2, n_3, n_4, n_5, n_6, n_7, n_8, n_10, n_12, n_20, n_30, n_40, n_100, n_120, n_150, n_200, n_230, n_320, n_450, n_900, x_le, x_lt, x_eq, x_lt0, x_le0, x_0le, x_0lt, x_eq0, x_eq1, x_1lt, x_le1, x_lt1, x_1le, x_eqm, x_add, x_a1, x_1a, x_a0, x_0a, x_mul, x_sub, x_s1, x_1s, x_div, x_cl0, x_cl1, x_in0, x_in1, x_ofNat, b1, m]
          cases tNew t 0 <;> simp [c2, c3]
      · have e3 : ¬ nI (tKd t) = (3 : Int32) := by
          rw [n_3, x_eq (by omega) (by omega)]; exact c3
        have a := hto.2.2.2.2.2.2.2.1 (Or.inl (by omega)) 0
        have r : (tAdds t || decide (tCh t = 1)) = false := by simp [tAdds, a, tCh, show tKd t = 0 by omega]
        rw [r]
        simp (disch := omega) only [↓reduceIte, if_true, if_false, Option.bind_some, k_145, ↓bd1 (w_145_32 hP), k_170, l_170, x_in, x_cl, hi, g1, e, e2, e3, not_false_iff, Bool.false_eq_true]
theorem m234_lp {C : AmC} {i k cols : Nat} {t : Stm} {fl : Bool} (hP : PInv C) (hi : i < 16) (ht : StmM C i t) (hcol : cols ≤ 4) (hfl : fl = anyCh t) (hk : k < 640) {a0 N : Nat} (e1 : cI C 154 k = nI a0) (e2 : cI C 155 k = nI N) (hN : a0 + N ≤ 920) : ∀ (l : Val) (j n : Nat), (∀ i (g : i < l.length), AtM C (j + i) l[i]) → (∀ a ∈ l, AtomOK cols a) → l.length < n → a0 + N = j + l.length → lp_234_5 n 145 (nI i) (nI k) (if fl = true then 1 else 0) (nI j) C = some (if l.any (askA t) = true then .inl () else .inr (), C) := by
  intro l
  induction l with
  | nil =>
    intro j n _ _ hn hj
    obtain ⟨n, rfl⟩ : ∃ m, n = m + 1 := ⟨n - 1, by omega⟩
    simp only [List.length_nil, Nat.add_zero] at hj
    have h1 : a0 + N ≤ j := by omega
    simp (disch := omega) only [↓reduceIte, lp_234_5, if_true, if_false, Option.bind_some, k_145, ↓bd1 (w_145_16 hP), k_154, l_154, ↓bd1 (w_145_17 hP), k_155, l_155, x_in, x_cl, hk, e1, e2, x_add, x_le, h1, List.any_nil, Bool.false_eq_true]
  | cons a l ih =>
    intro j n hat hok hn hj
    obtain ⟨n, rfl⟩ : ∃ m, n = m + 1 := ⟨n - 1, by omega⟩
    simp only [List.length_cons] at hj hn
    have h1 : ¬ a0 + N ≤ j := by omega
    have ha := hat 0 (by simp)
    simp only [Nat.add_zero, List.getElem_cons_zero] at ha
    obtain ⟨y1, y2, y3⟩ := ha
    have ok := hok a List.mem_cons_self
    have k6 : a.2.1 ≤ 6 := by rcases ok.2 with ⟨z, _⟩ | ⟨_, z, _⟩ <;> omega
    have ihx := ih (j + 1) n (fun i g => by
      have := hat (i + 1) (by simpa using g)
      simpa [Nat.add_assoc, Nat.add_comm 1 i] using this) (fun b hb => hok b (List.mem_cons_of_mem _ hb)) (by omega) (by omega)
    have hj9 : j < 920 := by omega
    have ne1 : ¬ (1 : Int32) = 0 := by decide
    rw [List.any_cons]
    generalize l.any (askA t) = B at ihx
    by_cases c3 : 3 ≤ a.2.1
    · rcases bcs fl with f | f
      · by_cases c6 : a.2.1 = 6
        · have af : askA t a = false := by
            unfold askA
            rw [← hfl, f]
            simp [c6]
          have e6 : (nI a.2.1 = (6 : Int32)) = True := by rw [c6]; decide
          have l3 : ((3 : Int32) ≤ nI a.2.1) = True := by rw [c6]; decide
          rw [f] at ihx
          rw [f, af, Bool.false_or]
          simp (disch := omega) only [↓reduceIte, Bool.false_eq_true, if_false] at ihx
          simp (disch := omega) only [↓reduceIte, lp_234_5, if_true, if_false, Option.bind_some, k_145, ↓bd1 (w_145_16 hP), k_154, l_154, ↓bd1 (w_145_17 hP), k_155, l_155, ↓bd1 (w_145_14 hP), k_152, l_152, x_in, x_cl, hk, e1, e2, x_add, x_le, h1, hj9, y2, l3, not_true, Bool.false_eq_true, e6, x_a1]
          exact ihx
        · rcases ok.2 with ⟨z, _⟩ | ⟨_, _, c, hc, ec⟩
          · omega
          have ecl : a.2.2.toNatClampNeg = c := by rw [ec]; exact nI_clamp (by omega)
          have af : askA t a = sSetB t c := by
            unfold askA
            rw [← hfl, f, ecl]
            simp [c3, c6]
          have e6 : ¬ nI a.2.1 = (6 : Int32) := by
            rw [n_6, x_eq (by omega) (by omega)]; exact c6
          have l3 : ((3 : Int32) ≤ nI a.2.1) = True := by rw [n_3, x_le (by omega) (by omega)]; exact eq_true c3
          have w := m227 (n := n) hP hi ht (show c < 4 by omega)
          rw [f] at ihx
          rw [f, af]
          simp (disch := omega) only [↓reduceIte, Bool.false_eq_true, if_false] at ihx
          rcases bcs (sSetB t c) with d | d
          · rw [d] at w ⊢
            simp only [↓reduceIte, Bool.false_eq_true, if_false] at w
            simp (disch := omega) only [↓reduceIte, lp_234_5, if_true, if_false, Option.bind_some, k_145, ↓bd1 (w_145_16 hP), k_154, l_154, ↓bd1 (w_145_17 hP), k_155, l_155, ↓bd1 (w_145_14 hP), k_152, l_152, ↓bd1 (w_145_15 hP), k_153, l_153, x_in, x_cl, hk, e1, e2, x_add, x_le, h1, hj9, y2, y3, ec, l3, not_true, Bool.false_eq_true, e6, ↓bd1 w, x_a1, Bool.false_or]
            exact ihx
          · rw [d] at w ⊢
            simp only [↓reduceIte, if_true] at w
            simp (disch := omega) only [↓reduceIte, lp_234_5, if_true, if_false, Option.bind_some, k_145, ↓bd1 (w_145_16 hP), k_154, l_154, ↓bd1 (w_145_17 hP), k_155, l_155, ↓bd1 (w_145_14 hP), k_152, l_152, ↓bd1 (w_145_15 hP), k_153, l_153, x_in, x_cl, hk, e1, e2, x_add, x_le, h1, hj9, y2, y3, ec, l3, not_true, Bool.false_eq_true, e6, ↓bd1 w, ne1, Bool.true_or]
      · have af : askA t a = true := by
          unfold askA
          rw [← hfl, f]
          simp [c3]
        have l3 : ((3 : Int32) ≤ nI a.2.1) = True := by rw [n_3, x_le (by omega) (by omega)]; exact eq_true c3
        rw [f, af]
        simp (disch := omega) only [↓reduceIte, lp_234_5, if_true, if_false, Option.bind_some, k_145, ↓bd1 (w_145_16 hP), k_154, l_154, ↓bd1 (w_145_17 hP), k_155, l_155, ↓bd1 (w_145_14 hP), k_152, l_152, x_in, x_cl, hk, e1, e2, x_add, x_le, h1, hj9, y2, l3, ne1, not_false_iff, Bool.true_or]
    · have af : askA t a = false := by
        unfold askA
        simp [c3]
      have l3 : ¬ (3 : Int32) ≤ nI a.2.1 := by rw [n_3, x_le (by omega) (by omega)]; exact c3
      rw [af, Bool.false_or]
      simp (disch := omega) only [↓reduceIte, lp_234_5, if_true, if_false, Option.bind_some, k_145, ↓bd1 (w_145_16 hP), k_154, l_154, ↓bd1 (w_145_17 hP), k_155, l_155, ↓bd1 (w_145_14 hP), k_152, l_152, x_in, x_cl, hk, e1, e2, x_add, x_le, h1, hj9, y2, l3, x_a1]
      exact ihx
theorem m234 {n : Nat} {C : AmC} {i k cols : Nat} {t : Stm} {fl : Bool} {v : Val} {b1 b2 : Bool} (hP : PInv C) (hi : i < 16) (ht : StmM C i t) (hcol : cols ≤ 4) (hfl : fl = anyCh t) (hV : VM C k v) (ok : ValOK cols b1 b2 v) (hn : 500 ≤ n) : f_234 n 145 (nI i) (nI k) (if fl = true then 1 else 0) C = some (if sAsk t v = true then 1 else 0, C) := by
  obtain ⟨hk, a, e1, e2, h1, h2⟩ := hV
  have vl := ok.2.1
  have L := m234_lp hP hi ht hcol hfl hk e1 e2 h1 v a n h2 (fun b hb => (ok.2.2 b hb).1) (by omega) rfl
  unfold f_234 sAsk
  simp (disch := omega) only [↓reduceIte, if_true, if_false, Option.bind_some, k_145, ↓bd1 (w_145_16 hP), k_154, l_154, x_in, x_cl, hk, e1, L]
  rcases bcs (v.any (askA t)) with e | e <;> simp only [e] <;> rfl
theorem m236_lp {C : AmC} {i f N cols : Nat} {t : Stm} (hP : PInv C) (hi : i < 16) (ht : StmM C i t) (hto : StmOK cols t) (h1c : 1 ≤ cols) (hcol : cols ≤ 4) (e1 : cI C 174 i = nI f) (e2 : cI C 175 i = nI N) (hN : f + N ≤ 320) : ∀ (l : List Tst) (j n : Nat), (∀ i (g : i < l.length), cI C 157 (j + i) = l[i].2.1 ∧ (∃ k, cI C 156 (j + i) = nI k ∧ VM C k l[i].1) ∧ ∃ k, cI C 158 (j + i) = nI k ∧ VM C k l[i].2.2) → (∀ q ∈ l, ValOK cols false true q.1 ∧ (q.2.1 = 60 ∨ q.2.1 = 61 ∨ q.2.1 = 62) ∧ ValOK cols false true q.2.2) → l.length + 510 < n → f + N = j + l.length → lp_236_5 n 145 (nI i) (nI j) C = some (if l.any (fun q => sAsk t q.1 || sAsk t q.2.2) = true then .inl () else .inr (), C) := by
  intro l
  induction l with
  | nil =>
    intro j n _ _ hn hj
    obtain ⟨n, rfl⟩ : ∃ m, n = m + 1 := ⟨n - 1, by omega⟩
    simp only [List.length_nil, Nat.add_zero] at hj
    have h1 : f + N ≤ j := by omega
    simp (disch := omega) only [↓reduceIte, lp_236_5, if_true, if_false, Option.bind_some, k_145, ↓bd1 (w_145_36 hP), k_174, l_174, ↓bd1 (w_145_37 hP), k_175, l_175, x_in, x_cl, hi, e1, e2, x_add, x_le, h1, List.any_nil, Bool.false_eq_true]
  | cons q l ih =>
    intro j n hat hok hn hj
    obtain ⟨n, rfl⟩ : ∃ m, n = m + 1 := ⟨n - 1, by omega⟩
    simp only [List.length_cons] at hj hn
    have h1 : ¬ f + N ≤ j := by omega
    have hj3 : j < 320 := by omega
    have ha := hat 0 (by simp)
    simp only [Nat.add_zero, List.getElem_cons_zero] at ha
    obtain ⟨a1, ⟨k1, a2, v1⟩, k2, a3, v2⟩ := ha
    obtain ⟨o1, o2, o3⟩ := hok q List.mem_cons_self
    have ihx := ih (j + 1) n (fun i g => by
      have := hat (i + 1) (by simpa using g)
      simpa [Nat.add_assoc, Nat.add_comm 1 i] using this) (fun b hb => hok b (List.mem_cons_of_mem _ hb)) (by omega) (by omega)
    have w0 := m235 (n := n) hP hi ht hto h1c
    have w1 := m234 (n := n) hP hi ht hcol rfl v1 o1 (by omega)
    have w2 := m234 (n := n) hP hi ht hcol rfl v2 o3 (by omega)
    have ne1 : ¬ (1 : Int32) = 0 := by decide
    generalize anyCh t = A at w0 w1 w2
    rw [List.any_cons]
    generalize (l.any fun q => sAsk t q.1 || sAsk t q.2.2) = B at ihx
    rcases bcs (sAsk t q.1) with d | d
    · rw [d] at w1
      simp only [↓reduceIte, Bool.false_eq_true, if_false] at w1
      rcases bcs (sAsk t q.2.2) with e | e
      · rw [e] at w2
        simp only [↓reduceIte, Bool.false_eq_true, if_false] at w2
        simp (disch := omega) only [↓reduceIte, lp_236_5, if_true, if_false, Option.bind_some, k_145, ↓bd1 (w_145_36 hP), k_174, l_174, ↓bd1 (w_145_37 hP), k_175, l_175, ↓bd1 (w_145_18 hP), k_156, l_156, ↓bd1 (w_145_20 hP), k_158, l_158, x_in, x_cl, hi, e1, e2, x_add, x_le, h1, hj3, a2, a3, ↓bd1 w0, ↓bd1 w1, ↓bd1 w2, not_true, x_a1, ihx, d, e, Bool.false_or]
      · rw [e] at w2
        simp only [↓reduceIte, if_true] at w2
        simp (disch := omega) only [↓reduceIte, lp_236_5, if_true, if_false, Option.bind_some, k_145, ↓bd1 (w_145_36 hP), k_174, l_174, ↓bd1 (w_145_37 hP), k_175, l_175, ↓bd1 (w_145_18 hP), k_156, l_156, ↓bd1 (w_145_20 hP), k_158, l_158, x_in, x_cl, hi, e1, e2, x_add, x_le, h1, hj3, a2, a3, ↓bd1 w0, ↓bd1 w1, ↓bd1 w2, not_true, ne1, d, e, Bool.false_or, Bool.true_or]
    · rw [d] at w1
      simp only [↓reduceIte, if_true] at w1
      simp (disch := omega) only [↓reduceIte, lp_236_5, if_true, if_false, Option.bind_some, k_145, ↓bd1 (w_145_36 hP), k_174, l_174, ↓bd1 (w_145_37 hP), k_175, l_175, ↓bd1 (w_145_18 hP), k_156, l_156, ↓bd1 (w_145_20 hP), k_158, l_158, x_in, x_cl, hi, e1, e2, x_add, x_le, h1, hj3, a2, a3, ↓bd1 w0, ↓bd1 w1, not_false_iff, ne1, d, Bool.true_or]
theorem m236 {n : Nat} {C : AmC} {i cols : Nat} {t : Stm} (hP : PInv C) (hi : i < 16) (ht : StmM C i t) (hto : StmOK cols t) (h1c : 1 ≤ cols) (hcol : cols ≤ 4) (hn : 900 ≤ n) : f_236 n 145 (nI i) C = some (if sTstAsk t = true then 1 else 0, C) := by
  obtain ⟨f, e1, e2, h1, h2⟩ := ht.2.2.2.2.2
  have L := m236_lp hP hi ht hto h1c hcol e1 e2 h1 (tTst t) f n h2 hto.2.2.2.2.2.2.2.2.2.2.2.2.2 (by omega) rfl
  unfold f_236 sTstAsk
  simp (disch := omega) only [↓reduceIte, if_true, if_false, Option.bind_some, k_145, ↓bd1 (w_145_36 hP), k_174, l_174, x_in, x_cl, hi, e1, L]
  rcases bcs ((tTst t).any (fun q => sAsk t q.1 || sAsk t q.2.2)) with e | e <;> simp only [e] <;> rfl
theorem m237_lp {C : AmC} {h i : Nat} {S : Scr} {t : Stm} (hM : MC C h S) (hi : i < 16) (ht : StmM C i t) (hto : StmOK (sCols S) t) : ∀ k c n, c + k = sCols S → k + 510 < n → lp_237_2 n 145 (nI i) (nI c) C = some (if (qf (fun c => sAskO t (tSet t c) || sAskO t (tNew t c)) k c).isSome = true then .inl () else .inr (), C) := by
  have hP := hM.1
  have hh : h < 2 := hM.2.2.1.1
  have ec := hM.2.2.1.2.1
  have s1 := hM.2.2.2.1
  have s4 := hM.2.2.2.2.1
  intro k
  induction k with
  | zero =>
    intro c n h1 h2
    obtain ⟨n, rfl⟩ : ∃ m, n = m + 1 := ⟨n - 1, by omega⟩
    have b1 : sCols S ≤ c := by omega
    simp (disch := omega) only [↓reduceIte, lp_237_2, if_true, if_false, Option.bind_some, k_145, ↓bd1 (w_145_21 hP), k_159, l_159, hM.2.1, x_in, x_cl, hh, ec, x_le, b1, qf, Option.isSome_none, Bool.false_eq_true]
  | succ k ih =>
    intro c n h1 h2
    obtain ⟨n, rfl⟩ : ∃ m, n = m + 1 := ⟨n - 1, by omega⟩
    have b1 : ¬ sCols S ≤ c := by omega
    have c4 : c < 4 := by omega
    have b2 : 4 * i + c < 64 := by omega
    have ihx := ih (c + 1) n (by omega) (by omega)
    have w0 := m235 (n := n) hP hi ht hto s1
    have ne1 : ¬ (1 : Int32) = 0 := by decide
    have v1 := ht.2.2.2.1 c c4
    have v2 := ht.2.2.2.2.1 c c4
    have o1 := hto.2.2.2.2.2.2.2.2.2.2.1 c
    have o2 := hto.2.2.2.2.2.2.2.2.2.2.2.1 c
    have key : ∀ x ov b1 b2, VOM C x ov → VoOK (sCols S) b1 b2 ov → (x = -1 ∧ sAskO t ov = false) ∨ (¬ x = -1 ∧ f_234 n 145 (nI i) x (if anyCh t = true then 1 else 0) C = some (if sAskO t ov = true then 1 else 0, C)) := by
      intro x ov b1 b2 hx ho
      cases ov with
      | none => exact Or.inl ⟨hx, rfl⟩
      | some v =>
        refine Or.inr ⟨?_, ?_⟩
        · intro z
          have := hx.m1.mp z
          cases this
        · obtain ⟨k, rfl, hV⟩ := hx
          exact m234 hP hi ht s4 rfl hV (ho v rfl) (by omega)
    have y1 := key _ _ _ _ v1 o1
    have y2 := key _ _ _ _ v2 o2
    clear key
    have q0 : qf (fun c => sAskO t (tSet t c) || sAskO t (tNew t c)) (k + 1) c = if (sAskO t (tSet t c) || sAskO t (tNew t c)) = true then some c else qf (fun c => sAskO t (tSet t c) || sAskO t (tNew t c)) k (c + 1) := by rw [qf]
    rw [q0]
    generalize qf (fun c => sAskO t (tSet t c) || sAskO t (tNew t c)) k (c + 1) = R at ihx
    generalize sAskO t (tSet t c) = A1 at y1
    generalize sAskO t (tNew t c) = A2 at y2
    have st : lp_237_2 (n + 1) 145 (nI i) (nI c) C = lp_237_2 (n + 1) 145 (nI i) (nI c) C := rfl
    generalize anyCh t = A at w0 y1 y2
    rcases y1 with ⟨x1, z1⟩ | ⟨x1, z1⟩
    · rcases y2 with ⟨x2, z2⟩ | ⟨x2, z2⟩
      · rw [z1, z2]
        simp (disch := omega) only [lp_237_2, if_true, if_false, Option.bind_some, k_145, ↓bd1 (w_145_21 hP), k_159, l_159, ↓bd1 (w_145_38 hP), k_176, l_176, ↓bd1 (w_145_39 hP), k_177, l_177, hM.2.1, x_in, x_cl, hh, ec, x_le, b1, ↓reduceIte, n_2, n_3, n_4, n_5, n_6, n_7, n_8, n_10, n_12, n_20, n_30, n_40, n_100, n_120, n_150, n_200, n_230, n_320, n_450, n_900, x_lt, x_eq, x_lt0, x_le0, x_0le, x_0lt, x_eq0, x_eq1, x_1lt, x_le1, x_lt1, x_1le, x_eqm, x_add, x_a1, x_1a, x_a0, x_0a, x_mul, x_sub, x_s1, x_1s, x_div, x_cl0, x_cl1, x_in0, x_in1, x_ofNat, b2, x1, x2, ihx, Bool.or_false, Bool.false_eq_true]
      · rw [z1]
        rcases bcs A2 with d | d
        · rw [d] at z2 ⊢
          simp only [↓reduceIte, Bool.false_eq_true, if_false] at z2
          simp (disch := omega) only [lp_237_2, if_true, if_false, Option.bind_some, k_145, ↓bd1 (w_145_21 hP), k_159, l_159, ↓bd1 (w_145_38 hP), k_176, l_176, ↓bd1 (w_145_39 hP), k_177, l_177, hM.2.1, x_in, x_cl, hh, ec, x_le, b1, ↓reduceIte, n_2, n_3, n_4, n_5, n_6, n_7, n_8, n_10, n_12, n_20, n_30, n_40, n_100, n_120, n_150, n_200, n_230, n_320, n_450, n_900, x_lt, x_eq, x_lt0, x_le0, x_0le, x_0lt, x_eq0, x_eq1, x_1lt, x_le1, x_lt1, x_1le, x_eqm, x_add, x_a1, x_1a, x_a0, x_0a, x_mul, x_sub, x_s1, x_1s, x_div, x_cl0, x_cl1, x_in0, x_in1, x_ofNat, b2, x1, x2, ↓bd1 w0, ↓bd1 z2, ihx, Bool.or_false, Bool.false_eq_true]
        · rw [d] at z2 ⊢
          simp only [↓reduceIte, if_true] at z2
          simp (disch := omega) only [lp_237_2, if_true, if_false, Option.bind_some, k_145, ↓bd1 (w_145_21 hP), k_159, l_159, ↓bd1 (w_145_38 hP), k_176, l_176, ↓bd1 (w_145_39 hP), k_177, l_177, hM.2.1, x_in, x_cl, hh, ec, x_le, b1, ↓reduceIte, n_2, n_3, n_4, n_5, n_6, n_7, n_8, n_10, n_12, n_20, n_30, n_40, n_100, n_120, n_150, n_200, n_230, n_320, n_450, n_900, x_lt, x_eq, x_lt0, x_le0, x_0le, x_0lt, x_eq0, x_eq1, x_1lt, x_le1, x_lt1, x_1le, x_eqm, x_add, x_a1, x_1a, x_a0, x_0a, x_mul, x_sub, x_s1, x_1s, x_div, x_cl0, x_cl1, x_in0, x_in1, x_ofNat, b2, x1, x2, ↓bd1 w0, ↓bd1 z2, ne1, Bool.or_true, Option.isSome_some]
    · rcases bcs A1 with e | e
      · rw [e] at z1 ⊢
        simp only [↓reduceIte, Bool.false_eq_true, if_false] at z1
        rcases y2 with ⟨x2, z2⟩ | ⟨x2, z2⟩
        · rw [z2]
          simp (disch := omega) only [lp_237_2, if_true, if_false, Option.bind_some, k_145, ↓bd1 (w_145_21 hP), k_159, l_159, ↓bd1 (w_145_38 hP), k_176, l_176, ↓bd1 (w_145_39 hP), k_177, l_177, hM.2.1, x_in, x_cl, hh, ec, x_le, b1, ↓reduceIte, n_2, n_3, n_4, n_5, n_6, n_7, n_8, n_10, n_12, n_20, n_30, n_40, n_100, n_120, n_150, n_200, n_230, n_320, n_450, n_900, x_lt, x_eq, x_lt0, x_le0, x_0le, x_0lt, x_eq0, x_eq1, x_1lt, x_le1, x_lt1, x_1le, x_eqm, x_add, x_a1, x_1a, x_a0, x_0a, x_mul, x_sub, x_s1, x_1s, x_div, x_cl0, x_cl1, x_in0, x_in1, x_ofNat, b2, x1, x2, ↓bd1 w0, ↓bd1 z1, not_true, ihx, Bool.or_false, Bool.false_eq_true]
        · rcases bcs A2 with d | d
          · rw [d] at z2 ⊢
            simp only [↓reduceIte, Bool.false_eq_true, if_false] at z2
            simp (disch := omega) only [lp_237_2, if_true, if_false, Option.bind_some, k_145, ↓bd1 (w_145_21 hP), k_159, l_159, ↓bd1 (w_145_38 hP), k_176, l_176, ↓bd1 (w_145_39 hP), k_177, l_177, hM.2.1, x_in, x_cl, hh, ec, x_le, b1, ↓reduceIte, n_2, n_3, n_4, n_5, n_6, n_7, n_8, n_10, n_12, n_20, n_30, n_40, n_100, n_120, n_150, n_200, n_230, n_320, n_450, n_900, x_lt, x_eq, x_lt0, x_le0, x_0le, x_0lt, x_eq0, x_eq1, x_1lt, x_le1, x_lt1, x_1le, x_eqm, x_add, x_a1, x_1a, x_a0, x_0a, x_mul, x_sub, x_s1, x_1s, x_div, x_cl0, x_cl1, x_in0, x_in1, x_ofNat, b2, x1, x2, ↓bd1 w0, ↓bd1 z1, ↓bd1 z2, not_true, ihx, Bool.or_false, Bool.false_eq_true]
          · rw [d] at z2 ⊢
            simp only [↓reduceIte, if_true] at z2
            simp (disch := omega) only [lp_237_2, if_true, if_false, Option.bind_some, k_145, ↓bd1 (w_145_21 hP), k_159, l_159, ↓bd1 (w_145_38 hP), k_176, l_176, ↓bd1 (w_145_39 hP), k_177, l_177, hM.2.1, x_in, x_cl, hh, ec, x_le, b1, ↓reduceIte, n_2, n_3, n_4, n_5, n_6, n_7, n_8, n_10, n_12, n_20, n_30, n_40, n_100, n_120, n_150, n_200, n_230, n_320, n_450, n_900, x_lt, x_eq, x_lt0, x_le0, x_0le, x_0lt, x_eq0, x_eq1, x_1lt, x_le1, x_lt1, x_1le, x_eqm, x_add, x_a1, x_1a, x_a0, x_0a, x_mul, x_sub, x_s1, x_1s, x_div, x_cl0, x_cl1, x_in0, x_in1, x_ofNat, b2, x1, x2, ↓bd1 w0, ↓bd1 z1, ↓bd1 z2, not_true, ne1, Bool.or_true, Option.isSome_some]
      · rw [e] at z1 ⊢
        simp only [↓reduceIte, if_true] at z1
        simp (disch := omega) only [lp_237_2, if_true, if_false, Option.bind_some, k_145, ↓bd1 (w_145_21 hP), k_159, l_159, ↓bd1 (w_145_38 hP), k_176, l_176, ↓bd1 (w_145_39 hP), k_177, l_177, hM.2.1, x_in, x_cl, hh, ec, x_le, b1, ↓reduceIte, n_2, n_3, n_4, n_5, n_6, n_7, n_8, n_10, n_12, n_20, n_30, n_40, n_100, n_120, n_150, n_200, n_230, n_320, n_450, n_900, x_lt, x_eq, x_lt0, x_le0, x_0le, x_0lt, x_eq0, x_eq1, x_1lt, x_le1, x_lt1, x_1le, x_eqm, x_add, x_a1, x_1a, x_a0, x_0a, x_mul, x_sub, x_s1, x_1s, x_div, x_cl0, x_cl1, x_in0, x_in1, x_ofNat, b2, x1, ↓bd1 w0, ↓bd1 z1, ne1, not_false_iff, Bool.true_or, Option.isSome_some]
/-- columns that there are not set nothing -/
theorem sMkAsk_4 {cols : Nat} {t : Stm} (hto : StmOK cols t) (hcol : cols ≤ 4) : sMkAsk cols t = sMkAsk 4 t := by
  have z : ∀ c, cols ≤ c → (sAskO t (tSet t c) || sAskO t (tNew t c)) = false := by
    intro c hc
    have := hto.2.2.2.2.2.1 c hc
    rw [this.1, this.2]
    rfl
  unfold sMkAsk
  cases e : qf (fun c => sAskO t (tSet t c) || sAskO t (tNew t c)) 4 0 with
  | none =>
    have q := qf_none.mp e
    have : qf (fun c => sAskO t (tSet t c) || sAskO t (tNew t c)) cols 0 = none := qf_none.mpr (fun c h1 h2 => q c h1 (by omega))
    rw [this]
  | some p =>
    obtain ⟨p1, p2, p3, p4⟩ := qf_some e
    cases f : qf (fun c => sAskO t (tSet t c) || sAskO t (tNew t c)) cols 0 with
    | some _ => rfl
    | none =>
      have q := qf_none.mp f
      by_cases g : p < cols
      · have := q p (by omega) (by omega)
        rw [p3] at this
        cases this
      · have := z p (by omega)
        rw [p3] at this
        cases this
theorem m237 {n : Nat} {C : AmC} {h i : Nat} {S : Scr} {t : Stm} (hM : MC C h S) (hi : i < 16) (ht : StmM C i t) (hto : StmOK (sCols S) t) (hn : 600 ≤ n) : f_237 n 145 (nI i) C = some (if sMkAsk 4 t = true then 1 else 0, C) := by
  have s4 := hM.2.2.2.2.1
  have L := m237_lp hM hi ht hto (sCols S) 0 n (by omega) (by omega)
  rw [x_0] at L
  rw [← sMkAsk_4 hto s4]
  unfold f_237 sMkAsk
  rw [L]
  rcases bcs (qf (fun c => sAskO t (tSet t c) || sAskO t (tNew t c)) (sCols S) 0).isSome with e | e <;> simp only [e] <;> rfl
