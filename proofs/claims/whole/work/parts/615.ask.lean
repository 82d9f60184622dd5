/-! What a statement asks of the whole table. -/
def anyCh (t : Stm) : Bool := tAdds t || decide (tCh t = 1)
def sSetB (t : Stm) (c : Nat) : Bool := (tSet t c).isSome
def askA (t : Stm) (a : Atom) : Bool := decide (3 ≤ a.2.1) && (anyCh t || (decide (a.2.1 ≠ 6) && sSetB t a.2.2.toNatClampNeg))
def sAsk (t : Stm) (v : Val) : Bool := v.any (askA t)
def sAskO (t : Stm) (v : Option Val) : Bool := match v with
  | none => false
  | some w => sAsk t w
def sTstAsk (t : Stm) : Bool := (tTst t).any (fun q => sAsk t q.1 || sAsk t q.2.2)
def sMkAsk (N : Nat) (t : Stm) : Bool := (qf (fun c => sAskO t (tSet t c) || sAskO t (tNew t c)) N 0).isSome
theorem VOC.m1 {C : AmC} {s : Nat} {x : Int32} {v : Option Val} (h : VOC C s x v) : (x = -1) ↔ v = none := by
  cases v with
  | none => simp [show x = -1 from h]
  | some w =>
    obtain ⟨k, rfl, hk⟩ := h
    have := hk.lt
    rw [x_eqm (by omega)]
    simp
theorem c115 {n : Nat} {C : AmC} {s st c cols : Nat} {t : Stm} (hk : StK C st) (ht : StmC cols C s st t) (hc : c < 4) : f_115 n st (nI c) C = some (if sSetB t c = true then 1 else 0, C) := by
  have c4 : ¬ 4 ≤ c := by omega
  have m := (ht.2.2.2.2.2.1 c hc).m1
  unfold f_115 sSetB
  simp (disch := omega) only [↓reduceIte, n_2, n_3, n_4, n_5, n_6, n_7, n_8, n_10, n_12, n_20, n_30, n_40, n_100, n_120, n_150, n_200, n_230, n_320, n_450, n_900, x_le, x_lt, x_eq, x_lt0, x_le0, x_0le, x_0lt, x_eq0, x_eq1, x_1lt, x_le1, x_lt1, x_1le, x_eqm, x_add, x_a1, x_1a, x_a0, x_0a, x_mul, x_sub, x_s1, x_1s, x_div, x_cl, x_cl0, x_cl1, x_in, x_in0, x_in1, x_ofNat, c4, if_true, if_false, hk.1, ↓bd1 hk.2.1, hk.2.2.2.1, hk.2.2.2.2.1, hc, m]
  cases tSet t c <;> simp
theorem c115m {n : Nat} {C : AmC} {st : Nat} : f_115 n st (-1) C = some (0, C) := by
  unfold f_115
  rw [if_pos (by decide)]
theorem kC_w : ∀ k, k ≤ 6 → (kC k = 211 ↔ k = 3) ∧ (kC k = 212 ↔ k = 4) ∧ (kC k = 213 ↔ k = 5) ∧ (kC k = 214 ↔ k = 6) := by decide
theorem c69_lp {C : AmC} {s st k cols : Nat} {t : Stm} {v : Val} {a : Nat} {fl : Bool} (h : ScK C s) (hk : StK C st) (ht : StmC cols C s st t) (hcol : cols ≤ 4) (hv : ∀ b ∈ v, AtomOK cols b) (ha : a + v.length ≤ 450) (hat : ∀ i (g : i < v.length), AtC C s (a + i) v[i]) (w : ∀ n i, i < 1000 → f_101 n s (nI k) (nI i) C = some (if i < v.length then nI (a + i) else -1, C)) (hfl : fl = anyCh t) : ∀ m i n, i + m = v.length → m < n → lp_69_17 n s st (nI k) (if fl = true then 1 else 0) (nI v.length) (nI i) C = some (if (v.drop i).any (askA t) = true then .inr (.inl ()) else .inr (.inr ()), C) := by
  intro m
  induction m with
  | zero =>
    intro i n h1 h2
    obtain ⟨n, rfl⟩ : ∃ m, n = m + 1 := ⟨n - 1, by omega⟩
    have b1 : v.length ≤ i := by omega
    rw [List.drop_eq_nil_of_le b1]
    simp (disch := omega) only [↓reduceIte, lp_69_17, x_le, b1, if_true, List.any_nil, Bool.false_eq_true, if_false]
  | succ m ih =>
    intro i n h1 h2
    obtain ⟨n, rfl⟩ : ∃ m, n = m + 1 := ⟨n - 1, by omega⟩
    have b1 : ¬ v.length ≤ i := by omega
    have hi : i < v.length := by omega
    have ih1 := ih (i + 1) n (by omega) (by omega)
    have w1 := w n i (by omega)
    rw [if_pos hi] at w1
    obtain ⟨y1, y2, y3⟩ := hat i hi
    have em : ¬ nI (a + i) = (-1 : Int32) := by rw [x_eqm (by omega)]; exact id
    have i45 : a + i < 450 := by omega
    rw [List.drop_eq_getElem_cons hi, List.any_cons]
    have ok := hv v[i] (List.getElem_mem hi)
    generalize v[i] = b at y1 y2 y3 ok
    have k6 : b.2.1 ≤ 6 := by rcases ok.2 with ⟨z, _⟩ | ⟨_, z, _⟩ <;> omega
    obtain ⟨q3, q4, q5, q6⟩ := kC_w b.2.1 k6
    have ne1 : ¬ (1 : Int32) = 0 := by decide
    have fin : ∀ z : Bool, askA t b = z → (if z = true then (some (.inr (.inl ()), C) : Option ((Unit ⊕ Unit ⊕ Unit) × AmC)) else lp_69_17 n s st (nI k) (if fl = true then 1 else 0) (nI v.length) (nI (i + 1)) C) = some (if (askA t b || (v.drop (i + 1)).any (askA t)) = true then .inr (.inl ()) else .inr (.inr ()), C) := by
      intro z hz
      rw [hz]
      cases z with
      | true => simp
      | false => simpa [-List.any_eq_true] using ih1
    -- the row a column is asked of
    have key : 3 ≤ b.2.1 → b.2.1 ≤ 5 → (if fl = true then (some (.inr (.inl ()), C) : Option ((Unit ⊕ Unit ⊕ Unit) × AmC)) else (f_115 n st b.2.2 C).bind (fun z => if z.1 = 0 then lp_69_17 n s st (nI k) (if fl = true then 1 else 0) (nI v.length) (nI (i + 1)) z.2 else some (.inr (.inl ()), z.2))) = some (if (askA t b || (v.drop (i + 1)).any (askA t)) = true then .inr (.inl ()) else .inr (.inr ()), C) := by
      intro g1 g2
      rcases ok.2 with ⟨z, _⟩ | ⟨_, _, c, hc, ec⟩
      · omega
      · have ecl : b.2.2.toNatClampNeg = c := by rw [ec]; exact nI_clamp (by omega)
        have w115 := c115 (n := n) hk ht (show c < 4 by omega)
        rw [ec, w115]
        rcases bcs fl with f | f
        · rw [f]
          have af : askA t b = sSetB t c := by
            unfold askA
            rw [← hfl, f, ecl]
            simp [g1, show ¬ b.2.1 = 6 by omega]
          have F := fin (sSetB t c) af
          rw [f] at F
          simp only [↓reduceIte, Bool.false_eq_true, if_false, Option.bind_some, ite10] at F ⊢
          rcases bcs (sSetB t c) with e | e
          · rw [e] at F ⊢
            simpa [-List.any_eq_true] using F
          · rw [e] at F ⊢
            simpa [-List.any_eq_true] using F
        · rw [f]
          have af : askA t b = true := by
            unfold askA
            rw [← hfl, f]
            simp [g1]
          have F := fin true af
          simpa [-List.any_eq_true] using F
    by_cases c3 : b.2.1 = 3
    · have e3 : (kC b.2.1 = 211) = True := eq_true (q3.mpr c3)
      have K := key (by omega) (by omega)
      rcases bcs fl with f | f
      · rw [f] at K ⊢
        simp (disch := omega) only [↓reduceIte, lp_69_17, x_le, b1, if_true, if_false, h.k, ↓bd1 w1, em, not_false_iff, ↓bd1 h.p13, h.k11, h.l11, x_in, x_cl, i45, y2, e3, Bool.false_eq_true, ↓bd1 h.p14, h.k12, h.l12, y3, hk.1, x_a1]
        simpa only [↓reduceIte, Bool.false_eq_true, if_false] using K
      · rw [f] at K ⊢
        simp (disch := omega) only [↓reduceIte, lp_69_17, x_le, b1, if_true, if_false, h.k, ↓bd1 w1, em, not_false_iff, ↓bd1 h.p13, h.k11, h.l11, x_in, x_cl, i45, y2, e3, ne1]
        simpa only [↓reduceIte, if_true] using K
    · have e3 : ¬ kC b.2.1 = 211 := fun z => c3 (q3.mp z)
      by_cases c4 : b.2.1 = 4
      · have e4 : (kC b.2.1 = 212) = True := eq_true (q4.mpr c4)
        have K := key (by omega) (by omega)
        rcases bcs fl with f | f
        · rw [f] at K ⊢
          simp (disch := omega) only [↓reduceIte, lp_69_17, x_le, b1, if_true, if_false, h.k, ↓bd1 w1, em, not_false_iff, ↓bd1 h.p13, h.k11, h.l11, x_in, x_cl, i45, y2, e3, e4, Bool.false_eq_true, ↓bd1 h.p14, h.k12, h.l12, y3, hk.1, x_a1]
          simpa only [↓reduceIte, Bool.false_eq_true, if_false] using K
        · rw [f] at K ⊢
          simp (disch := omega) only [↓reduceIte, lp_69_17, x_le, b1, if_true, if_false, h.k, ↓bd1 w1, em, not_false_iff, ↓bd1 h.p13, h.k11, h.l11, x_in, x_cl, i45, y2, e3, e4, ne1]
          simpa only [↓reduceIte, if_true] using K
      · have e4 : ¬ kC b.2.1 = 212 := fun z => c4 (q4.mp z)
        by_cases c5 : b.2.1 = 5
        · have e5 : (kC b.2.1 = 213) = True := eq_true (q5.mpr c5)
          have K := key (by omega) (by omega)
          rcases bcs fl with f | f
          · rw [f] at K ⊢
            simp (disch := omega) only [↓reduceIte, lp_69_17, x_le, b1, if_true, if_false, h.k, ↓bd1 w1, em, not_true, not_false_iff, ↓bd1 h.p13, h.k11, h.l11, x_in, x_cl, i45, y2, e3, e4, e5, Bool.false_eq_true, ↓bd1 h.p14, h.k12, h.l12, y3, hk.1, x_a1]
            simpa only [↓reduceIte, Bool.false_eq_true, if_false] using K
          · rw [f] at K ⊢
            simp (disch := omega) only [↓reduceIte, lp_69_17, x_le, b1, if_true, if_false, h.k, ↓bd1 w1, em, not_true, not_false_iff, ↓bd1 h.p13, h.k11, h.l11, x_in, x_cl, i45, y2, e3, e4, e5, ne1]
            simpa only [↓reduceIte, if_true] using K
        · have e5 : ¬ kC b.2.1 = 213 := fun z => c5 (q5.mp z)
          rcases bcs fl with f | f
          · have af : askA t b = false := by
              unfold askA
              rw [← hfl, f]
              by_cases g : 3 ≤ b.2.1
              · have : b.2.1 = 6 := by omega
                simp [this]
              · simp [g]
            have F := fin false af
            rw [f] at F ⊢
            simp (disch := omega) only [↓reduceIte, lp_69_17, x_le, b1, if_true, if_false, h.k, ↓bd1 w1, em, not_false_iff, ↓bd1 h.p13, h.k11, h.l11, x_in, x_cl, i45, y2, e3, e4, e5, Bool.false_eq_true, x_a1]
            simpa only [↓reduceIte, Bool.false_eq_true, if_false] using F
          · by_cases c6 : b.2.1 = 6
            · have e6 : (kC b.2.1 = 214) = True := eq_true (q6.mpr c6)
              have af : askA t b = true := by
                unfold askA
                rw [← hfl, f]
                simp [c6]
              have F := fin true af
              rw [f] at F ⊢
              simp (disch := omega) only [↓reduceIte, lp_69_17, x_le, b1, if_true, if_false, h.k, ↓bd1 w1, em, not_false_iff, ↓bd1 h.p13, h.k11, h.l11, x_in, x_cl, i45, y2, e3, e4, e5, e6, ne1]
              simpa only [↓reduceIte, if_true] using F
            · have e6 : ¬ kC b.2.1 = 214 := fun z => c6 (q6.mp z)
              have af : askA t b = false := by
                unfold askA
                simp [show ¬ 3 ≤ b.2.1 by omega]
              have F := fin false af
              rw [f] at F ⊢
              simp (disch := omega) only [↓reduceIte, lp_69_17, x_le, b1, if_true, if_false, h.k, ↓bd1 w1, em, not_false_iff, ↓bd1 h.p13, h.k11, h.l11, x_in, x_cl, i45, y2, e3, e4, e5, e6, ne1, x_a1]
              simpa only [↓reduceIte, Bool.false_eq_true, if_false, if_true] using F

theorem c100m {n : Nat} {C : AmC} {s : Nat} : f_100 n s (-1) C = some (0, C) := by
  unfold f_100
  rw [if_pos (by decide)]
theorem c69 {n : Nat} {C : AmC} {s st cols : Nat} {t : Stm} {x : Int32} {ov : Option Val} {b1 b2 : Bool} (h : ScK C s) (hk : StK C st) (ht : StmC cols C s st t) (hcol : cols ≤ 4) (hto : StmOK cols t) (hx : VOC C s x ov) (hv : VoOK cols b1 b2 ov) (hn : 500 ≤ n) : f_69 n s st x C = some (if sAskO t ov = true then 1 else 0, C) := by
  have c3 := tCh_le hto
  have ne1 : ¬ (1 : Int32) = 0 := by decide
  -- the loop, whatever its flag
  have core : ∀ fl : Bool, fl = anyCh t → (f_100 n s x C).bind (fun z => (lp_69_17 n s st x (if fl = true then 1 else 0) z.1 0 z.2).bind (fun q => match q with
      | ((.inl _), C54) => some ((0 : Int32), C54)
      | ((.inr (.inl _)), C54) => some (1, C54)
      | ((.inr (.inr _)), C54) => some (0, C54))) = some (if sAskO t ov = true then 1 else 0, C) := by
    intro fl hfl
    cases ov with
    | none =>
      have hx : x = -1 := hx
      obtain ⟨n, rfl⟩ : ∃ m, n = m + 1 := ⟨n - 1, by omega⟩
      have l0 : (0 : Int32) ≤ 0 := by decide
      rw [hx, c100m]
      simp only [↓reduceIte, Option.bind_some, lp_69_17, l0, if_true, sAskO, Bool.false_eq_true, if_false]
    | some v =>
      obtain ⟨k, rfl, hV⟩ := hx
      obtain ⟨a, a1, a2, a3, a4⟩ := vc_at h hV
      have ok := hv v rfl
      have L := c69_lp h hk ht hcol (fun b hb => (ok.2.2 b hb).1) a1 a2 a4 hfl v.length 0 n (by omega) (by omega)
      rw [x_0, List.drop_zero] at L
      rw [a3 n]
      rcases bcs (v.any (askA t)) with e | e
      · have e2 : sAskO t (some v) = false := e
        rw [Option.bind_some, L, e, e2]
        rfl
      · have e2 : sAskO t (some v) = true := e
        rw [Option.bind_some, L, e, e2]
        rfl
  unfold f_69
  by_cases ad : tAdds t = true
  · have w : cI C st 1 = 1 := by rw [ht.2.1, ad]; rfl
    have K := core true (by simp [anyCh, ad])
    simp only [↓reduceIte, if_true] at K
    simp only [↓reduceIte, hk.1, h.k, if_true, w, ne1, not_false_iff]
    exact K
  · have ad' : tAdds t = false := by simpa using ad
    have w : cI C st 1 = 0 := by rw [ht.2.1, ad']; rfl
    by_cases c1 : tCh t = 1
    · have w2 : (nI (tCh t) = (1 : Int32)) = True := by rw [c1]; decide
      have K := core true (by simp [anyCh, c1])
      simp only [↓reduceIte, if_true] at K
      simp only [↓reduceIte, hk.1, h.k, if_true, if_false, w, not_true, ht.2.2.1, w2]
      exact K
    · have w2 : (nI (tCh t) = (1 : Int32)) = False := by rw [x_eq1 (by omega)]; simp [c1]
      have K := core false (by simp [anyCh, c1, ad'])
      simp only [↓reduceIte, Bool.false_eq_true, if_false] at K
      simp only [↓reduceIte, hk.1, h.k, if_true, if_false, w, not_true, not_false_iff, ht.2.2.1, w2]
      exact K
theorem c67_lp {C : AmC} {s st cols : Nat} {t : Stm} (h : ScK C s) (hk : StK C st) (ht : StmC cols C s st t) (hcol : cols ≤ 4) (hto : StmOK cols t) : ∀ (l : List Tst) (j n : Nat), (∀ i (g : i < l.length), ∃ k, cI C (s + 14) (j + i) = l[i].2.1 ∧ cI C (s + 15) (j + i) = nI k ∧ VC C s k l[i].1 ∧ VC C s (k + 1) l[i].2.2) → (∀ q ∈ l, ValOK cols false true q.1 ∧ (q.2.1 = 60 ∨ q.2.1 = 61 ∨ q.2.1 = 62) ∧ ValOK cols false true q.2.2) → l.length + 510 < n → j + l.length ≤ 450 → lp_67_13 n s st (nI (j + l.length)) (nI j) C = some (if l.any (fun q => sAsk t q.1 || sAsk t q.2.2) = true then .inl () else .inr (), C) := by
  intro l
  induction l with
  | nil =>
    intro j n _ _ hn hj
    obtain ⟨n, rfl⟩ : ∃ m, n = m + 1 := ⟨n - 1, by omega⟩
    simp only [List.length_nil, Nat.add_zero] at hj
    simp (disch := omega) only [↓reduceIte, lp_67_13, List.length_nil, Nat.add_zero, x_le, Nat.le_refl, if_true, List.any_nil, Bool.false_eq_true, if_false]
  | cons q l ih =>
    intro j n hat hok hn hj
    obtain ⟨n, rfl⟩ : ∃ m, n = m + 1 := ⟨n - 1, by omega⟩
    simp only [List.length_cons] at hj hn
    have h2 : ¬ j + (l.length + 1) ≤ j := by omega
    have h4 : j < 450 := by omega
    have hb := hat 0 (by simp)
    simp only [Nat.add_zero, List.getElem_cons_zero] at hb
    obtain ⟨k, b1, b2, b3, b4⟩ := hb
    obtain ⟨o1, o2, o3⟩ := hok q List.mem_cons_self
    have ihx := ih (j + 1) n (fun i g => by
      have := hat (i + 1) (by simpa using g)
      simpa [Nat.add_assoc, Nat.add_comm 1 i] using this) (fun b hb => hok b (List.mem_cons_of_mem _ hb)) (by omega) (by omega)
    rw [show j + 1 + l.length = j + (l.length + 1) from by omega] at ihx
    have w1 := c69 (n := n) (ov := some q.1) (b1 := false) (b2 := true) h hk ht hcol hto ⟨k, rfl, b3⟩ (fun w z => by cases z; exact o1) (by omega)
    have w2 := c69 (n := n) (ov := some q.2.2) (b1 := false) (b2 := true) h hk ht hcol hto ⟨k + 1, rfl, b4⟩ (fun w z => by cases z; exact o3) (by omega)
    simp only [sAskO] at w1 w2
    have w1' : f_69 n s st (cI C (s + 15) (Int32.toNatClampNeg (nI j))) C = some (if sAsk t q.1 = true then 1 else 0, C) := by rw [x_cl (by omega), b2]; exact w1
    have w2' : f_69 n s st (cI C (s + 15) (Int32.toNatClampNeg (nI j)) + 1) C = some (if sAsk t q.2.2 = true then 1 else 0, C) := by rw [x_cl (by omega), b2, x_a1]; exact w2
    have ne1 : ¬ (1 : Int32) = 0 := by decide
    rw [List.any_cons, List.length_cons]
    generalize (l.any fun q => sAsk t q.1 || sAsk t q.2.2) = B at ihx
    rcases bcs (sAsk t q.1) with d | d
    · rw [d] at w1'
      simp only [↓reduceIte, Bool.false_eq_true, if_false] at w1'
      rcases bcs (sAsk t q.2.2) with e | e
      · rw [e] at w2'
        simp only [↓reduceIte, Bool.false_eq_true, if_false] at w2'
        simp (disch := omega) only [↓reduceIte, lp_67_13, x_le, h2, if_true, if_false, h.k, ↓bd1 h.p19, h.k15, h.l15, x_in, h4, ↓bd1 w1', not_true, ↓bd1 w2', x_a1]
        rw [ihx, d, e]
        cases B <;> rfl
      · rw [e] at w2'
        simp only [↓reduceIte, if_true] at w2'
        simp (disch := omega) only [↓reduceIte, lp_67_13, x_le, h2, if_true, if_false, h.k, ↓bd1 h.p19, h.k15, h.l15, x_in, h4, ↓bd1 w1', not_true, ↓bd1 w2', ne1]
        rw [d, e]
        rfl
    · rw [d] at w1'
      simp only [↓reduceIte, if_true] at w1'
      simp (disch := omega) only [↓reduceIte, lp_67_13, x_le, h2, if_true, if_false, h.k, ↓bd1 h.p19, h.k15, h.l15, x_in, h4, ↓bd1 w1', ne1, not_false_iff]
      rw [d]
      rfl
theorem c67 {n : Nat} {C : AmC} {s st cols : Nat} {t : Stm} (h : ScK C s) (hk : StK C st) (ht : StmC cols C s st t) (hcol : cols ≤ 4) (hto : StmOK cols t) (hn : 1000 ≤ n) : f_67 n s st C = some (if sTstAsk t = true then 1 else 0, C) := by
  obtain ⟨f, e1, e2, h1, h2⟩ := ht.2.2.2.2.2.2.2
  have L := c67_lp h hk ht hcol hto (tTst t) f n h2 hto.2.2.2.2.2.2.2.2.2.2.2.2.2 (by omega) h1
  unfold f_67
  have g1 : ¬ 450 < f + (tTst t).length := by omega
  simp (disch := omega) only [hk.1, if_true, e1, e2, ↓reduceIte, n_2, n_3, n_4, n_5, n_6, n_7, n_8, n_10, n_12, n_20, n_30, n_40, n_100, n_120, n_150, n_200, n_230, n_320, n_450, n_900, x_le, x_lt, x_eq, x_lt0, x_le0, x_0le, x_0lt, x_eq0, x_eq1, x_1lt, x_le1, x_lt1, x_1le, x_eqm, x_add, x_a1, x_1a, x_a0, x_0a, x_mul, x_sub, x_s1, x_1s, x_div, x_cl, x_cl0, x_cl1, x_in, x_in0, x_in1, x_ofNat, g1, if_false, L, Option.bind_some]
  unfold sTstAsk
  cases (tTst t).any (fun q => sAsk t q.1 || sAsk t q.2.2) <;> rfl
theorem c68_lp {C : AmC} {s st cols : Nat} {t : Stm} (h : ScK C s) (hk : StK C st) (ht : StmC cols C s st t) (hcol : cols ≤ 4) (hto : StmOK cols t) : ∀ k c n, c + k = 4 → k + 510 < n → lp_68_2 n s st (nI c) C = some (if (qf (fun c => sAskO t (tSet t c) || sAskO t (tNew t c)) k c).isSome = true then .inl () else .inr (), C) := by
  intro k
  induction k with
  | zero =>
    intro c n h1 h2
    obtain ⟨n, rfl⟩ : ∃ m, n = m + 1 := ⟨n - 1, by omega⟩
    have b1 : 4 ≤ c := by omega
    simp (disch := omega) only [lp_68_2, ↓reduceIte, n_2, n_3, n_4, n_5, n_6, n_7, n_8, n_10, n_12, n_20, n_30, n_40, n_100, n_120, n_150, n_200, n_230, n_320, n_450, n_900, x_le, x_lt, x_eq, x_lt0, x_le0, x_0le, x_0lt, x_eq0, x_eq1, x_1lt, x_le1, x_lt1, x_1le, x_eqm, x_add, x_a1, x_1a, x_a0, x_0a, x_mul, x_sub, x_s1, x_1s, x_div, x_cl, x_cl0, x_cl1, x_in, x_in0, x_in1, x_ofNat, b1, if_true, qf, Option.isSome_none, Bool.false_eq_true, if_false]
  | succ k ih =>
    intro c n h1 h2
    obtain ⟨n, rfl⟩ : ∃ m, n = m + 1 := ⟨n - 1, by omega⟩
    have b1 : ¬ 4 ≤ c := by omega
    have c4 : c < 4 := by omega
    have ihx := ih (c + 1) n (by omega) (by omega)
    have w1 := c69 (n := n) h hk ht hcol hto (ht.2.2.2.2.2.1 c c4) (hto.2.2.2.2.2.2.2.2.2.2.1 c) (by omega)
    have w2 := c69 (n := n) h hk ht hcol hto (ht.2.2.2.2.2.2.1 c c4) (hto.2.2.2.2.2.2.2.2.2.2.2.1 c) (by omega)
    have w1' : f_69 n s st (cI C (st + 1) (Int32.toNatClampNeg (nI c))) C = some (if sAskO t (tSet t c) = true then 1 else 0, C) := by rw [x_cl (by omega)]; exact w1
    have w2' : f_69 n s st (cI C (st + 2) (Int32.toNatClampNeg (nI c))) C = some (if sAskO t (tNew t c) = true then 1 else 0, C) := by rw [x_cl (by omega)]; exact w2
    have ne1 : ¬ (1 : Int32) = 0 := by decide
    rcases bcs (sAskO t (tSet t c)) with d | d
    · rw [d] at w1'
      simp only [↓reduceIte, Bool.false_eq_true, if_false] at w1'
      rcases bcs (sAskO t (tNew t c)) with e | e
      · rw [e] at w2'
        simp only [↓reduceIte, Bool.false_eq_true, if_false] at w2'
        have q0 : qf (fun c => sAskO t (tSet t c) || sAskO t (tNew t c)) (k + 1) c = qf (fun c => sAskO t (tSet t c) || sAskO t (tNew t c)) k (c + 1) := by rw [qf, if_neg (by simp [d, e])]
        rw [q0]
        simp (disch := omega) only [lp_68_2, ↓reduceIte, n_2, n_3, n_4, n_5, n_6, n_7, n_8, n_10, n_12, n_20, n_30, n_40, n_100, n_120, n_150, n_200, n_230, n_320, n_450, n_900, x_le, x_lt, x_eq, x_lt0, x_le0, x_0le, x_0lt, x_eq0, x_eq1, x_1lt, x_le1, x_lt1, x_1le, x_eqm, x_add, x_a1, x_1a, x_a0, x_0a, x_mul, x_sub, x_s1, x_1s, x_div, x_cl, x_cl0, x_cl1, x_in, x_in0, x_in1, x_ofNat, b1, if_true, if_false, hk.1, ↓bd1 hk.2.1, hk.2.2.2.1, hk.2.2.2.2.1, c4, ↓bd1 w1', not_true, ↓bd1 hk.2.2.1, hk.2.2.2.2.2.1, hk.2.2.2.2.2.2, ↓bd1 w2']
        exact ihx
      · rw [e] at w2'
        simp only [↓reduceIte, if_true] at w2'
        have q0 : qf (fun c => sAskO t (tSet t c) || sAskO t (tNew t c)) (k + 1) c = some c := by rw [qf, if_pos (by simp [e])]
        rw [q0]
        simp (disch := omega) only [lp_68_2, ↓reduceIte, n_2, n_3, n_4, n_5, n_6, n_7, n_8, n_10, n_12, n_20, n_30, n_40, n_100, n_120, n_150, n_200, n_230, n_320, n_450, n_900, x_le, x_lt, x_eq, x_lt0, x_le0, x_0le, x_0lt, x_eq0, x_eq1, x_1lt, x_le1, x_lt1, x_1le, x_eqm, x_add, x_a1, x_1a, x_a0, x_0a, x_mul, x_sub, x_s1, x_1s, x_div, x_cl, x_cl0, x_cl1, x_in, x_in0, x_in1, x_ofNat, b1, if_true, if_false, hk.1, ↓bd1 hk.2.1, hk.2.2.2.1, hk.2.2.2.2.1, c4, ↓bd1 w1', not_true, ↓bd1 hk.2.2.1, hk.2.2.2.2.2.1, hk.2.2.2.2.2.2, ↓bd1 w2', ne1, Option.isSome_some]
    · rw [d] at w1'
      simp only [↓reduceIte, if_true] at w1'
      have q0 : qf (fun c => sAskO t (tSet t c) || sAskO t (tNew t c)) (k + 1) c = some c := by rw [qf, if_pos (by simp [d])]
      rw [q0]
      simp (disch := omega) only [lp_68_2, ↓reduceIte, n_2, n_3, n_4, n_5, n_6, n_7, n_8, n_10, n_12, n_20, n_30, n_40, n_100, n_120, n_150, n_200, n_230, n_320, n_450, n_900, x_le, x_lt, x_eq, x_lt0, x_le0, x_0le, x_0lt, x_eq0, x_eq1, x_1lt, x_le1, x_lt1, x_1le, x_eqm, x_add, x_a1, x_1a, x_a0, x_0a, x_mul, x_sub, x_s1, x_1s, x_div, x_cl, x_cl0, x_cl1, x_in, x_in0, x_in1, x_ofNat, b1, if_true, if_false, hk.1, ↓bd1 hk.2.1, hk.2.2.2.1, hk.2.2.2.2.1, c4, ↓bd1 w1', ne1, not_false_iff, Option.isSome_some]
theorem c68 {n : Nat} {C : AmC} {s st cols : Nat} {t : Stm} (h : ScK C s) (hk : StK C st) (ht : StmC cols C s st t) (hcol : cols ≤ 4) (hto : StmOK cols t) (hn : 600 ≤ n) : f_68 n s st C = some (if sMkAsk 4 t = true then 1 else 0, C) := by
  have L := c68_lp h hk ht hcol hto 4 0 n rfl (by omega)
  rw [x_0] at L
  unfold f_68 sMkAsk
  rw [L]
  cases (qf (fun c => sAskO t (tSet t c) || sAskO t (tNew t c)) 4 0).isSome <;> rfl
