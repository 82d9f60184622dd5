/-! Reason 1: the class. How many columns are set. -/
def sSetO (t : Stm) (o : Option Nat) : Bool := match o with
  | none => false
  | some c => sSetB t c
def sMvO (t : Stm) (o : Option Nat) : Option Int32 := match o with
  | none => some 0
  | some c => sMv c (sSrc t c)
def sMot (S : Scr) (t : Stm) (path : Nat) : Option Int32 := if sMv (ix1 S ((path - 1) / 2)) (sSrc t (ix1 S ((path - 1) / 2))) = some 0 then sMvO t (ix2 S ((path - 1) / 2)) else sMv (ix1 S ((path - 1) / 2)) (sSrc t (ix1 S ((path - 1) / 2)))
def sBk (dn : Bool) (m : Option Int32) : Bool := match m with
  | none => false
  | some d => !decide (d = 0) && (if dn = true then decide (0 ≤ d) else !decide (0 ≤ d))
def sSelf (S : Scr) (t : Stm) (path : Nat) : Bool :=
  if tKd t = 3 then tAdds t || sSetB t (tOwn t) || (!decide (path = 0) && (sSetB t (ix1 S ((path - 1) / 2)) || sSetO t (ix2 S ((path - 1) / 2))))
  else if tKd t = 1 then false
  else if path = 0 then decide (tKd t = 2)
  else if sMot S t path = some 0 then decide (tKd t = 2) else !sBk (pDown path) (sMot S t path)
theorem mvK0 {m : Option Int32} : (mvK m = 0) ↔ m = some 0 := by
  unfold mvK
  cases m with
  | none => simp
  | some d => by_cases e : d = 0 <;> by_cases f : 0 ≤ d <;> simp [e, f]
theorem mvK1 {m : Option Int32} : (mvK m = 1) ↔ sBk false m = true := by
  unfold mvK sBk
  cases m with
  | none => simp
  | some d => by_cases e : d = 0 <;> by_cases f : 0 ≤ d <;> simp [e, f]
theorem mvK2 {m : Option Int32} : (mvK m = 2) ↔ sBk true m = true := by
  unfold mvK sBk
  cases m with
  | none => simp
  | some d => by_cases e : d = 0 <;> by_cases f : 0 ≤ d <;> simp [e, f]
theorem oI_m1 {o : Option Nat} (h : ∀ c, o = some c → c < 1000) : (oI o = -1) ↔ o = none := by
  cases o with
  | none => simp [oI_n, oI_s]
  | some c =>
    have := h c rfl
    rw [oI_s, x_eqm (by omega)]
    simp
theorem c115o {n : Nat} {C : AmC} {s st cols : Nat} {t : Stm} {o : Option Nat} (hk : StK C st) (ht : StmC cols C s st t) (hc : ∀ c, o = some c → c < 4) : f_115 n st (oI o) C = some (if sSetO t o = true then 1 else 0, C) := by
  cases o with
  | none => exact c115m
  | some c => exact c115 hk ht (hc c rfl)
theorem c66o {n : Nat} {C : AmC} {s st cols : Nat} {t : Stm} {o : Option Nat} (h : ScK C s) (hk : StK C st) (ht : StmC cols C s st t) (hto : StmOK cols t) (hc : ∀ c, o = some c → c < 4) : ¬ oI o = -1 → f_66 n s st (oI o) C = some (mvK (sMvO t o), C) := by
  cases o with
  | none => intro z; exact absurd rfl z
  | some c => intro _; exact c66 h hk ht hto (hc c rfl)
theorem c65 {n : Nat} {C : AmC} {s st path : Nat} {S : Scr} {t : Stm} (h : ScK C s) (hS : ScrC C s S) (hO : ScrOK S) (hpa : PathOK S path) (hk : StK C st) (ht : StmC (sCols S) C s st t) (hto : StmOK (sCols S) t) : f_65 n s st (nI path) C = some (if sSelf S t path = true then 1 else 0, C) := by
  have p7 := hpa.lt hO
  have s4 := hO.2.1
  have ne1 : ¬ (1 : Int32) = 0 := by decide
  have k3 := hto.1
  have ow := hto.2.2.2.1
  -- the columns of the index
  obtain ⟨ia, ib, w1, w2, w3, hia, hib, hp⟩ : ∃ (ia ib : Option Nat), (∃ x, f_88 n (nI path) C = some (x, C) ∧ f_93 n s x C = some (oI ia, C) ∧ f_94 n s x C = some (oI ib, C)) ∧ True ∧ True ∧ (∀ c, ia = some c → c < 4) ∧ (∀ c, ib = some c → c < 4) ∧ ((path = 0 ∧ ia = none ∧ ib = none) ∨ (¬ path = 0 ∧ ia = some (ix1 S ((path - 1) / 2)) ∧ ib = ix2 S ((path - 1) / 2))) := by
    by_cases e : path = 0
    · exact ⟨none, none, ⟨-1, by rw [c88 (by omega), if_pos e], c93m, c94m⟩, trivial, trivial, by simp, by simp, Or.inl ⟨e, rfl, rfl⟩⟩
    · have hi := hpa.ix e
      obtain ⟨i1, i2⟩ := ix_lt hO hi
      refine ⟨some (ix1 S ((path - 1) / 2)), ix2 S ((path - 1) / 2), ⟨nI ((path - 1) / 2), by rw [c88 (by omega), if_neg e], by rw [c93 h hS hO (by omega), if_pos hi]; rfl, by rw [c94 h hS hO (by omega), if_pos hi]⟩, trivial, trivial, ?_, ?_, Or.inr ⟨e, rfl, rfl⟩⟩
      · intro c z
        cases z
        omega
      · intro c z
        have := (i2 c z).1
        omega
  obtain ⟨x, w1, w2', w3'⟩ := w1
  have wd : f_89 n (nI path) C = some (if pDown path = true then 1 else 0, C) := c89 (by omega)
  unfold f_65 sSelf
  by_cases c3 : tKd t = 3
  · have e0 : ¬ cI C st 0 = 0 := by rw [ht.1, if_pos c3]; decide
    have wo := c115 (n := n) hk ht (show tOwn t < 4 by omega)
    have wa := c115o (n := n) hk ht hia
    have wb := c115o (n := n) hk ht hib
    rw [if_pos c3]
    have ra : (!decide (path = 0) && (sSetB t (ix1 S ((path - 1) / 2)) || sSetO t (ix2 S ((path - 1) / 2)))) = (sSetO t ia || sSetO t ib) := by
      rcases hp with ⟨p0, rfl, rfl⟩ | ⟨p0, rfl, rfl⟩
      · simp [p0, sSetO]
      · simp [p0, sSetO]
    rw [ra]
    rw [← ht.2.2.2.1] at wo
    rcases bcs (tAdds t) with a | a
    · have ea : cI C st 1 = 0 := by rw [ht.2.1, a]; rfl
      generalize sSetB t (tOwn t) = B1 at wo
      generalize sSetO t ia = B2 at wa
      generalize sSetO t ib = B3 at wb
      rw [a]
      cases B1 <;> cases B2 <;> cases B3 <;> simp only [↓reduceIte, Bool.false_eq_true, if_true, if_false] at wo wa wb <;> simp only [↓reduceIte, ↓bd1 w1, h.k, if_true, if_false, ↓bd1 w2', ↓bd1 w3', hk.1, e0, ea, not_true, not_false_iff, ↓bd1 wo, ↓bd1 wa, ↓bd1 wb, ne1, Bool.or_false, Bool.or_true, Bool.false_or, Bool.true_or, Bool.false_eq_true]
    · have ea : ¬ cI C st 1 = 0 := by rw [ht.2.1, a]; decide
      simp only [↓reduceIte, ↓bd1 w1, h.k, if_true, if_false, ↓bd1 w2', ↓bd1 w3', hk.1, e0, ea, not_true, not_false_iff, a, Bool.true_or]
  · have e0 : cI C st 0 = 0 := by rw [ht.1, if_neg c3]
    rw [if_neg c3]
    by_cases c1 : tKd t = 1
    · have e1 : cI C st 2 = 1 := by rw [ht.2.2.1]; simp only [tCh, c1]; rfl
      rw [if_pos c1]
      simp only [↓reduceIte, ↓bd1 w1, h.k, if_true, if_false, ↓bd1 w2', ↓bd1 w3', hk.1, e0, e1, not_true, Bool.false_eq_true]
    · rw [if_neg c1]
      have e1 : ¬ cI C st 2 = 1 := by
        rw [ht.2.2.1]
        by_cases c2 : tKd t = 2
        · rw [show tCh t = 3 by simp [tCh, c2]]; decide
        · rw [show tCh t = 0 by simp [tCh, show tKd t = 0 by omega]]; decide
      -- whether it copies
      obtain ⟨cp, ecp, e3⟩ : ∃ cp : Bool, decide (tKd t = 2) = cp ∧ ((cI C st 2 = 3) = (cp = true)) := by
        refine ⟨_, rfl, ?_⟩
        rw [ht.2.2.1]
        by_cases c2 : tKd t = 2
        · rw [show tCh t = 3 by simp [tCh, c2], c2]; decide
        · rw [show tCh t = 0 by simp [tCh, show tKd t = 0 by omega], show tKd t = 0 by omega]; decide
      rw [ecp]
      have na := oI_m1 (o := ia) (fun c z => by have := hia c z; omega)
      have nb := oI_m1 (o := ib) (fun c z => by have := hib c z; omega)
      rcases hp with ⟨p0, rfl, rfl⟩ | ⟨p0, rfl, rfl⟩
      · rw [if_pos p0]
        have na' : (oI none = -1) = True := eq_true rfl
        cases cp <;> simp only [↓reduceIte, ↓bd1 w1, h.k, if_true, if_false, ↓bd1 w2', ↓bd1 w3', hk.1, e0, e1, e3, not_true, not_false_iff, na', Bool.false_eq_true]
      · rw [if_neg p0]
        have na' : ¬ oI (some (ix1 S ((path - 1) / 2))) = -1 := by rw [na]; simp
        have wa := c66o (n := n) h hk ht hto hia na'
        have wb := c66o (n := n) h hk ht hto hib
        have em : sMvO t (some (ix1 S ((path - 1) / 2))) = sMv (ix1 S ((path - 1) / 2)) (sSrc t (ix1 S ((path - 1) / 2))) := rfl
        rw [em] at wa
        unfold sMot
        generalize sMv (ix1 S ((path - 1) / 2)) (sSrc t (ix1 S ((path - 1) / 2))) = m1 at wa
        have fin : ∀ m, ¬ m = some 0 → (if (if pDown path = true then (1 : Int32) else 0) = 0 then (if mvK m = 1 then some ((0 : Int32), C) else some (1, C)) else (if mvK m = 2 then some ((0 : Int32), C) else some (1, C))) = some (if (if m = some 0 then cp else !sBk (pDown path) m) = true then 1 else 0, C) := by
          intro m hm
          rw [if_neg hm]
          cases pDown path
          · simp only [↓reduceIte, Bool.false_eq_true, if_false, if_true, mvK1]
            cases sBk false m <;> simp
          · simp only [↓reduceIte, if_true, ne1, if_false, mvK2]
            cases sBk true m <;> simp
        by_cases g1 : m1 = some 0
        · have g1' : mvK m1 = 0 := mvK0.mpr g1
          rw [g1', ] at wa
          rw [if_pos g1]
          by_cases g2 : oI (ix2 S ((path - 1) / 2)) = -1
          · have n2 := nb.mp g2
            rw [n2]
            rw [n2] at w3'
            have g3 : (oI none = -1) = True := eq_true rfl
            simp only [↓reduceIte, sMvO, if_true]
            cases cp <;> simp only [↓reduceIte, ↓bd1 w1, h.k, if_true, if_false, ↓bd1 w2', ↓bd1 w3', hk.1, e0, e1, e3, not_true, not_false_iff, na', ↓bd1 wa, g3, Bool.false_eq_true]
          · have wb' := wb g2
            generalize sMvO t (ix2 S ((path - 1) / 2)) = m2 at wb'
            by_cases g4 : m2 = some 0
            · have g4' : mvK m2 = 0 := mvK0.mpr g4
              rw [g4'] at wb'
              rw [if_pos g4]
              cases cp <;> simp only [↓reduceIte, ↓bd1 w1, h.k, if_true, if_false, ↓bd1 w2', ↓bd1 w3', hk.1, e0, e1, e3, not_true, not_false_iff, na', ↓bd1 wa, g2, ↓bd1 wb', Bool.false_eq_true]
            · have g4' : ¬ mvK m2 = 0 := fun z => g4 (mvK0.mp z)
              have F := fin m2 g4
              cases cp <;> simp only [↓reduceIte, ↓bd1 w1, h.k, if_true, if_false, ↓bd1 w2', ↓bd1 w3', hk.1, e0, e1, e3, not_true, not_false_iff, na', ↓bd1 wa, g2, ↓bd1 wb', g4', ↓bd1 wd, Bool.false_eq_true] <;> exact F
        · have g1' : ¬ mvK m1 = 0 := fun z => g1 (mvK0.mp z)
          have F := fin m1 g1
          rw [if_neg g1]
          cases cp <;> simp only [↓reduceIte, ↓bd1 w1, h.k, if_true, if_false, ↓bd1 w2', ↓bd1 w3', hk.1, e0, e1, e3, not_true, not_false_iff, na', ↓bd1 wa, g1', ↓bd1 wd, Bool.false_eq_true] <;> exact F
