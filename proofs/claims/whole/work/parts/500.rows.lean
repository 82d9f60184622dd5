/-! What the methods of Rows do. -/
/-- a Rows object and its numbers -/
def rowsOK (C : AmC) (r : Nat) : Prop := isK r 5 = true ∧ cP C r 0 = some (r + 1) ∧ isK (r + 1) 12 = true ∧ aLen (r + 1) = 120
/-- whether a place bears a row -/
def hasS (w : Int32) (p : Int32) : Bool := decide (0 ≤ p.toInt) && decide (p.toInt < 30) && bt w p.toNatClampNeg
theorem bt_us (w : Int32) {j : Nat} (hj : j < 32) : ((w.toUInt32 >>> ((nI j).toUInt32 &&& Int32.toUInt32 31)).toInt32 &&& 1) = if bt w j then 1 else 0 := by
  refine b_ext (fun i hi => ?_)
  rw [b_and, b_ushr j hj]
  have h1 : bt (1 : Int32) i = decide (i = 0) := by
    revert i
    decide
  rw [h1]
  by_cases h : i = 0
  · subst h
    cases hb : bt w j <;> simp [hb, b_0]
  · cases hb : bt w j
    · simp [h, b_0]
    · simp [h, h1]
theorem has_eq {n : Nat} {C : AmC} {r : Nat} {p : Int32} (h : rowsOK C r) : f_75 n r p C = some (if hasS (cI C r 1) p then 1 else 0, C) := by
  unfold f_75
  rcases pk_ix p (n := 30) (by decide) with hp | hp | ⟨j, hj, rfl⟩
  · have h1 : p.toInt < 0 := by simpa using Int32.lt_iff_toInt_lt.mp hp
    rw [if_pos hp]
    simp [hasS, Int.not_le.mpr h1]
  · have h1 : (30 : Int) ≤ p.toInt := by simpa [nI] using Int32.le_iff_toInt_le.mp hp
    have h2 : ¬ p < 0 := by
      intro z
      have := Int32.lt_iff_toInt_lt.mp z
      simp at this
      omega
    rw [if_neg h2, if_pos (show (30 : Int32) ≤ p from hp)]
    simp [hasS, Int.not_lt.mpr h1]
  · have h1 : ¬ nI j < 0 := nI_pos (by omega)
    have h2 : ¬ (30 : Int32) ≤ nI j := nI_ge (a := j) (b := 30) hj (by decide)
    have h3 : (nI j).toInt = j := nI_toInt (by omega)
    have h4 : (nI j).toNatClampNeg = j := nI_clamp (by omega)
    rw [if_neg h1, if_neg h2, if_pos h.1, bt_us _ (by omega)]
    simp only [hasS, h3, h4]
    cases hb : bt (cI C r 1) j
    · simp
    · simp [hj]
