/-! The choice of a stage (reference). -/
def stD (h1 h2 h3 rsn : Nat) : Nat := if 4 ≤ rsn then 3 else if 2 ≤ rsn then (if h3 < h2 then 3 else 2) else if h3 < h2 then (if h3 < h1 then 3 else 1) else (if h2 < h1 then 2 else 1)
theorem stD_eq {S : Scr} {t : Stm} {y : (Nat × Nat) × Nat} {rsn : Nat} (r1 : 1 ≤ rsn) : stD (sHeld S t y 1) (sHeld S t y 2) (sHeld S t y 3) rsn = (sStg S t y rsn).1 := by
  unfold sStg
  rw [if_neg (by omega)]
  generalize e1 : sHeld S t y 1 = h1
  generalize e2 : sHeld S t y 2 = h2
  generalize e3 : sHeld S t y 3 = h3
  unfold lstR stD
  by_cases c4 : 4 ≤ rsn
  · simp only [↓reduceIte, c4, if_true, qo, stF, e3, true_or]
  · by_cases c2 : 2 ≤ rsn
    · simp only [↓reduceIte, c4, c2, if_true, if_false, qo, stF, e2, e3, true_or]
      by_cases d : h3 < h2 <;> simp [d]
    · simp only [↓reduceIte, c4, c2, if_true, if_false, qo, stF, e1, e2, e3, true_or]
      by_cases d : h3 < h2
      · by_cases f : h2 < h1
        · have : h3 < h1 := by omega
          simp [d, f, this]
        · by_cases g : h3 < h1 <;> simp [d, f, g]
      · by_cases f : h2 < h1
        · simp [d, f]
        · have : ¬ h3 < h1 := by omega
          simp [d, f, this]
theorem m242_lp {n : Nat} {C : AmC} {h1 h2 h3 rsn : Nat} (hP : PInv C) (b1 : h1 ≤ 5000) (b2 : h2 ≤ 5000) (b3 : h3 ≤ 5000) (e1 : cI C 191 1 = nI h1) (e2 : cI C 191 2 = nI h2) (e3 : cI C 191 3 = nI h3) (r7 : rsn ≤ 7) (hn : 5 ≤ n) : ∃ z, lp_242_20 n 145 (nI rsn) (3 : Int32) (2 : Int32) C = some (z, C) ∧ (z = .inl (nI (stD h1 h2 h3 rsn)) ∨ z = .inr (nI (stD h1 h2 h3 rsn))) := by
  obtain ⟨n, rfl⟩ : ∃ m, n = m + 3 := ⟨n - 3, by omega⟩
  have t1 : Int32.toNatClampNeg 1 = 1 := by decide
  have t2 : Int32.toNatClampNeg 2 = 2 := by decide
  have t3 : Int32.toNatClampNeg 3 = 3 := by decide
  have i1 : amIn (1 : Int32) (aLen 191) = true := by decide
  have i2 : amIn (2 : Int32) (aLen 191) = true := by decide
  have i3 : amIn (3 : Int32) (aLen 191) = true := by decide
  have l2 : ¬ (2 : Int32) ≤ 0 := by decide
  have l1 : ¬ (1 : Int32) ≤ 0 := by decide
  have l0 : (0 : Int32) ≤ 0 := by decide
  have m2 : (2 : Int32) + (-1) = 1 := by decide
  have m1 : (1 : Int32) + (-1) = 0 := by decide
  have n2 : ¬ (2 : Int32) = 1 := by decide
  have w := w_145_81 hP
  have q4 : ((4 : Int32) ≤ nI rsn) = (4 ≤ rsn) := by rw [n_4, x_le (by omega) (by omega)]
  have q2 : (nI rsn < (2 : Int32)) = (rsn < 2) := by rw [n_2, x_lt (by omega) (by omega)]
  have u32 : (nI h3 < nI h2) = (h3 < h2) := by rw [x_lt (by omega) (by omega)]
  have u31 : (nI h3 < nI h1) = (h3 < h1) := by rw [x_lt (by omega) (by omega)]
  have u21 : (nI h2 < nI h1) = (h2 < h1) := by rw [x_lt (by omega) (by omega)]
  unfold stD
  by_cases c4 : 4 ≤ rsn
  · refine ⟨_, ?_, Or.inr rfl⟩
    simp only [↓reduceIte, lp_242_20, l2, q4, c4, if_true, if_false]
    rfl
  · by_cases c2 : 2 ≤ rsn
    · have c2' : ¬ rsn < 2 := by omega
      refine ⟨_, ?_, Or.inl rfl⟩
      by_cases d : h3 < h2
      · simp only [↓reduceIte, lp_242_20, l2, l1, q4, q2, c4, c2, c2', n2, k_145, ↓bd1 w, k_191, i2, i3, t2, t3, e2, e3, u32, d, m2, if_true, if_false, not_true, not_false_iff]
        rfl
      · simp only [↓reduceIte, lp_242_20, l2, l1, q4, q2, c4, c2, c2', n2, k_145, ↓bd1 w, k_191, i2, i3, t2, t3, e2, e3, u32, d, m2, if_true, if_false, not_true, not_false_iff]
        rfl
    · have c2' : rsn < 2 := by omega
      refine ⟨_, ?_, Or.inr rfl⟩
      by_cases d : h3 < h2
      · by_cases f : h3 < h1
        · simp only [↓reduceIte, lp_242_20, l2, l1, l0, q4, q2, c4, c2, c2', k_145, ↓bd1 w, k_191, i1, i2, i3, t1, t2, t3, e1, e2, e3, u32, u31, d, f, m2, m1, if_true, if_false]
          rfl
        · simp only [↓reduceIte, lp_242_20, l2, l1, l0, q4, q2, c4, c2, c2', k_145, ↓bd1 w, k_191, i1, i2, i3, t1, t2, t3, e1, e2, e3, u32, u31, d, f, m2, m1, if_true, if_false]
          rfl
      · by_cases f : h2 < h1
        · simp only [↓reduceIte, lp_242_20, l2, l1, l0, q4, q2, c4, c2, c2', k_145, ↓bd1 w, k_191, i1, i2, i3, t1, t2, t3, e1, e2, e3, u32, u21, d, f, m2, m1, if_true, if_false]
          rfl
        · simp only [↓reduceIte, lp_242_20, l2, l1, l0, q4, q2, c4, c2, c2', k_145, ↓bd1 w, k_191, i1, i2, i3, t1, t2, t3, e1, e2, e3, u32, u21, d, f, m2, m1, if_true, if_false]
          rfl
