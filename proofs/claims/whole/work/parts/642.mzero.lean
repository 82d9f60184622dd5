/-! The reference's measure: it starts with nothing held. -/
theorem m241_z {a b : Int32} : ∀ m j n C, j + m = 4 → m < n → PInv C → Rt (lp_241_8 n 145 a b (nI j) C) (fun z C' => z = (145, a, b) ∧ (∀ q, j ≤ q → q < 4 → cI C' 191 q = 0) ∧ (∀ q, q < j → cI C' 191 q = cI C 191 q) ∧ Fr (fun x => x = 191) C C') := by
  intro m
  induction m with
  | zero =>
    intro j n C h1 hn hP
    obtain ⟨n, rfl⟩ : ∃ m, n = m + 1 := ⟨n - 1, by omega⟩
    have b1 : 4 ≤ j := by omega
    simp (disch := omega) only [↓reduceIte, lp_241_8, n_4, x_le, b1, if_true]
    exact rt_ret ⟨rfl, fun q h2 h3 => by omega, fun _ _ => rfl, Fr.refl _ _⟩
  | succ m ih =>
    intro j n C h1 hn hP
    obtain ⟨n, rfl⟩ : ∃ m, n = m + 1 := ⟨n - 1, by omega⟩
    have b1 : ¬ 4 ≤ j := by omega
    have j4 : j < 4 := by omega
    have F : Fr (fun x => x = 191) C (uI C 191 j 0) := (Fr.refl _ C).uI rfl
    have I := ih (j + 1) n (uI C 191 j 0) (by omega) (by omega) (hP.of F.1)
    simp (disch := omega) only [↓reduceIte, lp_241_8, n_4, x_le, b1, if_true, if_false, Option.bind_some, k_145, ↓bd1 (w_145_81 hP), k_191, l_191, x_in, x_cl, j4, x_a1]
    refine rt_mono I (fun z C' H => ⟨H.1, fun q h2 h3 => ?_, fun q h2 => ?_, F.trans H.2.2.2⟩)
    · by_cases e : q = j
      · rw [H.2.2.1 q (by omega), r_I, if_pos ⟨rfl, e⟩]
      · exact H.2.1 q (by omega) h3
    · rw [H.2.2.1 q (by omega), r_I, if_neg (by omega)]
/-- what a row that holds needs of stage 3 -/
theorem sEach_mg {S : Scr} {t : Stm} (k3 : tKd t = 3) : sEach S t = if tHow t = 2 then 0 else if tHow t = 1 then 1 else if tHow t = 0 then 1 + sSets 4 t else if tHow t = 3 then 1 + sCols S else 0 := by
  have e : tCh t = tHow t := by simp [tCh, k3]
  unfold sEach
  rw [e]
  by_cases c0 : tHow t = 0
  · simp [c0]
  · by_cases c1 : tHow t = 1
    · simp [c1]
    · by_cases c2 : tHow t = 2
      · simp [c2]
      · by_cases c3 : tHow t = 3 <;> simp [c0, c1, c2, c3]
