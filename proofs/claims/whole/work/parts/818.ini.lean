/-! Behind the constructors: class and reference bear an empty text. -/
def aB0 : Big := (tel0.1, (0, fun _ => 0, -1), (tlT tel0.2.1 tel0.2.2, [], [], fun _ => 0), none)
theorem cI_mk (a : Nat → Nat → Int32) (b : Nat → Nat → Int64) (c : Nat → Nat → Option Nat) : cI (a, b, c) = a := rfl
theorem cP_mk (a : Nat → Nat → Int32) (b : Nat → Nat → Int64) (c : Nat → Nat → Option Nat) : cP (a, b, c) = c := rfl
theorem aC0_I : cI aC0 = mI aM2 := by
  unfold aC0
  exact cI_mk _ _ _
theorem aC0_P : cP aC0 = mP aM2 := by
  unfold aC0
  exact cP_mk _ _ _
theorem mP_mk (C : AmC) : mP (mkM C) = cP C := rfl
theorem mK_mk (C : AmC) (k : Nat) : mK (mkM C) k = aKd k := rfl
theorem mN_mk (C : AmC) (k : Nat) : mN (mkM C) k = aLen k := rfl
def c0L : List (Nat × Nat × Int32) := [(2, 0, 3), (2, 2, 0), (2, 5, 0), (2, 6, 0), (2, 8, 0), (0, 1, 0), (0, 2, -1), (0, 8, 0), (83, 1, 0), (85, 2, 0), (85, 3, 0), (82, 5, 0), (91, 0, 0), (91, 1, 0), (91, 2, 0), (145, 5, 0), (145, 6, 0), (145, 7, 0), (145, 8, 0), (145, 12, 0), (145, 40, 0), (145, 43, 0), (145, 44, -1), (159, 0, 3), (160, 0, 0), (161, 0, 0), (162, 0, 0), (163, 0, 0), (150, 0, 0), (150, 1, 0), (150, 2, 0)]
set_option maxRecDepth 100000 in
theorem c0_ok : c0L.all (fun q => decide (mI aM2 q.1 q.2.1 = q.2.2)) = true := by decide +kernel
theorem c0_at (i : Nat) {a j : Nat} {v : Int32} (h : c0L[i]? = some (a, j, v)) : cI aC0 a j = v := by
  have h2 := List.all_eq_true.mp c0_ok _ (List.mem_of_getElem? h)
  rw [decide_eq_true_eq] at h2
  rw [aC0_I]
  exact h2
set_option maxRecDepth 100000 in
theorem c0_146 : (List.range 30).all (fun j => decide (mI aM2 146 j = 0)) = true := by decide +kernel
set_option maxRecDepth 100000 in
theorem c0_p : refL.all (fun q => decide (mP aM2 q.1 q.2.1 = some q.2.2)) = true := by decide +kernel
set_option maxRecDepth 100000 in
theorem c0_s : mP aM2 0 4 = some 2 ∧ mP aM2 0 5 = some 42 := by decide +kernel
/-- no reference to the law's own cell -/
def c0n (a : Nat) : Nat := if aKd a < 11 then amNf (aKd a) else if aKd a < 14 then 0 else aLen a
set_option maxRecDepth 100000 in
theorem c0_200 : (List.range aZ).all (fun a => (List.range (c0n a)).all (fun j => decide (¬ mP aM2 a j = some 200))) = true := by decide +kernel
theorem aP0 : PInv aC0 := by
  intro q hq
  have h := List.all_eq_true.mp c0_p q hq
  rw [decide_eq_true_eq] at h
  rw [aC0_P]
  exact h
theorem c0_s4 : cP aC0 0 4 = some 2 := by
  rw [aC0_P]
  exact c0_s.1
theorem c0_s5 : cP aC0 0 5 = some 42 := by
  rw [aC0_P]
  exact c0_s.2
theorem aT0 {cols r : Nat} (h : cI aC0 r 1 = 0) : TabC cols aC0 r (tlT tel0.2.1 tel0.2.2) := by
  have n0 : ∀ p : Nat, (tlT tel0.2.1 tel0.2.2).1 p = false := fun p => decide_eq_false (Nat.not_lt_zero p)
  refine ⟨fun p _ => ?_, fun p _ => ?_, fun p _ t => ?_⟩
  · rw [h, n0]; exact b_0 p
  · rw [h]; exact b_0 p
  · rw [n0] at t; cases t
theorem aI0 : LInv aC0 aB0 := by
  have n0 : ∀ p : Nat, (tlT tel0.2.1 tel0.2.2).1 p = false := fun p => decide_eq_false (Nat.not_lt_zero p)
  have hB : BigOK aB0 := ⟨tel0_ok.1, by decide, fun k hk => absurd hk (Nat.not_lt_zero k), ⟨tel0_ok.2.1, by decide, fun T h => (by cases h), by decide, fun q h => (by cases h)⟩, fun y h => (by cases h)⟩
  have z30 : ∀ j, j < 30 → cI aC0 146 j = 0 := fun j hj => by
    have h := List.all_eq_true.mp c0_146 j (List.mem_range.mpr hj)
    rw [decide_eq_true_eq] at h
    rw [aC0_I]
    exact h
  refine ⟨hB, ⟨2, aP0, by decide, c0_s4, c0_s5, ?_, c0_at 5 rfl, fun k hk => absurd hk (Nat.not_lt_zero k), c0_at 6 rfl, ?_, c0_at 7 rfl, fun y h => by cases h⟩, 0, ⟨⟨aP0, c0_at 20 rfl, ?_, tel0_ok.1⟩, c0_at 21 rfl, fun k hk => absurd hk (Nat.not_lt_zero k), c0_at 22 rfl, ?_, c0_at 19 rfl, fun y h => by cases h⟩, 0, 0, 0, by decide, by decide, by decide, ?_⟩
  · exact ⟨c0_at 0 rfl, c0_at 1 rfl, fun i hi => absurd hi (Nat.not_lt_zero i), c0_at 2 rfl, c0_at 3 rfl, fun i hi => absurd hi (Nat.not_lt_zero i), c0_at 4 rfl, fun i hi => absurd hi (Nat.not_lt_zero i)⟩
  · refine ⟨aT0 (c0_at 8 rfl), ⟨0, by decide, c0_at 9 rfl, c0_at 10 rfl, fun k hk => absurd hk (Nat.not_lt_zero k)⟩, c0_at 11 rfl, fun i hi => absurd hi (Nat.not_lt_zero i), fun k hk => ?_⟩
    show cI aC0 91 k = 0
    rcases (show k = 0 ∨ k = 1 ∨ k = 2 by omega) with rfl | rfl | rfl
    · exact c0_at 12 rfl
    · exact c0_at 13 rfl
    · exact c0_at 14 rfl
  · exact ⟨by decide, c0_at 23 rfl, c0_at 24 rfl, fun i hi => absurd hi (Nat.not_lt_zero i), c0_at 25 rfl, c0_at 26 rfl, fun i hi => absurd hi (Nat.not_lt_zero i), c0_at 27 rfl, fun i hi => absurd hi (Nat.not_lt_zero i)⟩
  · refine ⟨⟨⟨fun p hp => ?_, fun p _ t => ?_⟩, fun p _ t => ?_⟩, ⟨0, by decide, c0_at 16 rfl, c0_at 17 rfl, fun k hk => absurd hk (Nat.not_lt_zero k)⟩, c0_at 18 rfl, fun i hi => absurd hi (Nat.not_lt_zero i), fun k hk => ?_⟩
    · show cI aC0 146 (0 + p) = if (tlT tel0.2.1 tel0.2.2).1 p = true then 1 else 0
      rw [n0, Nat.zero_add, z30 p hp]
      rfl
    · have t : (tlT tel0.2.1 tel0.2.2).1 p = true := t
      rw [n0] at t; cases t
    · have t : (tlT tel0.2.1 tel0.2.2).1 p = true := t
      rw [n0] at t; cases t
    · show cI aC0 150 (0 + k) = 0
      rcases (show k = 0 ∨ k = 1 ∨ k = 2 by omega) with rfl | rfl | rfl
      · exact c0_at 28 rfl
      · exact c0_at 29 rfl
      · exact c0_at 30 rfl
  · exact ⟨c0_at 23 rfl, c0_at 24 rfl, fun i hi => absurd hi (Nat.not_lt_zero i), c0_at 25 rfl, c0_at 26 rfl, fun i hi => absurd hi (Nat.not_lt_zero i), c0_at 27 rfl, fun i hi => absurd hi (Nat.not_lt_zero i)⟩
theorem lw_arr {cA : ClassId} {n : Nat} {f1 f2 : Nat → Value} (h : ∀ j, j < n → f1 j = f2 j) : arrV cA n f1 = arrV cA n f2 := by
  unfold arrV
  congr 1
  congr 1
  funext j
  exact h j.val j.isLt
/-- the addresses change, the cells don't -/
theorem lw_g {g1 g2 : Nat → Nat} {D : va_G} {ct : Nat → ClassId} {H : Heap} (h : ∀ a, a ≠ 200 → g1 a = g2 a) (hP : va_P D vwCl (amWs ct g1 (mkM aC0)) H) : va_P D vwCl (amWs ct g2 (mkM aC0)) H := by
  intro k q hk
  obtain ⟨hl, rfl⟩ := amWs_at hk
  have hl : k < aZ := hl
  have h1 := hP k _ (amWs_get (M := mkM aC0) hl)
  have e0 : g1 k = g2 k := h k (by unfold aZ at hl; omega)
  have hp : ∀ j, j < c0n k → (mP (mkM aC0) k j).map g1 = (mP (mkM aC0) k j).map g2 := by
    intro j hj
    have h2 := List.all_eq_true.mp (List.all_eq_true.mp c0_200 k (List.mem_range.mpr hl)) j (List.mem_range.mpr hj)
    rw [decide_eq_true_eq] at h2
    rw [mP_mk, aC0_P]
    cases hq : mP aM2 k j with
    | none => rfl
    | some z => exact congrArg some (h z (fun e => h2 (by rw [hq, e])))
  have hK := mK_mk aC0 k
  have hN := mN_mk aC0 k
  rw [← e0]
  by_cases c1 : aKd k < 11
  · have e4 : amFs g2 (mkM aC0) k = amFs g1 (mkM aC0) k := by
      unfold amFs
      apply List.map_congr_left
      intro j hj
      rw [hK] at hj
      have hj := List.mem_range.mp hj
      show amV g2 (mkM aC0) k j (amT (mK (mkM aC0) k) j) = amV g1 (mkM aC0) k j (amT (mK (mkM aC0) k) j)
      unfold amV
      rw [hp j (by unfold c0n; rw [if_pos c1]; exact hj)]
    have e2 : amE ct g2 (mkM aC0) k = amE ct g1 (mkM aC0) k := by
      unfold amE
      rw [hK, if_pos c1, if_pos c1, e4]
    rw [e2]
    exact h1
  · by_cases c2 : aKd k < 14
    · have e2 : amE ct g2 (mkM aC0) k = amE ct g1 (mkM aC0) k := by
        unfold amE
        rw [hK, if_neg c1, if_pos c2, if_neg c1, if_pos c2]
      rw [e2]
      exact h1
    · have e2 : amE ct g2 (mkM aC0) k = .inl (ct (aKd k), aLen k, .inr (.inr (.inr (.inr (fun j => (mP (mkM aC0) k j).map g2))))) := by
        unfold amE
        rw [hK, hN, if_neg c1, if_neg c2]
      have e3 : amE ct g1 (mkM aC0) k = .inl (ct (aKd k), aLen k, .inr (.inr (.inr (.inr (fun j => (mP (mkM aC0) k j).map g1))))) := by
        unfold amE
        rw [hK, hN, if_neg c1, if_neg c2]
      rw [e2]
      rw [e3] at h1
      have h1 : H[g1 k]? = some (arrV (ct (aKd k)) (aLen k) (fun j => va_rf ((mP (mkM aC0) k j).map g1))) := h1
      show H[g1 k]? = some (arrV (ct (aKd k)) (aLen k) (fun j => va_rf ((mP (mkM aC0) k j).map g2)))
      rw [h1]
      exact congrArg some (lw_arr (fun j hj => by rw [hp j (by unfold c0n; rw [if_neg c1, if_neg c2]; exact hj)]))
