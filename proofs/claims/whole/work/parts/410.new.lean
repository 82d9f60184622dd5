/-! The constructors, run by the kernel: cells 0 to 144 are the class's, 145 to 197 the reference's. -/
def aM0 : AmM := (0, 0, fun _ => 0, fun _ => 0, fun _ _ => 0, fun _ _ => 0, fun _ _ => none)
def aR1 : Option (AmO × AmM) := amRun aP aA true 4000 117 0 [(0, .ref 0)] [] (mNew aM0 9 0 16)
def aM1 : AmM := match aR1 with
  | some (_, M) => M
  | none => aM0
def aR2 : Option (AmO × AmM) := amRun aP aA true 4000 159 0 [(0, .ref 145)] [] (mNew aM1 10 0 90)
def aM2 : AmM := match aR2 with
  | some (_, M) => M
  | none => aM0
def amVoid (r : Option (AmO × AmM)) : Bool := match r with
  | some (.inl none, _) => true
  | _ => false
set_option maxRecDepth 100000 in
theorem aR1_v : amVoid aR1 = true := by decide +kernel
set_option maxRecDepth 100000 in
theorem aR2_v : amVoid aR2 = true := by decide +kernel
set_option maxRecDepth 100000 in
theorem aM_z : mZ aM1 = 145 ∧ mS aM1 = 21721 ∧ mZ aM2 = aZ ∧ mS aM2 = aS := by decide +kernel
set_option maxRecDepth 100000 in
theorem aM_k : (List.range aZ).all (fun a => decide (mK aM2 a = aKd a) && decide (mN aM2 a = aLen a)) = true := by decide +kernel
theorem am_void {r : Option (AmO × AmM)} (h : amVoid r = true) : ∃ M, r = some (.inl none, M) := by
  unfold amVoid at h
  split at h
  · exact ⟨_, rfl⟩
  · cases h
theorem aR1_e : aR1 = some (.inl none, aM1) := by
  obtain ⟨M, h⟩ := am_void aR1_v
  unfold aM1
  rw [h]
theorem aR2_e : aR2 = some (.inl none, aM2) := by
  obtain ⟨M, h⟩ := am_void aR2_v
  unfold aM2
  rw [h]
/-- what stands in the cells behind the constructors -/
def aC0 : AmC := (mI aM2, mJ aM2, mP aM2)
theorem aWs_gen (ct : Nat → ClassId) (g : Nat → Nat) {M : AmM} (hz : mZ M = aZ) (hk : ∀ a, a < aZ → mK M a = aKd a ∧ mN M a = aLen a) : amWs ct g M = amWs ct g (mkM (mI M, mJ M, mP M)) := by
  apply List.ext_getElem?
  intro a
  by_cases h : a < aZ
  · have h1 : a < mZ M := by rw [hz]; exact h
    have h2 : a < mZ (mkM (mI M, mJ M, mP M)) := h
    rw [amWs_get h1, amWs_get h2]
    have e1 : mK (mkM (mI M, mJ M, mP M)) a = mK M a := (hk a h).1.symm
    have e2 : mN (mkM (mI M, mJ M, mP M)) a = mN M a := (hk a h).2.symm
    have e3 : mI (mkM (mI M, mJ M, mP M)) = mI M := rfl
    have e4 : mJ (mkM (mI M, mJ M, mP M)) = mJ M := rfl
    have e5 : mP (mkM (mI M, mJ M, mP M)) = mP M := rfl
    simp only [amE, amFs, amV, e1, e2, e3, e4, e5]
  · rw [List.getElem?_eq_none (by rw [amWs_len, hz]; omega), List.getElem?_eq_none (by rw [amWs_len]; exact Nat.le_of_not_lt h)]
theorem aWs0 (ct : Nat → ClassId) (g : Nat → Nat) : amWs ct g aM2 = amWs ct g (mkM aC0) := by
  refine aWs_gen ct g aM_z.2.2.1 (fun a h => ?_)
  have h3 := List.all_eq_true.mp aM_k a (List.mem_range.mpr h)
  simpa only [Bool.and_eq_true, decide_eq_true_eq] using h3
