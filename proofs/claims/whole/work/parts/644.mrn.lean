/-! The reference's measure: what it stands on. -/
def FrN (C C' : AmC) : Prop := cP C' = cP C ∧ (cJ C' = cJ C ∧ cI C' 191 0 = cI C 191 0) ∧ (∀ b, ¬ (b = 145 ∨ b = 191) → cI C' b = cI C b) ∧ ∀ f, ¬ (61 ≤ f ∧ f ≤ 64) → ¬ f = 69 → cI C' 145 f = cI C 145 f
theorem FrN.refl (C : AmC) : FrN C C := ⟨rfl, ⟨rfl, rfl⟩, fun _ _ => rfl, fun _ _ _ => rfl⟩
theorem FrN.trans {C C1 C2 : AmC} (h : FrN C C1) (g : FrN C1 C2) : FrN C C2 := ⟨g.1.trans h.1, ⟨g.2.1.1.trans h.2.1.1, g.2.1.2.trans h.2.1.2⟩, fun b z => (g.2.2.1 b z).trans (h.2.2.1 b z), fun f y z => (g.2.2.2 f y z).trans (h.2.2.2 f y z)⟩
theorem FrN.uA {C C1 : AmC} (h : FrN C C1) {j : Nat} {v : Int32} (hj : ¬ j = 0 := by decide) : FrN C (uI C1 191 j v) := ⟨h.1, ⟨h.2.1.1, by rw [r_I, if_neg (fun z => hj z.2.symm)]; exact h.2.1.2⟩, fun b z => (r_In (fun (e : b = 191) => z (Or.inr e))).trans (h.2.2.1 b z), fun f y z => by rw [r_In (by decide)]; exact h.2.2.2 f y z⟩
theorem FrN.uF {C C1 : AmC} (h : FrN C C1) {v : Int32} : FrN C (uI C1 145 69 v) := ⟨h.1, ⟨h.2.1.1, by rw [r_In (by decide)]; exact h.2.1.2⟩, fun b z => (r_In (fun (e : b = 145) => z (Or.inl e))).trans (h.2.2.1 b z), fun f y z => by rw [r_I, if_neg (by omega)]; exact h.2.2.2 f y z⟩
theorem FrN.rd (C : AmC) (S : Scr) (path : Nat) (T : Tab) (b : Option Nat) : FrN C (rdM C S path T b) := by
  obtain ⟨R1, R2, R3⟩ := rdM_fr C S path T b
  refine ⟨R1.1, ⟨R1.2.1, by rw [R2 191 (by decide)]⟩, fun c z => R2 c (fun e => z (Or.inl e)), fun f y z => ?_⟩
  by_cases g : f < 61
  · exact R1.2.2.2 f (Or.inl g)
  · exact R3 f (Or.inl (by omega))
theorem FrN.m {C C1 : AmC} (h : FrN C C1) : ∀ a, 151 ≤ a → a < 178 → cI C1 a = cI C a := fun a h1 h2 => h.2.2.1 a (by omega)
theorem FrN.tab {C C1 : AmC} {cols : Nat} {T : Tab} (h : FrN C C1) (hT : TabM 30 cols C 180 0 T) : TabM 30 cols C1 180 0 T := by
  unfold TabM
  rw [h.2.2.1 180 (by omega)]
  exact hT
