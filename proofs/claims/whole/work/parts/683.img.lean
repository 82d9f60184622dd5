/-! image (class). -/
theorem CI.img {C D : AmC} {s : Nat} {B : Big} (hC : CI C s B) (hB : BigOK B) (p : cP D = cP C) (e : ∀ q, ¬ q = 0 → ¬ (92 ≤ q ∧ q ≤ 101) → cI D q = cI C q) (e0 : ∀ f, ¬ f = 8 → cI D 0 f = cI C 0 f) (e8 : cI D 0 8 = 1) (cD : StaC (sCols (bS B)) D 92 (bZ B)) : CI D s (bImg B) := by
  obtain ⟨h1, h2, h3, h4, h5, h6, h7, h8, h9, h10, h11⟩ := hC
  have l := scr_lt h2
  refine ⟨h1.of p, h2, ?_, ?_, h5.of hB.1.2.2.2.2.2.2.2.1 (fun a z1 z2 => e a (by omega) (by omega)), ?_, ?_, ?_, h9.fr (fun b z1 z2 => e b (by omega) (by omega)), ?_, ?_⟩
  · rw [p]; exact h3
  · rw [p]; exact h4
  · rw [e0 1 (by omega)]; exact h6
  · rw [e 1 (by omega) (by omega)]; exact h7
  · rw [e0 2 (by omega)]; exact h8
  · rw [e8]; rfl
  · intro y hy
    have hy : some (bZ B) = some y := hy
    cases hy
    exact cD
theorem q140 {n : Nat} {C : AmC} {s : Nat} {B : Big} (hC : CI C s B) (hB : BigOK B) : Rt (f_140 n 0 C) (fun _ C' => CI C' s (bImg B) ∧ (∀ b, 145 ≤ b → cI C' b = cI C b)) := by
  have P := hC.1
  have K := c110s_92 (C := C)
  have w := c110_92 (n := n) P
  generalize c110C_92 (c10C_92 (cpR C 93 83)) = D at K w
  unfold f_140
  simp only [↓reduceIte, k_0, if_true, ↓bd1 (w_0_7 P), ↓bd1 (w_0_6 P), k_92, ↓bd1 w]
  have hz := hC.2.2.2.2.2.2.2.2.1
  have cD : StaC (sCols (bS B)) D 92 (bZ B) := K.sta hB.1.2.1 hB.2.2.2.1.2.1 hB.2.2.2.1.2.2.2.1 hz
  have kp := K.1
  have ko : ∀ q, ¬ (92 ≤ q ∧ q ≤ 101) → cI D q = cI C q := K.2.1
  clear K w
  have e1 : ∀ q, ¬ q = 0 → ¬ (92 ≤ q ∧ q ≤ 101) → cI (uI D 0 8 1) q = cI C q := by
    intro q z1 z2
    rw [r_In z1]
    exact ko q z2
  have e2 : ∀ f, ¬ f = 8 → cI (uI D 0 8 1) 0 f = cI C 0 f := by
    intro f hf
    rw [r_I, if_neg (fun z => hf z.2), ko 0 (by omega)]
  have e3 : cI (uI D 0 8 1) 0 8 = 1 := by rw [r_I, if_pos ⟨rfl, rfl⟩]
  have e4 : ∀ b, 145 ≤ b → cI (uI D 0 8 1) b = cI C b := by
    intro b hb
    rw [r_In (by omega), ko b (by omega)]
  have e5 : StaC (sCols (bS B)) (uI D 0 8 1) 92 (bZ B) := cD.fr (fun b z1 z2 => r_In (by omega))
  exact rt_ret ⟨hC.img hB ((p_I D 0 8 1).trans kp) e1 e2 e3 e5, e4⟩
