/-! right: what the right run of a statement comes to. -/
theorem v00 : (nI 0 = (0 : Int32)) = True := eq_true rfl
theorem v10 : (nI 1 = (0 : Int32)) = False := eq_false (by decide)
theorem v20 : (nI 2 = (0 : Int32)) = False := eq_false (by decide)
theorem v30 : (nI 3 = (0 : Int32)) = False := eq_false (by decide)
theorem v01 : (nI 0 = (1 : Int32)) = False := eq_false (by decide)
theorem v11 : (nI 1 = (1 : Int32)) = True := eq_true rfl
theorem v21 : (nI 2 = (1 : Int32)) = False := eq_false (by decide)
theorem v31 : (nI 3 = (1 : Int32)) = False := eq_false (by decide)
theorem v02 : (nI 0 = (2 : Int32)) = False := eq_false (by decide)
theorem v12 : (nI 1 = (2 : Int32)) = False := eq_false (by decide)
theorem v22 : (nI 2 = (2 : Int32)) = True := eq_true rfl
theorem v32 : (nI 3 = (2 : Int32)) = False := eq_false (by decide)
theorem n10f : ((1 : Int32) = 0) = False := eq_false (by decide)
def rgtW (r : RS) (w : Nat) : Int32 := if w = 0 then nI (rL r).length else if w = 1 then rE r else if w = 2 then r1 r else r2 r
def sRgt (B : Big) (a b : Int32) : Int32 ⊕ Nat := match ixO (sStm (bS B)).length a with
  | none => .inr 0
  | some i => match ixO 4 b with
    | none => .inr 0
    | some w => .inl (rgtW (sRight (bS B) (stmO (bS B) i) (zT (bZ B))) w)
theorem FrP.c {a : Nat} {C C' : AmC} (ha : a ∈ pasL) (F : FrP a C C') : FrC C C' := by
  have h : a = 113 ∨ a = 121 := by
    rcases List.mem_cons.mp ha with h | h
    · exact Or.inl h
    · exact Or.inr (List.mem_singleton.mp h)
  refine ⟨F.1, fun b z => F.2.2.1 b ?_, fun b z => F.2.2.1 b ?_, F.2.1 0 (by omega)⟩ <;> (unfold PY PX; omega)
section
variable {n : Nat} {C : AmC} {s h : Nat} {B : Big} {S : Scr}
theorem c151 (hC : CI C s B) (hB : BigOK B) {i r0 : Nat} {T : Tab} (hi : i < (sStm (bS B)).length) (hr : r0 ∈ rowsL) (hra : r0 + 1 < 113 ∨ 121 ≤ r0) (hT : TabC (sCols (bS B)) C r0 T) (hN : TabN (sCols (bS B)) T) (hn : 9500 ≤ n) : Rt (f_151 n 0 (nI i) r0 C) (fun _ C' => PEnd C' 113 (bS B) (stmO (bS B) i) 3 0 T ∧ FrP 113 C C' ∧ PK C' 113 s (s + 16 + 3 * i) (bS B) (stmO (bS B) i) ∧ XOK (bS B) (stmO (bS B) i) 3 (sReads (bS B) (stmO (bS B) i) 3 0 T)) := by
  have W := c45 (n := n) (a := 113) (stage := 3) (path := 0) hC.1 (by decide) hC.2.1 hC.2.2.2.2.1 hB.1 hi (by unfold PathOK; omega) (by omega) hr hra hT hN hn
  rw [x_0, ← n_3, stmO_eq hi] at W
  unfold f_151
  simp only [↓reduceIte, k_0, if_true, ↓bd1 (w_0_9 hC.1), ↓bd1 hC.2.2.1, k_113]
  exact rt_bind (rt_mono W (fun _ C' H => rt_ret H))
theorem q124 (hC : CI C s B) (hB : BigOK B) (hn : 9600 ≤ n) (a b : Int32) : Rt (f_124 n 0 a b C) (fun z C' => z = sRgt B a b ∧ FrC C C') := by
  have l8 := hB.1.2.2.2.2.2.2.2.1
  unfold f_124 sRgt
  rcases ix_c (N := (sStm (bS B)).length) (by omega) a with ⟨na, ea⟩ | ⟨i, hi, rfl, ea⟩
  · rw [ea]
    simp only [↓reduceIte, k_0, if_true, ↓bd1 (c143_f (n := n) hC na)]
    exact rt_ret ⟨rfl, FrC.refl hC.1⟩
  · rw [ea]
    rcases ix_c (N := 4) (by omega) b with ⟨nb, eb⟩ | ⟨w, hw, rfl, eb⟩
    · rw [eb]
      have w1 : f_147 n b (4 : Int32) C = some (.inr 0, C) := c147_f (N := 4) nb
      simp only [↓reduceIte, k_0, if_true, ↓bd1 (c143_t (n := n) hC hB hi), ↓bd1 w1]
      exact rt_ret ⟨rfl, FrC.refl hC.1⟩
    · rw [eb]
      have w1 : f_147 n (nI w) (4 : Int32) C = some (.inl (), C) := c147_t (N := 4) (by omega) hw
      simp only [↓reduceIte, k_0, if_true, ↓bd1 (c143_t (n := n) hC hB hi), ↓bd1 w1, ↓bd1 (w_0_6 hC.1), k_82, ↓bd1 (w_82_0 hC.1)]
      refine rt_bind (rt_mono (c151 (n := n) (r0 := 83) (T := zT (bZ B)) hC hB hi (by decide) (by omega) hC.2.2.2.2.2.2.2.2.1.1 hB.2.2.2.1.1.1 (by omega)) (fun _ C' H => ?_))
      obtain ⟨⟨⟨_, _, e10, e11, e12, e13, _⟩, _⟩, F, _, _⟩ := H
      have F' := F.c (by decide)
      have hw4 : w = 0 ∨ w = 1 ∨ w = 2 ∨ w = 3 := by omega
      rcases hw4 with rfl | rfl | rfl | rfl
      · simp only [↓reduceIte, v00, v10, v20, v30, v01, v11, v21, v31, v02, v12, v22, v32, if_true, if_false, ↓bd1 (w_0_9 F.1), k_113]
        exact rt_ret ⟨by rw [e10]; rfl, F'⟩
      · simp only [↓reduceIte, v00, v10, v20, v30, v01, v11, v21, v31, v02, v12, v22, v32, if_true, if_false, ↓bd1 (w_0_9 F.1), k_113]
        exact rt_ret ⟨by rw [e11]; rfl, F'⟩
      · simp only [↓reduceIte, v00, v10, v20, v30, v01, v11, v21, v31, v02, v12, v22, v32, if_true, if_false, ↓bd1 (w_0_9 F.1), k_113]
        exact rt_ret ⟨by rw [e12]; rfl, F'⟩
      · simp only [↓reduceIte, v00, v10, v20, v30, v01, v11, v21, v31, v02, v12, v22, v32, if_true, if_false, ↓bd1 (w_0_9 F.1), k_113]
        exact rt_ret ⟨by rw [e13]; rfl, F'⟩
/-! the reference -/
theorem MI.stm (hM : MI C h B) {i : Nat} (hi : i < (sStm (bS B)).length) : StmM C (8 * h + i) (stmO (bS B) i) := by
  have := hM.1.2.2.1.2.2.2.2.2.2.2.2 i hi
  rw [stmO_eq hi] at this
  exact this
theorem MI.t0 (hB : BigOK B) (hM : MI C h B) : MI (uI C 145 5 0) h B ∧ cI (uI C 145 5 0) 145 5 = 0 ∧ FrR C (uI C 145 5 0) := by
  have F : FrR C (uI C 145 5 0) := (FrR.refl C).uF (Or.inl rfl)
  exact ⟨hM.frR hB F, by rw [r_I, if_pos ⟨rfl, rfl⟩], F⟩
theorem An_f {C C0 : AmC} {z : Int32} (F : FrR C C0) : An (uI C0 145 5 1) z (.inr 0) ∧ FrR C (uI C0 145 5 1) := ⟨by show cI _ 145 5 = nI 1; rw [r_I, if_pos ⟨rfl, rfl⟩]; rfl, F.uF (Or.inl rfl)⟩
theorem q251 (hM : MI C h B) (hB : BigOK B) (hn : 9700 ≤ n) (a b : Int32) : Rt (f_251 n 145 a b C) (fun z C' => An C' z (sRgt B a b) ∧ FrR C C') := by
  have l8 := hB.1.2.2.2.2.2.2.2.1
  obtain ⟨M0, t0, F0⟩ := hM.t0 hB
  generalize hC0 : uI C 145 5 0 = C0 at M0 t0 F0
  have hh := M0.1.2.2.1.1
  unfold f_251 sRgt
  rw [hC0]
  rcases ix_c (N := (sStm (bS B)).length) (by omega) a with ⟨na, ea⟩ | ⟨i, hi, rfl, ea⟩
  · rw [ea]
    simp only [↓reduceIte, k_145, if_true, ↓bd1 (m250_f (n := n) M0.1 na t0)]
    exact rt_ret (An_f F0)
  · rw [ea]
    rcases ix_c (N := 4) (by omega) b with ⟨nb, eb⟩ | ⟨w, hw, rfl, eb⟩
    · rw [eb]
      have w1 : f_163 n b 0 (3 : Int32) C0 = some (0, C0) := m163_f (N := 4) (by omega) nb
      simp only [↓reduceIte, k_145, if_true, if_false, n10f, ↓bd1 (m250_t (n := n) M0.1 hi t0), ↓bd1 w1, ↓bd1 (m162_f (n := n) (w := 1) t0 (by decide)), not_true]
      exact rt_ret (An_f F0)
    · rw [eb]
      have w1 : f_163 n (nI w) 0 (3 : Int32) C0 = some (1, C0) := m163_t (N := 4) (by omega) hw
      have W := m226 (n := n) (f := 0) (h := h) (i := 8 * h + i) M0.1 (by omega) (M0.stm hi) (stmO_ok hB.1 hi) (by omega) M0.2.2.2.2.1.1.1 M0.2.2.2.2.1.1.2 hB.2.2.2.1.1.1 (by omega)
      rw [x_0] at W
      simp (disch := omega) only [k_145, if_true, if_false, n10f, ↓bd1 (m250_t (n := n) M0.1 hi t0), ↓bd1 w1, ↓bd1 (m162_t (n := n) (w := 1) t0), not_false_iff, M0.1.2.1, ↓reduceIte, n_2, n_3, n_4, n_5, n_6, n_7, n_8, n_10, n_12, n_20, n_30, n_40, n_100, n_120, n_150, n_200, n_230, n_320, n_450, n_900, x_le, x_lt, x_eq, x_lt0, x_le0, x_0le, x_0lt, x_eq0, x_eq1, x_1lt, x_le1, x_lt1, x_1le, x_eqm, x_add, x_a1, x_1a, x_a0, x_0a, x_mul, x_sub, x_s1, x_1s, x_div, x_cl, x_cl0, x_cl1, x_in, x_in0, x_in1, x_ofNat]
      refine rt_bind (rt_mono W (fun _ C' H => ?_))
      obtain ⟨⟨_, _, e10, e11, e12, e13, _, _⟩, F, _, _⟩ := H
      have F' := F0.trans (F.r (by omega))
      have t5 : cI C' 145 5 = 0 := (F.2.2.2 5 (by omega)).trans t0
      have hw4 : w = 0 ∨ w = 1 ∨ w = 2 ∨ w = 3 := by omega
      rcases hw4 with rfl | rfl | rfl | rfl
      · simp only [↓reduceIte, v00, v10, v20, v30, v01, v11, v21, v31, v02, v12, v22, v32, if_true, if_false, not_true, not_false_iff]
        exact rt_ret ⟨⟨t5, by rw [e10]; rfl⟩, F'⟩
      · simp only [↓reduceIte, v00, v10, v20, v30, v01, v11, v21, v31, v02, v12, v22, v32, if_true, if_false, not_true, not_false_iff]
        exact rt_ret ⟨⟨t5, by rw [e11]; rfl⟩, F'⟩
      · simp only [↓reduceIte, v00, v10, v20, v30, v01, v11, v21, v31, v02, v12, v22, v32, if_true, if_false, not_true, not_false_iff]
        exact rt_ret ⟨⟨t5, by rw [e12]; rfl⟩, F'⟩
      · simp only [↓reduceIte, v00, v10, v20, v30, v01, v11, v21, v31, v02, v12, v22, v32, if_true, if_false, not_true, not_false_iff]
        exact rt_ret ⟨⟨t5, by rw [e13]; rfl⟩, F'⟩
end
