/-! plan: reasons, the stage that is planned, what it holds, what is read. -/
def stI (S : Scr) (t : Stm) (y : (Nat × Nat) × Nat) (z : Nat × Nat) : Prop := z.1 ≤ 3 ∧ z.2 = if z.1 = 0 then 0 else sHeld S t y z.1
theorem stF_i {S : Scr} {t : Stm} {y : (Nat × Nat) × Nat} : ∀ m k z, k + m ≤ 4 → 1 ≤ k → stI S t y z → stI S t y (qo (stF S t y) m k z) := by
  intro m
  induction m with
  | zero => intro k z _ _ h; exact h
  | succ m ih =>
    intro k z h1 h2 h
    rw [qo]
    refine ih (k + 1) _ (by omega) (by omega) ?_
    unfold stF
    split
    · refine ⟨by simp only; omega, ?_⟩
      simp only
      rw [if_neg (by omega)]
    · exact h
theorem sPl_i {S : Scr} {t : Stm} {path : Nat} {T : Tab} : stI S t (sPm S t path T) (sPl S t path T) := by
  unfold sPl sStg
  split
  · exact ⟨by decide, by simp⟩
  · refine stF_i _ _ _ ?_ ?_ ⟨by decide, by simp⟩ <;> (unfold lstR; split <;> (try split) <;> omega)
def plW (S : Scr) (t : Stm) (path : Nat) (T : Tab) (w : Nat) : Int32 := if w = 0 then nI (sRsn S t path) else if w = 1 then nI (sPl S t path T).1 else if w = 2 then nI (sPl S t path T).2 else nI (sPm S t path T).1.1
def sPln (B : Big) (a p b : Int32) : Int32 ⊕ Nat := match ixO (sStm (bS B)).length a with
  | none => .inr 0
  | some i => match ixO (1 + 2 * (sIdx (bS B)).length) p with
    | none => .inr 0
    | some k => match ixO 4 b with
      | none => .inr 0
      | some w => .inl (plW (bS B) (stmO (bS B) i) k (zT (bZ B)) w)
section
variable {n : Nat} {C : AmC} {s h : Nat} {B : Big} {S : Scr}
theorem CI.pn (hC : CI C s B) (hB : BigOK B) {i : Nat} (hi : i < (sStm (bS B)).length) : PnK C s (s + 16 + 3 * i) 83 (bS B) (stmO (bS B) i) (zT (bZ B)) := by
  have l8 := hB.1.2.2.2.2.2.2.2.1
  have e := hC.2.2.2.2.1.2.2.2.2.2.2.2 i hi
  rw [stmO_eq hi] at e
  exact ⟨hC.1, hC.2.1, sc_st s hC.2.1 i (by omega), hC.2.2.2.2.1, hB.1, e, stmO_ok hB.1 hi, by decide, hC.2.2.2.2.2.2.2.2.1.1, hB.2.2.2.1.1.1⟩
theorem PnX.c {C C' : AmC} (hP : PInv C) (F : Fr PnX C C') : FrC C C' := ⟨hP.of F.1, fun b z => F.2.1 b (by unfold PnX; omega), fun b z => F.2.1 b (by unfold PnX; omega), by rw [F.1]⟩
theorem q125 (hC : CI C s B) (hB : BigOK B) (hn : 1600 ≤ n) (a p b : Int32) : Rt (f_125 n 0 a p b C) (fun z C' => z = sPln B a p b ∧ FrC C C') := by
  have l8 := hB.1.2.2.2.2.2.2.2.1
  have l3 := hB.1.2.2.1
  unfold f_125 sPln
  rcases ix_c (N := (sStm (bS B)).length) (by omega) a with ⟨na, ea⟩ | ⟨i, hi, rfl, ea⟩
  · rw [ea]
    simp only [↓reduceIte, k_0, if_true, ↓bd1 (c143_f (n := n) hC na)]
    exact rt_ret ⟨rfl, FrC.refl hC.1⟩
  · rw [ea]
    rcases ix_c (N := 1 + 2 * (sIdx (bS B)).length) (by omega) p with ⟨np, ep⟩ | ⟨k, hk, rfl, ep⟩
    · rw [ep]
      simp only [↓reduceIte, k_0, if_true, ↓bd1 (c143_t (n := n) hC hB hi), ↓bd1 (c144_f (n := n) hC np)]
      exact rt_ret ⟨rfl, FrC.refl hC.1⟩
    · rw [ep]
      have hk : PathOK (bS B) k := hk
      rcases ix_c (N := 4) (by omega) b with ⟨nb, eb⟩ | ⟨w, hw, rfl, eb⟩
      · rw [eb]
        have w1 : f_147 n b (4 : Int32) C = some (.inr 0, C) := c147_f (N := 4) nb
        simp only [↓reduceIte, k_0, if_true, ↓bd1 (c143_t (n := n) hC hB hi), ↓bd1 (c144_t (n := n) hC hB hk), ↓bd1 w1]
        exact rt_ret ⟨rfl, FrC.refl hC.1⟩
      · rw [eb]
        have w1 : f_147 n (nI w) (4 : Int32) C = some (.inl (), C) := c147_t (N := 4) (by omega) hw
        have ks := sc_of hC.1 hC.2.1
        simp only [↓reduceIte, k_0, if_true, ↓bd1 (c143_t (n := n) hC hB hi), ↓bd1 (c144_t (n := n) hC hB hk), ↓bd1 w1, ↓bd1 (w_0_11 hC.1), ↓bd1 hC.2.2.1, ks.k, ↓bd1 (c90 (n := n) (i := i) ks (by omega)), ↓bd1 (w_0_6 hC.1), k_82, ↓bd1 (w_82_0 hC.1), k_102]
        refine rt_bind (rt_mono (c61 (n := n) hk (hC.pn hB hi) (by omega)) (fun _ C' H => ?_))
        obtain ⟨⟨e1, _⟩, e4, e5, e6, F⟩ := H
        have F' := PnX.c hC.1 F
        have hw4 : w = 0 ∨ w = 1 ∨ w = 2 ∨ w = 3 := by omega
        rcases hw4 with rfl | rfl | rfl | rfl
        · simp only [↓reduceIte, v00, v10, v20, v30, v01, v11, v21, v31, v02, v12, v22, v32, if_true, if_false, ↓bd1 (w_0_11 F'.1), k_102]
          exact rt_ret ⟨by rw [e4]; rfl, F'⟩
        · simp only [↓reduceIte, v00, v10, v20, v30, v01, v11, v21, v31, v02, v12, v22, v32, if_true, if_false, ↓bd1 (w_0_11 F'.1), k_102]
          exact rt_ret ⟨by rw [e5]; rfl, F'⟩
        · simp only [↓reduceIte, v00, v10, v20, v30, v01, v11, v21, v31, v02, v12, v22, v32, if_true, if_false, ↓bd1 (w_0_11 F'.1), k_102]
          exact rt_ret ⟨by rw [e6]; rfl, F'⟩
        · simp only [↓reduceIte, v00, v10, v20, v30, v01, v11, v21, v31, v02, v12, v22, v32, if_true, if_false, ↓bd1 (w_0_11 F'.1), k_102]
          exact rt_ret ⟨by rw [e1]; rfl, F'⟩
theorem m191s {C' : AmC} {t : Stm} {k : Nat} {T : Tab} (q0 : cI C' 191 0 = 0) (q2 : ∀ j, 1 ≤ j → j ≤ 3 → cI C' 191 j = nI (sHeld S t (sPm S t k T) j)) : cI C' 191 (sPl S t k T).1 = nI (sPl S t k T).2 := by
  obtain ⟨i1, i2⟩ := sPl_i (S := S) (t := t) (path := k) (T := T)
  rw [i2]
  by_cases z : (sPl S t k T).1 = 0
  · rw [if_pos z, z, q0]; rfl
  · rw [if_neg z, q2 _ (by omega) i1]
theorem q252 (hM : MI C h B) (hB : BigOK B) (hn : 1600 ≤ n) (a p b : Int32) : Rt (f_252 n 145 a p b C) (fun z C' => An C' z (sPln B a p b) ∧ FrR C C') := by
  have l8 := hB.1.2.2.2.2.2.2.2.1
  have l3 := hB.1.2.2.1
  obtain ⟨M0, t0, F0⟩ := hM.t0 hB
  generalize hC0 : uI C 145 5 0 = C0 at M0 t0 F0
  have hh := M0.1.2.2.1.1
  unfold f_252 sPln
  rw [hC0]
  rcases ix_c (N := (sStm (bS B)).length) (by omega) a with ⟨na, ea⟩ | ⟨i, hi, rfl, ea⟩
  · rw [ea]
    simp only [↓reduceIte, k_145, if_true, ↓bd1 (m250_f (n := n) M0.1 na t0)]
    exact rt_ret (An_f F0)
  · rw [ea]
    rcases ix_c (N := 1 + 2 * (sIdx (bS B)).length) (by omega) p with ⟨np, ep⟩ | ⟨k, hk, rfl, ep⟩
    · rw [ep]
      simp only [↓reduceIte, k_145, if_true, if_false, n10f, ↓bd1 (m250_t (n := n) M0.1 hi t0), ↓bd1 (m248_f (n := n) M0.1 np t0)]
      exact rt_ret (An_f F0)
    · rw [ep]
      have hk : PathOK (bS B) k := hk
      rcases ix_c (N := 4) (by omega) b with ⟨nb, eb⟩ | ⟨w, hw, rfl, eb⟩
      · rw [eb]
        have w1 : f_163 n b 0 (3 : Int32) C0 = some (0, C0) := m163_f (N := 4) (by omega) nb
        simp only [↓reduceIte, k_145, if_true, if_false, n10f, ↓bd1 (m250_t (n := n) M0.1 hi t0), ↓bd1 (m248_t (n := n) M0.1 hk t0), ↓bd1 w1, ↓bd1 (m162_f (n := n) (w := 1) t0 (by decide)), not_true]
        exact rt_ret (An_f F0)
      · rw [eb]
        have w1 : f_163 n (nI w) 0 (3 : Int32) C0 = some (1, C0) := m163_t (N := 4) (by omega) hw
        have W := m242 (n := n) (h := h) (i := 8 * h + i) hk M0.1 (by omega) (M0.stm hi) (stmO_ok hB.1 hi) hB.2.2.2.1.1.1 M0.2.2.2.2.1.1.1 M0.2.2.2.2.1.1.2 (by omega)
        simp (disch := omega) only [k_145, if_true, if_false, n10f, ↓bd1 (m250_t (n := n) M0.1 hi t0), ↓bd1 (m248_t (n := n) M0.1 hk t0), ↓bd1 w1, ↓bd1 (m162_t (n := n) (w := 1) t0), not_false_iff, M0.1.2.1, ↓reduceIte, n_2, n_3, n_4, n_5, n_6, n_7, n_8, n_10, n_12, n_20, n_30, n_40, n_100, n_120, n_150, n_200, n_230, n_320, n_450, n_900, x_le, x_lt, x_eq, x_lt0, x_le0, x_0le, x_0lt, x_eq0, x_eq1, x_1lt, x_le1, x_lt1, x_1le, x_eqm, x_add, x_a1, x_1a, x_a0, x_0a, x_mul, x_sub, x_s1, x_1s, x_div, x_cl, x_cl0, x_cl1, x_in, x_in0, x_in1, x_ofNat]
        refine rt_bind (rt_mono W (fun z C' H => ?_))
        obtain ⟨rfl, q1, q0, q2, F⟩ := H
        have F1 : FrR C0 C' := F.r (fun b z => by omega)
        have F' := F0.trans F1
        have t5 : cI C' 145 5 = 0 := (F.2.2 5 (by omega) (by omega)).trans t0
        have M1 := M0.frR hB F1
        have i3 := (sPl_i (S := bS B) (t := stmO (bS B) i) (path := k) (T := zT (bZ B))).1
        have hw4 : w = 0 ∨ w = 1 ∨ w = 2 ∨ w = 3 := by omega
        rcases hw4 with rfl | rfl | rfl | rfl
        · have w2 := m238 (n := n) (i := 8 * h + i) M1.1 (by omega) (M1.stm hi) (stmO_ok hB.1 hi) hk (by omega)
          simp only [↓reduceIte, v00, v10, v20, v30, v01, v11, v21, v31, v02, v12, v22, v32, if_true, if_false, not_true, not_false_iff, ↓bd1 w2]
          exact rt_ret ⟨⟨t5, rfl⟩, F'⟩
        · simp only [↓reduceIte, v00, v10, v20, v30, v01, v11, v21, v31, v02, v12, v22, v32, if_true, if_false, not_true, not_false_iff]
          exact rt_ret ⟨⟨t5, rfl⟩, F'⟩
        · have e := m191s q0 q2
          have j4 : (sPl (bS B) (stmO (bS B) i) k (zT (bZ B))).1 < 4 := by omega
          simp (disch := omega) only [↓reduceIte, v00, v10, v20, v30, v01, v11, v21, v31, v02, v12, v22, v32, if_true, if_false, not_true, not_false_iff, ↓bd1 (w_145_81 M1.1.1), k_191, l_191, x_in, x_cl, j4, e]
          exact rt_ret ⟨⟨t5, rfl⟩, F'⟩
        · simp only [↓reduceIte, v00, v10, v20, v30, v01, v11, v21, v31, v02, v12, v22, v32, if_true, if_false, not_true, not_false_iff]
          exact rt_ret ⟨⟨t5, by rw [q1]; rfl⟩, F'⟩
end
