/-! What is asked ahead of a call: statements, paths, places. -/
def Nix (N : Nat) (a : Int32) : Prop := a < 0 ∨ (¬ a < 0 ∧ ¬ a < nI N)
theorem Nix.le {N : Nat} {a : Int32} (hN : N < 2147483648) (h : Nix N a) (h0 : ¬ a < 0) : nI N ≤ a := by
  rcases h with h | h
  · exact absurd h h0
  · obtain ⟨k, hk, rfl⟩ := (i_cs a).resolve_left h0
    have h2 := h.2
    rw [x_lt hk hN] at h2
    rw [x_le hN hk]
    omega
def stmO (S : Scr) (i : Nat) : Stm := (sStm S).getD i ((0, 0, 0, 0), fun _ => none, fun _ => none, [])
theorem stmO_eq {S : Scr} {i : Nat} (h : i < (sStm S).length) : (sStm S)[i] = stmO S i := by
  unfold stmO
  rw [List.getD_eq_getElem?_getD, List.getElem?_eq_getElem h]
  rfl
theorem stmO_ok {S : Scr} {i : Nat} (hO : ScrOK S) (h : i < (sStm S).length) : StmOK (sCols S) (stmO S i) := by
  rw [← stmO_eq h]
  exact hO.2.2.2.2.2.2.2.2 _ (List.getElem_mem h)
section
variable {n : Nat} {C : AmC} {s h : Nat} {B : Big} {S : Scr}
theorem c143_t (hC : CI C s B) (hB : BigOK B) {i : Nat} (hi : i < (sStm (bS B)).length) : f_143 n 0 (nI i) C = some (.inl (), C) := by
  have l8 := hB.1.2.2.2.2.2.2.2.1
  have e := hC.2.2.2.2.1.2.2.2.2.2.2.1
  unfold f_143
  simp (disch := omega) only [↓reduceIte, x_lt0, k_0, if_true, if_false, ↓bd1 hC.2.2.1, (sc_of hC.1 hC.2.1).k, e, x_lt, hi]
theorem c143_f (hC : CI C s B) {a : Int32} (ha : Nix (sStm (bS B)).length a) : f_143 n 0 a C = some (.inr 0, C) := by
  have e := hC.2.2.2.2.1.2.2.2.2.2.2.1
  unfold f_143
  rcases ha with ha | ha
  · rw [if_pos ha]
  · simp only [↓reduceIte, ha.1, ha.2, k_0, if_true, if_false, ↓bd1 hC.2.2.1, (sc_of hC.1 hC.2.1).k, e]
theorem c144_t (hC : CI C s B) (hB : BigOK B) {i : Nat} (hi : PathOK (bS B) i) : f_144 n 0 (nI i) C = some (.inl (), C) := by
  have l3 := hB.1.2.2.1
  have hi : i < 1 + 2 * (sIdx (bS B)).length := hi
  have ks := sc_of hC.1 hC.2.1
  unfold f_144
  simp (disch := omega) only [↓reduceIte, x_lt0, k_0, if_true, if_false, ↓bd1 hC.2.2.1, ks.k, ↓bd1 (c87 (n := n) ks hC.2.2.2.2.1), x_lt, hi]
theorem c144_f (hC : CI C s B) {a : Int32} (ha : Nix (1 + 2 * (sIdx (bS B)).length) a) : f_144 n 0 a C = some (.inr 0, C) := by
  have ks := sc_of hC.1 hC.2.1
  unfold f_144
  rcases ha with ha | ha
  · rw [if_pos ha]
  · simp only [↓reduceIte, ha.1, ha.2, k_0, if_true, if_false, ↓bd1 hC.2.2.1, ks.k, ↓bd1 (c87 (n := n) ks hC.2.2.2.2.1)]
theorem c147_t {i N : Nat} (hN : N < 2147483648) (hi : i < N) : f_147 n (nI i) (nI N) C = some (.inl (), C) := by
  unfold f_147
  simp (disch := omega) only [↓reduceIte, x_lt0, x_lt, hi, if_true, if_false]
theorem c147_f {a : Int32} {N : Nat} (ha : Nix N a) : f_147 n a (nI N) C = some (.inr 0, C) := by
  unfold f_147
  rcases ha with ha | ha
  · rw [if_pos ha]
  · simp only [↓reduceIte, ha.1, ha.2, if_false]
theorem c148_t {i : Nat} (hi : i < 30) : f_148 n (nI i) C = some (1, C) := by
  have : ¬ 30 ≤ i := by omega
  unfold f_148
  simp (disch := omega) only [↓reduceIte, x_lt0, n_30, x_le, this, if_false]
theorem c148_f {a : Int32} (ha : Nix 30 a) : f_148 n a C = some (0, C) := by
  unfold f_148
  by_cases h0 : a < 0
  · rw [if_pos h0]
  · have := ha.le (by decide) h0
    rw [if_neg h0, n_30, if_pos this]
theorem c149_t (hC : CI C s B) (hB : BigOK B) {i : Nat} (hi : i < sCols (bS B)) : f_149 n 0 (nI i) C = some (1, C) := by
  have l4 := hB.1.2.1
  have e := hC.2.2.2.2.1.1
  have : ¬ sCols (bS B) ≤ i := by omega
  unfold f_149
  simp (disch := omega) only [↓reduceIte, x_lt0, k_0, if_true, if_false, ↓bd1 hC.2.2.1, (sc_of hC.1 hC.2.1).k, e, x_le, this]
theorem c149_f (hC : CI C s B) (hB : BigOK B) {a : Int32} (ha : Nix (sCols (bS B)) a) : f_149 n 0 a C = some (0, C) := by
  have l4 := hB.1.2.1
  have e := hC.2.2.2.2.1.1
  unfold f_149
  by_cases h0 : a < 0
  · rw [if_pos h0]
  · have := ha.le (by omega) h0
    simp only [↓reduceIte, h0, k_0, if_true, if_false, ↓bd1 hC.2.2.1, (sc_of hC.1 hC.2.1).k, e, this]
theorem c145_t {i : Nat} (hi : i < 30) : f_145 n 0 (nI i) C = some (.inl (), C) := by
  unfold f_145
  rw [bd1 (c148_t hi)]
  rfl
theorem c145_f {a : Int32} (ha : Nix 30 a) : f_145 n 0 a C = some (.inr 0, C) := by
  unfold f_145
  rw [bd1 (c148_f ha)]
  rfl
theorem c146_t (hC : CI C s B) (hB : BigOK B) {i j : Nat} (hi : i < 30) (hj : j < sCols (bS B)) : f_146 n 0 (nI i) (nI j) C = some (.inl (), C) := by
  have n01 : ¬ (1 : Int32) = 0 := by decide
  unfold f_146
  simp only [↓reduceIte, ↓bd1 (c148_t (n := n) (C := C) hi), ↓bd1 (c149_t (n := n) hC hB hj), n01, not_false_iff, if_true, if_false, k_0]
theorem c146_f (hC : CI C s B) (hB : BigOK B) {a b : Int32} (h : Nix 30 a ∨ (∃ i, i < 30 ∧ a = nI i) ∧ Nix (sCols (bS B)) b) : f_146 n 0 a b C = some (.inr 0, C) := by
  have n01 : ¬ (1 : Int32) = 0 := by decide
  unfold f_146
  rcases h with h | ⟨⟨i, hi, rfl⟩, h⟩
  · simp only [↓reduceIte, ↓bd1 (c148_f (n := n) (C := C) h), if_true]
  · simp only [↓reduceIte, ↓bd1 (c148_t (n := n) (C := C) hi), ↓bd1 (c149_f (n := n) hC hB h), n01, not_true, if_true, if_false, k_0]
/-! the reference -/
theorem m163_t {i N : Nat} (hN : N < 2147483648) (hi : i < N) : f_163 n (nI i) 0 (nI N - 1) C = some (1, C) := by
  rw [m163n hN]
  rcases ix_cs hN (nI i) with ⟨e, h | h⟩ | ⟨k, _, _, e⟩
  · rw [x_lt0 (by omega)] at h; exact h.elim
  · exact absurd ((x_lt (by omega) hN).mpr hi) h.2
  · rw [e]; rfl
theorem ixO_n {N : Nat} {a : Int32} (hN : N < 2147483648) (h : Nix N a) : ixO N a = none := by
  rcases ix_cs hN a with ⟨e, _⟩ | ⟨k, hk, rfl, _⟩
  · exact e
  · rcases h with h | h
    · rw [x_lt0 (by omega)] at h; exact h.elim
    · exact absurd ((x_lt (by omega) hN).mpr hk) h.2
theorem ixO_s {N k : Nat} (hN : N < 2147483648) (h : k < N) : ixO N (nI k) = some k := by
  unfold ixO
  rw [x_cl (by omega), if_pos ⟨by rw [x_lt0 (by omega)]; exact id, h⟩]
theorem ix_c {N : Nat} (hN : N < 2147483648) (a : Int32) : (Nix N a ∧ ixO N a = none) ∨ ∃ k, k < N ∧ a = nI k ∧ ixO N a = some k := by
  rcases ix_cs hN a with ⟨e, h⟩ | h
  · exact Or.inl ⟨h, e⟩
  · exact Or.inr h
theorem m163_f {a : Int32} {N : Nat} (hN : N < 2147483648) (ha : Nix N a) : f_163 n a 0 (nI N - 1) C = some (0, C) := by
  rw [m163n hN, ixO_n hN ha]
  rfl
theorem m162_t {w : Int32} (h0 : cI C 145 5 = 0) : f_162 n 145 1 w C = some (1, C) := by
  unfold f_162
  simp [k_145, h0]
theorem m162_f {w : Int32} (h0 : cI C 145 5 = 0) (hw : ¬ w = 0) : f_162 n 145 0 w C = some (0, uI C 145 5 w) := by
  have e : cI (uI C 145 5 w) 145 5 = w := by rw [r_I, if_pos ⟨rfl, rfl⟩]
  unfold f_162
  simp [k_145, h0, e, hw]
theorem m243 (hM : MC C h S) : f_243 n 145 C = some (nI (1 + 2 * (sIdx S).length), C) := by
  have hP := hM.1
  have hh := hM.2.2.1.1
  have e := hM.2.2.1.2.2.1
  unfold f_243
  simp (disch := omega) only [if_true, if_false, Option.bind_some, k_145, ↓bd1 (w_145_22 hP), k_160, l_160, hM.2.1, x_in, x_cl, hh, e, ↓reduceIte, n_2, n_3, n_4, n_5, n_6, n_7, n_8, n_10, n_12, n_20, n_30, n_40, n_100, n_120, n_150, n_200, n_230, n_320, n_450, n_900, x_le, x_lt, x_eq, x_lt0, x_le0, x_0le, x_0lt, x_eq0, x_eq1, x_1lt, x_le1, x_lt1, x_1le, x_eqm, x_add, x_a1, x_1a, x_a0, x_0a, x_mul, x_sub, x_s1, x_1s, x_div, x_cl0, x_cl1, x_in0, x_in1, x_ofNat]
theorem m248_t (hM : MC C h S) {i : Nat} (hi : PathOK S i) (h0 : cI C 145 5 = 0) : f_248 n 145 (nI i) C = some (1, C) := by
  have l3 := hM.2.2.2.2.2.1
  have w1 := m163_t (n := n) (C := C) (by omega) hi
  unfold f_248
  simp only [↓reduceIte, k_145, if_true, ↓bd1 (m243 (n := n) hM), ↓bd1 w1, ↓bd1 (m162_t (n := n) (w := 1) h0), or_true]
theorem m248_f (hM : MC C h S) {a : Int32} (ha : Nix (1 + 2 * (sIdx S).length) a) (h0 : cI C 145 5 = 0) : f_248 n 145 a C = some (0, uI C 145 5 1) := by
  have l3 := hM.2.2.2.2.2.1
  have w1 := m163_f (n := n) (C := C) (by omega) ha
  unfold f_248
  simp only [↓reduceIte, k_145, if_true, ↓bd1 (m243 (n := n) hM), ↓bd1 w1, ↓bd1 (m162_f (n := n) (w := 1) h0 (by decide)), true_or]
theorem m250_t (hM : MC C h S) {i : Nat} (hi : i < (sStm S).length) (h0 : cI C 145 5 = 0) : f_250 n 145 (nI i) C = some (1, C) := by
  have hP := hM.1
  have hh := hM.2.2.1.1
  have e := hM.2.2.1.2.2.2.2.2.2.2.1
  have l8 := hM.2.2.2.2.2.2.2.2.2.2.1
  have w1 := m163_t (n := n) (C := C) (by omega) hi
  unfold f_250
  simp (disch := omega) only [↓reduceIte, if_true, if_false, Option.bind_some, k_145, ↓bd1 (w_145_25 hP), k_163, l_163, hM.2.1, x_in, x_cl, hh, e]
  simp only [↓reduceIte, ↓bd1 w1, ↓bd1 (m162_t (n := n) (w := 1) h0), or_true, if_true]
theorem m250_f (hM : MC C h S) {a : Int32} (ha : Nix (sStm S).length a) (h0 : cI C 145 5 = 0) : f_250 n 145 a C = some (0, uI C 145 5 1) := by
  have hP := hM.1
  have hh := hM.2.2.1.1
  have e := hM.2.2.1.2.2.2.2.2.2.2.1
  have l8 := hM.2.2.2.2.2.2.2.2.2.2.1
  have w1 := m163_f (n := n) (C := C) (by omega) ha
  unfold f_250
  simp (disch := omega) only [↓reduceIte, if_true, if_false, Option.bind_some, k_145, ↓bd1 (w_145_25 hP), k_163, l_163, hM.2.1, x_in, x_cl, hh, e]
  simp only [↓reduceIte, ↓bd1 w1, ↓bd1 (m162_f (n := n) (w := 1) h0 (by decide)), true_or, if_true]
end
