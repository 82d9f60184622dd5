/-! Rows that lack, by both; how many rows there are. -/
def likeR (cols : Nat) (A B : Tab) (p k : Nat) : Bool := (qf (fun c => !decide (A.2 p c = B.2 k c)) cols 0).isNone
def lkS (cols : Nat) (A B : Tab) (p : Nat) (s : (Nat → Bool) × Nat) : (Nat → Bool) × Nat := if A.1 p = true then (match qf (fun k => s.1 k && likeR cols A B p k) 30 0 with
  | some k => (va_up s.1 k false, s.2)
  | none => (s.1, s.2 + 1)) else s
def sLack (cols : Nat) (A B : Tab) : Nat := (qo (lkS cols A B) 30 0 (B.1, 0)).2
theorem c84_lp {C : AmC} {r r2 p k cols : Nat} {A B : Tab} (h : RwK C r) (h2 : RwK C r2) (hA : TabC cols C r A) (hB : TabC cols C r2 B) (h4 : cols ≤ 4) (hp : p < 30) (hk : k < 30) (tp : A.1 p = true) (tk : B.1 k = true) : ∀ m j n, j + m = cols → m < n → lp_84_2 n r (nI p) r2 (nI k) (nI cols) (nI j) C = some (if (qf (fun c => !decide (A.2 p c = B.2 k c)) m j).isNone = true then .inr () else .inl (), C) := by
  intro m
  induction m with
  | zero =>
    intro j n h1 h3
    obtain ⟨n, rfl⟩ : ∃ m, n = m + 1 := ⟨n - 1, by omega⟩
    have b1 : cols ≤ j := by omega
    simp (disch := omega) only [↓reduceIte, lp_84_2, x_le, b1, if_true, qf, Option.isNone_none]
  | succ m ih =>
    intro j n h1 h3
    obtain ⟨n, rfl⟩ : ∃ m, n = m + 1 := ⟨n - 1, by omega⟩
    have b1 : ¬ cols ≤ j := by omega
    have ih1 := ih (j + 1) n (by omega) (by omega)
    have w1 : f_76 n r (nI p) (nI j) C = some (A.2 p j, C) := by rw [rg_eq h hA hp (by omega) h4]; simp [tg, tp]
    have w2 : f_76 n r2 (nI k) (nI j) C = some (B.2 k j, C) := by rw [rg_eq h2 hB hk (by omega) h4]; simp [tg, tk]
    by_cases c : A.2 p j = B.2 k j
    · have q0 : qf (fun c => !decide (A.2 p c = B.2 k c)) (m + 1) j = qf (fun c => !decide (A.2 p c = B.2 k c)) m (j + 1) := by rw [qf, if_neg (by simp [c])]
      rw [q0]
      simp (disch := omega) only [↓reduceIte, lp_84_2, x_le, b1, if_false, if_true, h.1, h2.1, ↓bd1 w1, ↓bd1 w2, c, x_a1]
      exact ih1
    · have q0 : qf (fun c => !decide (A.2 p c = B.2 k c)) (m + 1) j = some j := by rw [qf, if_pos (by simp [c])]
      rw [q0]
      simp (disch := omega) only [↓reduceIte, lp_84_2, x_le, b1, if_false, if_true, h.1, h2.1, ↓bd1 w1, ↓bd1 w2, c, Option.isNone_some, Bool.false_eq_true]
theorem c84 {n : Nat} {C : AmC} {r r2 p k cols : Nat} {A B : Tab} (h : RwK C r) (h2 : RwK C r2) (hA : TabC cols C r A) (hB : TabC cols C r2 B) (h4 : cols ≤ 4) (hp : p < 30) (hk : k < 30) (tp : A.1 p = true) (tk : B.1 k = true) (hn : 10 ≤ n) : f_84 n r (nI p) r2 (nI k) (nI cols) C = some (if likeR cols A B p k = true then 1 else 0, C) := by
  have L := c84_lp h h2 hA hB h4 hp hk tp tk cols 0 n (by omega) (by omega)
  rw [x_0] at L
  unfold f_84 likeR
  rw [L]
  cases (qf (fun c => !decide (A.2 p c = B.2 k c)) cols 0).isNone <;> rfl
/-- bits that stand for places not yet used -/
def BitsU (w : Int32) (U : Nat → Bool) : Prop := ∀ k, k < 30 → bt w k = U k
theorem c83_in {C : AmC} {r r2 p cols : Nat} {A B : Tab} {w x : Int32} {U : Nat → Bool} (h : RwK C r) (h2 : RwK C r2) (hA : TabC cols C r A) (hB : TabC cols C r2 B) (h4 : cols ≤ 4) (hp : p < 30) (tp : A.1 p = true) (hU : BitsU w U) (hUB : ∀ k, k < 30 → U k = true → B.1 k = true) : ∀ m j n, j + m = 30 → m + 15 < n → lp_83_22 n r r2 (nI cols) w x (nI p) (-1) (nI j) C = some ((r, r2, nI cols, w, x, nI p, oI (qf (fun k => U k && likeR cols A B p k) m j)), C) := by
  intro m
  induction m with
  | zero =>
    intro j n h1 h3
    obtain ⟨n, rfl⟩ : ∃ m, n = m + 1 := ⟨n - 1, by omega⟩
    have b1 : 30 ≤ j := by omega
    simp (disch := omega) only [lp_83_22, ↓reduceIte, n_2, n_3, n_4, n_5, n_6, n_7, n_8, n_10, n_12, n_20, n_30, n_40, n_100, n_120, n_150, n_200, n_230, n_320, n_450, n_900, x_le, x_lt, x_eq, x_lt0, x_le0, x_0le, x_0lt, x_eq0, x_eq1, x_1lt, x_le1, x_lt1, x_1le, x_eqm, x_add, x_a1, x_1a, x_a0, x_0a, x_mul, x_sub, x_s1, x_1s, x_div, x_cl, x_cl0, x_cl1, x_in, x_in0, x_in1, x_ofNat, b1, if_true, qf, oI_n]
  | succ m ih =>
    intro j n h1 h3
    obtain ⟨n, rfl⟩ : ∃ m, n = m + 1 := ⟨n - 1, by omega⟩
    have b1 : ¬ 30 ≤ j := by omega
    have ih1 := ih (j + 1) n (by omega) (by omega)
    have bj := hU j (by omega)
    have n01 : ¬ (0 : Int32) = 1 := by decide
    have ne1 : ¬ (1 : Int32) = 0 := by decide
    rcases bcs (U j) with u | u
    · rw [u] at bj
      have q0 : qf (fun k => U k && likeR cols A B p k) (m + 1) j = qf (fun k => U k && likeR cols A B p k) m (j + 1) := by rw [qf, if_neg (by simp [u])]
      rw [q0]
      simp (disch := omega) only [lp_83_22, ↓reduceIte, n_2, n_3, n_4, n_5, n_6, n_7, n_8, n_10, n_12, n_20, n_30, n_40, n_100, n_120, n_150, n_200, n_230, n_320, n_450, n_900, x_le, x_lt, x_eq, x_lt0, x_le0, x_0le, x_0lt, x_eq0, x_eq1, x_1lt, x_le1, x_lt1, x_1le, x_eqm, x_add, x_a1, x_1a, x_a0, x_0a, x_mul, x_sub, x_s1, x_1s, x_div, x_cl, x_cl0, x_cl1, x_in, x_in0, x_in1, x_ofNat, b1, if_false, if_true, not_true, not_false_iff, bt_us, bj, Bool.false_eq_true, n01]
      exact ih1
    · rw [u] at bj
      have w84 := c84 (n := n) h h2 hA hB h4 hp (show j < 30 by omega) tp (hUB j (by omega) u) (by omega)
      rcases bcs (likeR cols A B p j) with l | l
      · rw [l] at w84
        simp only [↓reduceIte, Bool.false_eq_true, if_false] at w84
        have q0 : qf (fun k => U k && likeR cols A B p k) (m + 1) j = qf (fun k => U k && likeR cols A B p k) m (j + 1) := by rw [qf, if_neg (by simp [l])]
        rw [q0]
        simp (disch := omega) only [lp_83_22, ↓reduceIte, n_2, n_3, n_4, n_5, n_6, n_7, n_8, n_10, n_12, n_20, n_30, n_40, n_100, n_120, n_150, n_200, n_230, n_320, n_450, n_900, x_le, x_lt, x_eq, x_lt0, x_le0, x_0le, x_0lt, x_eq0, x_eq1, x_1lt, x_le1, x_lt1, x_1le, x_eqm, x_add, x_a1, x_1a, x_a0, x_0a, x_mul, x_sub, x_s1, x_1s, x_div, x_cl, x_cl0, x_cl1, x_in, x_in0, x_in1, x_ofNat, b1, if_false, if_true, not_true, bt_us, bj, h.1, ↓bd1 w84]
        exact ih1
      · rw [l] at w84
        simp only [↓reduceIte, if_true] at w84
        have q0 : qf (fun k => U k && likeR cols A B p k) (m + 1) j = some j := by rw [qf, if_pos (by simp [l, u])]
        rw [q0]
        simp (disch := omega) only [lp_83_22, ↓reduceIte, n_2, n_3, n_4, n_5, n_6, n_7, n_8, n_10, n_12, n_20, n_30, n_40, n_100, n_120, n_150, n_200, n_230, n_320, n_450, n_900, x_le, x_lt, x_eq, x_lt0, x_le0, x_0le, x_0lt, x_eq0, x_eq1, x_1lt, x_le1, x_lt1, x_1le, x_eqm, x_add, x_a1, x_1a, x_a0, x_0a, x_mul, x_sub, x_s1, x_1s, x_div, x_cl, x_cl0, x_cl1, x_in, x_in0, x_in1, x_ofNat, b1, if_false, if_true, not_true, bt_us, bj, h.1, ↓bd1 w84, ne1]
        obtain ⟨n, rfl⟩ : ∃ m, n = m + 1 := ⟨n - 1, by omega⟩
        have em : ¬ nI j = (-1 : Int32) := by rw [x_eqm (by omega)]; exact id
        by_cases y : 30 ≤ j + 1
        · simp (disch := omega) only [lp_83_22, ↓reduceIte, n_2, n_3, n_4, n_5, n_6, n_7, n_8, n_10, n_12, n_20, n_30, n_40, n_100, n_120, n_150, n_200, n_230, n_320, n_450, n_900, x_le, x_lt, x_eq, x_lt0, x_le0, x_0le, x_0lt, x_eq0, x_eq1, x_1lt, x_le1, x_lt1, x_1le, x_eqm, x_add, x_a1, x_1a, x_a0, x_0a, x_mul, x_sub, x_s1, x_1s, x_div, x_cl, x_cl0, x_cl1, x_in, x_in0, x_in1, x_ofNat, y, if_true, oI_s]
        · simp (disch := omega) only [lp_83_22, ↓reduceIte, n_2, n_3, n_4, n_5, n_6, n_7, n_8, n_10, n_12, n_20, n_30, n_40, n_100, n_120, n_150, n_200, n_230, n_320, n_450, n_900, x_le, x_lt, x_eq, x_lt0, x_le0, x_0le, x_0lt, x_eq0, x_eq1, x_1lt, x_le1, x_lt1, x_1le, x_eqm, x_add, x_a1, x_1a, x_a0, x_0a, x_mul, x_sub, x_s1, x_1s, x_div, x_cl, x_cl0, x_cl1, x_in, x_in0, x_in1, x_ofNat, y, if_false, if_true, em, not_false_iff, oI_s]
theorem c83_lp {C : AmC} {r r2 cols : Nat} {A B : Tab} (h : RwK C r) (h2 : RwK C r2) (hA : TabC cols C r A) (hB : TabC cols C r2 B) (h4 : cols ≤ 4) : ∀ m j n w (s : (Nat → Bool) × Nat), j + m = 30 → m + 60 < n → BitsU w s.1 → (∀ k, k < 30 → s.1 k = true → B.1 k = true) → lp_83_7 n r r2 (nI cols) w (nI s.2) (nI j) C = some (nI (qo (lkS cols A B) m j s).2, C) := by
  intro m
  induction m with
  | zero =>
    intro j n w s h1 h3 _ _
    obtain ⟨n, rfl⟩ : ∃ m, n = m + 1 := ⟨n - 1, by omega⟩
    have b1 : 30 ≤ j := by omega
    simp (disch := omega) only [lp_83_7, ↓reduceIte, n_2, n_3, n_4, n_5, n_6, n_7, n_8, n_10, n_12, n_20, n_30, n_40, n_100, n_120, n_150, n_200, n_230, n_320, n_450, n_900, x_le, x_lt, x_eq, x_lt0, x_le0, x_0le, x_0lt, x_eq0, x_eq1, x_1lt, x_le1, x_lt1, x_1le, x_eqm, x_add, x_a1, x_1a, x_a0, x_0a, x_mul, x_sub, x_s1, x_1s, x_div, x_cl, x_cl0, x_cl1, x_in, x_in0, x_in1, x_ofNat, b1, if_true, qo]
  | succ m ih =>
    intro j n w s h1 h3 hU hUB
    obtain ⟨n, rfl⟩ : ∃ m, n = m + 1 := ⟨n - 1, by omega⟩
    have b1 : ¬ 30 ≤ j := by omega
    have hb := hA.1 j (by omega)
    have ne1 : ¬ (1 : Int32) = 0 := by decide
    unfold qo
    rcases bcs (A.1 j) with tj | tj
    · rw [tj] at hb
      have e : lkS cols A B j s = s := by simp [lkS, tj]
      rw [e]
      simp (disch := omega) only [lp_83_7, ↓reduceIte, n_2, n_3, n_4, n_5, n_6, n_7, n_8, n_10, n_12, n_20, n_30, n_40, n_100, n_120, n_150, n_200, n_230, n_320, n_450, n_900, x_le, x_lt, x_eq, x_lt0, x_le0, x_0le, x_0lt, x_eq0, x_eq1, x_1lt, x_le1, x_lt1, x_1le, x_eqm, x_add, x_a1, x_1a, x_a0, x_0a, x_mul, x_sub, x_s1, x_1s, x_div, x_cl, x_cl0, x_cl1, x_in, x_in0, x_in1, x_ofNat, b1, if_false, if_true, h.1, bt_us, hb, Bool.false_eq_true, not_true]
      exact ih (j + 1) n w s (by omega) (by omega) hU hUB
    · rw [tj] at hb
      have L := c83_in (x := nI s.2) h h2 hA hB h4 (show j < 30 by omega) tj hU hUB 30 0 n rfl (by omega)
      rw [x_0] at L
      cases hq : qf (fun k => s.1 k && likeR cols A B j k) 30 0 with
      | none =>
        rw [hq] at L
        have e : lkS cols A B j s = (s.1, s.2 + 1) := by simp [lkS, tj, hq]
        rw [e]
        simp (disch := omega) only [lp_83_7, ↓reduceIte, n_2, n_3, n_4, n_5, n_6, n_7, n_8, n_10, n_12, n_20, n_30, n_40, n_100, n_120, n_150, n_200, n_230, n_320, n_450, n_900, x_le, x_lt, x_eq, x_lt0, x_le0, x_0le, x_0lt, x_eq0, x_eq1, x_1lt, x_le1, x_lt1, x_1le, x_eqm, x_add, x_a1, x_1a, x_a0, x_0a, x_mul, x_sub, x_s1, x_1s, x_div, x_cl, x_cl0, x_cl1, x_in, x_in0, x_in1, x_ofNat, b1, if_false, if_true, h.1, bt_us, hb, ne1, not_true, not_false_iff, L, oI_n, Option.bind_some]
        exact ih (j + 1) n w (s.1, s.2 + 1) (by omega) (by omega) hU hUB
      | some k =>
        rw [hq] at L
        obtain ⟨_, k30, _⟩ := qf_some hq
        have em : ¬ nI k = (-1 : Int32) := by rw [x_eqm (by omega)]; exact id
        have e : lkS cols A B j s = (va_up s.1 k false, s.2) := by simp [lkS, tj, hq]
        rw [e]
        simp (disch := omega) only [lp_83_7, ↓reduceIte, n_2, n_3, n_4, n_5, n_6, n_7, n_8, n_10, n_12, n_20, n_30, n_40, n_100, n_120, n_150, n_200, n_230, n_320, n_450, n_900, x_le, x_lt, x_eq, x_lt0, x_le0, x_0le, x_0lt, x_eq0, x_eq1, x_1lt, x_le1, x_lt1, x_1le, x_eqm, x_add, x_a1, x_1a, x_a0, x_0a, x_mul, x_sub, x_s1, x_1s, x_div, x_cl, x_cl0, x_cl1, x_in, x_in0, x_in1, x_ofNat, b1, if_false, if_true, h.1, bt_us, hb, ne1, not_true, not_false_iff, L, oI_s, em, Option.bind_some]
        refine ih (j + 1) n _ (va_up s.1 k false, s.2) (by omega) (by omega) (fun q hq9 => ?_) (fun q hq9 hq8 => ?_)
        · rw [b_clr _ (by omega) q (by omega)]
          unfold va_up
          by_cases eq : q = k
          · simp [eq]
          · simp only [↓reduceIte, eq, if_false]; exact hU q hq9
        · unfold va_up at hq8
          by_cases eq : q = k
          · simp [eq] at hq8
          · simp only [↓reduceIte, eq, if_false] at hq8
            exact hUB q hq9 hq8
theorem c83 {n : Nat} {C : AmC} {r r2 cols : Nat} {A B : Tab} (h : RwK C r) (h2 : RwK C r2) (hA : TabC cols C r A) (hB : TabC cols C r2 B) (h4 : cols ≤ 4) (hn : 100 ≤ n) : f_83 n r r2 (nI cols) C = some (nI (sLack cols A B), C) := by
  have L := c83_lp h h2 hA hB h4 30 0 n (cI C r2 1) (B.1, 0) rfl (by omega) (fun k hk => hB.1 k hk) (fun k _ z => z)
  unfold f_83 sLack
  simp only [↓reduceIte, h2.1, if_true]
  simp only [x_0] at L
  rw [L]
  rfl
/-! the reference -/
theorem m253_lp {C : AmC} {a b p k cols : Nat} {A B : Tab} (ka : isK a 12 = true) (kb : isK b 12 = true) (la : aLen a = 150) (lb : aLen b = 150) (hA : TabM 30 cols C a 0 A) (hB : TabM 30 cols C b 0 B) (zA : TabZ 30 cols C a 0 A) (zB : TabZ 30 cols C b 0 B) (h4 : cols ≤ 4) (hp : p < 30) (hk : k < 30) (tp : A.1 p = true) (tk : B.1 k = true) : ∀ m j n, j + m = 4 → m < n → lp_253_2 n a (nI p) b (nI k) (nI j) C = some (if (qf (fun c => !decide (A.2 p c = B.2 k c)) (cols - j) j).isNone = true then .inr () else .inl (), C) := by
  intro m
  induction m with
  | zero =>
    intro j n h1 h3
    obtain ⟨n, rfl⟩ : ∃ m, n = m + 1 := ⟨n - 1, by omega⟩
    have b1 : 4 ≤ j := by omega
    have e : cols - j = 0 := by omega
    rw [e]
    simp (disch := omega) only [lp_253_2, ↓reduceIte, n_2, n_3, n_4, n_5, n_6, n_7, n_8, n_10, n_12, n_20, n_30, n_40, n_100, n_120, n_150, n_200, n_230, n_320, n_450, n_900, x_le, x_lt, x_eq, x_lt0, x_le0, x_0le, x_0lt, x_eq0, x_eq1, x_1lt, x_le1, x_lt1, x_1le, x_eqm, x_add, x_a1, x_1a, x_a0, x_0a, x_mul, x_sub, x_s1, x_1s, x_div, x_cl, x_cl0, x_cl1, x_in, x_in0, x_in1, x_ofNat, b1, if_true, qf, Option.isNone_none]
  | succ m ih =>
    intro j n h1 h3
    obtain ⟨n, rfl⟩ : ∃ m, n = m + 1 := ⟨n - 1, by omega⟩
    have b1 : ¬ 4 ≤ j := by omega
    have ih1 := ih (j + 1) n (by omega) (by omega)
    have i1 : 30 + 4 * p + j < 150 := by omega
    have i2 : 30 + 4 * k + j < 150 := by omega
    by_cases hc : j < cols
    · have e1 := hA.2 p hp tp j hc
      have e2 := hB.2 k hk tk j hc
      rw [Nat.zero_add] at e1 e2
      have e : cols - j = (cols - (j + 1)) + 1 := by omega
      rw [e]
      by_cases c : A.2 p j = B.2 k j
      · have q0 : qf (fun c => !decide (A.2 p c = B.2 k c)) (cols - (j + 1) + 1) j = qf (fun c => !decide (A.2 p c = B.2 k c)) (cols - (j + 1)) (j + 1) := by rw [qf, if_neg (by simp [c])]
        rw [q0]
        simp (disch := omega) only [lp_253_2, ↓reduceIte, n_2, n_3, n_4, n_5, n_6, n_7, n_8, n_10, n_12, n_20, n_30, n_40, n_100, n_120, n_150, n_200, n_230, n_320, n_450, n_900, x_le, x_lt, x_eq, x_lt0, x_le0, x_0le, x_0lt, x_eq0, x_eq1, x_1lt, x_le1, x_lt1, x_1le, x_eqm, x_add, x_a1, x_1a, x_a0, x_0a, x_mul, x_sub, x_s1, x_1s, x_div, x_cl, x_cl0, x_cl1, x_in, x_in0, x_in1, x_ofNat, b1, if_false, if_true, ka, kb, la, lb, i1, i2, e1, e2, c]
        exact ih1
      · have q0 : qf (fun c => !decide (A.2 p c = B.2 k c)) (cols - (j + 1) + 1) j = some j := by rw [qf, if_pos (by simp [c])]
        rw [q0]
        simp (disch := omega) only [lp_253_2, ↓reduceIte, n_2, n_3, n_4, n_5, n_6, n_7, n_8, n_10, n_12, n_20, n_30, n_40, n_100, n_120, n_150, n_200, n_230, n_320, n_450, n_900, x_le, x_lt, x_eq, x_lt0, x_le0, x_0le, x_0lt, x_eq0, x_eq1, x_1lt, x_le1, x_lt1, x_1le, x_eqm, x_add, x_a1, x_1a, x_a0, x_0a, x_mul, x_sub, x_s1, x_1s, x_div, x_cl, x_cl0, x_cl1, x_in, x_in0, x_in1, x_ofNat, b1, if_false, if_true, ka, kb, la, lb, i1, i2, e1, e2, c, Option.isNone_some, Bool.false_eq_true]
    · have e1 := zA p hp tp j (by omega) (by omega)
      have e2 := zB k hk tk j (by omega) (by omega)
      rw [Nat.zero_add] at e1 e2
      have e : cols - j = 0 := by omega
      have e' : cols - (j + 1) = 0 := by omega
      rw [e'] at ih1
      rw [e]
      simp (disch := omega) only [lp_253_2, ↓reduceIte, n_2, n_3, n_4, n_5, n_6, n_7, n_8, n_10, n_12, n_20, n_30, n_40, n_100, n_120, n_150, n_200, n_230, n_320, n_450, n_900, x_le, x_lt, x_eq, x_lt0, x_le0, x_0le, x_0lt, x_eq0, x_eq1, x_1lt, x_le1, x_lt1, x_1le, x_eqm, x_add, x_a1, x_1a, x_a0, x_0a, x_mul, x_sub, x_s1, x_1s, x_div, x_cl, x_cl0, x_cl1, x_in, x_in0, x_in1, x_ofNat, b1, if_false, if_true, ka, kb, la, lb, i1, i2, e1, e2]
      exact ih1
theorem m253 {n : Nat} {C : AmC} {a b p k cols : Nat} {A B : Tab} (ka : isK a 12 = true) (kb : isK b 12 = true) (la : aLen a = 150) (lb : aLen b = 150) (hA : TabM 30 cols C a 0 A) (hB : TabM 30 cols C b 0 B) (zA : TabZ 30 cols C a 0 A) (zB : TabZ 30 cols C b 0 B) (h4 : cols ≤ 4) (hp : p < 30) (hk : k < 30) (tp : A.1 p = true) (tk : B.1 k = true) (hn : 10 ≤ n) : f_253 n a (nI p) b (nI k) C = some (if likeR cols A B p k = true then 1 else 0, C) := by
  have L := m253_lp ka kb la lb hA hB zA zB h4 hp hk tp tk 4 0 n rfl (by omega)
  rw [x_0, Nat.sub_zero] at L
  unfold f_253 likeR
  rw [L]
  cases (qf (fun c => !decide (A.2 p c = B.2 k c)) cols 0).isNone <;> rfl
/-- places already taken, as the reference has them -/
def TkM (C : AmC) (B : Tab) (U : Nat → Bool) : Prop := ∀ k, k < 30 → cI C 192 k = 0 ∨ cI C 192 k = 1
theorem m254_z {a b : Nat} {x : Int32} : ∀ k p n C, p + k = 30 → k < n → PInv C → Rt (lp_254_4 n 145 a b x (nI p) C) (fun z C' => z = (145, a, b, x) ∧ cP C' = cP C ∧ cJ C' = cJ C ∧ (∀ q, ¬ q = 192 → cI C' q = cI C q) ∧ (∀ q, q < p → cI C' 192 q = cI C 192 q) ∧ ∀ q, p ≤ q → q < 30 → cI C' 192 q = 0) := by
  intro k
  induction k with
  | zero =>
    intro p n C h1 hn hP
    obtain ⟨n, rfl⟩ : ∃ m, n = m + 1 := ⟨n - 1, by omega⟩
    have b1 : 30 ≤ p := by omega
    simp (disch := omega) only [lp_254_4, ↓reduceIte, n_2, n_3, n_4, n_5, n_6, n_7, n_8, n_10, n_12, n_20, n_30, n_40, n_100, n_120, n_150, n_200, n_230, n_320, n_450, n_900, x_le, x_lt, x_eq, x_lt0, x_le0, x_0le, x_0lt, x_eq0, x_eq1, x_1lt, x_le1, x_lt1, x_1le, x_eqm, x_add, x_a1, x_1a, x_a0, x_0a, x_mul, x_sub, x_s1, x_1s, x_div, x_cl, x_cl0, x_cl1, x_in, x_in0, x_in1, x_ofNat, b1, if_true]
    exact rt_ret ⟨rfl, rfl, rfl, fun _ _ => rfl, fun _ _ => rfl, fun q z1 z2 => by omega⟩
  | succ k ih =>
    intro p n C h1 hn hP
    obtain ⟨n, rfl⟩ : ∃ m, n = m + 1 := ⟨n - 1, by omega⟩
    have b1 : ¬ 30 ≤ p := by omega
    have b2 : p < 30 := by omega
    simp (disch := omega) only [lp_254_4, if_true, if_false, Option.bind_some, k_145, ↓reduceIte, n_2, n_3, n_4, n_5, n_6, n_7, n_8, n_10, n_12, n_20, n_30, n_40, n_100, n_120, n_150, n_200, n_230, n_320, n_450, n_900, x_le, x_lt, x_eq, x_lt0, x_le0, x_0le, x_0lt, x_eq0, x_eq1, x_1lt, x_le1, x_lt1, x_1le, x_eqm, x_add, x_a1, x_1a, x_a0, x_0a, x_mul, x_sub, x_s1, x_1s, x_div, x_cl, x_cl0, x_cl1, x_in, x_in0, x_in1, x_ofNat, b1, ↓bd1 (w_145_82 hP), k_192, l_192, b2]
    refine rt_mono (ih (p + 1) n _ (by omega) (by omega) (hP.of rfl)) (fun z C' H => ⟨H.1, H.2.1, H.2.2.1, fun b hb => by rw [H.2.2.2.1 b hb, r_In hb], fun q hq => ?_, fun q z1 z2 => ?_⟩)
    · rw [H.2.2.2.2.1 q (by omega), r_I, if_neg (by omega)]
    · by_cases e : q = p
      · subst e
        rw [H.2.2.2.2.1 q (by omega), r_I, if_pos ⟨rfl, rfl⟩]
      · exact H.2.2.2.2.2 q (by omega) z2
/-- not used yet: there, and not taken -/
def UsM (C : AmC) (B : Tab) (U : Nat → Bool) : Prop := ∀ k, k < 30 → (U k = true ↔ B.1 k = true ∧ cI C 192 k = 0)
theorem m254_in {C : AmC} {a b p cols : Nat} {A B : Tab} {x : Int32} {U : Nat → Bool} (hP : PInv C) (ka : isK a 12 = true) (kb : isK b 12 = true) (la : aLen a = 150) (lb : aLen b = 150) (hA : TabM 30 cols C a 0 A) (hB : TabM 30 cols C b 0 B) (zA : TabZ 30 cols C a 0 A) (zB : TabZ 30 cols C b 0 B) (h4 : cols ≤ 4) (hp : p < 30) (tp : A.1 p = true) (hU : UsM C B U) : ∀ m j n, j + m = 30 → m + 15 < n → lp_254_26 n 145 a b x (nI p) (nI j) C = some ((145, a, b, x, nI p, match qf (fun k => U k && likeR cols A B p k) m j with
    | some k => nI k
    | none => nI 30), C) := by
  intro m
  induction m with
  | zero =>
    intro j n h1 h3
    obtain ⟨n, rfl⟩ : ∃ m, n = m + 1 := ⟨n - 1, by omega⟩
    have b1 : 30 ≤ j := by omega
    have e : j = 30 := by omega
    simp (disch := omega) only [lp_254_26, ↓reduceIte, n_2, n_3, n_4, n_5, n_6, n_7, n_8, n_10, n_12, n_20, n_30, n_40, n_100, n_120, n_150, n_200, n_230, n_320, n_450, n_900, x_le, x_lt, x_eq, x_lt0, x_le0, x_0le, x_0lt, x_eq0, x_eq1, x_1lt, x_le1, x_lt1, x_1le, x_eqm, x_add, x_a1, x_1a, x_a0, x_0a, x_mul, x_sub, x_s1, x_1s, x_div, x_cl, x_cl0, x_cl1, x_in, x_in0, x_in1, x_ofNat, b1, if_true, qf]
    rw [e]
  | succ m ih =>
    intro j n h1 h3
    obtain ⟨n, rfl⟩ : ∃ m, n = m + 1 := ⟨n - 1, by omega⟩
    have b1 : ¬ 30 ≤ j := by omega
    have ih1 := ih (j + 1) n (by omega) (by omega)
    have j150 : j < 150 := by omega
    have j30 : j < 30 := by omega
    have vj := hB.1 j j30
    rw [Nat.zero_add] at vj
    have ne1 : ¬ (1 : Int32) = 0 := by decide
    rcases bcs (B.1 j) with tj | tj
    · rw [tj] at vj
      simp only [↓reduceIte, Bool.false_eq_true, if_false] at vj
      have uf : U j = false := by
        rcases bcs (U j) with z | z
        · exact z
        · have := ((hU j j30).mp z).1; rw [tj] at this; cases this
      have q0 : qf (fun k => U k && likeR cols A B p k) (m + 1) j = qf (fun k => U k && likeR cols A B p k) m (j + 1) := by rw [qf, if_neg (by simp [uf])]
      rw [q0]
      simp (disch := omega) only [lp_254_26, ↓reduceIte, n_2, n_3, n_4, n_5, n_6, n_7, n_8, n_10, n_12, n_20, n_30, n_40, n_100, n_120, n_150, n_200, n_230, n_320, n_450, n_900, x_le, x_lt, x_eq, x_lt0, x_le0, x_0le, x_0lt, x_eq0, x_eq1, x_1lt, x_le1, x_lt1, x_1le, x_eqm, x_add, x_a1, x_1a, x_a0, x_0a, x_mul, x_sub, x_s1, x_1s, x_div, x_cl, x_cl0, x_cl1, x_in, x_in0, x_in1, x_ofNat, b1, if_false, if_true, kb, lb, j150, vj]
      exact ih1
    · rw [tj] at vj
      simp only [↓reduceIte, if_true] at vj
      by_cases tk : cI C 192 j = 0
      · have uf : U j = true := (hU j j30).mpr ⟨tj, tk⟩
        have w := m253 (n := n) ka kb la lb hA hB zA zB h4 hp j30 tp tj (by omega)
        rcases bcs (likeR cols A B p j) with l | l
        · rw [l] at w
          simp only [↓reduceIte, Bool.false_eq_true, if_false] at w
          have q0 : qf (fun k => U k && likeR cols A B p k) (m + 1) j = qf (fun k => U k && likeR cols A B p k) m (j + 1) := by rw [qf, if_neg (by simp [l])]
          rw [q0]
          simp (disch := omega) only [lp_254_26, if_true, if_false, Option.bind_some, k_145, ↓reduceIte, n_2, n_3, n_4, n_5, n_6, n_7, n_8, n_10, n_12, n_20, n_30, n_40, n_100, n_120, n_150, n_200, n_230, n_320, n_450, n_900, x_le, x_lt, x_eq, x_lt0, x_le0, x_0le, x_0lt, x_eq0, x_eq1, x_1lt, x_le1, x_lt1, x_1le, x_eqm, x_add, x_a1, x_1a, x_a0, x_0a, x_mul, x_sub, x_s1, x_1s, x_div, x_cl, x_cl0, x_cl1, x_in, x_in0, x_in1, x_ofNat, b1, kb, lb, j150, j30, vj, ne1, ↓bd1 (w_145_82 hP), k_192, l_192, tk, not_true, ↓bd1 w]
          exact ih1
        · rw [l] at w
          simp only [↓reduceIte, if_true] at w
          have q0 : qf (fun k => U k && likeR cols A B p k) (m + 1) j = some j := by rw [qf, if_pos (by simp [l, uf])]
          rw [q0]
          simp (disch := omega) only [lp_254_26, if_true, if_false, Option.bind_some, k_145, ↓reduceIte, n_2, n_3, n_4, n_5, n_6, n_7, n_8, n_10, n_12, n_20, n_30, n_40, n_100, n_120, n_150, n_200, n_230, n_320, n_450, n_900, x_le, x_lt, x_eq, x_lt0, x_le0, x_0le, x_0lt, x_eq0, x_eq1, x_1lt, x_le1, x_lt1, x_1le, x_eqm, x_add, x_a1, x_1a, x_a0, x_0a, x_mul, x_sub, x_s1, x_1s, x_div, x_cl, x_cl0, x_cl1, x_in, x_in0, x_in1, x_ofNat, b1, kb, lb, j150, j30, vj, ne1, ↓bd1 (w_145_82 hP), k_192, l_192, tk, not_true, not_false_iff, ↓bd1 w]
      · have uf : U j = false := by
          rcases bcs (U j) with z | z
          · exact z
          · exact absurd ((hU j j30).mp z).2 tk
        have q0 : qf (fun k => U k && likeR cols A B p k) (m + 1) j = qf (fun k => U k && likeR cols A B p k) m (j + 1) := by rw [qf, if_neg (by simp [uf])]
        rw [q0]
        simp (disch := omega) only [lp_254_26, if_true, if_false, Option.bind_some, k_145, ↓reduceIte, n_2, n_3, n_4, n_5, n_6, n_7, n_8, n_10, n_12, n_20, n_30, n_40, n_100, n_120, n_150, n_200, n_230, n_320, n_450, n_900, x_le, x_lt, x_eq, x_lt0, x_le0, x_0le, x_0lt, x_eq0, x_eq1, x_1lt, x_le1, x_lt1, x_1le, x_eqm, x_add, x_a1, x_1a, x_a0, x_0a, x_mul, x_sub, x_s1, x_1s, x_div, x_cl, x_cl0, x_cl1, x_in, x_in0, x_in1, x_ofNat, b1, kb, lb, j150, j30, vj, ne1, ↓bd1 (w_145_82 hP), k_192, l_192, tk, not_false_iff]
        exact ih1
theorem m254_lp {a b cols : Nat} {A B : Tab} (ka : isK a 12 = true) (kb : isK b 12 = true) (la : aLen a = 150) (lb : aLen b = 150) (h4 : cols ≤ 4) (na : ¬ a = 192) (nb : ¬ b = 192) : ∀ m j n C (s : (Nat → Bool) × Nat), j + m = 30 → m + 60 < n → PInv C → TabM 30 cols C a 0 A → TabM 30 cols C b 0 B → TabZ 30 cols C a 0 A → TabZ 30 cols C b 0 B → UsM C B s.1 → Rt (lp_254_16 n 145 a b (nI s.2) (nI j) C) (fun z C' => z = nI (qo (lkS cols A B) m j s).2 ∧ cP C' = cP C ∧ cJ C' = cJ C ∧ ∀ q, ¬ q = 192 → cI C' q = cI C q) := by
  intro m
  induction m with
  | zero =>
    intro j n C s h1 h3 _ _ _ _ _ _
    obtain ⟨n, rfl⟩ : ∃ m, n = m + 1 := ⟨n - 1, by omega⟩
    have b1 : 30 ≤ j := by omega
    simp (disch := omega) only [lp_254_16, ↓reduceIte, n_2, n_3, n_4, n_5, n_6, n_7, n_8, n_10, n_12, n_20, n_30, n_40, n_100, n_120, n_150, n_200, n_230, n_320, n_450, n_900, x_le, x_lt, x_eq, x_lt0, x_le0, x_0le, x_0lt, x_eq0, x_eq1, x_1lt, x_le1, x_lt1, x_1le, x_eqm, x_add, x_a1, x_1a, x_a0, x_0a, x_mul, x_sub, x_s1, x_1s, x_div, x_cl, x_cl0, x_cl1, x_in, x_in0, x_in1, x_ofNat, b1, if_true, qo]
    exact rt_ret ⟨rfl, rfl, rfl, fun _ _ => rfl⟩
  | succ m ih =>
    intro j n C s h1 h3 hP hA hB zA zB hU
    obtain ⟨n, rfl⟩ : ∃ m, n = m + 1 := ⟨n - 1, by omega⟩
    have b1 : ¬ 30 ≤ j := by omega
    have j150 : j < 150 := by omega
    have va := hA.1 j (by omega)
    rw [Nat.zero_add] at va
    have ne1 : ¬ (1 : Int32) = 0 := by decide
    unfold qo
    rcases bcs (A.1 j) with tj | tj
    · rw [tj] at va
      simp only [↓reduceIte, Bool.false_eq_true, if_false] at va
      have e : lkS cols A B j s = s := by simp [lkS, tj]
      rw [e]
      simp (disch := omega) only [lp_254_16, ↓reduceIte, n_2, n_3, n_4, n_5, n_6, n_7, n_8, n_10, n_12, n_20, n_30, n_40, n_100, n_120, n_150, n_200, n_230, n_320, n_450, n_900, x_le, x_lt, x_eq, x_lt0, x_le0, x_0le, x_0lt, x_eq0, x_eq1, x_1lt, x_le1, x_lt1, x_1le, x_eqm, x_add, x_a1, x_1a, x_a0, x_0a, x_mul, x_sub, x_s1, x_1s, x_div, x_cl, x_cl0, x_cl1, x_in, x_in0, x_in1, x_ofNat, b1, if_false, if_true, ka, la, j150, va, not_true]
      exact ih (j + 1) n C s (by omega) (by omega) hP hA hB zA zB hU
    · rw [tj] at va
      simp only [↓reduceIte, if_true] at va
      have L := m254_in (x := nI s.2) hP ka kb la lb hA hB zA zB h4 (show j < 30 by omega) tj hU 30 0 n rfl (by omega)
      rw [x_0] at L
      cases hq : qf (fun k => s.1 k && likeR cols A B j k) 30 0 with
      | none =>
        rw [hq] at L
        have e : lkS cols A B j s = (s.1, s.2 + 1) := by simp [lkS, tj, hq]
        rw [e]
        have z30 : (30 : Nat) ≤ 30 := Nat.le_refl _
        simp (disch := omega) only [lp_254_16, ↓reduceIte, n_2, n_3, n_4, n_5, n_6, n_7, n_8, n_10, n_12, n_20, n_30, n_40, n_100, n_120, n_150, n_200, n_230, n_320, n_450, n_900, x_le, x_lt, x_eq, x_lt0, x_le0, x_0le, x_0lt, x_eq0, x_eq1, x_1lt, x_le1, x_lt1, x_1le, x_eqm, x_add, x_a1, x_1a, x_a0, x_0a, x_mul, x_sub, x_s1, x_1s, x_div, x_cl, x_cl0, x_cl1, x_in, x_in0, x_in1, x_ofNat, b1, if_false, if_true, ka, la, j150, va, ne1, not_false_iff, L, Option.bind_some, z30]
        exact ih (j + 1) n C (s.1, s.2 + 1) (by omega) (by omega) hP hA hB zA zB hU
      | some k =>
        rw [hq] at L
        obtain ⟨_, k30, kk, _⟩ := qf_some hq
        have k30' : k < 30 := by omega
        have nk : ¬ 30 ≤ k := by omega
        have e : lkS cols A B j s = (va_up s.1 k false, s.2) := by simp [lkS, tj, hq]
        rw [e]
        simp (disch := omega) only [lp_254_16, if_true, if_false, Option.bind_some, k_145, ↓reduceIte, n_2, n_3, n_4, n_5, n_6, n_7, n_8, n_10, n_12, n_20, n_30, n_40, n_100, n_120, n_150, n_200, n_230, n_320, n_450, n_900, x_le, x_lt, x_eq, x_lt0, x_le0, x_0le, x_0lt, x_eq0, x_eq1, x_1lt, x_le1, x_lt1, x_1le, x_eqm, x_add, x_a1, x_1a, x_a0, x_0a, x_mul, x_sub, x_s1, x_1s, x_div, x_cl, x_cl0, x_cl1, x_in, x_in0, x_in1, x_ofNat, b1, ka, la, j150, va, ne1, not_false_iff, L, nk, ↓bd1 (w_145_82 hP), k_192, l_192, k30']
        have ea : cI (uI C 192 k 1) a = cI C a := r_In na
        have eb : cI (uI C 192 k 1) b = cI C b := r_In nb
        refine rt_mono (ih (j + 1) n (uI C 192 k 1) (va_up s.1 k false, s.2) (by omega) (by omega) (hP.of rfl) (hA.of ea) (hB.of eb) (by unfold TabZ; rw [ea]; exact zA) (by unfold TabZ; rw [eb]; exact zB) (fun q hq9 => ?_)) (fun z C' H => ⟨H.1, H.2.1, H.2.2.1, fun q hq9 => by rw [H.2.2.2 q hq9, r_In hq9]⟩)
        rw [r_I]
        unfold va_up
        by_cases eq : q = k
        · simp [eq, ne1]
        · simp only [↓reduceIte, eq, if_false, and_false]
          exact hU q hq9
theorem m254 {n : Nat} {C : AmC} {a b cols : Nat} {A B : Tab} (hP : PInv C) (ka : isK a 12 = true) (kb : isK b 12 = true) (la : aLen a = 150) (lb : aLen b = 150) (hA : TabM 30 cols C a 0 A) (hB : TabM 30 cols C b 0 B) (zA : TabZ 30 cols C a 0 A) (zB : TabZ 30 cols C b 0 B) (h4 : cols ≤ 4) (na : ¬ a = 192) (nb : ¬ b = 192) (hn : 200 ≤ n) : Rt (f_254 n 145 a b C) (fun z C' => z = nI (sLack cols A B) ∧ cP C' = cP C ∧ cJ C' = cJ C ∧ ∀ q, ¬ q = 192 → cI C' q = cI C q) := by
  have Z := m254_z (a := a) (b := b) (x := 0) 30 0 n C rfl (by omega) hP
  rw [x_0] at Z
  unfold f_254
  refine rt_bind (rt_mono Z (fun z C1 H => ?_))
  obtain ⟨ez, H1, H2, H3, _, H5⟩ := H
  subst ez
  dsimp only
  have ea : cI C1 a = cI C a := H3 a na
  have eb : cI C1 b = cI C b := H3 b nb
  have L := m254_lp (A := A) (B := B) ka kb la lb h4 na nb 30 0 n C1 (B.1, 0) rfl (by omega) (hP.of H1) (hA.of ea) (hB.of eb) (by unfold TabZ; rw [ea]; exact zA) (by unfold TabZ; rw [eb]; exact zB) (fun k hk => by rw [H5 k (by omega) hk]; simp)
  simp only [x_0] at L
  refine rt_bind (rt_mono L (fun z C2 G => ?_))
  exact rt_ret ⟨G.1, G.2.1.trans H1, G.2.2.1.trans H2, fun q hq => by rw [G.2.2.2 q hq, H3 q hq]⟩
theorem m244_lp {C : AmC} {f cols : Nat} {T : Tab} (hP : PInv C) (hf : f + 150 ≤ 12500) (hT : TabM 30 cols C 146 f T) : ∀ m j n x, j + m = 30 → m < n → lp_244_4 n 145 (nI f) (nI x) (nI j) C = some (nI (qo (fun p a => if T.1 p = true then a + 1 else a) m j x), C) := by
  intro m
  induction m with
  | zero =>
    intro j n x h1 h3
    obtain ⟨n, rfl⟩ : ∃ m, n = m + 1 := ⟨n - 1, by omega⟩
    have b1 : 30 ≤ j := by omega
    simp (disch := omega) only [lp_244_4, ↓reduceIte, n_2, n_3, n_4, n_5, n_6, n_7, n_8, n_10, n_12, n_20, n_30, n_40, n_100, n_120, n_150, n_200, n_230, n_320, n_450, n_900, x_le, x_lt, x_eq, x_lt0, x_le0, x_0le, x_0lt, x_eq0, x_eq1, x_1lt, x_le1, x_lt1, x_1le, x_eqm, x_add, x_a1, x_1a, x_a0, x_0a, x_mul, x_sub, x_s1, x_1s, x_div, x_cl, x_cl0, x_cl1, x_in, x_in0, x_in1, x_ofNat, b1, if_true, qo]
  | succ m ih =>
    intro j n x h1 h3
    obtain ⟨n, rfl⟩ : ∃ m, n = m + 1 := ⟨n - 1, by omega⟩
    have b1 : ¬ 30 ≤ j := by omega
    have i1 : f + j < 12500 := by omega
    have v := hT.1 j (by omega)
    unfold qo
    rcases bcs (T.1 j) with tj | tj
    · rw [tj] at v
      simp only [↓reduceIte, Bool.false_eq_true, if_false] at v
      simp (disch := omega) only [lp_244_4, if_true, if_false, Option.bind_some, k_145, ↓reduceIte, n_2, n_3, n_4, n_5, n_6, n_7, n_8, n_10, n_12, n_20, n_30, n_40, n_100, n_120, n_150, n_200, n_230, n_320, n_450, n_900, x_le, x_lt, x_eq, x_lt0, x_le0, x_0le, x_0lt, x_eq0, x_eq1, x_1lt, x_le1, x_lt1, x_1le, x_eqm, x_add, x_a1, x_1a, x_a0, x_0a, x_mul, x_sub, x_s1, x_1s, x_div, x_cl, x_cl0, x_cl1, x_in, x_in0, x_in1, x_ofNat, b1, ↓bd1 (w_145_0 hP), k_146, l_146, i1, v, tj, Bool.false_eq_true]
      exact ih (j + 1) n x (by omega) (by omega)
    · rw [tj] at v
      simp only [↓reduceIte, if_true] at v
      simp (disch := omega) only [lp_244_4, if_true, if_false, Option.bind_some, k_145, ↓reduceIte, n_2, n_3, n_4, n_5, n_6, n_7, n_8, n_10, n_12, n_20, n_30, n_40, n_100, n_120, n_150, n_200, n_230, n_320, n_450, n_900, x_le, x_lt, x_eq, x_lt0, x_le0, x_0le, x_0lt, x_eq0, x_eq1, x_1lt, x_le1, x_lt1, x_1le, x_eqm, x_add, x_a1, x_1a, x_a0, x_0a, x_mul, x_sub, x_s1, x_1s, x_div, x_cl, x_cl0, x_cl1, x_in, x_in0, x_in1, x_ofNat, b1, ↓bd1 (w_145_0 hP), k_146, l_146, i1, v, tj]
      exact ih (j + 1) n (x + 1) (by omega) (by omega)
def sSize (T : Tab) : Nat := qo (fun p a => if T.1 p = true then a + 1 else a) 30 0 0
theorem m244 {n : Nat} {C : AmC} {f cols : Nat} {T : Tab} (hP : PInv C) (hf : f + 150 ≤ 12500) (hT : TabM 30 cols C 146 f T) (hn : 40 ≤ n) : f_244 n 145 (nI f) C = some (nI (sSize T), C) := by
  have L := m244_lp hP hf hT 30 0 n 0 rfl (by omega)
  rw [x_0] at L
  unfold f_244
  rw [L]
  rfl
