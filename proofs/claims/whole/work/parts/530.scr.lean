/-! What the methods of the class's script tell. -/
theorem rg_o {n : Nat} {C : AmC} {r c cols : Nat} {T : Tab} {pl : Option Nat} (h : RwK C r) (hT : TabC cols C r T) (hp : ∀ p, pl = some p → p < 30) (hc : c < cols) (h4 : cols ≤ 4) : f_76 n r (oI pl) (nI c) C = some (tgo T pl c, C) := by
  cases pl with
  | none => exact rg_m
  | some p => exact rg_eq h hT (hp p rfl) hc h4
def whS (kd c : Nat) (T : Tab) (p : Nat) (a : Int32 × Bool) : Int32 × Bool := if T.1 p = true then (if kd = 6 then a.1 + 1 else if kd = 3 then a.1 + T.2 p c else if a.2 = true then T.2 p c else if kd = 4 then (if T.2 p c < a.1 then T.2 p c else a.1) else (if a.1 < T.2 p c then T.2 p c else a.1), false) else a
theorem sWhole_eq (kd c : Nat) (T : Tab) : sWhole kd c T = qo (whS kd c T) 30 0 (0, true) := rfl
theorem i_nlt (x y : Int32) : (¬ x < y) ↔ y ≤ x := Int32.not_lt
theorem i_nle (x y : Int32) : (¬ x ≤ y) ↔ y < x := Int32.not_le
theorem ite_le {α : Type} (x y : Int32) (a b : α) : (if x ≤ y then a else b) = if y < x then b else a := by
  by_cases h : x ≤ y
  · rw [if_pos h, if_neg (Int32.not_lt.mpr h)]
  · rw [if_neg h, if_pos (Int32.not_le.mp h)]
theorem rw_lp {C : AmC} {r c cols kd : Nat} {T : Tab} (h : RwK C r) (hT : TabC cols C r T) (hc : c < cols) (h4 : cols ≤ 4) (hk : kd = 3 ∨ kd = 4 ∨ kd = 5 ∨ kd = 6) : ∀ k j n (a : Int32 × Bool), j + k = 30 → k < n → lp_82_13 n r (kC kd) (nI c) a.1 (if a.2 = true then 1 else 0) (nI j) C = some ((qo (whS kd c T) k j a).1, C) := by
  intro k
  induction k with
  | zero =>
    intro j n a h1 h2
    obtain ⟨n, rfl⟩ : ∃ m, n = m + 1 := ⟨n - 1, by omega⟩
    have h3 : 30 ≤ j := by omega
    simp (disch := omega) only [lp_82_13, ↓reduceIte, n_2, n_3, n_4, n_5, n_6, n_7, n_8, n_10, n_12, n_20, n_30, n_40, n_100, n_120, n_150, n_200, n_230, n_320, n_450, n_900, x_le, x_lt, x_eq, x_lt0, x_le0, x_0le, x_0lt, x_eq0, x_eq1, x_1lt, x_le1, x_lt1, x_1le, x_eqm, x_add, x_a1, x_1a, x_a0, x_0a, x_mul, x_sub, x_s1, x_1s, x_div, x_cl, x_cl0, x_cl1, x_in, x_in0, x_in1, x_ofNat, h3, if_true, qo]
  | succ k ih =>
    intro j n a h1 h2
    obtain ⟨n, rfl⟩ : ∃ m, n = m + 1 := ⟨n - 1, by omega⟩
    have h3 : ¬ 30 ≤ j := by omega
    have h5 : j * 4 + c < 120 := by omega
    have ih1 := fun a => ih (j + 1) n a (by omega) (by omega)
    have hb := hT.1 j (by omega)
    simp (disch := omega) only [lp_82_13, ↓reduceIte, n_2, n_3, n_4, n_5, n_6, n_7, n_8, n_10, n_12, n_20, n_30, n_40, n_100, n_120, n_150, n_200, n_230, n_320, n_450, n_900, x_le, x_lt, x_eq, x_lt0, x_le0, x_0le, x_0lt, x_eq0, x_eq1, x_1lt, x_le1, x_lt1, x_1le, x_eqm, x_add, x_a1, x_1a, x_a0, x_0a, x_mul, x_sub, x_s1, x_1s, x_div, x_cl, x_cl0, x_cl1, x_in, x_in0, x_in1, x_ofNat, h3, if_false, h.1, if_true, bt_us, ite10, qo, h.2.1, h.2.2.1, h.2.2.2, Option.bind_some, h5, hb]
    obtain ⟨x, b⟩ := a
    cases ht : T.1 j with
    | false =>
      have e : whS kd c T j (x, b) = (x, b) := by simp [whS, ht]
      rw [e]
      simpa using ih1 (x, b)
    | true =>
      have hv := hT.2.2 j (by omega) ht c hc
      rw [hv]
      have ihf := fun y => ih1 (y, false)
      simp only [↓reduceIte, Bool.false_eq_true, if_false] at ihf
      have A1 : ¬ (211 : Int32) = 214 := by decide
      have A2 : ¬ (212 : Int32) = 214 := by decide
      have A3 : ¬ (212 : Int32) = 211 := by decide
      have A4 : ¬ (213 : Int32) = 214 := by decide
      have A5 : ¬ (213 : Int32) = 211 := by decide
      have A6 : ¬ (213 : Int32) = 212 := by decide
      have A7 : ¬ (214 : Int32) = 211 := by decide
      have K3 : kC 3 = 211 := rfl
      have K4 : kC 4 = 212 := rfl
      have K5 : kC 5 = 213 := rfl
      have K6 : kC 6 = 214 := rfl
      have N1 : ¬ (3 : Nat) = 6 := by decide
      have N2 : ¬ (4 : Nat) = 6 := by decide
      have N3 : ¬ (4 : Nat) = 3 := by decide
      have N4 : ¬ (5 : Nat) = 6 := by decide
      have N5 : ¬ (5 : Nat) = 3 := by decide
      have N6 : ¬ (5 : Nat) = 4 := by decide
      have Z : ¬ (1 : Int32) = 0 := by decide
      rcases hk with rfl | rfl | rfl | rfl
      · simp only [K3] at ihf ⊢
        simp only [↓reduceIte, A1, not_true, not_false_iff, if_true, if_false, whS, ht, N1, Bool.true_eq_false]
        exact ihf _
      · simp only [K4] at ihf ⊢
        simp only [↓reduceIte, A2, A3, not_true, not_false_iff, if_true, if_false, whS, ht, N2, N3, Bool.true_eq_false, ite_le]
        cases b with
        | true => simpa only [↓reduceIte, Bool.true_eq_false, not_false_iff, if_true] using ihf _
        | false =>
          simp only [↓reduceIte, Bool.false_eq_true, not_true, if_false]
          by_cases g : T.2 j c < x
          · simpa only [↓reduceIte, g, if_true] using ihf _
          · simpa only [↓reduceIte, g, if_false] using ihf _
      · simp only [K5] at ihf ⊢
        simp only [↓reduceIte, A4, A5, A6, not_true, not_false_iff, if_true, if_false, whS, ht, N4, N5, N6, Bool.true_eq_false, ite_le]
        cases b with
        | true => simpa only [↓reduceIte, Bool.true_eq_false, not_false_iff, if_true] using ihf _
        | false =>
          simp only [↓reduceIte, Bool.false_eq_true, not_true, if_false]
          by_cases g : x < T.2 j c
          · simpa only [↓reduceIte, g, if_true] using ihf _
          · simpa only [↓reduceIte, g, if_false] using ihf _
      · simp only [K6] at ihf ⊢
        simp only [↓reduceIte, not_true, not_false_iff, if_true, if_false, whS, ht, Bool.true_eq_false]
        exact ihf _
theorem rw_eq {n : Nat} {C : AmC} {r c cols kd : Nat} {T : Tab} (h : RwK C r) (hT : TabC cols C r T) (hc : c < cols) (h4 : cols ≤ 4) (hk : kd = 3 ∨ kd = 4 ∨ kd = 5 ∨ kd = 6) (hn : 31 ≤ n) : f_82 n r (kC kd) (nI c) C = some ((sWhole kd c T).1, C) := by
  unfold f_82
  have h1 := rw_lp h hT hc h4 hk 30 0 n (0, true) rfl (by omega)
  simp only [↓reduceIte, if_true, x_0] at h1
  have h2 : ¬ c < 0 := by omega
  have h3 : c < 4 := by omega
  simp (disch := omega) only [↓reduceIte, n_2, n_3, n_4, n_5, n_6, n_7, n_8, n_10, n_12, n_20, n_30, n_40, n_100, n_120, n_150, n_200, n_230, n_320, n_450, n_900, x_le, x_lt, x_eq, x_lt0, x_le0, x_0le, x_0lt, x_eq0, x_eq1, x_1lt, x_le1, x_lt1, x_1le, x_eqm, x_add, x_a1, x_1a, x_a0, x_0a, x_mul, x_sub, x_s1, x_1s, x_div, x_cl, x_cl0, x_cl1, x_in, x_in0, x_in1, x_ofNat, h2, h3, if_false, if_true, h1, Option.bind_some, sWhole_eq]
theorem c87 {n : Nat} {C : AmC} {s : Nat} {S : Scr} (h : ScK C s) (hS : ScrC C s S) : f_87 n s C = some (nI (1 + 2 * (sIdx S).length), C) := by
  unfold f_87
  simp only [h.k, if_true, hS.2.1, ↓reduceIte, n_2, n_3, n_4, n_5, n_6, n_7, n_8, n_10, n_12, n_20, n_30, n_40, n_100, n_120, n_150, n_200, n_230, n_320, n_450, n_900, x_le, x_lt, x_eq, x_lt0, x_le0, x_0le, x_0lt, x_eq0, x_eq1, x_1lt, x_le1, x_lt1, x_1le, x_eqm, x_add, x_a1, x_1a, x_a0, x_0a, x_mul, x_sub, x_s1, x_1s, x_div, x_cl, x_cl0, x_cl1, x_in, x_in0, x_in1, x_ofNat]
theorem c88 {n : Nat} {C : AmC} {path : Nat} (hp : path < 2147483648) : f_88 n (nI path) C = some (if path = 0 then -1 else nI ((path - 1) / 2), C) := by
  unfold f_88
  simp (disch := omega) only [↓reduceIte, n_2, n_3, n_4, n_5, n_6, n_7, n_8, n_10, n_12, n_20, n_30, n_40, n_100, n_120, n_150, n_200, n_230, n_320, n_450, n_900, x_le, x_lt, x_eq, x_lt0, x_le0, x_0le, x_0lt, x_eq0, x_eq1, x_1lt, x_le1, x_lt1, x_1le, x_eqm, x_add, x_a1, x_1a, x_a0, x_0a, x_mul, x_sub, x_s1, x_1s, x_div, x_cl, x_cl0, x_cl1, x_in, x_in0, x_in1, x_ofNat]
  by_cases h : path = 0
  · subst h; simp
  · rw [if_neg (by omega), if_neg h]
theorem c89 {n : Nat} {C : AmC} {path : Nat} (hp : path < 2147483648) : f_89 n (nI path) C = some (if pDown path = true then 1 else 0, C) := by
  unfold f_89
  have e : (nI path - nI path / (2 : Int32) * (2 : Int32)) = nI (path % 2) := pk_rem hp (by decide) (by decide)
  rw [e]
  simp (disch := omega) only [↓reduceIte, n_2, n_3, n_4, n_5, n_6, n_7, n_8, n_10, n_12, n_20, n_30, n_40, n_100, n_120, n_150, n_200, n_230, n_320, n_450, n_900, x_le, x_lt, x_eq, x_lt0, x_le0, x_0le, x_0lt, x_eq0, x_eq1, x_1lt, x_le1, x_lt1, x_1le, x_eqm, x_add, x_a1, x_1a, x_a0, x_0a, x_mul, x_sub, x_s1, x_1s, x_div, x_cl, x_cl0, x_cl1, x_in, x_in0, x_in1, x_ofNat]
  unfold pDown
  by_cases h : path = 0
  · subst h; simp
  · by_cases h2 : path % 2 = 0
    · have h3 : 0 < path := by omega
      simp [h, h2, h3]
    · have h3 : 0 < path := by omega
      simp [h, h2]
theorem c93 {n : Nat} {C : AmC} {s i : Nat} {S : Scr} (h : ScK C s) (hS : ScrC C s S) (hO : ScrOK S) (hi : i < 2147483648) : f_93 n s (nI i) C = some (if i < (sIdx S).length then nI (ix1 S i) else -1, C) := by
  unfold f_93
  have hl := hO.2.2.1
  simp (disch := omega) only [↓reduceIte, n_2, n_3, n_4, n_5, n_6, n_7, n_8, n_10, n_12, n_20, n_30, n_40, n_100, n_120, n_150, n_200, n_230, n_320, n_450, n_900, x_le, x_lt, x_eq, x_lt0, x_le0, x_0le, x_0lt, x_eq0, x_eq1, x_1lt, x_le1, x_lt1, x_1le, x_eqm, x_add, x_a1, x_1a, x_a0, x_0a, x_mul, x_sub, x_s1, x_1s, x_div, x_cl, x_cl0, x_cl1, x_in, x_in0, x_in1, x_ofNat, Option.bind_some, Option.bind_none, h.k, ↓bd1 h.p3, h.k3, h.l3, hS.2.1, if_true]
  by_cases h1 : i < (sIdx S).length
  · rw [if_neg (by omega), if_neg (by omega), if_pos (by omega), if_pos h1, (hS.2.2.1 i h1).1]
  · rw [if_pos (by omega), if_neg h1]
theorem c93m {n : Nat} {C : AmC} {s : Nat} : f_93 n s (-1) C = some (-1, C) := by
  unfold f_93
  rw [if_pos (by decide)]
theorem c94 {n : Nat} {C : AmC} {s i : Nat} {S : Scr} (h : ScK C s) (hS : ScrC C s S) (hO : ScrOK S) (hi : i < 2147483648) : f_94 n s (nI i) C = some (if i < (sIdx S).length then oI (ix2 S i) else -1, C) := by
  unfold f_94
  have hl := hO.2.2.1
  simp (disch := omega) only [↓reduceIte, n_2, n_3, n_4, n_5, n_6, n_7, n_8, n_10, n_12, n_20, n_30, n_40, n_100, n_120, n_150, n_200, n_230, n_320, n_450, n_900, x_le, x_lt, x_eq, x_lt0, x_le0, x_0le, x_0lt, x_eq0, x_eq1, x_1lt, x_le1, x_lt1, x_1le, x_eqm, x_add, x_a1, x_1a, x_a0, x_0a, x_mul, x_sub, x_s1, x_1s, x_div, x_cl, x_cl0, x_cl1, x_in, x_in0, x_in1, x_ofNat, Option.bind_some, Option.bind_none, h.k, ↓bd1 h.p4, h.k4, h.l4, hS.2.1, if_true]
  by_cases h1 : i < (sIdx S).length
  · rw [if_neg (by omega), if_neg (by omega), if_pos (by omega), if_pos h1, (hS.2.2.1 i h1).2]
  · rw [if_pos (by omega), if_neg h1]
theorem c94m {n : Nat} {C : AmC} {s : Nat} : f_94 n s (-1) C = some (-1, C) := by
  unfold f_94
  rw [if_pos (by decide)]
theorem c95 {n : Nat} {C : AmC} {s c : Nat} {S : Scr} {o : Option Nat} (h : ScK C s) (hS : ScrC C s S) (hO : ScrOK S) (ho : ∀ q, o = some q → q < (sOth S).length) (hc : c < sCols S) : f_95 n s (oI o) (nI c) C = some (oto S o c, C) := by
  cases o with
  | none =>
    unfold f_95
    rw [if_pos (by decide)]
    rfl
  | some q =>
    have hl := hO.2.2.2.2.2.1
    have h4 := hO.2.1
    have hq := ho q rfl
    unfold f_95
    simp only [oI_n, oI_s]
    simp (disch := omega) only [↓reduceIte, n_2, n_3, n_4, n_5, n_6, n_7, n_8, n_10, n_12, n_20, n_30, n_40, n_100, n_120, n_150, n_200, n_230, n_320, n_450, n_900, x_le, x_lt, x_eq, x_lt0, x_le0, x_0le, x_0lt, x_eq0, x_eq1, x_1lt, x_le1, x_lt1, x_1le, x_eqm, x_add, x_a1, x_1a, x_a0, x_0a, x_mul, x_sub, x_s1, x_1s, x_div, x_cl, x_cl0, x_cl1, x_in, x_in0, x_in1, x_ofNat, Option.bind_some, Option.bind_none, h.k, ↓bd1 h.p7, h.k5, h.l5, if_true]
    rw [if_neg (by omega), if_pos (by omega), if_pos (by omega), hS.2.2.2.2.2.1 q hq c hc]
    rfl
theorem c90 {n : Nat} {C : AmC} {s i : Nat} (h : ScK C s) (hi : i < 8) : f_90 n s (nI i) C = some (s + 16 + 3 * i, C) := by
  unfold f_90
  simp (disch := omega) only [↓reduceIte, n_2, n_3, n_4, n_5, n_6, n_7, n_8, n_10, n_12, n_20, n_30, n_40, n_100, n_120, n_150, n_200, n_230, n_320, n_450, n_900, x_le, x_lt, x_eq, x_lt0, x_le0, x_0le, x_0lt, x_eq0, x_eq1, x_1lt, x_le1, x_lt1, x_1le, x_eqm, x_add, x_a1, x_1a, x_a0, x_0a, x_mul, x_sub, x_s1, x_1s, x_div, x_cl, x_cl0, x_cl1, x_in, x_in0, x_in1, x_ofNat, Option.bind_some, Option.bind_none, h.k, ↓bd1 h.p9, h.k6, h.l6, if_true, h.st i hi]
  rw [if_neg (by omega), if_pos hi]
theorem kC_ne : ∀ k, k ≤ 6 → (kC k = 128 ↔ k = 0) ∧ (kC k = 130 ↔ k = 1) ∧ (kC k = 202 ↔ k = 2) := by decide
theorem c102_lp {C : AmC} {s r k : Nat} {S : Scr} {T : Tab} {pl o : Option Nat} (h : ScK C s) (hS : ScrC C s S) (hO : ScrOK S) (hr : RwK C r) (hT : TabC (sCols S) C r T) (hpl : ∀ p, pl = some p → p < 30) (ho : ∀ q, o = some q → q < (sOth S).length) (hk : k < 450) : ∀ (l : Val) (j n : Nat) (x : Int32), (∀ i (g : i < l.length), AtC C s (j + i) l[i]) → (∀ a ∈ l, AtomOK (sCols S) a) → l.length + 40 < n → cI C (s + 13) (k + 1) = nI (j + l.length) → j + l.length ≤ 450 → lp_102_18 n s (nI k) r (oI pl) (oI o) x (nI j) C = some (l.foldl (aStep S T pl o) x, C) := by
  intro l
  induction l with
  | nil =>
    intro j n x _ _ hn he hj
    obtain ⟨n, rfl⟩ : ∃ m, n = m + 1 := ⟨n - 1, by omega⟩
    simp only [List.length_nil, Nat.add_zero] at he hj
    have h1 : k + 1 < 451 := by omega
    simp (disch := omega) only [lp_102_18, h.k, if_true, ↓bd1 h.p16, h.k13, h.l13, Option.bind_some, ↓reduceIte, n_2, n_3, n_4, n_5, n_6, n_7, n_8, n_10, n_12, n_20, n_30, n_40, n_100, n_120, n_150, n_200, n_230, n_320, n_450, n_900, x_le, x_lt, x_eq, x_lt0, x_le0, x_0le, x_0lt, x_eq0, x_eq1, x_1lt, x_le1, x_lt1, x_1le, x_eqm, x_add, x_a1, x_1a, x_a0, x_0a, x_mul, x_sub, x_s1, x_1s, x_div, x_cl, x_cl0, x_cl1, x_in, x_in0, x_in1, x_ofNat, he, h1, Nat.le_refl, List.foldl_nil]
  | cons a l ih =>
    intro j n x hat hok hn he hj
    obtain ⟨n, rfl⟩ : ∃ m, n = m + 1 := ⟨n - 1, by omega⟩
    simp only [List.length_cons] at he hj hn
    have h1 : k + 1 < 451 := by omega
    have h2 : ¬ j + (l.length + 1) ≤ j := by omega
    have h3 : ¬ 450 ≤ j := by omega
    have h4 : j < 450 := by omega
    have ha := hat 0 (by simp)
    simp only [Nat.add_zero, List.getElem_cons_zero] at ha
    obtain ⟨ha1, ha2, ha3⟩ := ha
    obtain ⟨hsg, hkd⟩ := hok a List.mem_cons_self
    have ihx := fun y => ih (j + 1) n y (fun i g => by
      have := hat (i + 1) (by simpa using g)
      simpa [Nat.add_assoc, Nat.add_comm 1 i] using this) (fun b hb => hok b (List.mem_cons_of_mem _ hb)) (by omega) (by rw [he]; congr 1; omega) (by omega)
    have hcol := hO.2.1
    simp (maxSteps := 3000000) (disch := omega) only [lp_102_18, h.k, if_true, ↓bd1 h.p16, h.k13, h.l13, Option.bind_some, ↓reduceIte, n_2, n_3, n_4, n_5, n_6, n_7, n_8, n_10, n_12, n_20, n_30, n_40, n_100, n_120, n_150, n_200, n_230, n_320, n_450, n_900, x_le, x_lt, x_eq, x_lt0, x_le0, x_0le, x_0lt, x_eq0, x_eq1, x_1lt, x_le1, x_lt1, x_1le, x_eqm, x_add, x_a1, x_1a, x_a0, x_0a, x_mul, x_sub, x_s1, x_1s, x_div, x_cl, x_cl0, x_cl1, x_in, x_in0, x_in1, x_ofNat, he, h1, h2, h3, h4, if_false, List.foldl_cons, ↓bd1 h.p13, h.k11, h.l11, ↓bd1 h.p14, h.k12, h.l12, ↓bd1 h.p12, h.k10, h.l10, ha1, ha2, ha3]
    have fin : ∀ y, y = aVal S T pl o a → (if ¬ a.1 = 42 then (if ¬ a.1 = 45 then lp_102_18 n s (nI k) r (oI pl) (oI o) (x + y) (nI (j + 1)) C else lp_102_18 n s (nI k) r (oI pl) (oI o) (x + -y) (nI (j + 1)) C) else lp_102_18 n s (nI k) r (oI pl) (oI o) (x * y) (nI (j + 1)) C) = some (l.foldl (aStep S T pl o) (aStep S T pl o x a), C) := by
      intro y hy
      subst hy
      unfold aStep
      by_cases e1 : a.1 = 42
      · rw [if_neg (by simpa using e1), if_pos e1]; exact ihx _
      · rw [if_pos e1, if_neg e1]
        by_cases e2 : a.1 = 45
        · rw [if_neg (by simpa using e2), if_pos e2, ← Int32.sub_eq_add_neg]; exact ihx _
        · rw [if_pos e2, if_neg e2]; exact ihx _
    rcases hkd with ⟨e0, _⟩ | ⟨e1, e2, c, hc, ec⟩
    · rw [e0] at ha2 ⊢
      simp only [↓reduceIte, kC, if_true]
      exact fin a.2.2 (by simp [aVal, e0])
    · obtain ⟨g0, g1, g2⟩ := kC_ne a.2.1 e2
      have n0 : ¬ a.2.1 = 0 := by omega
      simp only [↓reduceIte, g0, n0, if_false, g1, g2]
      have ecl : a.2.2.toNatClampNeg = c := by rw [ec]; exact nI_clamp (by omega)
      by_cases q1 : a.2.1 = 1
      · simp only [↓reduceIte, q1, if_true, hr.1, ec, rg_o hr hT hpl hc hcol, Option.bind_some]
        simp (disch := omega) only [↓reduceIte, ↓bd1 h.p12, h.k10, h.l10, Option.bind_some, if_true, x_in, h4, ha1, x_cl]
        refine fin _ ?_
        simp [aVal, q1, ecl]
      · by_cases q2 : a.2.1 = 2
        · have q3 : ¬ (2 : Nat) = 1 := by decide
          simp only [↓reduceIte, q2, q3, if_true, if_false, ec, c95 h hS hO ho hc, Option.bind_some]
          simp (disch := omega) only [↓reduceIte, ↓bd1 h.p12, h.k10, h.l10, Option.bind_some, if_true, x_in, h4, ha1, x_cl]
          refine fin _ ?_
          simp [aVal, q2, ecl]
        · have hk4 : a.2.1 = 3 ∨ a.2.1 = 4 ∨ a.2.1 = 5 ∨ a.2.1 = 6 := by omega
          simp (disch := omega) only [↓reduceIte, q1, q2, if_false, if_true, hr.1, ec, rw_eq hr hT hc hcol hk4, Option.bind_some, ↓bd1 h.p13, ↓bd1 h.p14, h.k11, h.k12, h.l11, h.l12, x_in, x_cl, h4, ha2, ha3]
          simp (disch := omega) only [↓reduceIte, ↓bd1 h.p12, h.k10, h.l10, Option.bind_some, if_true, x_in, h4, ha1, x_cl]
          refine fin _ ?_
          simp only [↓reduceIte, aVal, n0, q1, q2, if_false, ecl]
theorem c102 {n : Nat} {C : AmC} {s r k : Nat} {S : Scr} {T : Tab} {pl o : Option Nat} {v : Val} {b1 b2 : Bool} (h : ScK C s) (hS : ScrC C s S) (hO : ScrOK S) (hr : RwK C r) (hT : TabC (sCols S) C r T) (hpl : ∀ p, pl = some p → p < 30) (ho : ∀ q, o = some q → q < (sOth S).length) (hV : VC C s k v) (hv : ValOK (sCols S) b1 b2 v) (hn : 600 ≤ n) : f_102 n s (nI k) r (oI pl) (oI o) C = some (sVal S T pl o v, C) := by
  obtain ⟨vc, a, e1, h1, h2, e2, e3, h3, h4⟩ := hV
  have h5 := hv.2.1
  have L := c102_lp h hS hO hr hT hpl ho (k := k) (by omega) v a n 0 h4 (fun q hq => (hv.2.2 q hq).1) (by omega) e3 h3
  unfold f_102
  simp (disch := omega) only [↓reduceIte, n_2, n_3, n_4, n_5, n_6, n_7, n_8, n_10, n_12, n_20, n_30, n_40, n_100, n_120, n_150, n_200, n_230, n_320, n_450, n_900, x_le, x_lt, x_eq, x_lt0, x_le0, x_0le, x_0lt, x_eq0, x_eq1, x_1lt, x_le1, x_lt1, x_1le, x_eqm, x_add, x_a1, x_1a, x_a0, x_0a, x_mul, x_sub, x_s1, x_1s, x_div, x_cl, x_cl0, x_cl1, x_in, x_in0, x_in1, x_ofNat, Option.bind_some, Option.bind_none, h.k, ↓bd1 h.p16, h.k13, h.l13, if_true, e1, e2]
  rw [if_neg (by omega), if_pos (by omega), if_pos (by omega)]
  rw [L]
  rfl
theorem VC.lt {C : AmC} {s k : Nat} {v : Val} (h : VC C s k v) : k < 450 := by
  obtain ⟨vc, a, e1, h1, h2, _⟩ := h
  omega
theorem c103_lp {C : AmC} {s r : Nat} {S : Scr} {T : Tab} {pl : Option Nat} (h : ScK C s) (hS : ScrC C s S) (hO : ScrOK S) (hr : RwK C r) (hT : TabC (sCols S) C r T) (hpl : ∀ p, pl = some p → p < 30) : ∀ (l : List Tst) (j n : Nat), (∀ i (g : i < l.length), ∃ k, cI C (s + 14) (j + i) = l[i].2.1 ∧ cI C (s + 15) (j + i) = nI k ∧ VC C s k l[i].1 ∧ VC C s (k + 1) l[i].2.2) → (∀ q ∈ l, ValOK (sCols S) false true q.1 ∧ (q.2.1 = 60 ∨ q.2.1 = 61 ∨ q.2.1 = 62) ∧ ValOK (sCols S) false true q.2.2) → l.length + 610 < n → j + l.length ≤ 450 → lp_103_13 n s r (oI pl) (nI (j + l.length)) (nI j) C = some (if l.all (fun q => sSo (sVal S T pl none q.1) q.2.1 (sVal S T pl none q.2.2)) = true then .inr () else .inl (), C) := by
  intro l
  induction l with
  | nil =>
    intro j n _ _ hn hj
    obtain ⟨n, rfl⟩ : ∃ m, n = m + 1 := ⟨n - 1, by omega⟩
    simp only [List.length_nil, Nat.add_zero] at hj
    simp (disch := omega) only [↓reduceIte, lp_103_13, List.length_nil, Nat.add_zero, x_le, Nat.le_refl, if_true, List.all_nil]
  | cons q l ih =>
    intro j n hat hok hn hj
    obtain ⟨n, rfl⟩ : ∃ m, n = m + 1 := ⟨n - 1, by omega⟩
    simp only [List.length_cons] at hj hn
    have h2 : ¬ j + (l.length + 1) ≤ j := by omega
    have h4 : j < 450 := by omega
    have ha := hat 0 (by simp)
    simp only [Nat.add_zero, List.getElem_cons_zero] at ha
    obtain ⟨k, ha1, ha2, ha3, ha4⟩ := ha
    obtain ⟨o1, o2, o3⟩ := hok q List.mem_cons_self
    have ihx := ih (j + 1) n (fun i g => by
      have := hat (i + 1) (by simpa using g)
      simpa [Nat.add_assoc, Nat.add_comm 1 i] using this) (fun b hb => hok b (List.mem_cons_of_mem _ hb)) (by omega) (by omega)
    rw [show j + 1 + l.length = j + (l.length + 1) from by omega] at ihx
    have w1 := c102 (o := none) h hS hO hr hT hpl (fun _ z => by cases z) ha3 o1 (n := n) (by omega)
    have w2 := c102 (o := none) h hS hO hr hT hpl (fun _ z => by cases z) ha4 o3 (n := n) (by omega)
    simp only [oI_n, oI_s] at w1 w2
    have hk := ha3.lt
    simp (maxSteps := 3000000) (disch := omega) only [lp_103_13, List.length_cons, h.k, if_true, ↓bd1 h.p19, h.k15, h.l15, ↓bd1 h.p18, h.k14, h.l14, Option.bind_some, ↓reduceIte, n_2, n_3, n_4, n_5, n_6, n_7, n_8, n_10, n_12, n_20, n_30, n_40, n_100, n_120, n_150, n_200, n_230, n_320, n_450, n_900, x_le, x_lt, x_eq, x_lt0, x_le0, x_0le, x_0lt, x_eq0, x_eq1, x_1lt, x_le1, x_lt1, x_1le, x_eqm, x_add, x_a1, x_1a, x_a0, x_0a, x_mul, x_sub, x_s1, x_1s, x_div, x_cl, x_cl0, x_cl1, x_in, x_in0, x_in1, x_ofNat, h2, h4, if_false, ha1, ha2, w1, w2, List.all_cons, ihx, Bool.and_eq_true]
    generalize (l.all fun q => sSo (sVal S T pl none q.1) q.2.1 (sVal S T pl none q.2.2)) = B
    simp only [sSo]
    generalize sVal S T pl none q.1 = x
    generalize sVal S T pl none q.2.2 = y
    rcases o2 with e | e | e <;> simp only [e]
    · by_cases g : x < y
      · cases B <;> simp [g, Int32.not_le.mpr g]
      · cases B <;> simp [g, Int32.not_lt.mp g]
    · by_cases g : x = y
      · cases B <;> simp [g]
      · cases B <;> simp [g]
    · by_cases g : y < x
      · cases B <;> simp [g, Int32.not_le.mpr g]
      · cases B <;> simp [g, Int32.not_lt.mp g]
theorem c103 {n : Nat} {C : AmC} {s r a : Nat} {S : Scr} {T : Tab} {pl : Option Nat} {t : Stm} (h : ScK C s) (hS : ScrC C s S) (hO : ScrOK S) (hr : RwK C r) (hT : TabC (sCols S) C r T) (hpl : ∀ p, pl = some p → p < 30) (hk : isK a 8 = true) (ht : StmC (sCols S) C s a t) (hto : StmOK (sCols S) t) (hn : 1200 ≤ n) : f_103 n s a r (oI pl) C = some (if sHolds S T pl t = true then 1 else 0, C) := by
  obtain ⟨f, e1, e2, h1, h2⟩ := ht.2.2.2.2.2.2.2
  have L := c103_lp h hS hO hr hT hpl (tTst t) f n h2 hto.2.2.2.2.2.2.2.2.2.2.2.2.2 (by omega) h1
  unfold f_103
  have g1 : ¬ 450 < f + (tTst t).length := by omega
  have g2 : ¬ f < 0 := by omega
  simp (disch := omega) only [hk, if_true, e1, e2, x_add, ↓reduceIte, n_2, n_3, n_4, n_5, n_6, n_7, n_8, n_10, n_12, n_20, n_30, n_40, n_100, n_120, n_150, n_200, n_230, n_320, n_450, n_900, x_le, x_lt, x_eq, x_lt0, x_le0, x_0le, x_0lt, x_eq0, x_eq1, x_1lt, x_le1, x_lt1, x_1le, x_eqm, x_a1, x_1a, x_a0, x_0a, x_mul, x_sub, x_s1, x_1s, x_div, x_cl, x_cl0, x_cl1, x_in, x_in0, x_in1, x_ofNat, g1, if_false, g2, L]
  unfold sHolds
  cases (tTst t).all (fun q => sSo (sVal S T pl none q.1) q.2.1 (sVal S T pl none q.2.2)) <;> rfl
