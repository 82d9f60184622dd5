/-! cheapest: the path whose plan costs least. -/
def chC (S : Scr) (t : Stm) (T : Tab) (p : Nat) : Nat := (sPm S t p T).1.1 + (sPl S t p T).2
def chF (S : Scr) (t : Stm) (T : Tab) (p : Nat) (z : Option (Nat × Nat)) : Option (Nat × Nat) := match z with
  | none => some (p, chC S t T p)
  | some y => if chC S t T p < y.2 then some (p, chC S t T p) else some y
def chA (z : Option (Nat × Nat)) : Int32 := match z with
  | none => 0
  | some y => nI y.1
def chB (z : Option (Nat × Nat)) : Int32 := match z with
  | none => 0
  | some y => nI y.2
def chM (z : Option (Nat × Nat)) : Int32 := match z with
  | none => -1
  | some y => nI y.1
def chN (z : Option (Nat × Nat)) : Int32 := match z with
  | none => 0
  | some y => nI y.2
theorem chC_le {S : Scr} {t : Stm} {T : Tab} {p : Nat} (hO : ScrOK S) : chC S t T p ≤ 2300 := by
  have b := sPm_le (S := S) (t := t) (path := p) (T := T) hO
  obtain ⟨_, i2⟩ := sPl_i (S := S) (t := t) (path := p) (T := T)
  have bb := sHeld_le (S := S) (t := t) (y := sPm S t p T) (k := (sPl S t p T).1) hO b.1 b.2.1 b.2.2
  have : (sPl S t p T).2 ≤ 2000 := by
    rw [i2]
    split
    · omega
    · exact bb
  unfold chC
  omega
theorem ch_some {S : Scr} {t : Stm} {T : Tab} : ∀ m k z, z.isSome = true → (qo (chF S t T) m k z).isSome = true := by
  intro m
  induction m with
  | zero => intro k z h; exact h
  | succ m ih =>
    intro k z h
    rw [qo]
    refine ih (k + 1) _ ?_
    cases z with
    | none => rfl
    | some y => unfold chF; dsimp only; split <;> rfl
def sChp (B : Big) (a b : Int32) : Int32 ⊕ Nat := match ixO (sStm (bS B)).length a with
  | none => .inr 0
  | some i => match ixO 2 b with
    | none => .inr 0
    | some w => .inl (if w = 0 then chM (qo (chF (bS B) (stmO (bS B) i) (zT (bZ B))) (1 + 2 * (sIdx (bS B)).length) 0 none) else chN (qo (chF (bS B) (stmO (bS B) i) (zT (bZ B))) (1 + 2 * (sIdx (bS B)).length) 0 none))
section
variable {n : Nat} {C : AmC} {s h : Nat} {B : Big} {S : Scr}
theorem c128_lp (hB : BigOK B) {i : Nat} (hi : i < (sStm (bS B)).length) {w : Int32} : ∀ m k n C (z : Option (Nat × Nat)), k + m = 1 + 2 * (sIdx (bS B)).length → m + 1600 < n → CI C s B → (∀ y, z = some y → y.1 ≤ 10 ∧ y.2 ≤ 2300) → (z = none ↔ k = 0) → Rt (lp_128_12 n 0 (nI i) w (chA z) (chB z) (nI k) C) (fun q C' => q = (w, chA (qo (chF (bS B) (stmO (bS B) i) (zT (bZ B))) m k z), chB (qo (chF (bS B) (stmO (bS B) i) (zT (bZ B))) m k z)) ∧ FrC C C') := by
  have l8 := hB.1.2.2.2.2.2.2.2.1
  have l3 := hB.1.2.2.1
  intro m
  induction m with
  | zero =>
    intro k n C z h1 hn hC hz hk0
    obtain ⟨n, rfl⟩ : ∃ m, n = m + 1 := ⟨n - 1, by omega⟩
    have ks := sc_of hC.1 hC.2.1
    have b1 : 1 + 2 * (sIdx (bS B)).length ≤ k := by omega
    simp (disch := omega) only [↓reduceIte, lp_128_12, k_0, if_true, ↓bd1 hC.2.2.1, ks.k, ↓bd1 (c87 (n := n) ks hC.2.2.2.2.1), x_le, b1]
    exact rt_ret ⟨rfl, FrC.refl hC.1⟩
  | succ m ih =>
    intro k n C z h1 hn hC hz hk0
    obtain ⟨n, rfl⟩ : ∃ m, n = m + 1 := ⟨n - 1, by omega⟩
    have ks := sc_of hC.1 hC.2.1
    have b1 : ¬ 1 + 2 * (sIdx (bS B)).length ≤ k := by omega
    have hk : PathOK (bS B) k := by unfold PathOK; omega
    simp (disch := omega) only [↓reduceIte, lp_128_12, k_0, if_true, if_false, ↓bd1 hC.2.2.1, ks.k, ↓bd1 (c87 (n := n) ks hC.2.2.2.2.1), x_le, b1, ↓bd1 (w_0_11 hC.1), ↓bd1 (c90 (n := n) (i := i) ks (by omega)), ↓bd1 (w_0_6 hC.1), k_82, ↓bd1 (w_82_0 hC.1), k_102]
    refine rt_bind (rt_mono (c61 (n := n) hk (hC.pn hB hi) (by omega)) (fun _ C' H => ?_))
    obtain ⟨⟨e1, _⟩, e4, e5, e6, F⟩ := H
    have F' := PnX.c hC.1 F
    have cc := chC_le (S := bS B) (t := stmO (bS B) i) (T := zT (bZ B)) (p := k) hB.1
    have ec : cI C' 102 1 + cI C' 102 6 = nI (chC (bS B) (stmO (bS B) i) (zT (bZ B)) k) := by rw [e1, e6, x_add]; rfl
    simp only [↓reduceIte, ↓bd1 (w_0_11 F'.1), k_102, if_true, ec, x_a1]
    rw [qo]
    have on : ∀ z', z' ≠ none → (∀ y, z' = some y → y.1 ≤ 10 ∧ y.2 ≤ 2300) → Rt (lp_128_12 n 0 (nI i) w (chA z') (chB z') (nI (k + 1)) C') (fun q C'' => q = (w, chA (qo (chF (bS B) (stmO (bS B) i) (zT (bZ B))) m (k + 1) z'), chB (qo (chF (bS B) (stmO (bS B) i) (zT (bZ B))) m (k + 1) z')) ∧ FrC C C'') := by
      intro z' hne hz'
      exact rt_mono (ih (k + 1) n C' z' (by omega) (by omega) (hC.fr hB F') hz' ⟨fun e => absurd e hne, fun e => by omega⟩) (fun _ _ H => ⟨H.1, F'.trans H.2⟩)
    cases z with
    | none =>
      have kz : nI k = 0 := by rw [hk0.mp rfl]; rfl
      have O := on (some (k, chC (bS B) (stmO (bS B) i) (zT (bZ B)) k)) (fun e => by cases e) (fun y hy => by cases hy; exact ⟨by simp only; omega, cc⟩)
      rw [if_pos kz]
      exact O
    | some y =>
      obtain ⟨y1, y2⟩ := hz y rfl
      have kz : ¬ nI k = 0 := by
        rw [x_eq0 (by omega)]
        intro e
        cases hk0.mpr e
      rw [if_neg kz]
      by_cases d : chC (bS B) (stmO (bS B) i) (zT (bZ B)) k < y.2
      · have lt : ¬ y.2 ≤ chC (bS B) (stmO (bS B) i) (zT (bZ B)) k := by omega
        have O := on (some (k, chC (bS B) (stmO (bS B) i) (zT (bZ B)) k)) (fun e => by cases e) (fun y hy => by cases hy; exact ⟨by simp only; omega, cc⟩)
        simp (disch := omega) only [↓reduceIte, chB, x_le, lt, if_false, chF, d, if_true]
        exact O
      · have lt : y.2 ≤ chC (bS B) (stmO (bS B) i) (zT (bZ B)) k := by omega
        have O := on (some y) (fun e => by cases e) hz
        simp (disch := omega) only [↓reduceIte, chB, x_le, lt, if_true, chF, d, if_false]
        exact O
theorem q128 (hC : CI C s B) (hB : BigOK B) (hn : 1700 ≤ n) (a b : Int32) : Rt (f_128 n 0 a b C) (fun z C' => z = sChp B a b ∧ FrC C C') := by
  have l8 := hB.1.2.2.2.2.2.2.2.1
  have l3 := hB.1.2.2.1
  unfold f_128 sChp
  rcases ix_c (N := (sStm (bS B)).length) (by omega) a with ⟨na, ea⟩ | ⟨i, hi, rfl, ea⟩
  · rw [ea]
    simp only [↓reduceIte, k_0, if_true, ↓bd1 (c143_f (n := n) hC na)]
    exact rt_ret ⟨rfl, FrC.refl hC.1⟩
  · rw [ea]
    rcases ix_c (N := 2) (by omega) b with ⟨nb, eb⟩ | ⟨w, hw, rfl, eb⟩
    · rw [eb]
      have w1 : f_147 n b (2 : Int32) C = some (.inr 0, C) := c147_f (N := 2) nb
      simp only [↓reduceIte, k_0, if_true, ↓bd1 (c143_t (n := n) hC hB hi), ↓bd1 w1]
      exact rt_ret ⟨rfl, FrC.refl hC.1⟩
    · rw [eb]
      have w1 : f_147 n (nI w) (2 : Int32) C = some (.inl (), C) := c147_t (N := 2) (by omega) hw
      have L := c128_lp (s := s) hB hi (w := nI w) (1 + 2 * (sIdx (bS B)).length) 0 n C none (by omega) (by omega) hC (fun y hy => by cases hy) ⟨fun _ => rfl, fun _ => rfl⟩
      rw [x_0] at L
      simp only [↓reduceIte, k_0, if_true, ↓bd1 (c143_t (n := n) hC hB hi), ↓bd1 w1]
      refine rt_bind (rt_mono L (fun q C' H => ?_))
      obtain ⟨rfl, F⟩ := H
      have hs := ch_some (S := bS B) (t := stmO (bS B) i) (T := zT (bZ B)) (2 * (sIdx (bS B)).length) 1 (some (0, chC (bS B) (stmO (bS B) i) (zT (bZ B)) 0)) rfl
      have ez : qo (chF (bS B) (stmO (bS B) i) (zT (bZ B))) (1 + 2 * (sIdx (bS B)).length) 0 none = qo (chF (bS B) (stmO (bS B) i) (zT (bZ B))) (2 * (sIdx (bS B)).length) 1 (some (0, chC (bS B) (stmO (bS B) i) (zT (bZ B)) 0)) := by
        rw [Nat.add_comm 1, qo]
        rfl
      rw [ez]
      obtain ⟨y, hy⟩ := Option.isSome_iff_exists.mp hs
      rw [hy]
      have hw2 : w = 0 ∨ w = 1 := by omega
      rcases hw2 with rfl | rfl
      · simp only [↓reduceIte, v00, v10, v20, v30, v01, v11, v21, v31, v02, v12, v22, v32, if_true, if_false, not_true]
        exact rt_ret ⟨rfl, F⟩
      · simp only [↓reduceIte, v00, v10, v20, v30, v01, v11, v21, v31, v02, v12, v22, v32, if_true, if_false, not_false_iff]
        exact rt_ret ⟨rfl, F⟩
theorem m259_lp (hB : BigOK B) {i : Nat} (hi : i < (sStm (bS B)).length) {w : Int32} : ∀ m k n C (z : Option (Nat × Nat)), k + m = 1 + 2 * (sIdx (bS B)).length → m + 1600 < n → MI C h B → cI C 145 5 = 0 → (∀ y, z = some y → y.1 ≤ 10 ∧ y.2 ≤ 2300) → Rt (lp_259_23 n 145 (nI i) w (chM z) (chN z) (nI k) C) (fun q C' => q = (w, chM (qo (chF (bS B) (stmO (bS B) i) (zT (bZ B))) m k z), chN (qo (chF (bS B) (stmO (bS B) i) (zT (bZ B))) m k z)) ∧ cI C' 145 5 = 0 ∧ FrR C C') := by
  have l8 := hB.1.2.2.2.2.2.2.2.1
  have l3 := hB.1.2.2.1
  intro m
  induction m with
  | zero =>
    intro k n C z h1 hn hM t0 hz
    obtain ⟨n, rfl⟩ : ∃ m, n = m + 1 := ⟨n - 1, by omega⟩
    have b1 : 1 + 2 * (sIdx (bS B)).length ≤ k := by omega
    simp (disch := omega) only [↓reduceIte, lp_259_23, k_145, if_true, ↓bd1 (m243 (n := n) hM.1), x_le, b1]
    exact rt_ret ⟨rfl, t0, FrR.refl _⟩
  | succ m ih =>
    intro k n C z h1 hn hM t0 hz
    obtain ⟨n, rfl⟩ : ∃ m, n = m + 1 := ⟨n - 1, by omega⟩
    have hh := hM.1.2.2.1.1
    have b1 : ¬ 1 + 2 * (sIdx (bS B)).length ≤ k := by omega
    have hk : PathOK (bS B) k := by unfold PathOK; omega
    have W := m242 (n := n) (h := h) (i := 8 * h + i) hk hM.1 (by omega) (hM.stm hi) (stmO_ok hB.1 hi) hB.2.2.2.1.1.1 hM.2.2.2.2.1.1.1 hM.2.2.2.2.1.1.2 (by omega)
    simp (disch := omega) only [lp_259_23, k_145, if_true, if_false, ↓bd1 (m243 (n := n) hM.1), x_le, b1, hM.1.2.1, ↓reduceIte, n_2, n_3, n_4, n_5, n_6, n_7, n_8, n_10, n_12, n_20, n_30, n_40, n_100, n_120, n_150, n_200, n_230, n_320, n_450, n_900, x_lt, x_eq, x_lt0, x_le0, x_0le, x_0lt, x_eq0, x_eq1, x_1lt, x_le1, x_lt1, x_1le, x_eqm, x_add, x_a1, x_1a, x_a0, x_0a, x_mul, x_sub, x_s1, x_1s, x_div, x_cl, x_cl0, x_cl1, x_in, x_in0, x_in1, x_ofNat]
    refine rt_bind (rt_mono W (fun z1 C' H => ?_))
    obtain ⟨rfl, q1, q0, q2, F⟩ := H
    have F1 : FrR C C' := F.r (fun b z => by omega)
    have t5 : cI C' 145 5 = 0 := (F.2.2 5 (by omega) (by omega)).trans t0
    have M1 := hM.frR hB F1
    have i3 := (sPl_i (S := bS B) (t := stmO (bS B) i) (path := k) (T := zT (bZ B))).1
    have j4 : (sPl (bS B) (stmO (bS B) i) k (zT (bZ B))).1 < 4 := by omega
    have e := m191s q0 q2
    have cc := chC_le (S := bS B) (t := stmO (bS B) i) (T := zT (bZ B)) (p := k) hB.1
    have ec : nI (sPm (bS B) (stmO (bS B) i) k (zT (bZ B))).1.1 + nI (sPl (bS B) (stmO (bS B) i) k (zT (bZ B))).2 = nI (chC (bS B) (stmO (bS B) i) (zT (bZ B)) k) := by rw [x_add]; rfl
    rw [qo]
    have on : ∀ z', (∀ y, z' = some y → y.1 ≤ 10 ∧ y.2 ≤ 2300) → Rt (lp_259_23 n 145 (nI i) w (chM z') (chN z') (nI (k + 1)) C') (fun q C'' => q = (w, chM (qo (chF (bS B) (stmO (bS B) i) (zT (bZ B))) m (k + 1) z'), chN (qo (chF (bS B) (stmO (bS B) i) (zT (bZ B))) m (k + 1) z')) ∧ cI C'' 145 5 = 0 ∧ FrR C C'') := by
      intro z' hz'
      exact rt_mono (ih (k + 1) n C' z' (by omega) (by omega) M1 t5 hz') (fun _ _ H => ⟨H.1, H.2.1, F1.trans H.2.2⟩)
    simp (disch := omega) only [↓reduceIte, ↓bd1 (w_145_81 M1.1.1), k_191, l_191, if_true, x_in, x_cl, j4, e, q1]
    rw [ec]
    cases z with
    | none =>
      have O := on (some (k, chC (bS B) (stmO (bS B) i) (zT (bZ B)) k)) (fun y hy => by cases hy; exact ⟨by simp only; omega, cc⟩)
      simp only [↓reduceIte, chM, if_true]
      exact O
    | some y =>
      obtain ⟨y1, y2⟩ := hz y rfl
      have nm : ¬ nI y.1 = (-1 : Int32) := by rw [x_eqm (by omega)]; exact id
      by_cases d : chC (bS B) (stmO (bS B) i) (zT (bZ B)) k < y.2
      · have O := on (some (k, chC (bS B) (stmO (bS B) i) (zT (bZ B)) k)) (fun y hy => by cases hy; exact ⟨by simp only; omega, cc⟩)
        simp (disch := omega) only [↓reduceIte, chM, chN, x_lt, nm, if_false, chF, d, if_true]
        exact O
      · have O := on (some y) hz
        simp (disch := omega) only [↓reduceIte, chM, chN, x_lt, nm, if_false, chF, d, if_true]
        exact O
theorem q259 (hM : MI C h B) (hB : BigOK B) (hn : 1700 ≤ n) (a b : Int32) : Rt (f_259 n 145 a b C) (fun z C' => An C' z (sChp B a b) ∧ FrR C C') := by
  have l8 := hB.1.2.2.2.2.2.2.2.1
  have l3 := hB.1.2.2.1
  obtain ⟨M0, t0, F0⟩ := hM.t0 hB
  generalize hC0 : uI C 145 5 0 = C0 at M0 t0 F0
  unfold f_259 sChp
  rw [hC0]
  rcases ix_c (N := (sStm (bS B)).length) (by omega) a with ⟨na, ea⟩ | ⟨i, hi, rfl, ea⟩
  · rw [ea]
    simp only [↓reduceIte, k_145, if_true, ↓bd1 (m250_f (n := n) M0.1 na t0)]
    exact rt_ret (An_f F0)
  · rw [ea]
    rcases ix_c (N := 2) (by omega) b with ⟨nb, eb⟩ | ⟨w, hw, rfl, eb⟩
    · rw [eb]
      have w1 : f_163 n b 0 (1 : Int32) C0 = some (0, C0) := m163_f (N := 2) (by omega) nb
      simp only [↓reduceIte, k_145, if_true, if_false, n10f, ↓bd1 (m250_t (n := n) M0.1 hi t0), ↓bd1 w1, ↓bd1 (m162_f (n := n) (w := 1) t0 (by decide)), not_true]
      exact rt_ret (An_f F0)
    · rw [eb]
      have w1 : f_163 n (nI w) 0 (1 : Int32) C0 = some (1, C0) := m163_t (N := 2) (by omega) hw
      have L := m259_lp (h := h) hB hi (w := nI w) (1 + 2 * (sIdx (bS B)).length) 0 n C0 none (by omega) (by omega) M0 t0 (fun y hy => by cases hy)
      rw [x_0] at L
      simp only [↓reduceIte, k_145, if_true, if_false, n10f, ↓bd1 (m250_t (n := n) M0.1 hi t0), ↓bd1 w1, ↓bd1 (m162_t (n := n) (w := 1) t0), not_false_iff]
      refine rt_bind (rt_mono L (fun q C' H => ?_))
      obtain ⟨rfl, t5, F⟩ := H
      have hw2 : w = 0 ∨ w = 1 := by omega
      rcases hw2 with rfl | rfl
      · simp only [↓reduceIte, v00, v10, v20, v30, v01, v11, v21, v31, v02, v12, v22, v32, if_true, if_false, not_true]
        exact rt_ret ⟨⟨t5, rfl⟩, F0.trans F⟩
      · simp only [↓reduceIte, v00, v10, v20, v30, v01, v11, v21, v31, v02, v12, v22, v32, if_true, if_false, not_false_iff]
        exact rt_ret ⟨⟨t5, rfl⟩, F0.trans F⟩
end
