/-! look (reference). -/
theorem n_120' : (120 : Int32) = nI 120 := rfl
section
variable {n : Nat} {C C' : AmC} {s h : Nat} {B : Big} {S : Scr}
/-- the cells behind the first statements that fit -/
def BhM (C : AmC) (B : Big) (k : Nat) : Prop := ∀ o, o < k → o < 8 → fitX B o = true → ∀ p c, p < 30 → c < sCols (bS B) → cI C 197 (120 * o + 4 * p + c) = tg (bhX B o) p c
theorem m281_c {T : Tab} {k p : Nat} {a b : Int32} (hB : BigOK B) (hk : k < 8) (hp : p < 30) : ∀ m c n C, c + m = sCols (bS B) → m < n → MC C h (bS B) → TabM 30 (sCols (bS B)) C 180 0 T → Rt (lp_281_38 n 145 a b (nI k) (nI p) (nI c) C) (fun z C' => z = (145, a, b, nI k, nI p) ∧ cP C' = cP C ∧ (∀ q, ¬ q = 197 → cI C' q = cI C q) ∧ (∀ d, c ≤ d → d < sCols (bS B) → cI C' 197 (120 * k + 4 * p + d) = tg T p d) ∧ ∀ j, ¬ (120 * k + 4 * p + c ≤ j ∧ j < 120 * k + 4 * p + sCols (bS B)) → cI C' 197 j = cI C 197 j) := by
  have c4 := hB.1.2.1
  intro m
  induction m with
  | zero =>
    intro c n C h1 hn hM hT
    obtain ⟨n, rfl⟩ : ∃ m, n = m + 1 := ⟨n - 1, by omega⟩
    have b1 : sCols (bS B) ≤ c := by omega
    have hP := hM.1
    have hh := hM.2.2.1.1
    have e := hM.2.2.1.2.1
    simp (disch := omega) only [↓reduceIte, lp_281_38, if_true, if_false, Option.bind_some, k_145, ↓bd1 (w_145_21 hP), k_159, l_159, hM.2.1, x_in, x_cl, hh, e, x_le, b1]
    exact rt_ret ⟨rfl, rfl, fun _ _ => rfl, fun d z1 z2 => by omega, fun _ _ => rfl⟩
  | succ m ih =>
    intro c n C h1 hn hM hT
    obtain ⟨n, rfl⟩ : ∃ m, n = m + 1 := ⟨n - 1, by omega⟩
    have b1 : ¬ sCols (bS B) ≤ c := by omega
    have hP := hM.1
    have hh := hM.2.2.1.1
    have e := hM.2.2.1.2.1
    have w := m279 (n := n) (c := c) hP hT hp (by omega) c4
    have j5 : 120 * k + 4 * p + c < 960 := by omega
    have I := ih (c + 1) n (uI C 197 (120 * k + 4 * p + c) (tg T p c)) (by omega) (by omega) (hM.of rfl (by rw [r_In (by decide)]) (fun a z1 z2 => r_In (by omega))) (hT.of (r_In (by decide)))
    simp (disch := omega) only [lp_281_38, if_true, if_false, Option.bind_some, k_145, ↓bd1 (w_145_21 hP), k_159, l_159, hM.2.1, x_in, x_cl, hh, e, x_le, b1, ↓bd1 (w_145_88 hP), ↓bd1 w, k_197, l_197, n_120', ↓reduceIte, n_2, n_3, n_4, n_5, n_6, n_7, n_8, n_10, n_12, n_20, n_30, n_40, n_100, n_120, n_150, n_200, n_230, n_320, n_450, n_900, x_lt, x_eq, x_lt0, x_le0, x_0le, x_0lt, x_eq0, x_eq1, x_1lt, x_le1, x_lt1, x_1le, x_eqm, x_add, x_a1, x_1a, x_a0, x_0a, x_mul, x_sub, x_s1, x_1s, x_div, x_cl0, x_cl1, x_in0, x_in1, x_ofNat, j5]
    refine rt_mono I (fun _ C' H => ⟨H.1, H.2.1, fun q hq => by rw [H.2.2.1 q hq, r_In hq], fun d z1 z2 => ?_, fun j hj => ?_⟩)
    · by_cases q : d = c
      · rw [q, H.2.2.2.2 _ (by omega), r_I, if_pos ⟨rfl, rfl⟩]
      · exact H.2.2.2.1 d (by omega) z2
    · rw [H.2.2.2.2 j (by omega), r_I, if_neg (by omega)]
theorem m281_p {T : Tab} {k : Nat} {a b : Int32} (hB : BigOK B) (hk : k < 8) : ∀ m p n C, p + m = 30 → m + 20 < n → MC C h (bS B) → TabM 30 (sCols (bS B)) C 180 0 T → Rt (lp_281_33 n 145 a b (nI k) (nI p) C) (fun z C' => z = (145, a, b, nI k) ∧ cP C' = cP C ∧ (∀ q, ¬ q = 197 → cI C' q = cI C q) ∧ (∀ r c, p ≤ r → r < 30 → c < sCols (bS B) → cI C' 197 (120 * k + 4 * r + c) = tg T r c) ∧ ∀ j, ¬ (120 * k + 4 * p ≤ j ∧ j < 120 * k + 120) → cI C' 197 j = cI C 197 j) := by
  have c4 := hB.1.2.1
  intro m
  induction m with
  | zero =>
    intro p n C h1 hn hM hT
    obtain ⟨n, rfl⟩ : ∃ m, n = m + 1 := ⟨n - 1, by omega⟩
    have b1 : 30 ≤ p := by omega
    simp (disch := omega) only [↓reduceIte, lp_281_33, n_30, x_le, b1, if_true]
    exact rt_ret ⟨rfl, rfl, fun _ _ => rfl, fun r c z1 z2 => by omega, fun _ _ => rfl⟩
  | succ m ih =>
    intro p n C h1 hn hM hT
    obtain ⟨n, rfl⟩ : ∃ m, n = m + 1 := ⟨n - 1, by omega⟩
    have b1 : ¬ 30 ≤ p := by omega
    have L := m281_c (h := h) (T := T) (k := k) (p := p) (a := a) (b := b) hB hk (by omega) (sCols (bS B)) 0 n C (by omega) (by omega) hM hT
    rw [x_0] at L
    simp (disch := omega) only [↓reduceIte, lp_281_33, n_30, x_le, b1, if_false]
    refine rt_bind (rt_mono L (fun _ C1 H => ?_))
    obtain ⟨rfl, p1, o1, v1, k1⟩ := H
    have I := ih (p + 1) n C1 (by omega) (by omega) (hM.of p1 (by rw [o1 145 (by omega)]) (fun a z1 z2 => o1 a (by omega))) (hT.of (o1 180 (by omega)))
    dsimp only
    rw [x_a1]
    refine rt_mono I (fun _ C' H => ⟨H.1, H.2.1.trans p1, fun q hq => by rw [H.2.2.1 q hq, o1 q hq], fun r c z1 z2 z3 => ?_, fun j hj => ?_⟩)
    · by_cases q : r = p
      · rw [q, H.2.2.2.2 _ (by omega)]; exact v1 c (by omega) z3
      · exact H.2.2.2.1 r c (by omega) z2 z3
    · rw [H.2.2.2.2 j (by omega), k1 j (by omega)]
theorem m281_a (hB : BigOK B) {w : Int32} : ∀ m k n C, k + m = 8 → m + 9800 < n → MI C h B → BhM C B k → Rt (lp_281_18 n 145 w (sFit B) (nI k) C) (fun z C' => z = (145, w, sFit B) ∧ BhM C' B 8 ∧ FrR C C' ∧ cI C' 145 5 = cI C 145 5) := by
  have c4 := hB.1.2.1
  intro m
  induction m with
  | zero =>
    intro k n C h1 hn hM hH
    obtain ⟨n, rfl⟩ : ∃ m, n = m + 1 := ⟨n - 1, by omega⟩
    have b1 : 8 ≤ k := by omega
    have ek : k = 8 := by omega
    simp (disch := omega) only [↓reduceIte, lp_281_18, n_8, x_le, b1, if_true]
    rw [ek] at hH
    exact rt_ret ⟨rfl, hH, FrR.refl _, rfl⟩
  | succ m ih =>
    intro k n C h1 hn hM hH
    obtain ⟨n, rfl⟩ : ∃ m, n = m + 1 := ⟨n - 1, by omega⟩
    have b1 : ¬ 8 ≤ k := by omega
    have bs := bt_ss (sFit B) (j := k) (by omega)
    rw [sFit_bt hB (by omega)] at bs
    rcases bcs (fitX B k) with e | e
    · rw [e] at bs
      have bs : ((sFit B >>> (nI k &&& 31)) &&& 1) = 0 := bs
      have I := ih (k + 1) n C (by omega) (by omega) hM (fun o ho h8 hf p c hp hc => by
        by_cases q : o = k
        · rw [q, e] at hf; cases hf
        · exact hH o (by omega) h8 hf p c hp hc)
      simp (disch := omega) only [↓reduceIte, lp_281_18, n_8, x_le, b1, if_false, bs, not_true, x_a1]
      exact I
    · rw [e] at bs
      have bs : ((sFit B >>> (nI k &&& 31)) &&& 1) = 1 := bs
      have kl : k < (sStm (bS B)).length := by
        unfold fitX at e
        rw [Bool.and_eq_true, decide_eq_true_eq] at e
        exact e.1
      simp (disch := omega) only [↓reduceIte, lp_281_18, n_8, x_le, b1, if_false, bs, n10f, not_false_iff, if_true, k_145]
      refine rt_bind (rt_mono (m278 (n := n) (i := k) hM hB kl (by omega)) (fun _ C1 H => ?_))
      obtain ⟨T1, F1, t1, e1⟩ := H
      have M1 := hM.frR hB F1
      have L := m281_p (h := h) (k := k) (a := w) (b := sFit B) hB (by omega) 30 0 n C1 rfl (by omega) M1.1 T1
      rw [x_0] at L
      refine rt_bind (rt_mono L (fun _ C2 H => ?_))
      obtain ⟨rfl, p2, o2, v2, k2⟩ := H
      have F2 : FrR C1 C2 := ⟨p2, fun b z => o2 b (by omega), fun b y z => o2 b (by omega), fun j _ => by rw [o2 146 (by omega)], fun f _ _ => by rw [o2 145 (by omega)]⟩
      have I := ih (k + 1) n C2 (by omega) (by omega) (M1.frR hB F2) (fun o ho h8 hf p c hp hc => by
        by_cases q : o = k
        · rw [q]; exact v2 p c (by omega) hp hc
        · rw [k2 _ (by omega), e1]; exact hH o (by omega) h8 hf p c hp hc)
      dsimp only
      rw [x_a1]
      exact rt_mono I (fun _ _ H => ⟨H.1, H.2.1, F1.trans (F2.trans H.2.2.1), by rw [H.2.2.2, o2 145 (by omega)]; exact t1⟩)
theorem m282_in {p c i : Nat} {a : Int32} (hB : BigOK B) (hP : PInv C) (hH : BhM C B 8) (hi : i < 8) (fi : fitX B i = true) (hp : p < 30) (hc : c < sCols (bS B)) : ∀ m k n, k + m = i → m < n → lp_282_20 n 145 (sFit B) (nI (4 * p + c)) a (nI i) (1 : Int32) (nI k) C = some ((145, sFit B, nI (4 * p + c), a, nI i, if (qf (fun o => fitX B o && decide (tg (bhX B o) p c = tg (bhX B i) p c)) m k).isNone = true then 1 else 0), C) := by
  have c4 := hB.1.2.1
  intro m
  induction m with
  | zero =>
    intro k n h1 hn
    obtain ⟨n, rfl⟩ : ∃ m, n = m + 1 := ⟨n - 1, by omega⟩
    have b1 : i ≤ k := by omega
    simp (disch := omega) only [↓reduceIte, lp_282_20, x_le, b1, if_true, qf, Option.isNone_none]
  | succ m ih =>
    intro k n h1 hn
    obtain ⟨n, rfl⟩ : ∃ m, n = m + 1 := ⟨n - 1, by omega⟩
    have b1 : ¬ i ≤ k := by omega
    have bs := bt_ss (sFit B) (j := k) (by omega)
    rw [sFit_bt hB (by omega)] at bs
    have I := ih (k + 1) n (by omega) (by omega)
    rw [qf]
    rcases bcs (fitX B k) with e | e
    · rw [e] at bs
      have bs : ((sFit B >>> (nI k &&& 31)) &&& 1) = 0 := bs
      simp (disch := omega) only [↓reduceIte, lp_282_20, x_le, b1, if_true, if_false, n10f, bs, x_a1, e, Bool.false_and, Bool.false_eq_true]
      exact I
    · rw [e] at bs
      have bs : ((sFit B >>> (nI k &&& 31)) &&& 1) = 1 := bs
      have v1 := hH k (by omega) (by omega) e p c hp hc
      have v2 := hH i (by omega) hi fi p c hp hc
      rw [Nat.add_assoc] at v1 v2
      have j1 : 120 * k + (4 * p + c) < 960 := by omega
      have j2 : 120 * i + (4 * p + c) < 960 := by omega
      by_cases d : tg (bhX B k) p c = tg (bhX B i) p c
      · have d' : (tg (bhX B k) p c = tg (bhX B i) p c) = True := eq_true d
        have st : ∀ m', m' < n → lp_282_20 n 145 (sFit B) (nI (4 * p + c)) a (nI i) (0 : Int32) (nI (k + 1)) C = some ((145, sFit B, nI (4 * p + c), a, nI i, 0), C) := by
          intro m' hm'
          obtain ⟨n, rfl⟩ : ∃ m, n = m + 1 := ⟨n - 1, by omega⟩
          by_cases g : i ≤ k + 1
          · simp (disch := omega) only [↓reduceIte, lp_282_20, x_le, g, if_true]
          · simp (disch := omega) only [↓reduceIte, lp_282_20, x_le, g, if_true, if_false]
        have s0 := st 0 (by omega)
        simp (disch := omega) only [↓reduceIte, lp_282_20, x_le, b1, if_true, if_false, n10f, bs, Option.bind_some, k_145, ↓bd1 (w_145_88 hP), k_197, l_197, n_120', x_mul, x_add, x_in, x_cl, j1, j2, v1, v2, d', x_a1, e, decide_true, Bool.and_true, Option.isNone_some, Bool.false_eq_true]
        exact s0
      · simp (disch := omega) only [↓reduceIte, lp_282_20, x_le, b1, if_true, if_false, n10f, bs, Option.bind_some, k_145, ↓bd1 (w_145_88 hP), k_197, l_197, n_120', x_mul, x_add, x_in, x_cl, j1, j2, v1, v2, d, x_a1, e, decide_false, Bool.and_false, Bool.false_eq_true]
        exact I
theorem m282_lp {p c : Nat} (hB : BigOK B) (hP : PInv C) (hH : BhM C B 8) (hp : p < 30) (hc : c < sCols (bS B)) : ∀ m i n x, i + m = 8 → m + 20 < n → lp_282_4 n 145 (sFit B) (nI (4 * p + c)) (nI x) (nI i) C = some (nI (qo (rfF (fitX B) (fun i => tg (bhX B i) p c)) m i x), C) := by
  intro m
  induction m with
  | zero =>
    intro i n x h1 hn
    obtain ⟨n, rfl⟩ : ∃ m, n = m + 1 := ⟨n - 1, by omega⟩
    have b1 : 8 ≤ i := by omega
    simp (disch := omega) only [↓reduceIte, lp_282_4, n_8, x_le, b1, if_true, qo]
  | succ m ih =>
    intro i n x h1 hn
    obtain ⟨n, rfl⟩ : ∃ m, n = m + 1 := ⟨n - 1, by omega⟩
    have b1 : ¬ 8 ≤ i := by omega
    have bs := bt_ss (sFit B) (j := i) (by omega)
    rw [sFit_bt hB (by omega)] at bs
    rw [qo]
    rcases bcs (fitX B i) with e | e
    · rw [e] at bs
      have bs : ((sFit B >>> (nI i &&& 31)) &&& 1) = 0 := bs
      have z1 : ¬ (0 : Int32) = 1 := by decide
      have rf : rfF (fitX B) (fun i => tg (bhX B i) p c) i x = x := by unfold rfF; rw [e]; simp
      have st : lp_282_20 n 145 (sFit B) (nI (4 * p + c)) (nI x) (nI i) (0 : Int32) (0 : Int32) C = some ((145, sFit B, nI (4 * p + c), nI x, nI i, 0), C) := by
        obtain ⟨n, rfl⟩ : ∃ m, n = m + 1 := ⟨n - 1, by omega⟩
        by_cases g : nI i ≤ 0
        · simp only [↓reduceIte, lp_282_20, g, if_true]
        · simp only [↓reduceIte, lp_282_20, g, if_true, if_false]
      have I := ih (i + 1) n x (by omega) (by omega)
      rw [rf]
      simp (disch := omega) only [↓reduceIte, lp_282_4, n_8, x_le, b1, if_false, bs, z1, not_false_iff, if_true, ↓bd1 st, x_a0, x_a1]
      exact I
    · rw [e] at bs
      have bs : ((sFit B >>> (nI i &&& 31)) &&& 1) = 1 := bs
      have w := m282_in (a := nI x) hB hP hH (show i < 8 by omega) e hp hc i 0 n (by omega) (by omega)
      rw [x_0] at w
      rcases bcs (qf (fun o => fitX B o && decide (tg (bhX B o) p c = tg (bhX B i) p c)) i 0).isNone with g | g
      · rw [g, if_neg (by decide)] at w
        have rf : rfF (fitX B) (fun i => tg (bhX B i) p c) i x = x := by unfold rfF; rw [e, Bool.true_and]; simp only [↓reduceIte, g, Bool.false_eq_true, if_false]
        have I := ih (i + 1) n x (by omega) (by omega)
        rw [rf]
        simp (disch := omega) only [↓reduceIte, lp_282_4, n_8, x_le, b1, if_false, bs, not_true, if_true, ↓bd1 w, x_a0, x_a1]
        exact I
      · rw [g, if_pos rfl] at w
        have rf : rfF (fitX B) (fun i => tg (bhX B i) p c) i x = x + 1 := by unfold rfF; rw [e, Bool.true_and]; simp only [↓reduceIte, g, if_true]
        have I := ih (i + 1) n (x + 1) (by omega) (by omega)
        rw [rf]
        simp (disch := omega) only [↓reduceIte, lp_282_4, n_8, x_le, b1, if_false, bs, not_true, if_true, ↓bd1 w, n10f, x_a1]
        exact I
theorem m282 {p c : Nat} (hB : BigOK B) (hP : PInv C) (hH : BhM C B 8) (hp : p < 30) (hc : c < sCols (bS B)) (hn : 50 ≤ n) : f_282 n 145 (sFit B) (nI (4 * p + c)) C = some (nI (uln B p c), C) := by
  have L := m282_lp hB hP hH hp hc 8 0 n 0 rfl (by omega)
  rw [x_0] at L
  unfold f_282
  rw [bd1 L]
  rfl
theorem m281_u {p : Nat} {w : Int32} (hB : BigOK B) (hM : MC C h (bS B)) (hH : BhM C B 8) (hp : p < 30) : ∀ m c n (y : Int32 × Nat), c + m = sCols (bS B) → m + 60 < n → y.2 ≤ 8 → lp_281_78 n 145 w (sFit B) y.1 (nI y.2) (nI p) (nI c) C = some ((145, w, sFit B, (qo (lkC B p) m c y).1, nI (qo (lkC B p) m c y).2, nI p), C) := by
  have c4 := hB.1.2.1
  have hP := hM.1
  have hh := hM.2.2.1.1
  have e := hM.2.2.1.2.1
  intro m
  induction m with
  | zero =>
    intro c n y h1 hn hy
    obtain ⟨n, rfl⟩ : ∃ m, n = m + 1 := ⟨n - 1, by omega⟩
    have b1 : sCols (bS B) ≤ c := by omega
    simp (disch := omega) only [↓reduceIte, lp_281_78, if_true, if_false, Option.bind_some, k_145, ↓bd1 (w_145_21 hP), k_159, l_159, hM.2.1, x_in, x_cl, hh, e, x_le, b1, qo]
  | succ m ih =>
    intro c n y h1 hn hy
    obtain ⟨n, rfl⟩ : ∃ m, n = m + 1 := ⟨n - 1, by omega⟩
    have b1 : ¬ sCols (bS B) ≤ c := by omega
    have w4 := m282 (n := n) (p := p) (c := c) hB hP hH hp (by omega) (by omega)
    have ix : (4 : Int32) * nI p + nI c = nI (4 * p + c) := by rw [n_4, x_mul, x_add]
    have ix2 : (10 : Int32) * nI p + nI c = nI (10 * p + c) := by rw [n_10, x_mul, x_add]
    rw [← ix] at w4
    have u8 := uln_le (B := B) (p := p) (c := c)
    rw [qo]
    by_cases d : y.2 < uln B p c
    · have lk : lkC B p c y = (nI (10 * p + c), uln B p c) := by unfold lkC; rw [if_pos d]
      have I := ih (c + 1) n (nI (10 * p + c), uln B p c) (by omega) (by omega) u8
      rw [lk]
      simp (disch := omega) only [↓reduceIte, lp_281_78, if_true, if_false, k_145, ↓bd1 (w_145_21 hP), k_159, l_159, hM.2.1, x_in, x_cl, hh, e, x_le, b1, ↓bd1 w4, x_lt, d, ix2, x_a1]
      exact I
    · have lk : lkC B p c y = y := by unfold lkC; rw [if_neg d]
      have I := ih (c + 1) n y (by omega) (by omega) hy
      rw [lk]
      simp (disch := omega) only [↓reduceIte, lp_281_78, if_true, if_false, k_145, ↓bd1 (w_145_21 hP), k_159, l_159, hM.2.1, x_in, x_cl, hh, e, x_le, b1, ↓bd1 w4, x_lt, d, x_a1]
      exact I
theorem m281_v {w : Int32} (hB : BigOK B) (hM : MC C h (bS B)) (hH : BhM C B 8) : ∀ m p n (y : Int32 × Nat), p + m = 30 → m + 80 < n → y.2 ≤ 8 → lp_281_73 n 145 w (sFit B) y.1 (nI y.2) (nI p) C = some ((w, (qo (lkP B) m p y).1, nI (qo (lkP B) m p y).2), C) := by
  have c4 := hB.1.2.1
  intro m
  induction m with
  | zero =>
    intro p n y h1 hn hy
    obtain ⟨n, rfl⟩ : ∃ m, n = m + 1 := ⟨n - 1, by omega⟩
    have b1 : 30 ≤ p := by omega
    simp (disch := omega) only [↓reduceIte, lp_281_73, n_30, x_le, b1, if_true, qo]
  | succ m ih =>
    intro p n y h1 hn hy
    obtain ⟨n, rfl⟩ : ∃ m, n = m + 1 := ⟨n - 1, by omega⟩
    have b1 : ¬ 30 ≤ p := by omega
    have L := m281_u (w := w) hB hM hH (show p < 30 by omega) (sCols (bS B)) 0 n y (by omega) (by omega) hy
    rw [x_0] at L
    have I := ih (p + 1) n (lkP B p y) (by omega) (by omega) (lkq_le _ _ _ hy)
    simp (disch := omega) only [↓reduceIte, lp_281_73, n_30, x_le, b1, if_false, ↓bd1 L, x_a1]
    exact I
theorem q281 (hM : MI C h B) (hB : BigOK B) (hn : 10000 ≤ n) (b : Int32) : Rt (f_281 n 145 b C) (fun z C' => An C' z (sLok B b) ∧ FrR C C') := by
  obtain ⟨M0, t0, F0⟩ := hM.t0 hB
  generalize hC0 : uI C 145 5 0 = C0 at M0 t0 F0
  unfold f_281 sLok
  rw [hC0]
  rcases ix_c (N := 2) (by omega) b with ⟨nb, eb⟩ | ⟨w, hw, rfl, eb⟩
  · rw [eb]
    have w1 : f_163 n b 0 (1 : Int32) C0 = some (0, C0) := m163_f (N := 2) (by omega) nb
    simp only [↓reduceIte, k_145, if_true, if_false, not_true, ↓bd1 w1, ↓bd1 (m162_f (n := n) (w := 1) t0 (by decide))]
    exact rt_ret (An_f F0)
  · rw [eb]
    have w1 : f_163 n (nI w) 0 (1 : Int32) C0 = some (1, C0) := m163_t (N := 2) (by omega) hw
    simp only [↓reduceIte, k_145, if_true, if_false, n10f, not_false_iff, ↓bd1 w1, ↓bd1 (m162_t (n := n) (w := 1) t0)]
    refine rt_bind (rt_mono (q280 (n := n) M0 hB (by omega)) (fun z C1 H => ?_))
    obtain ⟨rfl, F1, t1⟩ := H
    have M1 := M0.frR hB F1
    have A := m281_a (h := h) hB (w := nI w) 8 0 n C1 rfl (by omega) M1 (fun o ho => absurd ho (Nat.not_lt_zero o))
    rw [x_0] at A
    refine rt_bind (rt_mono A (fun q C2 H => ?_))
    obtain ⟨rfl, H2, F2, t2⟩ := H
    have M2 := M1.frR hB F2
    have L := m281_v (w := nI w) hB M2.1 H2 30 0 n (-1, 0) rfl (by omega) (by simp)
    rw [x_0] at L
    dsimp only
    rw [bd1 L]
    dsimp only
    have t5 : cI C2 145 5 = 0 := t2.trans t1
    have FF := F0.trans (F1.trans F2)
    have hw2 : w = 0 ∨ w = 1 := by omega
    rcases hw2 with rfl | rfl
    · simp only [↓reduceIte, v00, v10, v20, v30, v01, v11, v21, v31, v02, v12, v22, v32, if_true, if_false, not_true]
      exact rt_ret ⟨⟨t5, rfl⟩, FF⟩
    · simp only [↓reduceIte, v00, v10, v20, v30, v01, v11, v21, v31, v02, v12, v22, v32, if_true, if_false, not_false_iff]
      exact rt_ret ⟨⟨t5, rfl⟩, FF⟩
end
