/-! look: the cell in which the tables behind fitting statements are most unlike. -/
def lkC (B : Big) (p c : Nat) (y : Int32 × Nat) : Int32 × Nat := if y.2 < uln B p c then (nI (10 * p + c), uln B p c) else y
def lkP (B : Big) (p : Nat) (y : Int32 × Nat) : Int32 × Nat := qo (lkC B p) (sCols (bS B)) 0 y
def sLok (B : Big) (b : Int32) : Int32 ⊕ Nat := match ixO 2 b with
  | none => .inr 0
  | some w => .inl (if w = 0 then (qo (lkP B) 30 0 (-1, 0)).1 else nI (qo (lkP B) 30 0 (-1, 0)).2)
theorem uln_le {B : Big} {p c : Nat} : uln B p c ≤ 8 := by
  have := rf_le (fit := fitX B) (val := fun i => tg (bhX B i) p c) 8 0 0
  unfold uln
  omega
theorem lkC_le {B : Big} {p c : Nat} {y : Int32 × Nat} (h : y.2 ≤ 8) : (lkC B p c y).2 ≤ 8 := by
  unfold lkC
  split
  · exact uln_le
  · exact h
theorem lkq_le {B : Big} {p : Nat} : ∀ m c (y : Int32 × Nat), y.2 ≤ 8 → (qo (lkC B p) m c y).2 ≤ 8 := by
  intro m
  induction m with
  | zero => intro c y h; exact h
  | succ m ih => intro c y h; exact ih (c + 1) _ (lkC_le h)
theorem bh_ref : ∀ k, k < 8 → (107, k, 129 + 2 * k) ∈ refL := by decide
theorem bh_row : ∀ k, k < 8 → 129 + 2 * k ∈ rowsL := by decide
section
variable {n : Nat} {C C' : AmC} {s h : Nat} {B : Big} {S : Scr}
/-- the first tables behind -/
def BhC (C : AmC) (B : Big) (k : Nat) : Prop := ∀ o, o < k → fitX B o = true → TabC (sCols (bS B)) C (129 + 2 * ixF (fitX B) o) (bhX B o)
theorem c137_a (hB : BigOK B) {w : Int32} : ∀ m k n C, k + m = (sStm (bS B)).length → m + 9700 < n → CI C s B → BhC C B k → Rt (lp_137_7 n 0 w (nI (ixF (fitX B) k)) (nI k) C) (fun z C' => z = (0, w, nI (ixF (fitX B) (sStm (bS B)).length)) ∧ BhC C' B (sStm (bS B)).length ∧ FrC C C') := by
  have l8 := hB.1.2.2.2.2.2.2.2.1
  have c4 := hB.1.2.1
  intro m
  induction m with
  | zero =>
    intro k n C h1 hn hC hH
    obtain ⟨n, rfl⟩ : ∃ m, n = m + 1 := ⟨n - 1, by omega⟩
    have b1 : (sStm (bS B)).length ≤ k := by omega
    have e8 : cI C s 8 = nI (sStm (bS B)).length := hC.2.2.2.2.1.2.2.2.2.2.2.1
    have ek : k = (sStm (bS B)).length := by omega
    simp (disch := omega) only [↓reduceIte, lp_137_7, k_0, if_true, ↓bd1 hC.2.2.1, (sc_of hC.1 hC.2.1).k, e8, x_le, b1]
    rw [← ek]
    exact rt_ret ⟨rfl, hH, FrC.refl hC.1⟩
  | succ m ih =>
    intro k n C h1 hn hC hH
    obtain ⟨n, rfl⟩ : ∃ m, n = m + 1 := ⟨n - 1, by omega⟩
    have b1 : ¬ (sStm (bS B)).length ≤ k := by omega
    have b2 : ¬ 8 ≤ k := by omega
    have e8 : cI C s 8 = nI (sStm (bS B)).length := hC.2.2.2.2.1.2.2.2.2.2.2.1
    simp (disch := omega) only [↓reduceIte, lp_137_7, k_0, if_true, if_false, ↓bd1 hC.2.2.1, (sc_of hC.1 hC.2.1).k, e8, x_le, b1, n_8, b2]
    refine rt_bind (rt_mono (c153 (n := n) (i := k) hC hB (by omega) (by omega)) (fun z C1 H => ?_))
    obtain ⟨rfl, T1, F1, o1⟩ := H
    have C1i := hC.fr hB F1
    have P1 := F1.1
    have fx : fitX B k = fitB B k := by unfold fitX; rw [decide_eq_true (show k < (sStm (bS B)).length by omega), Bool.true_and]
    have il := ixF_le (fit := fitX B) k
    have H1 : BhC C1 B k := fun o ho hf => by
      have := ixF_le (fit := fitX B) o
      exact (hH o ho hf).of (o1 _ (by omega)) (o1 _ (by omega))
    rcases bcs (fitB B k) with e | e
    · rw [e] at fx
      have ix := ixF_f fx
      have I := ih (k + 1) n C1 (by omega) (by omega) C1i (fun o ho hf => by
        by_cases q : o = k
        · rw [q, fx] at hf; cases hf
        · exact H1 o (by omega) hf)
      rw [ix] at I
      simp only [↓reduceIte, e, Bool.false_eq_true, if_false, if_true, x_a1]
      exact rt_mono I (fun _ _ H => ⟨H.1, H.2.1, F1.trans H.2.2⟩)
    · rw [e] at fx
      have ix := ixF_t fx
      have i8 : ixF (fitX B) k < 8 := by omega
      have w72 := c72 (n := n) (rw_of P1 (bh_row _ i8)) (rw_of P1 (show 105 ∈ rowsL by decide))
      have F2 := cpR_fr C1 (129 + 2 * ixF (fitX B) k) 105
      have T2 : TabC (sCols (bS B)) (cpR C1 (129 + 2 * ixF (fitX B) k) 105) (129 + 2 * ixF (fitX B) k) (bhX B k) := cpR_T c4 T1
      have P2 : PInv (cpR C1 (129 + 2 * ixF (fitX B) k) 105) := P1.of F2.1
      have FC2 : FrC C1 (cpR C1 (129 + 2 * ixF (fitX B) k) 105) := ⟨P2, fun b z => F2.2.1 b (by omega), fun b z => F2.2.1 b (by omega), by rw [F2.1]⟩
      have rf : cP C1 107 (ixF (fitX B) k) = some (129 + 2 * ixF (fitX B) k) := P1 _ (bh_ref _ i8)
      generalize cpR C1 (129 + 2 * ixF (fitX B) k) 105 = C2 at w72 F2 T2 P2 FC2
      have I := ih (k + 1) n C2 (by omega) (by omega) (C1i.fr hB FC2) (fun o ho hf => by
        by_cases q : o = k
        · rw [q]; exact T2
        · have := ixF_lt (fit := fitX B) (show o < k by omega) hf
          exact (H1 o (by omega) hf).of (F2.2.1 _ (by omega)) (F2.2.1 _ (by omega)))
      rw [ix] at I
      simp (disch := omega) only [↓reduceIte, e, if_true, n10f, if_false, ↓bd1 (w_0_14 P1), k_107, l_107, x_in, x_cl, i8, ↓bd1 rf, ↓bd1 (w_0_13 P1), (rw_of P1 (bh_row _ i8)).1, ↓bd1 w72, x_a1]
      exact rt_mono I (fun _ _ H => ⟨H.1, H.2.1, F1.trans (FC2.trans H.2.2)⟩)
/-- number k of the tables behind, at a cell -/
def vlN (B : Big) (p c k : Nat) : Int32 := tg (bhX B (nthF (fitX B) k)) p c
theorem BhC.get {k p c F : Nat} (hB : BigOK B) (hP : PInv C) (hH : BhC C B (sStm (bS B)).length) (hF : F = ixF (fitX B) (sStm (bS B)).length) (hk : k < F) (hp : p < 30) (hc : c < sCols (bS B)) : cP C 107 k = some (129 + 2 * k) ∧ k < 8 ∧ isK (129 + 2 * k) 5 = true ∧ f_76 n (129 + 2 * k) (nI p) (nI c) C = some (vlN B p c k, C) := by
  have l8 := hB.1.2.2.2.2.2.2.2.1
  have il := ixF_le (fit := fitX B) (sStm (bS B)).length
  obtain ⟨n1, n2, n3⟩ := nthF_ok (fit := fitX B) (s := (sStm (bS B)).length) (k := k) l8 (by omega)
  have T := hH _ n3 n1
  rw [n2] at T
  have k8 : k < 8 := by omega
  have rk := rw_of hP (bh_row k k8)
  exact ⟨hP _ (bh_ref k k8), k8, rk.1, rg_eq (n := n) rk T hp hc hB.1.2.1⟩
theorem c154_in {p c F i : Nat} {a : Int32} (hB : BigOK B) (hP : PInv C) (hH : BhC C B (sStm (bS B)).length) (hF : F = ixF (fitX B) (sStm (bS B)).length) (hi : i < F) (hp : p < 30) (hc : c < sCols (bS B)) : ∀ m k n (fl : Bool), k + m = i → m < n → lp_154_22 n 0 (nI p) (nI c) (nI F) a (nI i) (vlN B p c i) (if fl = true then 1 else 0) (nI k) C = some ((0, nI p, nI c, nI F, a, nI i, if (fl && (qf (fun k => decide (vlN B p c k = vlN B p c i)) m k).isNone) = true then 1 else 0), C) := by
  have l8 := hB.1.2.2.2.2.2.2.2.1
  have il := ixF_le (fit := fitX B) (sStm (bS B)).length
  intro m
  induction m with
  | zero =>
    intro k n fl h1 hn
    obtain ⟨n, rfl⟩ : ∃ m, n = m + 1 := ⟨n - 1, by omega⟩
    have b1 : i ≤ k := by omega
    simp (disch := omega) only [↓reduceIte, lp_154_22, x_le, b1, if_true, qf, Option.isNone_none, Bool.and_true]
  | succ m ih =>
    intro k n fl h1 hn
    obtain ⟨n, rfl⟩ : ∃ m, n = m + 1 := ⟨n - 1, by omega⟩
    have b1 : ¬ i ≤ k := by omega
    obtain ⟨g1, g2, g3, g4⟩ := hH.get (n := n) hB hP hF (show k < F by omega) hp hc
    rw [qf]
    by_cases d : vlN B p c k = vlN B p c i
    · have d' : (vlN B p c k = vlN B p c i) = True := eq_true d
      have I := ih (k + 1) n false (by omega) (by omega)
      simp only [↓reduceIte, Bool.false_eq_true, if_false, Bool.false_and] at I
      simp (disch := omega) only [↓reduceIte, lp_154_22, x_le, b1, if_true, if_false, k_0, ↓bd1 (w_0_14 hP), k_107, l_107, x_in, x_cl, g2, ↓bd1 g1, g3, ↓bd1 g4, d', not_true, x_a1, decide_true, Option.isNone_some, Bool.and_false, Bool.false_eq_true]
      exact I
    · have I := ih (k + 1) n fl (by omega) (by omega)
      simp (disch := omega) only [↓reduceIte, lp_154_22, x_le, b1, if_true, if_false, k_0, ↓bd1 (w_0_14 hP), k_107, l_107, x_in, x_cl, g2, ↓bd1 g1, g3, ↓bd1 g4, d, not_false_iff, x_a1, decide_false, Bool.false_eq_true]
      exact I
theorem c154_lp {p c F : Nat} (hB : BigOK B) (hP : PInv C) (hH : BhC C B (sStm (bS B)).length) (hF : F = ixF (fitX B) (sStm (bS B)).length) (hp : p < 30) (hc : c < sCols (bS B)) : ∀ m i n a, i + m = F → m + 20 < n → lp_154_4 n 0 (nI p) (nI c) (nI F) (nI a) (nI i) C = some (nI (qo (clF (vlN B p c)) m i a), C) := by
  have l8 := hB.1.2.2.2.2.2.2.2.1
  have il := ixF_le (fit := fitX B) (sStm (bS B)).length
  intro m
  induction m with
  | zero =>
    intro i n a h1 hn
    obtain ⟨n, rfl⟩ : ∃ m, n = m + 1 := ⟨n - 1, by omega⟩
    have b1 : F ≤ i := by omega
    simp (disch := omega) only [↓reduceIte, lp_154_4, x_le, b1, if_true, qo]
  | succ m ih =>
    intro i n a h1 hn
    obtain ⟨n, rfl⟩ : ∃ m, n = m + 1 := ⟨n - 1, by omega⟩
    have b1 : ¬ F ≤ i := by omega
    have b2 : ¬ 8 ≤ i := by omega
    obtain ⟨g1, g2, g3, g4⟩ := hH.get (n := n) hB hP hF (show i < F by omega) hp hc
    have w := c154_in (a := nI a) hB hP hH hF (show i < F by omega) hp hc i 0 n true (by omega) (by omega)
    rw [x_0, Bool.true_and, if_pos rfl] at w
    rw [qo]
    rcases bcs (qf (fun k => decide (vlN B p c k = vlN B p c i)) i 0).isSome with e | e
    · have e2 : (qf (fun k => decide (vlN B p c k = vlN B p c i)) i 0).isNone = true := by
        cases hq : qf (fun k => decide (vlN B p c k = vlN B p c i)) i 0 with
        | none => rfl
        | some v => rw [hq] at e; cases e
      rw [e2, if_pos rfl] at w
      have cf : clF (vlN B p c) i a = a + 1 := by unfold clF; rw [e, if_neg (by decide)]
      have I := ih (i + 1) n (a + 1) (by omega) (by omega)
      rw [cf]
      simp (disch := omega) only [↓reduceIte, lp_154_4, x_le, b1, n_8, b2, if_true, if_false, k_0, ↓bd1 (w_0_14 hP), k_107, l_107, x_in, x_cl, g2, ↓bd1 g1, g3, ↓bd1 g4, ↓bd1 w, n10f, x_a1]
      exact I
    · have e2 : (qf (fun k => decide (vlN B p c k = vlN B p c i)) i 0).isNone = false := by
        cases hq : qf (fun k => decide (vlN B p c k = vlN B p c i)) i 0 with
        | none => rw [hq] at e; cases e
        | some v => rfl
      rw [e2, if_neg (by decide)] at w
      have cf : clF (vlN B p c) i a = a := by unfold clF; rw [e, if_pos rfl]
      have I := ih (i + 1) n a (by omega) (by omega)
      rw [cf]
      simp (disch := omega) only [↓reduceIte, lp_154_4, x_le, b1, n_8, b2, if_true, if_false, k_0, ↓bd1 (w_0_14 hP), k_107, l_107, x_in, x_cl, g2, ↓bd1 g1, g3, ↓bd1 g4, ↓bd1 w, x_a1]
      exact I
theorem ixF_end {fit : Nat → Bool} {s : Nat} (h : ∀ i, s ≤ i → fit i = false) : ∀ d, ixF fit (s + d) = ixF fit s := by
  intro d
  induction d with
  | zero => rfl
  | succ d ih => rw [show s + (d + 1) = s + d + 1 by omega, ixF_f (h _ (by omega)), ih]
theorem c154 {p c F : Nat} (hB : BigOK B) (hP : PInv C) (hH : BhC C B (sStm (bS B)).length) (hF : F = ixF (fitX B) (sStm (bS B)).length) (hp : p < 30) (hc : c < sCols (bS B)) (hn : 50 ≤ n) : f_154 n 0 (nI p) (nI c) (nI F) C = some (nI (uln B p c), C) := by
  have l8 := hB.1.2.2.2.2.2.2.2.1
  have il := ixF_le (fit := fitX B) (sStm (bS B)).length
  have L := c154_lp hB hP hH hF hp hc F 0 n 0 (by omega) (by omega)
  rw [x_0] at L
  have e : uln B p c = qo (clF (vlN B p c)) F 0 0 := by
    unfold uln
    rw [cnt_eq 8 (Nat.le_refl _)]
    have := ixF_end (fit := fitX B) (s := (sStm (bS B)).length) (fun i hi => by unfold fitX; rw [decide_eq_false (by omega), Bool.false_and]) (8 - (sStm (bS B)).length)
    rw [show (sStm (bS B)).length + (8 - (sStm (bS B)).length) = 8 by omega] at this
    rw [this, ← hF]
    rfl
  unfold f_154
  rw [bd1 L, e]
theorem c137_c {p F : Nat} {w : Int32} (hB : BigOK B) (hC : CI C s B) (hH : BhC C B (sStm (bS B)).length) (hF : F = ixF (fitX B) (sStm (bS B)).length) (hp : p < 30) : ∀ m c n (y : Int32 × Nat), c + m = sCols (bS B) → m + 60 < n → y.2 ≤ 8 → lp_137_40 n 0 w (nI F) y.1 (nI y.2) (nI p) (nI c) C = some ((0, w, nI F, (qo (lkC B p) m c y).1, nI (qo (lkC B p) m c y).2, nI p), C) := by
  have c4 := hB.1.2.1
  have e0 : cI C s 0 = nI (sCols (bS B)) := hC.2.2.2.2.1.1
  have P := hC.1
  intro m
  induction m with
  | zero =>
    intro c n y h1 hn hy
    obtain ⟨n, rfl⟩ : ∃ m, n = m + 1 := ⟨n - 1, by omega⟩
    have b1 : sCols (bS B) ≤ c := by omega
    simp (disch := omega) only [↓reduceIte, lp_137_40, k_0, if_true, ↓bd1 hC.2.2.1, (sc_of P hC.2.1).k, e0, x_le, b1, qo]
  | succ m ih =>
    intro c n y h1 hn hy
    obtain ⟨n, rfl⟩ : ∃ m, n = m + 1 := ⟨n - 1, by omega⟩
    have b1 : ¬ sCols (bS B) ≤ c := by omega
    have w4 := c154 (n := n) (p := p) (c := c) hB P hH hF hp (by omega) (by omega)
    have u8 := uln_le (B := B) (p := p) (c := c)
    have n10' : (10 : Int32) = nI 10 := rfl
    rw [qo]
    by_cases d : y.2 < uln B p c
    · have d1 : ¬ uln B p c ≤ y.2 := by omega
      have lk : lkC B p c y = (nI (10 * p + c), uln B p c) := by unfold lkC; rw [if_pos d]
      have I := ih (c + 1) n (nI (10 * p + c), uln B p c) (by omega) (by omega) u8
      rw [lk]
      simp (disch := omega) only [↓reduceIte, lp_137_40, k_0, if_true, if_false, ↓bd1 hC.2.2.1, (sc_of P hC.2.1).k, e0, x_le, b1, ↓bd1 w4, d1, n10', x_mul, x_add, x_a1]
      exact I
    · have d1 : uln B p c ≤ y.2 := by omega
      have lk : lkC B p c y = y := by unfold lkC; rw [if_neg d]
      have I := ih (c + 1) n y (by omega) (by omega) hy
      rw [lk]
      simp (disch := omega) only [↓reduceIte, lp_137_40, k_0, if_true, if_false, ↓bd1 hC.2.2.1, (sc_of P hC.2.1).k, e0, x_le, b1, ↓bd1 w4, d1, x_a1]
      exact I
theorem c137_p {F : Nat} {w : Int32} (hB : BigOK B) (hC : CI C s B) (hH : BhC C B (sStm (bS B)).length) (hF : F = ixF (fitX B) (sStm (bS B)).length) : ∀ m p n (y : Int32 × Nat), p + m = 30 → m + 80 < n → y.2 ≤ 8 → lp_137_35 n 0 w (nI F) y.1 (nI y.2) (nI p) C = some ((w, (qo (lkP B) m p y).1, nI (qo (lkP B) m p y).2), C) := by
  have c4 := hB.1.2.1
  intro m
  induction m with
  | zero =>
    intro p n y h1 hn hy
    obtain ⟨n, rfl⟩ : ∃ m, n = m + 1 := ⟨n - 1, by omega⟩
    have b1 : 30 ≤ p := by omega
    simp (disch := omega) only [↓reduceIte, lp_137_35, n_30, x_le, b1, if_true, qo]
  | succ m ih =>
    intro p n y h1 hn hy
    obtain ⟨n, rfl⟩ : ∃ m, n = m + 1 := ⟨n - 1, by omega⟩
    have b1 : ¬ 30 ≤ p := by omega
    have L := c137_c (w := w) hB hC hH hF (show p < 30 by omega) (sCols (bS B)) 0 n y (by omega) (by omega) hy
    rw [x_0] at L
    have I := ih (p + 1) n (lkP B p y) (by omega) (by omega) (lkq_le _ _ _ hy)
    simp (disch := omega) only [↓reduceIte, lp_137_35, n_30, x_le, b1, if_false, ↓bd1 L, x_a1]
    exact I
theorem q137 (hC : CI C s B) (hB : BigOK B) (hn : 9800 ≤ n) (b : Int32) : Rt (f_137 n 0 b C) (fun z C' => z = sLok B b ∧ FrC C C') := by
  have l8 := hB.1.2.2.2.2.2.2.2.1
  unfold f_137 sLok
  rcases ix_c (N := 2) (by omega) b with ⟨nb, eb⟩ | ⟨w, hw, rfl, eb⟩
  · rw [eb]
    have w1 : f_147 n b (2 : Int32) C = some (.inr 0, C) := c147_f (N := 2) nb
    simp only [↓bd1 w1]
    exact rt_ret ⟨rfl, FrC.refl hC.1⟩
  · rw [eb]
    have w1 : f_147 n (nI w) (2 : Int32) C = some (.inl (), C) := c147_t (N := 2) (by omega) hw
    have A := c137_a (s := s) hB (w := nI w) (sStm (bS B)).length 0 n C (by omega) (by omega) hC (fun o ho _ => absurd ho (Nat.not_lt_zero o))
    rw [show ixF (fitX B) 0 = 0 from rfl, x_0] at A
    simp only [↓bd1 w1]
    refine rt_bind (rt_mono A (fun q C1 H => ?_))
    obtain ⟨rfl, H1, F1⟩ := H
    have L := c137_p (w := nI w) hB (hC.fr hB F1) H1 rfl 30 0 n (-1, 0) rfl (by omega) (by simp)
    rw [x_0] at L
    dsimp only
    rw [bd1 L]
    dsimp only
    have hw2 : w = 0 ∨ w = 1 := by omega
    rcases hw2 with rfl | rfl
    · simp only [↓reduceIte, v00, v10, v20, v30, v01, v11, v21, v31, v02, v12, v22, v32, if_true, if_false, not_true]
      exact rt_ret ⟨rfl, F1⟩
    · simp only [↓reduceIte, v00, v10, v20, v30, v01, v11, v21, v31, v02, v12, v22, v32, if_true, if_false, not_false_iff]
      exact rt_ret ⟨rfl, F1⟩
end
