/-! The reference's wide table. -/
theorem n_230' : (230 : Int32) = nI 230 := rfl
theorem read_some {S : Scr} {t : Stm} {stage path : Nat} (hs : ¬ stage = 0) : ∀ m last x, (∀ q ∈ x.2, q.1.isSome = true) → ∀ q ∈ (sRead S t stage path m last x).2, q.1.isSome = true := by
  intro m
  induction m with
  | zero => intro last x h; exact h
  | succ m ih =>
    intro last x h
    unfold sRead
    split
    · split
      · exact h
      · refine ih _ _ (fun q hq => ?_)
        obtain ⟨_, _, _, q4⟩ := sMeet_s (S := S) (t := t) (stage := stage) (pl := some ‹Nat›) (o := none) (x := x) hs
        rcases q4 with q4 | ⟨mk, q4, _⟩
        · rw [q4] at hq; exact h q hq
        · rw [q4] at hq
          rcases List.mem_append.mp hq with hq | hq
          · exact h q hq
          · rw [List.mem_singleton] at hq
            rw [hq]
            rfl
    · exact h
theorem items_some {S : Scr} {t : Stm} {path : Nat} {T : Tab} (h3 : ¬ tKd t = 3) : ∀ q ∈ (sReads S t 3 path T).2, q.1.isSome = true := by
  unfold sReads
  cases hd : sDblP S t T with
  | some p => intro q hq; cases hq
  | none =>
    dsimp only
    rw [if_neg h3]
    exact read_some (by omega) _ _ _ (fun q hq => by cases hq)
/-- what work on the wide table changes -/
def FrV (C C' : AmC) : Prop := cP C' = cP C ∧ (∀ b, ¬ (b = 145 ∨ 193 ≤ b ∧ b ≤ 196) → cI C' b = cI C b) ∧ ∀ f, ¬ f = 55 → ¬ f = 56 → cI C' 145 f = cI C 145 f
theorem FrV.refl (C : AmC) : FrV C C := ⟨rfl, fun _ _ => rfl, fun _ _ _ => rfl⟩
theorem FrV.trans {C C1 C2 : AmC} (h : FrV C C1) (g : FrV C1 C2) : FrV C C2 := ⟨g.1.trans h.1, fun b z => (g.2.1 b z).trans (h.2.1 b z), fun f y z => (g.2.2 f y z).trans (h.2.2 f y z)⟩
theorem FrV.u {C C1 : AmC} (h : FrV C C1) {a j : Nat} {v : Int32} (ha : 193 ≤ a ∧ a ≤ 196) : FrV C (uI C1 a j v) := ⟨h.1, fun b z => by rw [r_In (by omega)]; exact h.2.1 b z, fun f y z => by rw [r_In (by omega)]; exact h.2.2 f y z⟩
theorem FrV.r {C C1 : AmC} (h : FrV C C1) : FrR C C1 := ⟨h.1, fun b z => h.2.1 b (by omega), fun b y z => h.2.1 b (by omega), fun j _ => by rw [h.2.1 146 (by omega)], fun f z _ => h.2.2 f (by omega) (by omega)⟩
section
variable {n : Nat} {C C' : AmC} {s h : Nat} {B : Big} {S : Scr}
theorem m260_a : ∀ m j n C, j + m = 1150 → m < n → PInv C → Rt (lp_260_2 n 145 (nI j) C) (fun z C' => z = 145 ∧ cP C' = cP C ∧ (∀ b, ¬ b = 193 → cI C' b = cI C b) ∧ ∀ k, cI C' 193 k = if j ≤ k ∧ k < 1150 then 0 else cI C 193 k) := by
  intro m
  induction m with
  | zero =>
    intro j n C h1 hn hP
    obtain ⟨n, rfl⟩ : ∃ m, n = m + 1 := ⟨n - 1, by omega⟩
    have b1 : 1150 ≤ j := by omega
    simp (disch := omega) only [↓reduceIte, lp_260_2, n_1150, x_le, b1, if_true]
    exact rt_ret ⟨rfl, rfl, fun _ _ => rfl, fun k => by rw [if_neg (by omega)]⟩
  | succ m ih =>
    intro j n C h1 hn hP
    obtain ⟨n, rfl⟩ : ∃ m, n = m + 1 := ⟨n - 1, by omega⟩
    have b1 : ¬ 1150 ≤ j := by omega
    have j1 : j < 1150 := by omega
    have I := ih (j + 1) n (uI C 193 j 0) (by omega) (by omega) (hP.of rfl)
    simp (disch := omega) only [↓reduceIte, lp_260_2, n_1150, x_le, b1, if_true, if_false, Option.bind_some, k_145, ↓bd1 (w_145_84 hP), k_193, l_193, x_in, x_cl, j1, x_a1]
    refine rt_mono I (fun _ C' H => ⟨H.1, H.2.1, fun b hb => by rw [H.2.2.1 b hb, r_In hb], fun k => ?_⟩)
    rw [H.2.2.2 k]
    by_cases e : k = j
    · subst e
      rw [if_neg (by omega), r_I, if_pos ⟨rfl, rfl⟩, if_pos (by omega)]
    · by_cases g : j + 1 ≤ k ∧ k < 1150
      · rw [if_pos g, if_pos (by omega)]
      · rw [if_neg g, if_neg (by omega), r_I, if_neg (by omega)]
theorem m260_c {p : Nat} (hp : p < 30) : ∀ m c n C, c + m = 4 → m < n → PInv C → Rt (lp_260_27 n 145 (nI p) (nI c) C) (fun z C' => z = (145, nI p) ∧ cP C' = cP C ∧ (∀ b, ¬ b = 193 → cI C' b = cI C b) ∧ ∀ k, cI C' 193 k = if 230 + 4 * p + c ≤ k ∧ k < 230 + 4 * p + 4 then cI C 146 (k - 200) else cI C 193 k) := by
  intro m
  induction m with
  | zero =>
    intro c n C h1 hn hP
    obtain ⟨n, rfl⟩ : ∃ m, n = m + 1 := ⟨n - 1, by omega⟩
    have b1 : 4 ≤ c := by omega
    simp (disch := omega) only [↓reduceIte, lp_260_27, n_4, x_le, b1, if_true]
    exact rt_ret ⟨rfl, rfl, fun _ _ => rfl, fun k => by rw [if_neg (by omega)]⟩
  | succ m ih =>
    intro c n C h1 hn hP
    obtain ⟨n, rfl⟩ : ∃ m, n = m + 1 := ⟨n - 1, by omega⟩
    have b1 : ¬ 4 ≤ c := by omega
    have j1 : 30 + 4 * p + c < 12500 := by omega
    have j2 : 230 + 4 * p + c < 1150 := by omega
    have I := ih (c + 1) n (uI C 193 (230 + 4 * p + c) (cI C 146 (30 + 4 * p + c))) (by omega) (by omega) (hP.of rfl)
    simp (disch := omega) only [↓reduceIte, lp_260_27, n_4, n_30, n_230', x_le, b1, if_true, if_false, Option.bind_some, k_145, ↓bd1 (w_145_84 hP), k_193, l_193, ↓bd1 (w_145_0 hP), k_146, l_146, x_mul, x_add, x_in, x_cl, j1, j2, x_a1]
    refine rt_mono I (fun _ C' H => ⟨H.1, H.2.1, fun b hb => by rw [H.2.2.1 b hb, r_In hb], fun k => ?_⟩)
    rw [H.2.2.2 k, r_In (show (146 : Nat) ≠ 193 by decide)]
    by_cases e : k = 230 + 4 * p + c
    · subst e
      rw [if_neg (by omega), r_I, if_pos ⟨rfl, rfl⟩, if_pos (by omega), show 230 + 4 * p + c - 200 = 30 + 4 * p + c by omega]
    · by_cases g : 230 + 4 * p + (c + 1) ≤ k ∧ k < 230 + 4 * p + 4
      · rw [if_pos g, if_pos (by omega)]
      · rw [if_neg g, if_neg (by omega), r_I, if_neg (by omega)]
theorem m260_p : ∀ m p n C, p + m = 30 → m + 10 < n → PInv C → Rt (lp_260_14 n 145 (nI p) C) (fun _ C' => cP C' = cP C ∧ (∀ b, ¬ b = 193 → cI C' b = cI C b) ∧ ∀ k, cI C' 193 k = if p ≤ k ∧ k < 30 then cI C 146 k else if 230 + 4 * p ≤ k ∧ k < 350 then cI C 146 (k - 200) else cI C 193 k) := by
  intro m
  induction m with
  | zero =>
    intro p n C h1 hn hP
    obtain ⟨n, rfl⟩ : ∃ m, n = m + 1 := ⟨n - 1, by omega⟩
    have b1 : 30 ≤ p := by omega
    simp (disch := omega) only [↓reduceIte, lp_260_14, n_30, x_le, b1, if_true]
    exact rt_ret ⟨rfl, fun _ _ => rfl, fun k => by rw [if_neg (by omega), if_neg (by omega)]⟩
  | succ m ih =>
    intro p n C h1 hn hP
    obtain ⟨n, rfl⟩ : ∃ m, n = m + 1 := ⟨n - 1, by omega⟩
    have b1 : ¬ 30 ≤ p := by omega
    have j1 : p < 12500 := by omega
    have j2 : p < 1150 := by omega
    have L := m260_c (p := p) (by omega) 4 0 n (uI C 193 p (cI C 146 p)) rfl (by omega) (hP.of rfl)
    rw [x_0] at L
    simp (disch := omega) only [↓reduceIte, lp_260_14, n_30, x_le, b1, if_true, if_false, Option.bind_some, k_145, ↓bd1 (w_145_84 hP), k_193, l_193, ↓bd1 (w_145_0 hP), k_146, l_146, x_in, x_cl, j1, j2]
    refine rt_bind (rt_mono L (fun _ C1 H => ?_))
    obtain ⟨rfl, p1, o1, a1⟩ := H
    have I := ih (p + 1) n C1 (by omega) (by omega) (hP.of p1)
    dsimp only
    rw [x_a1]
    have e146 : cI C1 146 = cI C 146 := by rw [o1 146 (by decide), r_In (by decide)]
    refine rt_mono I (fun _ C' H => ⟨H.1.trans p1, fun b hb => by rw [H.2.1 b hb, o1 b hb, r_In hb], fun k => ?_⟩)
    rw [H.2.2 k, e146, a1 k, r_In (show (146 : Nat) ≠ 193 by decide)]
    by_cases e : k = p
    · subst e
      rw [if_neg (by omega), if_neg (by omega), if_neg (by omega), r_I, if_pos ⟨rfl, rfl⟩, if_pos (by omega)]
    · by_cases g1 : p + 1 ≤ k ∧ k < 30
      · rw [if_pos g1, if_pos (by omega)]
      · rw [if_neg g1, if_neg (show ¬ (p ≤ k ∧ k < 30) by omega)]
        by_cases g2 : 230 + 4 * (p + 1) ≤ k ∧ k < 350
        · rw [if_pos g2, if_pos (by omega)]
        · rw [if_neg g2]
          by_cases g3 : 230 + 4 * p + 0 ≤ k ∧ k < 230 + 4 * p + 4
          · rw [if_pos g3, if_pos (by omega)]
          · rw [if_neg g3, if_neg (by omega), r_I, if_neg (fun z => e z.2)]
theorem m260 {cols : Nat} {T : Tab} (hP : PInv C) (h4 : cols ≤ 4) (hT : TabM 30 cols C 146 0 T) (hn : 1200 ≤ n) : Rt (f_260 n 145 C) (fun _ C' => TabM 230 cols C' 193 0 (wid0 T) ∧ FrV C C') := by
  have A := m260_a 1150 0 n C rfl (by omega) hP
  rw [x_0] at A
  unfold f_260
  refine rt_bind (rt_mono A (fun _ C1 H => ?_))
  obtain ⟨rfl, p1, o1, a1⟩ := H
  have L := m260_p 30 0 n C1 rfl (by omega) (hP.of p1)
  rw [x_0] at L
  refine rt_bind (rt_mono L (fun _ C2 H => ?_))
  obtain ⟨p2, o2, a2⟩ := H
  have e146 : cI C1 146 = cI C 146 := o1 146 (by omega)
  refine rt_ret ⟨⟨fun p hp => ?_, fun p hp tp c hc => ?_⟩, p2.trans p1, fun b hb => by rw [o2 b (by omega), o1 b (by omega)], fun f _ _ => by rw [o2 145 (by omega), o1 145 (by omega)]⟩
  · show cI C2 193 (0 + p) = if (decide (p < 30) && T.1 p) = true then 1 else 0
    rw [Nat.zero_add, a2]
    by_cases l : p < 30
    · have := hT.1 p l
      rw [Nat.zero_add] at this
      rw [if_pos (by omega), e146, this, decide_eq_true l, Bool.true_and]
    · rw [if_neg (by omega), if_neg (by omega), a1, if_pos (by omega), decide_eq_false l]
      rfl
  · have tp : (decide (p < 30) && T.1 p) = true := tp
    rw [Bool.and_eq_true, decide_eq_true_eq] at tp
    have := hT.2 p tp.1 tp.2 c hc
    show cI C2 193 (0 + 230 + 4 * p + c) = T.2 p c
    rw [a2, if_neg (by omega), if_pos (by omega), e146, ← this]
    exact congrArg (cI C 146) (by omega)
/-! a write -/
def wp (t : Stm) (e : Ent) (i : Nat) : Nat := if isNewS t e.1 = true then 30 + i else e.2.1
theorem m261 {t : Stm} {e : Ent} {i : Nat} (hP : PInv C) (hL : LgM C S t i e) (hi : i < 200) (hg : goneS t e.1 = (!isNewS t e.1 && decide (tCh t = 1))) : f_261 n 145 (nI i) C = some (nI (wp t e i), C) := by
  obtain ⟨l1, l2, _, _⟩ := hL
  unfold f_261 wp
  rcases bcs (isNewS t e.1) with nw | nw
  · have l3 : ¬ cI C 183 i = (2 : Int32) := by
      rw [l2, hg, nw]
      by_cases g : tCh t = 1
      · simp only [decide_eq_true g]; decide
      · simp only [decide_eq_false g]; decide
    simp (disch := omega) only [↓reduceIte, if_true, if_false, Option.bind_some, k_145, ↓bd1 (w_145_71 hP), k_183, l_183, ↓bd1 (w_145_70 hP), k_182, l_182, x_in, x_cl, hi, l3, not_false_iff, l1, nw, Bool.false_eq_true]
  · have l3 : cI C 183 i = (2 : Int32) := by rw [l2, hg, nw]; rfl
    simp (disch := omega) only [↓reduceIte, if_true, if_false, Option.bind_some, k_145, ↓bd1 (w_145_71 hP), k_183, l_183, x_in, x_cl, hi, l3, not_true, n_30, x_add, nw]
/-- columns that a write puts -/
def wcB (S : Scr) (t : Stm) (e : Ent) (c : Nat) : Bool := isNewS t e.1 || (decide (c < sCols S) && (valsS t e.1 c).isSome)
def wcV (S : Scr) (t : Stm) (e : Ent) (c : Nat) : Int32 := if (decide (c < sCols S) && (valsS t e.1 c).isSome) = true then e.2.2 c else 0
theorem m262_lp {t : Stm} {e : Ent} {i x : Nat} (hi : i < 200) (hx : x < 230) (hg : goneS t e.1 = (!isNewS t e.1 && decide (tCh t = 1))) : ∀ m c n C, c + m = 4 → m < n → PInv C → LgM C S t i e → Rt (lp_262_14 n 145 (nI i) (nI x) (nI c) C) (fun z C' => z = (145, nI i, nI x) ∧ cP C' = cP C ∧ (∀ b, ¬ b = 193 → ¬ b = 194 → cI C' b = cI C b) ∧ (∀ d, c ≤ d → d < 4 → cI C' 194 (1 + d) = cI C 193 (230 + 4 * x + d)) ∧ (∀ j, j ≤ c → cI C' 194 j = cI C 194 j) ∧ ∀ k, cI C' 193 k = if (decide (230 + 4 * x + c ≤ k) && decide (k < 230 + 4 * x + 4) && wcB S t e (k - (230 + 4 * x))) = true then wcV S t e (k - (230 + 4 * x)) else cI C 193 k) := by
  intro m
  induction m with
  | zero =>
    intro c n C h1 hn hP hL
    obtain ⟨n, rfl⟩ : ∃ m, n = m + 1 := ⟨n - 1, by omega⟩
    have b1 : 4 ≤ c := by omega
    simp (disch := omega) only [↓reduceIte, lp_262_14, n_4, x_le, b1, if_true]
    refine rt_ret ⟨rfl, rfl, fun _ _ _ => rfl, fun d z1 z2 => by omega, fun _ _ => rfl, fun k => ?_⟩
    rw [if_neg ?_]
    simp only [Bool.and_eq_true, decide_eq_true_eq]
    omega
  | succ m ih =>
    intro c n C h1 hn hP hL
    obtain ⟨n, rfl⟩ : ∃ m, n = m + 1 := ⟨n - 1, by omega⟩
    have b1 : ¬ 4 ≤ c := by omega
    have c4 : c < 4 := by omega
    have j1 : 230 + 4 * x + c < 1150 := by omega
    have j2 : 1 + c < 5 := by omega
    have j3 : 4 * i + c < 800 := by omega
    have hL0 := hL
    obtain ⟨l1, l2, l3, l4⟩ := hL
    have P1 : PInv (uI C 194 (1 + c) (cI C 193 (230 + 4 * x + c))) := hP.of rfl
    have e183 : cI (uI C 194 (1 + c) (cI C 193 (230 + 4 * x + c))) 183 = cI C 183 := r_In (by decide)
    have e184 : cI (uI C 194 (1 + c) (cI C 193 (230 + 4 * x + c))) 184 = cI C 184 := r_In (by decide)
    have e185 : cI (uI C 194 (1 + c) (cI C 193 (230 + 4 * x + c))) 185 = cI C 185 := r_In (by decide)
    have ev : cI C 184 (4 * i + c) = wcV S t e c := l4 c c4
    have ix : ((230 : Int32) + ((4 : Int32) * nI x)) + nI c = nI (230 + 4 * x + c) := by rw [n_4, n_230', x_mul, x_add, x_add]
    have ix2 : (1 : Int32) + nI c = nI (1 + c) := x_1a c
    have ix3 : ((4 : Int32) * nI i) + nI c = nI (4 * i + c) := by rw [n_4, x_mul, x_add]
    -- on, with the wide table's cell as it was or put
    have on : ∀ (C2 : AmC), cP C2 = cP C → (∀ b, ¬ b = 193 → ¬ b = 194 → cI C2 b = cI C b) → (∀ j, cI C2 194 j = if j = 1 + c then cI C 193 (230 + 4 * x + c) else cI C 194 j) → (∀ k, cI C2 193 k = if k = 230 + 4 * x + c ∧ wcB S t e c = true then wcV S t e c else cI C 193 k) → Rt (lp_262_14 n 145 (nI i) (nI x) (nI (c + 1)) C2) (fun z C' => z = (145, nI i, nI x) ∧ cP C' = cP C ∧ (∀ b, ¬ b = 193 → ¬ b = 194 → cI C' b = cI C b) ∧ (∀ d, c ≤ d → d < 4 → cI C' 194 (1 + d) = cI C 193 (230 + 4 * x + d)) ∧ (∀ j, j ≤ c → cI C' 194 j = cI C 194 j) ∧ ∀ k, cI C' 193 k = if (decide (230 + 4 * x + c ≤ k) && decide (k < 230 + 4 * x + 4) && wcB S t e (k - (230 + 4 * x))) = true then wcV S t e (k - (230 + 4 * x)) else cI C 193 k) := by
      intro C2 p2 o2 s2 v2
      have L2 : LgM C2 S t i e := by
        unfold LgM
        rw [o2 182 (by omega) (by omega), o2 183 (by omega) (by omega), o2 184 (by omega) (by omega), o2 185 (by omega) (by omega)]
        exact hL0
      refine rt_mono (ih (c + 1) n C2 (by omega) (by omega) (hP.of p2) L2) (fun _ C' H => ?_)
      obtain ⟨g1, g2, g3, g4, g5, g6⟩ := H
      refine ⟨g1, g2.trans p2, fun b z1 z2 => by rw [g3 b z1 z2, o2 b z1 z2], fun d z1 z2 => ?_, fun j hj => by rw [g5 j (by omega), s2, if_neg (by omega)], fun k => ?_⟩
      · by_cases q : d = c
        · rw [q, g5 _ (by omega), s2, if_pos rfl]
        · rw [g4 d (by omega) z2, v2, if_neg (by omega)]
      · rw [g6 k, v2 k]
        by_cases q : k = 230 + 4 * x + c
        · have qd : k - (230 + 4 * x) = c := by omega
          have n1 : decide (230 + 4 * x + (c + 1) ≤ k) = false := decide_eq_false (by omega)
          have n2 : decide (230 + 4 * x + c ≤ k) = true := decide_eq_true (by omega)
          have n3 : decide (k < 230 + 4 * x + 4) = true := decide_eq_true (by omega)
          rw [qd, n1, n2, n3]
          simp only [↓reduceIte, Bool.false_and, Bool.true_and, Bool.false_eq_true, if_false, q, true_and]
        · have n1 : decide (230 + 4 * x + (c + 1) ≤ k) = decide (230 + 4 * x + c ≤ k) := by rw [decide_eq_decide]; omega
          rw [n1, if_neg (show ¬ (k = 230 + 4 * x + c ∧ wcB S t e c = true) from fun z => q z.1)]
    have s2 : ∀ j, cI (uI C 194 (1 + c) (cI C 193 (230 + 4 * x + c))) 194 j = if j = 1 + c then cI C 193 (230 + 4 * x + c) else cI C 194 j := fun j => by rw [r_I]; simp
    rw [lp_262_14, n_4, if_neg (by rw [x_le (by omega) (by omega)]; exact b1), if_pos k_145, bd1 (w_145_85 hP), bd1 (w_145_84 hP), ← n_4, ix, ix2, ix3, if_pos k_193, l_193, if_pos ((x_in (by omega)).mpr j1), if_pos k_194, l_194, if_pos ((x_in (by omega)).mpr j2), x_cl (by omega), x_cl (by omega), bd1 (w_145_71 P1), if_pos k_183, l_183, if_pos ((x_in (by omega)).mpr hi), x_cl (by omega), e183]
    rcases bcs (isNewS t e.1) with nw | nw
    · have l5 : ¬ cI C 183 i = (2 : Int32) := by
        rw [l2, hg, nw]
        by_cases g : tCh t = 1
        · simp only [decide_eq_true g]; decide
        · simp only [decide_eq_false g]; decide
      have bs := bt_ss (cI C 185 i) (j := c) (by omega)
      rw [l3 c c4] at bs
      rw [if_neg l5, bd1 (w_145_73 P1), if_pos k_185, l_185, if_pos ((x_in (by omega)).mpr hi), e185, bs]
      rcases bcs (decide (c < sCols S) && (valsS t e.1 c).isSome) with b | b
      · have wb : wcB S t e c = false := by unfold wcB; rw [nw, b]; rfl
        rw [b, if_pos (by decide), x_a1]
        refine on _ rfl (fun b z1 z2 => r_In z2) s2 (fun k => ?_)
        rw [r_In (by decide), if_neg (by rw [wb]; exact fun z => by cases z.2)]
      · have wb : wcB S t e c = true := by unfold wcB; rw [nw, b]; rfl
        have i5 : amIn (nI (230 + 4 * x + c)) (aLen 193) = true := by rw [l_193, x_in (by omega)]; exact j1
        have i4 : amIn (nI (4 * i + c)) (aLen 184) = true := by rw [l_184, x_in (by omega)]; exact j3
        rw [b, if_neg (by decide), bd1 (w_145_84 P1), bd1 (w_145_72 P1), if_pos k_184, if_pos i4, if_pos k_193, if_pos i5, e184, x_cl (by omega), ev, x_a1]
        refine on _ rfl (fun b z1 z2 => by rw [r_In z1, r_In z2]) (fun j => by rw [r_In (by decide)]; exact s2 j) (fun k => ?_)
        rw [r_I, r_In (by decide)]
        by_cases q : k = 230 + 4 * x + c
        · rw [if_pos ⟨rfl, q⟩, if_pos ⟨q, wb⟩]
        · rw [if_neg (fun z => q z.2), if_neg (fun z => q z.1)]
    · have l5 : cI C 183 i = (2 : Int32) := by rw [l2, hg, nw]; rfl
      have wb : wcB S t e c = true := by unfold wcB; rw [nw]; rfl
      have i5 : amIn (nI (230 + 4 * x + c)) (aLen 193) = true := by rw [l_193, x_in (by omega)]; exact j1
      have i4 : amIn (nI (4 * i + c)) (aLen 184) = true := by rw [l_184, x_in (by omega)]; exact j3
      rw [if_pos l5, bd1 (w_145_84 P1), bd1 (w_145_72 P1), if_pos k_184, if_pos i4, if_pos k_193, if_pos i5, e184, x_cl (by omega), ev, x_a1]
      refine on _ rfl (fun b z1 z2 => by rw [r_In z1, r_In z2]) (fun j => by rw [r_In (by decide)]; exact s2 j) (fun k => ?_)
      rw [r_I, r_In (by decide)]
      by_cases q : k = 230 + 4 * x + c
      · rw [if_pos ⟨rfl, q⟩, if_pos ⟨q, wb⟩]
      · rw [if_neg (fun z => q z.2), if_neg (fun z => q z.1)]
end
