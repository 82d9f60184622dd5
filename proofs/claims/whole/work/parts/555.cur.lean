/-! The class's cursor. -/
theorem TabC.of {cols r : Nat} {C C1 : AmC} {T : Tab} (h : TabC cols C r T) (e1 : cI C1 r = cI C r) (e2 : cI C1 (r + 1) = cI C (r + 1)) : TabC cols C1 r T := by
  unfold TabC
  rw [e1, e2]
  exact h
theorem VC.of {C C1 : AmC} {s k : Nat} {v : Val} (h : VC C s k v) (e : ∀ a, s ≤ a → a < s + 16 → cI C1 a = cI C a) : VC C1 s k v := by
  unfold VC AtC at *
  rw [e s (by omega) (by omega), e (s + 10) (by omega) (by omega), e (s + 11) (by omega) (by omega), e (s + 12) (by omega) (by omega), e (s + 13) (by omega) (by omega)]
  exact h
theorem VOC.of {C C1 : AmC} {s : Nat} {x : Int32} {v : Option Val} (h : VOC C s x v) (e : ∀ a, s ≤ a → a < s + 16 → cI C1 a = cI C a) : VOC C1 s x v := by
  cases v with
  | none => exact h
  | some w =>
    obtain ⟨k, hk, hv⟩ := h
    exact ⟨k, hk, hv.of e⟩
theorem StmC.of {C C1 : AmC} {cols s a : Nat} {t : Stm} (h : StmC cols C s a t) (e : ∀ b, s ≤ b → b < s + 16 → cI C1 b = cI C b) (e0 : cI C1 a = cI C a) (e1 : cI C1 (a + 1) = cI C (a + 1)) (e2 : cI C1 (a + 2) = cI C (a + 2)) : StmC cols C1 s a t := by
  obtain ⟨h1, h2, h3, h4, h5, h6, h7, f, h8, h9, h10, h11⟩ := h
  unfold StmC
  rw [e0, e1, e2]
  refine ⟨h1, h2, h3, h4, h5, fun c hc => (h6 c hc).of e, fun c hc => (h7 c hc).of e, f, h8, h9, h10, fun i hi => ?_⟩
  obtain ⟨k, k1, k2, k3, k4⟩ := h11 i hi
  exact ⟨k, by rw [e (s + 14) (by omega) (by omega)]; exact k1, by rw [e (s + 15) (by omega) (by omega)]; exact k2, k3.of e, k4.of e⟩
theorem ScrC.of {C C1 : AmC} {s : Nat} {S : Scr} (h : ScrC C s S) (hl : (sStm S).length ≤ 8) (e : ∀ a, s ≤ a → a < s + 40 → cI C1 a = cI C a) : ScrC C1 s S := by
  unfold ScrC at *
  rw [e s (by omega) (by omega), e (s + 3) (by omega) (by omega), e (s + 4) (by omega) (by omega), e (s + 5) (by omega) (by omega)]
  obtain ⟨h1, h2, h3, h4, h5, h6, h7, h8⟩ := h
  exact ⟨h1, h2, h3, h4, h5, h6, h7, fun i hi => (h8 i hi).of (fun a g1 g2 => e a g1 (by omega)) (e _ (by omega) (by omega)) (e _ (by omega) (by omega)) (e _ (by omega) (by omega))⟩
theorem scr_lt {s : Nat} (hs : s ∈ scrL) : 2 ≤ s ∧ s + 40 ≤ 82 := by
  rcases List.mem_cons.mp hs with rfl | hs
  · omega
  · rcases List.mem_cons.mp hs with rfl | hs
    · omega
    · cases hs
theorem ScrC.fr {X : Nat → Prop} {C C1 : AmC} {s : Nat} {S : Scr} (h : ScrC C s S) (hO : ScrOK S) (hs : s ∈ scrL) (hF : Fr X C C1) (hX : ∀ a, X a → 82 ≤ a) : ScrC C1 s S := by
  obtain ⟨g1, g2⟩ := scr_lt hs
  exact h.of hO.2.2.2.2.2.2.2.1 (fun a z1 z2 => hF.2.1 a (fun y => by have := hX a y; omega))
def jL (last : Option Int) : Int64 := match last with
  | none => -1152921504606846976
  | some y => Int64.ofInt y
def CurC (C : AmC) (a : Nat) (S : Scr) (path : Nat) (R : Int32 → Bool) (last : Option Int) : Prop :=
  cI C a 0 = (if path = 0 then -1 else nI (ix1 S ((path - 1) / 2))) ∧ cI C a 1 = (if path = 0 then -1 else oI (ix2 S ((path - 1) / 2))) ∧ cI C a 2 = (if pDown path = true then 1 else 0) ∧ (¬ path = 0 → ∀ x, okN x → (decide (cI C a 3 ≤ x) && decide (x ≤ cI C a 4)) = R x) ∧ cJ C a 5 = jL last
theorem CurC.of {C C1 : AmC} {a : Nat} {S : Scr} {path : Nat} {R : Int32 → Bool} {last : Option Int} (h : CurC C a S path R last) (e1 : cI C1 a = cI C a) (e2 : cJ C1 a = cJ C a) : CurC C1 a S path R last := by
  unfold CurC
  rw [e1, e2]
  exact h
theorem j_add {x : Int32} (h : okN x) : (x + 9999).toInt64 = Int64.ofInt (x.toInt + 9999) := by
  unfold okN at h
  apply Int64.toInt_inj.mp
  rw [Int32.toInt_toInt64, Int32.toInt_add, show (9999 : Int32).toInt = 9999 from by decide, Int.bmod_eq_of_le (by omega) (by omega), Int64.toInt_ofInt_of_le (by omega) (by omega)]
theorem j_nat {p : Nat} (h : p < 2147483648) : (nI p).toInt64 = Int64.ofInt (p : Int) := by
  apply Int64.toInt_inj.mp
  rw [Int32.toInt_toInt64, nI_toInt h, Int64.toInt_ofInt_of_le (by omega) (by omega)]
theorem rk3_bd {path p : Nat} {sec : Bool} {x y : Int32} (h1 : okN x) (h2 : okN y) (hp : p < 30) : -12000000000 < rk3 path sec x y p ∧ rk3 path sec x y p < 12000000000 := by
  unfold rk3
  unfold okN at h1 h2
  by_cases e : path = 0
  · rw [if_pos e]; omega
  · rw [if_neg e]
    cases sec <;> cases pDown path <;> simp only [↓reduceIte, Bool.false_eq_true, if_false, if_true] <;> omega
theorem sRk_bd {S : Scr} {T : Tab} {path p : Nat} (hO : ScrOK S) (hN : TabN (sCols S) T) (hpa : PathOK S path) (hp : p < 30) (tp : T.1 p = true) : -12000000000 < sRk S path T p ∧ sRk S path T p < 12000000000 := rk3_bd (okX hO hN hpa hp tp) (okY hO hN hpa hp tp) hp
theorem c7 {n : Nat} {C : AmC} {a r path p : Nat} {S : Scr} {T : Tab} {R : Int32 → Bool} {last : Option Int} (ha : isK a 0 = true) (hr : RwK C r) (hT : TabC (sCols S) C r T) (hO : ScrOK S) (hN : TabN (sCols S) T) (hpa : PathOK S path) (hC : CurC C a S path R last) (hp : p < 30) (tp : T.1 p = true) : f_7 n a r (nI p) C = some (Int64.ofInt (sRk S path T p), C) := by
  obtain ⟨e0, e1, e2, _, _⟩ := hC
  have h4 := hO.2.1
  unfold f_7 sRk rk3
  by_cases e : path = 0
  · rw [if_pos e] at e0
    have er : (if path = 0 then (p : Int) else (if pDown path = true then -1 else 1) * (((pX S path T p).toInt + 9999) * 19999 + (if (ix2 S ((path - 1) / 2)).isSome = true then (pY S path T p).toInt + 9999 else 0)) * 30 + p) = p := by rw [if_pos e]
    simp only [↓reduceIte, ha, if_true, e0, not_true, if_false, j_nat (show p < 2147483648 by omega), e]
  · rw [if_neg e] at e0 e1
    have hi := hpa.ix e
    obtain ⟨g1, g2⟩ := ix_lt hO hi
    have t1 : tg T p (ix1 S ((path - 1) / 2)) = T.2 p (ix1 S ((path - 1) / 2)) := by simp [tg, tp]
    have okx : okN (T.2 p (ix1 S ((path - 1) / 2))) := hN p hp tp _ g1
    have em : ¬ nI (ix1 S ((path - 1) / 2)) = (-1 : Int32) := by rw [x_eqm (by omega)]; exact id
    simp (disch := omega) only [↓reduceIte, ha, hr.1, if_true, e0, em, not_false_iff, ↓bd1 (rg_eq (n := n) hr hT hp g1 h4), rg_eq hr hT hp g1 h4, Option.bind_some, t1, e1, e2, pX, pY, e, if_false, j_add okx, j_nat]
    cases hy : ix2 S ((path - 1) / 2) with
    | none =>
      simp only [↓reduceIte, oI_n, oI_s, not_true, if_false, if_true, Option.isSome_none, Bool.false_eq_true]
      cases pDown path with
      | false =>
        simp only [↓reduceIte, Bool.false_eq_true, if_false, if_true, Int.one_mul]
        simp only [Int64.ofInt_add, Int64.ofInt_mul]
        rfl
      | true =>
        have ne : ¬ (1 : Int32) = 0 := by decide
        simp only [↓reduceIte, ne, if_false, if_true, Int.neg_mul, Int.one_mul]
        simp only [Int64.ofInt_neg, Int64.ofInt_add, Int64.ofInt_mul]
        rfl
    | some c =>
      have gc := (g2 c hy).1
      have t2 : tg T p c = T.2 p c := by simp [tg, tp]
      have oky : okN (T.2 p c) := hN p hp tp _ gc
      have em2 : ¬ nI c = (-1 : Int32) := by rw [x_eqm (by omega)]; exact id
      simp (disch := omega) only [↓reduceIte, oI_n, oI_s, em2, not_false_iff, if_true, rg_eq hr hT hp gc h4, Option.bind_some, t2, j_add oky, Option.isSome_some, e2]
      cases pDown path with
      | false =>
        simp only [↓reduceIte, Bool.false_eq_true, if_false, if_true, Int.one_mul]
        simp only [Int64.ofInt_add, Int64.ofInt_mul]
        rfl
      | true =>
        have ne : ¬ (1 : Int32) = 0 := by decide
        simp only [↓reduceIte, ne, if_false, if_true, Int.neg_mul, Int.one_mul]
        simp only [Int64.ofInt_neg, Int64.ofInt_add, Int64.ofInt_mul]
        rfl
theorem c6 {n : Nat} {C : AmC} {a r path p : Nat} {S : Scr} {T : Tab} {R : Int32 → Bool} {last : Option Int} (ha : isK a 0 = true) (hr : RwK C r) (hT : TabC (sCols S) C r T) (hO : ScrOK S) (hN : TabN (sCols S) T) (hpa : PathOK S path) (hC : CurC C a S path R last) (hp : p < 30) (tp : T.1 p = true) : f_6 n a r (nI p) C = some (if (if path = 0 then true else R (T.2 p (ix1 S ((path - 1) / 2)))) = true then 1 else 0, C) := by
  obtain ⟨e0, e1, e2, e3, _⟩ := hC
  have h4 := hO.2.1
  unfold f_6
  by_cases e : path = 0
  · rw [if_pos e] at e0
    simp only [↓reduceIte, ha, if_true, e0, e]
  · rw [if_neg e] at e0
    obtain ⟨g1, g2⟩ := ix_lt hO (hpa.ix e)
    have t1 : tg T p (ix1 S ((path - 1) / 2)) = T.2 p (ix1 S ((path - 1) / 2)) := by simp [tg, tp]
    have em : ¬ nI (ix1 S ((path - 1) / 2)) = (-1 : Int32) := by rw [x_eqm (by omega)]; exact id
    have z := e3 e _ (hN p hp tp _ g1)
    simp (disch := omega) only [↓reduceIte, ha, hr.1, if_true, e0, em, if_false, rg_eq hr hT hp g1 h4, Option.bind_some, t1, e, ← z]
    by_cases c1 : T.2 p (ix1 S ((path - 1) / 2)) < cI C a 3
    · simp [c1, Int32.not_le.mpr c1]
    · by_cases c2 : cI C a 4 < T.2 p (ix1 S ((path - 1) / 2))
      · simp [c1, c2, Int32.not_le.mpr c2]
      · simp [c1, c2, Int32.not_lt.mp c1, Int32.not_lt.mp c2]
def jN (rk : Nat → Int) (b : Option Nat) : Int64 := match b with
  | none => 1152921504606846976
  | some q => Int64.ofInt (rk q)
theorem jL_le {last : Option Int} {x : Int} (h1 : -12000000000 < x ∧ x < 12000000000) (h2 : ∀ y, last = some y → -12000000000 < y ∧ y < 12000000000) : (Int64.ofInt x ≤ jL last) ↔ lOk last x = false := by
  rw [Int64.le_iff_toInt_le, Int64.toInt_ofInt_of_le (by omega) (by omega)]
  cases last with
  | none =>
    have z : (jL none).toInt = -1152921504606846976 := by decide
    rw [z]
    simp only [lOk, Bool.true_eq_false, iff_false]
    omega
  | some y =>
    have := h2 y rfl
    simp only [jL, lOk]
    rw [Int64.toInt_ofInt_of_le (by omega) (by omega)]
    simp
theorem jN_le {rk : Nat → Int} {b : Option Nat} {x : Int} (h1 : -12000000000 < x ∧ x < 12000000000) (h2 : ∀ q, b = some q → -12000000000 < rk q ∧ rk q < 12000000000) : (jN rk b ≤ Int64.ofInt x) ↔ bLt rk x b = false := by
  rw [Int64.le_iff_toInt_le, Int64.toInt_ofInt_of_le (by omega) (by omega)]
  cases b with
  | none =>
    have z : (jN rk none).toInt = 1152921504606846976 := by
      show (1152921504606846976 : Int64).toInt = _
      decide
    rw [z]
    simp only [bLt, Bool.true_eq_false, iff_false]
    omega
  | some q =>
    have := h2 q rfl
    simp only [jN, bLt]
    rw [Int64.toInt_ofInt_of_le (by omega) (by omega)]
    simp
def okC (S : Scr) (path : Nat) (R : Int32 → Bool) (T : Tab) (p : Nat) : Bool := T.1 p && (if path = 0 then true else R (T.2 p (ix1 S ((path - 1) / 2))))
theorem c5_lp {C : AmC} {a r path : Nat} {S : Scr} {T : Tab} {R : Int32 → Bool} {last : Option Int} (ha : isK a 0 = true) (hr : RwK C r) (hT : TabC (sCols S) C r T) (hO : ScrOK S) (hN : TabN (sCols S) T) (hpa : PathOK S path) (hC : CurC C a S path R last) (hl : ∀ y, last = some y → -12000000000 < y ∧ y < 12000000000) : ∀ k j n b, j + k = 30 → k < n → (∀ q, b = some q → q < j ∧ okC S path R T q = true) → lp_5_6 n a r (oI b) (jN (sRk S path T) b) (nI j) C = some ((a, oI (qo (nxS (okC S path R T) (sRk S path T) last) k j b), jN (sRk S path T) (qo (nxS (okC S path R T) (sRk S path T) last) k j b)), C) := by
  intro k
  induction k with
  | zero =>
    intro j n b h1 h2 _
    obtain ⟨n, rfl⟩ : ∃ m, n = m + 1 := ⟨n - 1, by omega⟩
    have h3 : 30 ≤ j := by omega
    simp (disch := omega) only [lp_5_6, ↓reduceIte, n_2, n_3, n_4, n_5, n_6, n_7, n_8, n_10, n_12, n_20, n_30, n_40, n_100, n_120, n_150, n_200, n_230, n_320, n_450, n_900, x_le, x_lt, x_eq, x_lt0, x_le0, x_0le, x_0lt, x_eq0, x_eq1, x_1lt, x_le1, x_lt1, x_1le, x_eqm, x_add, x_a1, x_1a, x_a0, x_0a, x_mul, x_sub, x_s1, x_1s, x_div, x_cl, x_cl0, x_cl1, x_in, x_in0, x_in1, x_ofNat, h3, if_true, qo]
  | succ k ih =>
    intro j n b h1 h2 hb
    obtain ⟨n, rfl⟩ : ∃ m, n = m + 1 := ⟨n - 1, by omega⟩
    have h3 : ¬ 30 ≤ j := by omega
    have hj : j < 30 := by omega
    have keep := ih (j + 1) n b (by omega) (by omega) (fun q hq => ⟨by have := (hb q hq).1; omega, (hb q hq).2⟩)
    unfold qo
    rcases bcs (T.1 j) with tj | tj
    · have e2 : nxS (okC S path R T) (sRk S path T) last j b = b := by simp [nxS, nxC, okC, tj]
      have w : f_75 n r (nI j) C = some (0, C) := by rw [rh_eq hr hT hj, tj]; rfl
      rw [e2]
      simp (disch := omega) only [lp_5_6, ↓reduceIte, n_2, n_3, n_4, n_5, n_6, n_7, n_8, n_10, n_12, n_20, n_30, n_40, n_100, n_120, n_150, n_200, n_230, n_320, n_450, n_900, x_le, x_lt, x_eq, x_lt0, x_le0, x_0le, x_0lt, x_eq0, x_eq1, x_1lt, x_le1, x_lt1, x_1le, x_eqm, x_add, x_a1, x_1a, x_a0, x_0a, x_mul, x_sub, x_s1, x_1s, x_div, x_cl, x_cl0, x_cl1, x_in, x_in0, x_in1, x_ofNat, h3, if_false, if_true, hr.1, ↓bd1 w, not_true]
      exact keep
    · have w : f_75 n r (nI j) C = some (1, C) := by rw [rh_eq hr hT hj, tj]; rfl
      have ne : ¬ (1 : Int32) = 0 := by decide
      have bd := sRk_bd hO hN hpa hj tj
      have q1 := jL_le (last := last) bd hl
      have bb : ∀ q, b = some q → -12000000000 < sRk S path T q ∧ sRk S path T q < 12000000000 := fun q hq => by
        obtain ⟨z1, z2⟩ := hb q hq
        unfold okC at z2
        simp only [Bool.and_eq_true] at z2
        exact sRk_bd hO hN hpa (by omega) z2.1
      have q2 := jN_le (rk := sRk S path T) (b := b) bd bb
      have c6' := c6 (n := n) ha hr hT hO hN hpa hC hj tj
      have c7' := c7 (n := n) ha hr hT hO hN hpa hC hj tj
      have take := ih (j + 1) n (some j) (by omega) (by omega)
      rw [show jN (sRk S path T) (some j) = Int64.ofInt (sRk S path T j) from rfl] at take
      simp (disch := omega) only [lp_5_6, ↓reduceIte, n_2, n_3, n_4, n_5, n_6, n_7, n_8, n_10, n_12, n_20, n_30, n_40, n_100, n_120, n_150, n_200, n_230, n_320, n_450, n_900, x_le, x_lt, x_eq, x_lt0, x_le0, x_0le, x_0lt, x_eq0, x_eq1, x_1lt, x_le1, x_lt1, x_1le, x_eqm, x_add, x_a1, x_1a, x_a0, x_0a, x_mul, x_sub, x_s1, x_1s, x_div, x_cl, x_cl0, x_cl1, x_in, x_in0, x_in1, x_ofNat, h3, if_false, if_true, hr.1, ha, ↓bd1 w, ne, not_false_iff, ↓bd1 c7', lg_cmp_le, lg_cmp_ge, hC.2.2.2.2, q1, q2]
      unfold nxS nxC okC
      rw [tj]
      rcases bcs (lOk last (sRk S path T j)) with z1 | z1
      · simp only [↓reduceIte, z1, Bool.and_false, Bool.false_and, Bool.false_eq_true, if_true, if_false]
        exact keep
      · simp only [↓reduceIte, z1, Bool.and_true, Bool.true_and, Bool.true_eq_false, if_false]
        rcases bcs (bLt (sRk S path T) (sRk S path T j) b) with z2 | z2
        · simp only [↓reduceIte, z2, Bool.and_false, Bool.false_eq_true, if_true, if_false]
          exact keep
        · simp only [↓reduceIte, z2, Bool.and_true, Bool.true_eq_false, if_false]
          rw [c6']
          simp only [Option.bind_some, ite10]
          rcases bcs (if path = 0 then true else R (T.2 j (ix1 S ((path - 1) / 2)))) with z3 | z3
          · simp only [↓reduceIte, z3, Bool.false_eq_true, if_true, if_false]
            exact keep
          · simp only [↓reduceIte, z3, Bool.true_eq_false, if_true, if_false]
            exact take (fun q hq => by cases hq; exact ⟨by omega, by simp only [okC, tj, z3, Bool.and_self]⟩)
/-- the cursor behind a read -/
def rdC (C : AmC) (a : Nat) (S : Scr) (path : Nat) (T : Tab) (b : Option Nat) : AmC := match b with
  | none => C
  | some p => uJ C a 5 (Int64.ofInt (sRk S path T p))
theorem c5 {n : Nat} {C : AmC} {a r path : Nat} {S : Scr} {T : Tab} {R : Int32 → Bool} {last : Option Int} (ha : isK a 0 = true) (hr : RwK C r) (hT : TabC (sCols S) C r T) (hO : ScrOK S) (hN : TabN (sCols S) T) (hpa : PathOK S path) (hC : CurC C a S path R last) (hl : ∀ y, last = some y → -12000000000 < y ∧ y < 12000000000) (hn : 31 ≤ n) : f_5 n a r C = some (oI (sNext (okC S path R T) (sRk S path T) last), rdC C a S path T (sNext (okC S path R T) (sRk S path T) last)) := by
  have L := c5_lp ha hr hT hO hN hpa hC hl 30 0 n none rfl (by omega) (fun q hq => by cases hq)
  have e : qo (nxS (okC S path R T) (sRk S path T) last) 30 0 none = sNext (okC S path R T) (sRk S path T) last := rfl
  rw [e] at L
  unfold f_5
  rw [show (-1 : Int32) = oI none from rfl, ← x_0, show (1152921504606846976 : Int64) = jN (sRk S path T) none from rfl, L]
  simp only [Option.bind_some]
  cases hs : sNext (okC S path R T) (sRk S path T) last with
  | none => simp [oI_n, oI_s, rdC]
  | some p =>
    have hp := (sNext_ok hs).1
    have em : ¬ nI p = (-1 : Int32) := by rw [x_eqm (by omega)]; exact id
    simp only [↓reduceIte, oI_n, oI_s, em, if_false, ha, if_true, rdC, jN]
