/-! The class's cursor begins. -/
theorem uI_self (C : AmC) (a j : Nat) : uI C a j (cI C a j) = C := by
  obtain ⟨I, J, P⟩ := C
  unfold uI uA cI cJ cP va_up
  simp only [Prod.mk.injEq, and_true]
  funext b k
  by_cases h : b = a
  · subst h
    by_cases h2 : k = j
    · subst h2; simp
    · simp [h2]
  · simp [h]
def c1C (C : AmC) (a : Nat) (S : Scr) (path : Nat) : AmC := uJ (uI (uI (uI (uI (uI C a 0 (if path = 0 then -1 else nI (ix1 S ((path - 1) / 2)))) a 1 (if path = 0 then -1 else oI (ix2 S ((path - 1) / 2)))) a 2 (if pDown path = true then 1 else 0)) a 3 (-9999)) a 4 9999) a 5 (-1152921504606846976)
theorem c1_fr (C : AmC) (a : Nat) (S : Scr) (path : Nat) : Fr (fun b => b = a) C (c1C C a S path) := ((((((Fr.refl (fun b => b = a) C).uI (a := a) rfl).uI (a := a) rfl).uI (a := a) rfl).uI (a := a) rfl).uI (a := a) rfl).uJ (a := a) rfl
theorem c1_cur (C : AmC) (a : Nat) (S : Scr) (path : Nat) : CurC (c1C C a S path) a S path (fun _ => true) none := by
  unfold CurC c1C
  have L3 : (-9999 : Int32).toInt = -9999 := by decide
  have L4 : (9999 : Int32).toInt = 9999 := by decide
  refine ⟨by simp [r_I, r_J], by simp [r_I, r_J], by simp [r_I, r_J], fun _ x hx => ?_, by simp [j_J, jL]⟩
  unfold okN at hx
  simp only [r_J, r_I]
  simp only [↓reduceIte, and_self, if_true, show ¬ (3 : Nat) = 4 from by decide, and_false, if_false, Bool.and_eq_true, decide_eq_true_eq, Int32.le_iff_toInt_le, L3, L4]
  omega
theorem c1 {n : Nat} {C : AmC} {a s path : Nat} {S : Scr} (hP : PInv C) (hs : s ∈ scrL) (hS : ScrC C s S) (hO : ScrOK S) (hpa : PathOK S path) (ha : isK a 0 = true) (ha2 : 82 ≤ a) : f_1 n a s (nI path) C = some ((), c1C C a S path) := by
  have h7 := hpa.lt hO
  have h := sc_of hP hs
  have F1 : ∀ v, Fr (fun b => b = a) C (uI C a 0 v) := fun v => (Fr.refl (fun b => b = a) C).uI (a := a) rfl
  unfold f_1 c1C
  by_cases e : path = 0
  · have w1 : f_88 n (nI path) C = some (-1, C) := by rw [c88 (by omega), if_pos e]
    have w4 : ∀ C, f_89 n (nI path) C = some (0, C) := fun C => by rw [c89 (by omega)]; simp [pDown, e]
    have pd : pDown path = false := by simp [pDown, e]
    have i1 : (if path = 0 then (-1 : Int32) else nI (ix1 S ((path - 1) / 2))) = -1 := if_pos e
    have i2 : (if path = 0 then (-1 : Int32) else oI (ix2 S ((path - 1) / 2))) = -1 := if_pos e
    rw [i1, i2]
    simp only [↓reduceIte, ↓bd1 w1, h.k, if_true, ↓bd1 (c93m (n := n) (C := C) (s := s)), ha, c94m, Option.bind_some, w4, pd, Bool.false_eq_true, if_false, true_or]
  · have hi := hpa.ix e
    have w1 : f_88 n (nI path) C = some (nI ((path - 1) / 2), C) := by rw [c88 (by omega), if_neg e]
    have w2 : f_93 n s (nI ((path - 1) / 2)) C = some (nI (ix1 S ((path - 1) / 2)), C) := by rw [c93 h hS hO (by omega), if_pos hi]
    have w3 : ∀ v, f_94 n s (nI ((path - 1) / 2)) (uI C a 0 v) = some (oI (ix2 S ((path - 1) / 2)), uI C a 0 v) := fun v => by
      rw [c94 (sc_of (hP.of (C1 := uI C a 0 v) rfl) hs) (hS.fr hO hs (F1 v) (fun b hb => by omega)) hO (by omega), if_pos hi]
    have w4 : ∀ C, f_89 n (nI path) C = some (if pDown path = true then 1 else 0, C) := fun C => c89 (by omega)
    have o1 : ((if pDown path = true then (1 : Int32) else 0) = 0 ∨ (if pDown path = true then (1 : Int32) else 0) = 1) := by cases pDown path <;> simp
    simp only [↓reduceIte, ↓bd1 w1, h.k, if_true, ↓bd1 w2, ha, w3, Option.bind_some, w4, e, if_false, o1]
theorem c4 {n : Nat} {C : AmC} {a s st path o : Nat} {S : Scr} {t : Stm} (hP : PInv C) (hs : s ∈ scrL) (hS : ScrC C s S) (hO : ScrOK S) (hpa : PathOK S path) (ha : isK a 0 = true) (ha2 : 82 ≤ a) (hst : isK st 8 = true) (hst2 : st < 82) (ht : StmC (sCols S) C s st t) (hto : StmOK (sCols S) t) (h3 : tKd t = 3) (ho : o < (sOth S).length) : Rt (f_4 n a s st (nI path) (othN S o (tOth t)) C) (fun _ C' => CurC C' a S path (rgX S (some t) path (some o)) none ∧ Fr (fun b => b = a) C C') := by
  have h4 := hO.2.1
  have F := c1_fr C a S path
  have K := c1_cur C a S path
  have e3 : cI (c1C C a S path) st 3 = nI (tOwn t) := by rw [F.2.1 st (by omega)]; exact ht.2.2.2.1
  have hown := hto.2.2.2.1
  have hc4 := hto.2.2.2.2.1
  unfold f_4
  rw [if_pos ha, bd1 (c1 hP hs hS hO hpa ha ha2)]
  dsimp only
  rw [K.1]
  by_cases e : path = 0
  · rw [if_pos e, if_pos rfl]
    exact rt_ret ⟨⟨K.1, K.2.1, K.2.2.1, fun z => absurd e z, K.2.2.2.2⟩, F⟩
  · have hi := hpa.ix e
    have g1 := (ix_lt hO hi).1
    have em : ¬ nI (ix1 S ((path - 1) / 2)) = (-1 : Int32) := by rw [x_eqm (by omega)]; exact id
    simp (disch := omega) only [↓reduceIte, e, if_false, em, hst, if_true, e3, x_eq, ha]
    by_cases c : ix1 S ((path - 1) / 2) = tOwn t
    · simp only [↓reduceIte, c, not_true, if_false]
      refine rt_ret ⟨⟨?_, ?_, ?_, fun _ x hx => ?_, ?_⟩, (F.uI (a := a) rfl).uI (a := a) rfl⟩
      · rw [r_I, r_I]; simp [K.1]
      · rw [r_I, r_I]; simp [K.2.1]
      · rw [r_I, r_I]; simp [K.2.2.1]
      · rw [r_I, r_I, r_I]
        simp only [↓reduceIte, and_self, if_true, show ¬ (3 : Nat) = 4 from by decide, and_false, if_false, rgX, h3, c, Option.getD_some]
        rw [Bool.eq_iff_iff]
        simp only [Bool.and_eq_true, decide_eq_true_eq, Int32.le_iff_toInt_le, i_eqT]
        omega
      · rw [j_I, j_I]; exact K.2.2.2.2
    · simp only [↓reduceIte, c, not_false_iff, if_true]
      refine rt_ret ⟨⟨K.1, K.2.1, K.2.2.1, fun e x hx => ?_, K.2.2.2.2⟩, F⟩
      rw [K.2.2.2.1 e x hx]
      simp [rgX, h3, c]
/-- a value's atoms, as the class finds them -/
theorem vc_at {C : AmC} {s k : Nat} {v : Val} (h : ScK C s) (hV : VC C s k v) : ∃ a, a + v.length ≤ 450 ∧ (∀ i (g : i < v.length), AtC C s (a + i) v[i]) ∧ (∀ n, f_100 n s (nI k) C = some (nI v.length, C)) ∧ ∀ n i, i < 1000 → f_101 n s (nI k) (nI i) C = some (if i < v.length then nI (a + i) else -1, C) := by
  obtain ⟨vc, a, e1, h1, h2, e2, e3, h3, h4⟩ := hV
  refine ⟨a, h3, h4, fun n => ?_, fun n i hi => ?_⟩
  · unfold f_100
    have g1 : ¬ vc ≤ k := by omega
    have g2 : ¬ 450 ≤ k := by omega
    have g3 : k + 1 < 451 := by omega
    have g4 : k < 451 := by omega
    have g5 : a ≤ a + v.length := by omega
    simp (disch := omega) only [↓reduceIte, n_2, n_3, n_4, n_5, n_6, n_7, n_8, n_10, n_12, n_20, n_30, n_40, n_100, n_120, n_150, n_200, n_230, n_320, n_450, n_900, x_le, x_lt, x_eq, x_lt0, x_le0, x_0le, x_0lt, x_eq0, x_eq1, x_1lt, x_le1, x_lt1, x_1le, x_eqm, x_add, x_a1, x_1a, x_a0, x_0a, x_mul, x_sub, x_s1, x_1s, x_div, x_cl, x_cl0, x_cl1, x_in, x_in0, x_in1, x_ofNat, h.k, e1, g1, g2, if_true, if_false, ↓bd1 h.p16, h.k13, h.l13, g3, g4, e2, e3, Nat.add_sub_cancel_left]
  · unfold f_101
    have g1 : ¬ vc ≤ k := by omega
    have g2 : ¬ 450 ≤ k := by omega
    have g3 : k + 1 < 451 := by omega
    have g4 : k < 451 := by omega
    simp (disch := omega) only [↓reduceIte, n_2, n_3, n_4, n_5, n_6, n_7, n_8, n_10, n_12, n_20, n_30, n_40, n_100, n_120, n_150, n_200, n_230, n_320, n_450, n_900, x_le, x_lt, x_eq, x_lt0, x_le0, x_0le, x_0lt, x_eq0, x_eq1, x_1lt, x_le1, x_lt1, x_1le, x_eqm, x_add, x_a1, x_1a, x_a0, x_0a, x_mul, x_sub, x_s1, x_1s, x_div, x_cl, x_cl0, x_cl1, x_in, x_in0, x_in1, x_ofNat, h.k, e1, g1, g2, if_true, if_false, ↓bd1 h.p16, h.k13, h.l13, g3, g4, e2, e3]
    by_cases c : i < v.length
    · have g5 : ¬ a + v.length ≤ a + i := by omega
      have g6 : ¬ 450 ≤ a + i := by omega
      simp only [↓reduceIte, c, g5, g6, if_true, if_false]
    · have g5 : a + v.length ≤ a + i := by omega
      simp only [↓reduceIte, c, g5, if_true, if_false]
theorem aval_1 {v : Val} {b : Atom} (h : v = [b]) : v.length = 1 := by rw [h]; rfl
theorem okN_p {b : Int32} (h : okN b) : (b + 1).toInt = b.toInt + 1 ∧ (b - 1).toInt = b.toInt - 1 := by
  unfold okN at h
  constructor
  · rw [Int32.toInt_add, show (1 : Int32).toInt = 1 from by decide, Int.bmod_eq_of_le (by omega) (by omega)]
  · rw [Int32.toInt_sub, show (1 : Int32).toInt = 1 from by decide, Int.bmod_eq_of_le (by omega) (by omega)]
theorem cur_sub {C : AmC} {a : Nat} {S : Scr} {path : Nat} {R R' : Int32 → Bool} {last : Option Int} {lo hi : Int32} (K : CurC C a S path R last) (hR : ∀ x, okN x → (decide (lo ≤ x) && decide (x ≤ hi)) = R' x) : CurC (uI (uI C a 3 lo) a 4 hi) a S path R' last := by
  refine ⟨?_, ?_, ?_, fun _ x hx => ?_, ?_⟩
  · rw [r_I, r_I]; simp [K.1]
  · rw [r_I, r_I]; simp [K.2.1]
  · rw [r_I, r_I]; simp [K.2.2.1]
  · rw [r_I, r_I, r_I]
    simp only [↓reduceIte, and_self, if_true, show ¬ (3 : Nat) = 4 from by decide, and_false, if_false]
    exact hR x hx
  · rw [j_I, j_I]; exact K.2.2.2.2
