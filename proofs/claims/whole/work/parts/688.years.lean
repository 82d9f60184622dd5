/-! years: numbers are drawn, statements run, numbers laid. -/
def stir (x : Int32) : Int32 := x * (1103515245 : Int32) + (12345 : Int32)
theorem b_32767 (i : Nat) : bt 32767 i = decide (i < 15) := by
  by_cases h : i < 32
  · revert h
    revert i
    decide +kernel
  · rw [b_big (by omega)]
    simp
    omega
def d15 (x : Int32) : Nat := ((x.toUInt32 >>> ((nI 16).toUInt32 &&& Int32.toUInt32 31)).toInt32 &&& (32767 : Int32)).toBitVec.toNat
theorem d15_n (x : Int32) : d15 x < 32768 ∧ ((x.toUInt32 >>> ((nI 16).toUInt32 &&& Int32.toUInt32 31)).toInt32 &&& (32767 : Int32)) = nI (d15 x) := by
  unfold d15
  have hb : ∀ i, 15 ≤ i → bt ((x.toUInt32 >>> ((nI 16).toUInt32 &&& Int32.toUInt32 31)).toInt32 &&& (32767 : Int32)) i = false := fun i hi => by
    rw [b_and, b_32767]
    simp [show ¬ i < 15 by omega]
  generalize ((x.toUInt32 >>> ((nI 16).toUInt32 &&& Int32.toUInt32 31)).toInt32 &&& (32767 : Int32)) = y at hb
  have h1 : y.toBitVec.toNat < 32768 := by
    have : y.toBitVec.toNat < 2 ^ 15 := by
      apply Nat.lt_pow_two_of_testBit
      intro i hi
      have := hb i hi
      unfold bt BitVec.getLsbD at this
      exact this
    omega
  refine ⟨h1, ?_⟩
  apply Int32.toBitVec_inj.mp
  apply BitVec.eq_of_toNat_eq
  show y.toBitVec.toNat = (BitVec.ofNat 32 y.toBitVec.toNat).toNat
  rw [BitVec.toNat_ofNat, Nat.mod_eq_of_lt (by omega)]
theorem d15_m (x : Int32) : ((x >>> ((16 : Int32) &&& 31)) &&& (32767 : Int32)) = nI (d15 x) := by
  rw [← (d15_n x).2]
  apply b_ext
  intro i hi
  rw [b_and, b_and, b_32767, b_ushr 16 (by omega)]
  have : bt (x >>> ((16 : Int32) &&& 31)) i = if 16 + i < 32 then bt x (16 + i) else bt x 31 := b_sshr 16 (by omega) x hi
  rw [this]
  by_cases l : i < 15
  · simp [l, show 16 + i < 32 by omega]
  · simp [l]
def drw (x : Int32) (N : Nat) : Nat := d15 x % N
theorem n_mod {d N : Nat} (hd : d < 2147483648) (h0 : 0 < N) (hN : N < 2147483648) : nI d - nI d / nI N * nI N = nI (d % N) := by
  have e := Nat.div_add_mod d N
  rw [Nat.mul_comm] at e
  rw [x_div hd h0 hN, x_mul, x_sub (by omega)]
  congr 1
  omega
theorem c158 {n N : Nat} {x : Int32} {C : AmC} (h0 : 0 < N) (hN : N < 2147483648) : f_158 n x (nI N) C = some (nI (drw x N), C) := by
  obtain ⟨l, e⟩ := d15_n x
  have e : ((x.toUInt32 >>> ((16 : Int32).toUInt32 &&& Int32.toUInt32 31)).toInt32 &&& (32767 : Int32)) = nI (d15 x) := e
  unfold f_158 drw
  rw [if_neg (by rw [x_le0 hN]; omega), if_pos (by rw [x_eq0 hN]; omega), e, n_mod (by omega) h0 hN]
theorem m284 {n N : Nat} {x : Int32} {C : AmC} (h0 : 0 < N) (hN : N < 2147483648) (ex : cI C 145 89 = x) : f_284 n 145 (nI N) C = some (nI (drw (stir x) N), uI C 145 89 (stir x)) := by
  have l := (d15_n (stir x)).1
  have e : cI (uI C 145 89 (stir x)) 145 89 = stir x := by rw [r_I, if_pos ⟨rfl, rfl⟩]
  have s : x * (1103515245 : Int32) + (12345 : Int32) = stir x := rfl
  unfold f_284 drw
  rw [if_pos k_145, if_pos (by rw [x_eq0 hN]; omega), ex, s, e, d15_m, n_mod (by omega) h0 hN]
theorem drw_lt {x : Int32} {N : Nat} (h : 0 < N) : drw x N < N := Nat.mod_lt _ h
abbrev Yr : Type := Tab × Int32 × Int32
def yrN (S : Scr) : Nat → Tab → Int32 → Int32 → Int32 → Yr
  | 0, T, _, w, u => (T, w, u)
  | k + 1, T, x, w, u =>
    if drw (stir x) 3 = 2 then yrN S k (layT S T (drw (stir (stir x)) 30) (drw (stir (stir (stir x))) (sCols S)) (nI (drw (stir (stir (stir (stir x)))) 10))) (stir (stir (stir (stir x)))) w u
    else if (sStm S).length = 0 then yrN S k T (stir x) w u
    else if rE (sRight S (stmO S (drw (stir (stir x)) (sStm S).length)) T) = 0 then yrN S k (rT (sRight S (stmO S (drw (stir (stir x)) (sStm S).length)) T)) (stir (stir x)) (w + nI (rL (sRight S (stmO S (drw (stir (stir x)) (sStm S).length)) T)).length) u
    else yrN S k T (stir (stir x)) w (u + 1)
theorem yr_a {S : Scr} {k : Nat} {T : Tab} {x w u : Int32} (d : drw (stir x) 3 = 2) : yrN S (k + 1) T x w u = yrN S k (layT S T (drw (stir (stir x)) 30) (drw (stir (stir (stir x))) (sCols S)) (nI (drw (stir (stir (stir (stir x)))) 10))) (stir (stir (stir (stir x)))) w u := by
  rw [yrN, if_pos d]
theorem yr_b {S : Scr} {k : Nat} {T : Tab} {x w u : Int32} (d : ¬ drw (stir x) 3 = 2) (z : (sStm S).length = 0) : yrN S (k + 1) T x w u = yrN S k T (stir x) w u := by
  rw [yrN, if_neg d, if_pos z]
theorem yr_c {S : Scr} {k : Nat} {T : Tab} {x w u : Int32} (d : ¬ drw (stir x) 3 = 2) (z : ¬ (sStm S).length = 0) (r : rE (sRight S (stmO S (drw (stir (stir x)) (sStm S).length)) T) = 0) : yrN S (k + 1) T x w u = yrN S k (rT (sRight S (stmO S (drw (stir (stir x)) (sStm S).length)) T)) (stir (stir x)) (w + nI (rL (sRight S (stmO S (drw (stir (stir x)) (sStm S).length)) T)).length) u := by
  rw [yrN, if_neg d, if_neg z, if_pos r]
theorem yr_d {S : Scr} {k : Nat} {T : Tab} {x w u : Int32} (d : ¬ drw (stir x) 3 = 2) (z : ¬ (sStm S).length = 0) (r : ¬ rE (sRight S (stmO S (drw (stir (stir x)) (sStm S).length)) T) = 0) : yrN S (k + 1) T x w u = yrN S k T (stir (stir x)) w (u + 1) := by
  rw [yrN, if_neg d, if_neg z, if_neg r]
def yrW (y : Yr) (w : Nat) : Int32 := if w = 0 then y.2.1 else if w = 1 then y.2.2 else nI (sSize y.1)
def sYrs (B : Big) (x m b : Int32) : Int32 ⊕ Nat := match ixO 3 b with
  | none => .inr 0
  | some w => match ixO 21 m with
    | none => .inr 1
    | some k => .inl (yrW (yrN (bS B) k (zT (bZ B)) x 0 0) w)
theorem inR10 {v : Nat} (h : v < 10) : inR (nI v) = true := by
  unfold inR
  rw [x_ti (by omega), Bool.and_eq_true, decide_eq_true_eq, decide_eq_true_eq]
  omega
section
variable {n : Nat} {C C' : AmC} {s h : Nat} {B : Big} {S : Scr}
theorem c139_lp (hB : BigOK B) {N : Nat} {p3 : Int32} (hN : N ≤ 20) : ∀ m k n C (T : Tab) (x w u : Int32), k + m = N → m + 9700 < n → CI C s B → TabC (sCols (bS B)) C 105 T → TabG (bS B) T → Rt (lp_139_27 n 0 (nI N) p3 w u x (nI k) C) (fun z C' => z = (0, p3, (yrN (bS B) m T x w u).2.1, (yrN (bS B) m T x w u).2.2) ∧ TabC (sCols (bS B)) C' 105 (yrN (bS B) m T x w u).1 ∧ FrC C C') := by
  have l8 := hB.1.2.2.2.2.2.2.2.1
  have c1 := hB.1.1
  have c4 := hB.1.2.1
  intro m
  induction m with
  | zero =>
    intro k n C T x w u h1 hn hC hT hG
    obtain ⟨n, rfl⟩ : ∃ m, n = m + 1 := ⟨n - 1, by omega⟩
    have b1 : N ≤ k := by omega
    simp (disch := omega) only [↓reduceIte, lp_139_27, x_le, b1, if_true]
    exact rt_ret ⟨rfl, hT, FrC.refl hC.1⟩
  | succ m ih =>
    intro k n C T x w u h1 hn hC hT hG
    obtain ⟨n, rfl⟩ : ∃ m, n = m + 1 := ⟨n - 1, by omega⟩
    have b1 : ¬ N ≤ k := by omega
    have P := hC.1
    have ks := sc_of P hC.2.1
    have w7 : ∀ x (D : AmC), f_157 n x D = some (stir x, D) := fun x D => rfl
    have w3 : ∀ x, f_158 n x (3 : Int32) C = some (nI (drw x 3), C) := fun x => c158 (N := 3) (by omega) (by omega)
    have w30 : ∀ x, f_158 n x (30 : Int32) C = some (nI (drw x 30), C) := fun x => c158 (N := 30) (by omega) (by omega)
    have w10 : ∀ x, f_158 n x (10 : Int32) C = some (nI (drw x 10), C) := fun x => c158 (N := 10) (by omega) (by omega)
    have d3 := drw_lt (x := stir x) (N := 3) (by omega)
    rw [lp_139_27, if_neg (by rw [x_le (by omega) (by omega)]; exact b1), bd1 (w7 _ _)]
    dsimp only
    rw [bd1 (w3 _)]
    dsimp only
    by_cases d : drw (stir x) 3 = 2
    · have ys := yr_a (S := bS B) (k := m) (T := T) (w := w) (u := u) d
      have e0 : cI C s 0 = nI (sCols (bS B)) := hC.2.2.2.2.1.1
      have wc : f_158 n (stir (stir (stir x))) (cI C s 0) C = some (nI (drw (stir (stir (stir x))) (sCols (bS B))), C) := by
        rw [e0]
        exact c158 (by omega) (by omega)
      have p30 := drw_lt (x := stir (stir x)) (N := 30) (by omega)
      have cc := drw_lt (x := stir (stir (stir x))) (N := sCols (bS B)) (by omega)
      have v10 := drw_lt (x := stir (stir (stir (stir x)))) (N := 10) (by omega)
      rw [if_neg (fun z => z (by rw [d]; rfl)), bd1 (w7 _ _)]
      dsimp only
      rw [bd1 (w30 _)]
      dsimp only
      rw [bd1 (w7 _ _)]
      dsimp only
      rw [if_pos k_0, bd1 hC.2.2.1, if_pos ks.k, bd1 wc]
      dsimp only
      rw [bd1 (w7 _ _)]
      dsimp only
      rw [bd1 (w_0_13 P), bd1 (w10 _)]
      dsimp only
      refine rt_bind (rt_mono (c152 (n := n) (s := s) (r := 105) P hC.2.1 hC.2.2.1 hC.2.2.2.2.1 hB.1 (by decide) (by omega) hT p30 cc (inR10 v10) (by omega)) (fun z C2 H => ?_))
      obtain ⟨_, T2, F2⟩ := H
      have FC : FrC C C2 := ⟨P.of F2.1, fun b z => F2.2.1 b (by omega), fun b z => F2.2.1 b (by omega), by rw [F2.1]⟩
      have I := ih (k + 1) n C2 _ (stir (stir (stir (stir x)))) w u (by omega) (by omega) (hC.fr hB FC) (T2) (lay_G p30 hG)
      dsimp only
      rw [x_a1]
      rw [ys]
      exact rt_mono I (fun _ _ H => ⟨H.1, H.2.1, FC.trans H.2.2⟩)
    · have e8 : cI C s 8 = nI (sStm (bS B)).length := hC.2.2.2.2.1.2.2.2.2.2.2.1
      rw [if_pos (by rw [n_2, x_eq (by omega) (by omega)]; exact d), if_pos k_0, bd1 hC.2.2.1, if_pos ks.k, e8]
      by_cases z0 : (sStm (bS B)).length = 0
      · have ys := yr_b (S := bS B) (k := m) (T := T) (w := w) (u := u) d z0
        have I := ih (k + 1) n C _ (stir x) w u (by omega) (by omega) hC (hT) (hG)
        rw [if_pos ((x_le0 (by omega)).mpr z0), x_a1]
        rw [ys]
        exact I
      · have wl : f_158 n (stir (stir x)) (nI (sStm (bS B)).length) C = some (nI (drw (stir (stir x)) (sStm (bS B)).length), C) := c158 (by omega) (by omega)
        have il := drw_lt (x := stir (stir x)) (N := (sStm (bS B)).length) (by omega)
        rw [if_neg (by rw [x_le0 (by omega)]; exact z0), bd1 (w7 _ _)]
        dsimp only
        rw [bd1 hC.2.2.1, if_pos ks.k, e8, bd1 wl]
        dsimp only
        rw [bd1 (w_0_13 P)]
        refine rt_bind (rt_mono (c151 (n := n) (r0 := 105) (T := T) hC hB il (by decide) (by omega) hT hG.1 (by omega)) (fun _ C1 H => ?_))
        obtain ⟨⟨⟨eT, _, e10, e11, _, _, _⟩, _⟩, F, _, xk⟩ := H
        have F' := F.c (by decide)
        have C1i := hC.fr hB F'
        have P1 := F.1
        have e11 : cI C1 113 11 = rE (sRight (bS B) (stmO (bS B) (drw (stir (stir x)) (sStm (bS B)).length)) T) := e11
        have e10 : cI C1 113 10 = nI (rL (sRight (bS B) (stmO (bS B) (drw (stir (stir x)) (sStm (bS B)).length)) T)).length := e10
        have T1 : TabC (sCols (bS B)) C1 105 T := hT.of (F.2.2.1 _ (by unfold PY PX; omega)) (F.2.2.1 _ (by unfold PY PX; omega))
        dsimp only
        rw [bd1 (w_0_9 P1), if_pos k_113, e11]
        by_cases r0 : rE (sRight (bS B) (stmO (bS B) (drw (stir (stir x)) (sStm (bS B)).length)) T) = 0
        · have ys := yr_c (S := bS B) (k := m) (T := T) (w := w) (u := u) d z0 r0
          have w72 := c72 (n := n) (rw_of P1 (show 105 ∈ rowsL by decide)) (rw_of P1 (show 114 ∈ rowsL by decide))
          have F3 := cpR_fr C1 105 114
          have T3 : TabC (sCols (bS B)) (cpR C1 105 114) 105 (rT (sRight (bS B) (stmO (bS B) (drw (stir (stir x)) (sStm (bS B)).length)) T)) := cpR_T c4 eT
          have P3 : PInv (cpR C1 105 114) := P1.of F3.1
          have FC3 : FrC C1 (cpR C1 105 114) := ⟨P3, fun b z => F3.2.1 b (by omega), fun b z => F3.2.1 b (by omega), by rw [F3.1]⟩
          generalize cpR C1 105 114 = C3 at w72 F3 T3 P3 FC3
          have I := ih (k + 1) n C3 _ (stir (stir x)) (w + nI (rL (sRight (bS B) (stmO (bS B) (drw (stir (stir x)) (sStm (bS B)).length)) T)).length) u (by omega) (by omega) (C1i.fr hB FC3) (T3) (sRight_G xk r0)
          rw [if_neg (fun z => z r0), bd1 (w_0_9 P1), if_pos k_113, bd1 (w_0_13 P1), bd1 (w_0_9 P1), if_pos k_113, bd1 (w_113_0 P1), if_pos k_105, bd1 w72]
          dsimp only
          rw [x_a1, e10]
          rw [ys]
          exact rt_mono I (fun _ _ H => ⟨H.1, H.2.1, F'.trans (FC3.trans H.2.2)⟩)
        · have ys := yr_d (S := bS B) (k := m) (T := T) (w := w) (u := u) d z0 r0
          have I := ih (k + 1) n C1 _ (stir (stir x)) w (u + 1) (by omega) (by omega) C1i (T1) (hG)
          rw [if_pos r0, x_a1]
          rw [ys]
          exact rt_mono I (fun _ _ H => ⟨H.1, H.2.1, F'.trans H.2.2⟩)
theorem q139 (hC : CI C s B) (hB : BigOK B) (hn : 9800 ≤ n) (x m b : Int32) : Rt (f_139 n 0 x m b C) (fun z C' => z = sYrs B x m b ∧ FrC C C') := by
  have c4 := hB.1.2.1
  have P := hC.1
  have Z := hC.2.2.2.2.2.2.2.2.1
  unfold f_139 sYrs
  rcases ix_c (N := 3) (by omega) b with ⟨nb, eb⟩ | ⟨w, hw, rfl, eb⟩
  · rw [eb]
    have w1 : f_147 n b (3 : Int32) C = some (.inr 0, C) := c147_f (N := 3) nb
    simp only [↓bd1 w1]
    exact rt_ret ⟨rfl, FrC.refl P⟩
  · rw [eb]
    have w1 : f_147 n (nI w) (3 : Int32) C = some (.inl (), C) := c147_t (N := 3) (by omega) hw
    rcases ix_c (N := 21) (by omega) m with ⟨nm, em⟩ | ⟨N, hN, rfl, em⟩
    · rw [em]
      by_cases m0 : m < 0
      · simp only [↓reduceIte, ↓bd1 w1, m0, if_true]
        exact rt_ret ⟨rfl, FrC.refl P⟩
      · have g : ¬ m ≤ (20 : Int32) := by
          have := nm.le (by omega) m0
          obtain ⟨k, hk, rfl⟩ := (i_cs m).resolve_left m0
          rw [x_le (by omega) hk] at this
          rw [n_20, x_le hk (by omega)]
          omega
        simp only [↓reduceIte, ↓bd1 w1, m0, if_false, g]
        exact rt_ret ⟨rfl, FrC.refl P⟩
    · rw [em]
      have w72 := c72 (n := n) (rw_of P (show 105 ∈ rowsL by decide)) (rw_of P (show 83 ∈ rowsL by decide))
      have F1 := cpR_fr C 105 83
      have T1 : TabC (sCols (bS B)) (cpR C 105 83) 105 (zT (bZ B)) := cpR_T c4 Z.1
      have P1 : PInv (cpR C 105 83) := P.of F1.1
      have FC1 : FrC C (cpR C 105 83) := ⟨P1, fun b z => F1.2.1 b (by omega), fun b z => F1.2.1 b (by omega), by rw [F1.1]⟩
      generalize cpR C 105 83 = C1 at w72 F1 T1 P1 FC1
      have L := c139_lp (s := s) hB (N := N) (p3 := nI w) (by omega) N 0 n C1 (zT (bZ B)) x 0 0 (by omega) (by omega) (hC.fr hB FC1) T1 hB.2.2.2.1.1
      rw [x_0] at L
      have g : N ≤ 20 := by omega
      simp (disch := omega) only [↓reduceIte, ↓bd1 w1, x_lt0, if_false, n_20, x_le, g, if_true, k_0, ↓bd1 (w_0_13 P), ↓bd1 (w_0_6 P), k_82, ↓bd1 (w_82_0 P), k_105, ↓bd1 w72]
      refine rt_bind (rt_mono L (fun q C2 H => ?_))
      obtain ⟨rfl, T2, F2⟩ := H
      have P2 := F2.1
      have w81 := c81 (n := n) (rw_of P2 (show 105 ∈ rowsL by decide)) T2
      have hw3 : w = 0 ∨ w = 1 ∨ w = 2 := by omega
      rcases hw3 with rfl | rfl | rfl
      · simp only [↓reduceIte, v00, v10, v20, v30, v01, v11, v21, v31, v02, v12, v22, v32, if_true, if_false, not_true]
        exact rt_ret ⟨rfl, FC1.trans F2⟩
      · simp only [↓reduceIte, v00, v10, v20, v30, v01, v11, v21, v31, v02, v12, v22, v32, if_true, if_false, not_true, not_false_iff]
        exact rt_ret ⟨rfl, FC1.trans F2⟩
      · simp only [↓reduceIte, v00, v10, v20, v30, v01, v11, v21, v31, v02, v12, v22, v32, if_true, if_false, not_true, not_false_iff, k_0, ↓bd1 (w_0_13 P2), k_105, ↓bd1 w81]
        exact rt_ret ⟨rfl, FC1.trans F2⟩
theorem m285_lp (hB : BigOK B) {N : Nat} {p3 : Int32} (hN : N ≤ 20) : ∀ m k n C (T : Tab) (x w u : Int32), k + m = N → m + 9800 < n → MI C h B → cI C 145 5 = 0 → TMZ (sCols (bS B)) C 150 T → TabG (bS B) T → cI C 145 89 = x → Rt (lp_285_35 n 145 (nI N) p3 w u (nI k) C) (fun z C' => z = (145, p3, (yrN (bS B) m T x w u).2.1, (yrN (bS B) m T x w u).2.2) ∧ TMZ (sCols (bS B)) C' 150 (yrN (bS B) m T x w u).1 ∧ FrR C C' ∧ cI C' 145 5 = 0) := by
  have l8 := hB.1.2.2.2.2.2.2.2.1
  have c1 := hB.1.1
  have c4 := hB.1.2.1
  intro m
  induction m with
  | zero =>
    intro k n C T x w u h1 hn hM t0 hT hG ex
    obtain ⟨n, rfl⟩ : ∃ m, n = m + 1 := ⟨n - 1, by omega⟩
    have b1 : N ≤ k := by omega
    simp (disch := omega) only [↓reduceIte, lp_285_35, x_le, b1, if_true]
    exact rt_ret ⟨rfl, hT, FrR.refl _, t0⟩
  | succ m ih =>
    intro k n C T x w u h1 hn hM t0 hT hG ex
    obtain ⟨n, rfl⟩ : ∃ m, n = m + 1 := ⟨n - 1, by omega⟩
    have b1 : ¬ N ≤ k := by omega
    have hh := hM.1.2.2.1.1
    have w3 : f_284 n 145 (3 : Int32) C = some (nI (drw (stir x) 3), uI C 145 89 (stir x)) := m284 (N := 3) (by omega) (by omega) ex
    have d3 := drw_lt (x := stir x) (N := 3) (by omega)
    have F1 : FrR C (uI C 145 89 (stir x)) := (FrR.refl C).uF (Or.inr (by omega))
    have M1 := hM.frR hB F1
    have t1 : cI (uI C 145 89 (stir x)) 145 5 = 0 := by rw [r_I, if_neg (by omega)]; exact t0
    have x1 : cI (uI C 145 89 (stir x)) 145 89 = stir x := by rw [r_I, if_pos ⟨rfl, rfl⟩]
    have T1 : TMZ (sCols (bS B)) (uI C 145 89 (stir x)) 150 T := hT.of c4 (fun j _ _ => by rw [r_In (by decide)])
    rw [lp_285_35, if_neg (by rw [x_le (by omega) (by omega)]; exact b1), if_pos k_145, bd1 w3]
    dsimp only
    generalize uI C 145 89 (stir x) = C1 at F1 M1 t1 x1 T1
    have P1 := M1.1.1
    have eh := M1.1.2.1
    by_cases d : drw (stir x) 3 = 2
    · have ys := yr_a (S := bS B) (k := m) (T := T) (w := w) (u := u) d
      have w30 : f_284 n 145 (30 : Int32) C1 = some (nI (drw (stir (stir x)) 30), uI C1 145 89 (stir (stir x))) := m284 (N := 30) (by omega) (by omega) x1
      have F2 : FrR C (uI C1 145 89 (stir (stir x))) := F1.uF (Or.inr (by omega))
      have x2 : cI (uI C1 145 89 (stir (stir x))) 145 89 = stir (stir x) := by rw [r_I, if_pos ⟨rfl, rfl⟩]
      have t2 : cI (uI C1 145 89 (stir (stir x))) 145 5 = 0 := by rw [r_I, if_neg (by omega)]; exact t1
      have T2 : TMZ (sCols (bS B)) (uI C1 145 89 (stir (stir x))) 150 T := T1.of c4 (fun j _ _ => by rw [r_In (by decide)])
      have M2 := hM.frR hB F2
      rw [if_neg (fun z => z (by rw [d]; rfl)), bd1 w30]
      dsimp only
      generalize uI C1 145 89 (stir (stir x)) = C2 at F2 x2 t2 T2 M2
      have e21 : cI C2 159 (Int32.toNatClampNeg (cI C2 145 40)) = nI (sCols (bS B)) := by rw [M2.1.2.1, x_cl (by omega)]; exact M2.1.2.2.1.2.1
      have a21 : amIn (cI C2 145 40) (aLen 159) = true := by rw [M2.1.2.1, l_159, x_in (by omega)]; exact hh
      have wc : f_284 n 145 (nI (sCols (bS B))) C2 = some (nI (drw (stir (stir (stir x))) (sCols (bS B))), uI C2 145 89 (stir (stir (stir x)))) := m284 (by omega) (by omega) x2
      have F3 : FrR C (uI C2 145 89 (stir (stir (stir x)))) := F2.uF (Or.inr (by omega))
      have x3 : cI (uI C2 145 89 (stir (stir (stir x)))) 145 89 = stir (stir (stir x)) := by rw [r_I, if_pos ⟨rfl, rfl⟩]
      have t3 : cI (uI C2 145 89 (stir (stir (stir x)))) 145 5 = 0 := by rw [r_I, if_neg (by omega)]; exact t2
      have T3 : TMZ (sCols (bS B)) (uI C2 145 89 (stir (stir (stir x)))) 150 T := T2.of c4 (fun j _ _ => by rw [r_In (by decide)])
      rw [bd1 (w_145_21 M2.1.1), if_pos k_159, if_pos a21, e21, bd1 wc]
      dsimp only
      generalize uI C2 145 89 (stir (stir (stir x))) = C3 at F3 x3 t3 T3
      have w10 : f_284 n 145 (10 : Int32) C3 = some (nI (drw (stir (stir (stir (stir x)))) 10), uI C3 145 89 (stir (stir (stir (stir x))))) := m284 (N := 10) (by omega) (by omega) x3
      have F4 : FrR C (uI C3 145 89 (stir (stir (stir (stir x))))) := F3.uF (Or.inr (by omega))
      have x4 : cI (uI C3 145 89 (stir (stir (stir (stir x))))) 145 89 = stir (stir (stir (stir x))) := by rw [r_I, if_pos ⟨rfl, rfl⟩]
      have t4 : cI (uI C3 145 89 (stir (stir (stir (stir x))))) 145 5 = 0 := by rw [r_I, if_neg (by omega)]; exact t3
      have T4 : TMZ (sCols (bS B)) (uI C3 145 89 (stir (stir (stir (stir x))))) 150 T := T3.of c4 (fun j _ _ => by rw [r_In (by decide)])
      have M4 := hM.frR hB F4
      rw [bd1 w10]
      dsimp only
      generalize uI C3 145 89 (stir (stir (stir (stir x)))) = C4 at F4 x4 t4 T4 M4
      have p30 := drw_lt (x := stir (stir x)) (N := 30) (by omega)
      have cc := drw_lt (x := stir (stir (stir x))) (N := sCols (bS B)) (by omega)
      have L := m273 (n := n) (f := 150) (p := drw (stir (stir x)) 30) (c := drw (stir (stir (stir x))) (sCols (bS B))) (v := nI (drw (stir (stir (stir (stir x)))) 10)) M4.1 (by omega) T4 hG p30 cc (by omega)
      rw [← n_150] at L
      refine rt_bind (rt_mono L (fun z C5 H => ?_))
      obtain ⟨_, T5, p5, o5, f5, a5⟩ := H
      have F5 : FrR C4 C5 := ⟨p5, fun b z => o5 b (by omega) (by omega), fun b y z => o5 b (by omega) (by omega), fun m hm => a5 m (by omega), fun f z _ => f5 f (by omega) (by omega)⟩
      have FF := F4.trans F5
      have I := ih (k + 1) n C5 _ (stir (stir (stir (stir x)))) w u (by omega) (by omega) (hM.frR hB FF) (by rw [f5 5 (by omega) (by omega)]; exact t4) (T5) (lay_G p30 hG) (by rw [f5 89 (by omega) (by omega)]; exact x4)
      dsimp only
      rw [x_a1]
      rw [ys]
      exact rt_mono I (fun _ _ H => ⟨H.1, H.2.1, FF.trans H.2.2.1, H.2.2.2⟩)
    · have e25 : cI C1 163 (Int32.toNatClampNeg (cI C1 145 40)) = nI (sStm (bS B)).length := by rw [eh, x_cl (by omega)]; exact M1.1.2.2.1.2.2.2.2.2.2.2.1
      have a25 : amIn (cI C1 145 40) (aLen 163) = true := by rw [eh, l_163, x_in (by omega)]; exact hh
      rw [if_pos (by rw [n_2, x_eq (by omega) (by omega)]; exact d), bd1 (w_145_25 P1), if_pos k_163, if_pos a25, e25]
      by_cases z0 : (sStm (bS B)).length = 0
      · have ys := yr_b (S := bS B) (k := m) (T := T) (w := w) (u := u) d z0
        have I := ih (k + 1) n C1 _ (stir x) w u (by omega) (by omega) M1 t1 (T1) (hG) (x1)
        rw [if_pos ((x_le0 (by omega)).mpr z0), x_a1]
        rw [ys]
        exact rt_mono I (fun _ _ H => ⟨H.1, H.2.1, F1.trans H.2.2.1, H.2.2.2⟩)
      · have wl : f_284 n 145 (nI (sStm (bS B)).length) C1 = some (nI (drw (stir (stir x)) (sStm (bS B)).length), uI C1 145 89 (stir (stir x))) := m284 (by omega) (by omega) x1
        have il := drw_lt (x := stir (stir x)) (N := (sStm (bS B)).length) (by omega)
        have F2 : FrR C (uI C1 145 89 (stir (stir x))) := F1.uF (Or.inr (by omega))
        have x2 : cI (uI C1 145 89 (stir (stir x))) 145 89 = stir (stir x) := by rw [r_I, if_pos ⟨rfl, rfl⟩]
        have t2 : cI (uI C1 145 89 (stir (stir x))) 145 5 = 0 := by rw [r_I, if_neg (by omega)]; exact t1
        have T2 : TMZ (sCols (bS B)) (uI C1 145 89 (stir (stir x))) 150 T := T1.of c4 (fun j _ _ => by rw [r_In (by decide)])
        have M2 := hM.frR hB F2
        rw [if_neg (by rw [x_le0 (by omega)]; exact z0), bd1 (w_145_25 P1), if_pos k_163, if_pos a25, e25, bd1 wl]
        dsimp only
        generalize uI C1 145 89 (stir (stir x)) = C2 at F2 x2 t2 T2 M2
        have W := m226 (n := n) (f := 150) (h := h) (i := 8 * h + drw (stir (stir x)) (sStm (bS B)).length) M2.1 (by omega) (M2.stm il) (stmO_ok hB.1 il) (by omega) T2.1 T2.2 hG.1 (by omega)
        rw [← n_150] at W
        rw [eh, n_8, x_mul, x_add]
        refine rt_bind (rt_mono W (fun _ C3 H => ?_))
        obtain ⟨⟨eT, eZ, e10, e11, _, _, _, _⟩, F, _, xk⟩ := H
        have F3 := F2.trans (F.r (by omega))
        have M3 := hM.frR hB F3
        have P3 := M3.1.1
        have t3 : cI C3 145 5 = 0 := (F.2.2.2 5 (by omega)).trans t2
        have x3 : cI C3 145 89 = stir (stir x) := (F.2.2.2 89 (by omega)).trans x2
        have T3 : TMZ (sCols (bS B)) C3 150 T := T2.of c4 (fun j _ _ => by rw [F.2.2.1 146 (by unfold MX; omega)])
        dsimp only
        rw [e11]
        by_cases r0 : rE (sRight (bS B) (stmO (bS B) (drw (stir (stir x)) (sStm (bS B)).length)) T) = 0
        · have ys := yr_c (S := bS B) (k := m) (T := T) (w := w) (u := u) d z0 r0
          have L := m271 (n := n) (t := 150) P3 (by omega) (by omega)
          rw [← n_150] at L
          rw [if_neg (fun z => z r0)]
          refine rt_bind (rt_mono L (fun _ C4 H => ?_))
          obtain ⟨p4, o4, a4⟩ := H
          have F4 : FrR C3 C4 := ⟨p4, fun b z => o4 b (by omega), fun b y z => o4 b (by omega), fun m hm => by rw [a4, if_neg (by omega)], fun f z _ => by rw [o4 145 (by omega)]⟩
          have FF := F3.trans F4
          have T4 : TMZ (sCols (bS B)) C4 150 (rT (sRight (bS B) (stmO (bS B) (drw (stir (stir x)) (sStm (bS B)).length)) T)) := TMZ.w (C := C3) c4 eT eZ (fun m hm => by rw [a4, if_pos (by omega)]; exact congrArg (cI C3 180) (by omega))
          have q66 : cI C4 145 66 = 0 := by rw [o4 145 (by omega), e11]; exact r0
          have q65 : cI C4 145 65 = nI (rL (sRight (bS B) (stmO (bS B) (drw (stir (stir x)) (sStm (bS B)).length)) T)).length := by rw [o4 145 (by omega), e10]
          have I := ih (k + 1) n C4 _ (stir (stir x)) (w + nI (rL (sRight (bS B) (stmO (bS B) (drw (stir (stir x)) (sStm (bS B)).length)) T)).length) u (by omega) (by omega) (hM.frR hB FF) (by rw [o4 145 (by omega)]; exact t3) (T4) (sRight_G xk r0) (by rw [o4 145 (by omega)]; exact x3)
          dsimp only
          rw [q66, if_neg (by simp), if_neg (by simp), q65, x_a1, Int32.add_zero]
          rw [ys]
          exact rt_mono I (fun _ _ H => ⟨H.1, H.2.1, FF.trans H.2.2.1, H.2.2.2⟩)
        · have ys := yr_d (S := bS B) (k := m) (T := T) (w := w) (u := u) d z0 r0
          have I := ih (k + 1) n C3 _ (stir (stir x)) w (u + 1) (by omega) (by omega) M3 t3 (T3) (hG) (x3)
          rw [if_pos r0, if_pos r0, if_pos r0, x_a1, Int32.add_zero]
          rw [ys]
          exact rt_mono I (fun _ _ H => ⟨H.1, H.2.1, F3.trans H.2.2.1, H.2.2.2⟩)
theorem An_f2 {C C0 : AmC} {z : Int32} (F : FrR C C0) : An (uI C0 145 5 2) z (.inr 1) ∧ FrR C (uI C0 145 5 2) := ⟨by show cI _ 145 5 = nI 2; rw [r_I, if_pos ⟨rfl, rfl⟩]; rfl, F.uF (Or.inl rfl)⟩
theorem q285 (hM : MI C h B) (hB : BigOK B) (hn : 9900 ≤ n) (x m b : Int32) : Rt (f_285 n 145 x m b C) (fun z C' => An C' z (sYrs B x m b) ∧ FrR C C') := by
  have c4 := hB.1.2.1
  obtain ⟨M0, t0, F0⟩ := hM.t0 hB
  generalize hC0 : uI C 145 5 0 = C0 at M0 t0 F0
  have P0 := M0.1.1
  have Z0 := M0.2.2.2.2.1
  unfold f_285 sYrs
  rw [hC0]
  rcases ix_c (N := 3) (by omega) b with ⟨nb, eb⟩ | ⟨w, hw, rfl, eb⟩
  · rw [eb]
    have w1 : f_163 n b 0 (2 : Int32) C0 = some (0, C0) := m163_f (N := 3) (by omega) nb
    simp only [↓reduceIte, k_145, if_true, ↓bd1 w1, ↓bd1 (m162_f (n := n) (w := 1) t0 (by decide))]
    exact rt_ret (An_f F0)
  · rw [eb]
    have w1 : f_163 n (nI w) 0 (2 : Int32) C0 = some (1, C0) := m163_t (N := 3) (by omega) hw
    rcases ix_c (N := 21) (by omega) m with ⟨nm, em⟩ | ⟨N, hN, rfl, em⟩
    · rw [em]
      have w2 : f_163 n m 0 (20 : Int32) C0 = some (0, C0) := m163_f (N := 21) (by omega) nm
      simp only [↓reduceIte, k_145, if_true, if_false, n10f, not_true, ↓bd1 w1, ↓bd1 (m162_t (n := n) (w := 1) t0), ↓bd1 w2, ↓bd1 (m162_f (n := n) (w := 2) t0 (by decide))]
      exact rt_ret (An_f2 F0)
    · rw [em]
      have w2 : f_163 n (nI N) 0 (20 : Int32) C0 = some (1, C0) := m163_t (N := 21) (by omega) hN
      have W := m164 (n := n) (f := 0) (t := 150) (N := 150) P0 (by omega) (by omega) (by omega) (by omega)
      rw [x_0, ← n_150] at W
      simp only [↓reduceIte, k_145, if_true, if_false, n10f, not_false_iff, ↓bd1 w1, ↓bd1 (m162_t (n := n) (w := 1) t0), ↓bd1 w2, ↓bd1 (m162_t (n := n) (w := 2) t0)]
      refine rt_bind (rt_mono W (fun _ C1 H => ?_))
      obtain ⟨p1, _, o1, a1⟩ := H
      have F1 : FrR C0 C1 := ⟨p1, fun b z => o1 b (by omega), fun b y z => o1 b (by omega), fun m hm => by rw [a1, if_neg (by omega)], fun f _ _ => by rw [o1 145 (by omega)]⟩
      have T1 : TMZ (sCols (bS B)) C1 150 (zT (bZ B)) := Z0.1.cp c4 (fun m hm => by rw [a1, if_pos (by omega)]; exact congrArg (cI C0 146) (by omega))
      have F2 : FrR C0 (uI C1 145 89 x) := F1.uF (Or.inr (by omega))
      have L := m285_lp (h := h) hB (N := N) (p3 := nI w) (by omega) N 0 n (uI C1 145 89 x) (zT (bZ B)) x 0 0 (by omega) (by omega) (M0.frR hB F2) (by rw [r_I, if_neg (by omega), o1 145 (by omega)]; exact t0) (T1.of c4 (fun j _ _ => by rw [r_In (by decide)])) hB.2.2.2.1.1 (by rw [r_I, if_pos ⟨rfl, rfl⟩])
      rw [x_0] at L
      refine rt_bind (rt_mono L (fun q C3 H => ?_))
      obtain ⟨rfl, T3, F3, t3⟩ := H
      have FF := F0.trans (F2.trans F3)
      have w44 := m244 (n := n) (f := 150) ((M0.frR hB F2).frR hB F3).1.1 (by omega) T3.1 (by omega)
      rw [← n_150] at w44
      have hw3 : w = 0 ∨ w = 1 ∨ w = 2 := by omega
      rcases hw3 with rfl | rfl | rfl
      · simp only [↓reduceIte, v00, v10, v20, v30, v01, v11, v21, v31, v02, v12, v22, v32, if_true, if_false, not_true]
        exact rt_ret ⟨⟨t3, rfl⟩, FF⟩
      · simp only [↓reduceIte, v00, v10, v20, v30, v01, v11, v21, v31, v02, v12, v22, v32, if_true, if_false, not_true, not_false_iff]
        exact rt_ret ⟨⟨t3, rfl⟩, FF⟩
      · simp only [↓reduceIte, v00, v10, v20, v30, v01, v11, v21, v31, v02, v12, v22, v32, if_true, if_false, not_true, not_false_iff, k_145, ↓bd1 w44]
        exact rt_ret ⟨⟨t3, rfl⟩, FF⟩
end
