/-! goes: a run along another path; wrongPaths. -/
def goL (S : Scr) (t : Stm) (k g : Nat) (T : Tab) : Nat := sLack (sCols S) (rT (sRight S t T)) (rT (sRun S t g k T))
def goW (S : Scr) (t : Stm) (k g : Nat) (T : Tab) (w : Nat) : Int32 := if w = 0 then nI (goL S t k g T) else if w = 1 then rE (sRun S t g k T) else if w = 2 then nI (rL (sRun S t g k T)).length else nI (sTwi (sRun S t g k T))
def sGoe (B : Big) (a p g b : Int32) : Int32 ⊕ Nat := match ixO (sStm (bS B)).length a with
  | none => .inr 0
  | some i => match ixO (1 + 2 * (sIdx (bS B)).length) p with
    | none => .inr 0
    | some k => match ixO 4 g with
      | none => .inr 0
      | some st => match ixO 4 b with
        | none => .inr 0
        | some w => .inl (goW (bS B) (stmO (bS B) i) k st (zT (bZ B)) w)
def wrB (S : Scr) (t : Stm) (T : Tab) (p : Nat) : Bool := decide (¬ rE (sRun S t 0 p T) = rE (sRun S t 3 0 T)) || decide (0 < goL S t p 0 T)
def wrF (S : Scr) (t : Stm) (T : Tab) (p : Nat) (x : Int32) : Int32 := if wrB S t T p = true then x ||| ((1 : Int32) <<< (nI p &&& 31)) else x
def sWro (B : Big) (a : Int32) : Int32 ⊕ Nat := match ixO (sStm (bS B)).length a with
  | none => .inr 0
  | some i => .inl (qo (wrF (bS B) (stmO (bS B) i) (zT (bZ B))) (1 + 2 * (sIdx (bS B)).length) 0 0)
theorem lk_le {cols : Nat} {A B : Tab} : ∀ m j (x : (Nat → Bool) × Nat), (qo (lkS cols A B) m j x).2 ≤ x.2 + m := by
  intro m
  induction m with
  | zero => intro j x; exact Nat.le_refl _
  | succ m ih =>
    intro j x
    rw [qo]
    have I := ih (j + 1) (lkS cols A B j x)
    have : (lkS cols A B j x).2 ≤ x.2 + 1 := by
      unfold lkS
      split
      · split <;> simp
      · simp
    omega
theorem goL_le {S : Scr} {t : Stm} {k g : Nat} {T : Tab} : goL S t k g T ≤ 30 := by
  have := lk_le (cols := sCols S) (A := rT (sRight S t T)) (B := rT (sRun S t g k T)) 30 0 ((rT (sRun S t g k T)).1, 0)
  unfold goL sLack
  omega
section
variable {n : Nat} {C : AmC} {s h : Nat} {B : Big} {S : Scr}
theorem q126_r (hC : CI C s B) (hB : BigOK B) {i k g : Nat} (hi : i < (sStm (bS B)).length) (hk : PathOK (bS B) k) (hg : g < 4) (hn : 9500 ≤ n) : Rt (f_45 n 121 s (nI i) (nI k) (nI g) 83 C) (fun _ C' => PsF C' 121 (bS B) g (sEnd (bS B) (sRun (bS B) (stmO (bS B) i) g k (zT (bZ B)))) ∧ FrP 121 C C' ∧ RSok (bS B) (sRun (bS B) (stmO (bS B) i) g k (zT (bZ B)))) := by
  have W := c45 (n := n) (a := 121) (stage := g) (path := k) (r0 := 83) hC.1 (by decide) hC.2.1 hC.2.2.2.2.1 hB.1 hi hk (by omega) (by decide) (by omega) hC.2.2.2.2.2.2.2.2.1.1 hB.2.2.2.1.1.1 hn
  rw [stmO_eq hi] at W
  exact rt_mono W (fun _ C' H => ⟨H.1.1, H.2.1, sReads_ok H.2.2.2⟩)
theorem PsF.two {C C1 : AmC} {a b stage : Nat} {S : Scr} {r : RS} (h : PsF C a S stage r) (F : FrP b C C1) (hab : a + 7 < b ∨ b + 7 < a) : PsF C1 a S stage r := by
  have e : ∀ q, a ≤ q → q ≤ a + 7 → cI C1 q = cI C q := fun q z1 z2 => F.2.2.1 q (by unfold PY PX; omega)
  exact h.of (fun f _ _ => by rw [e a (by omega) (by omega)]) (e _ (by omega) (by omega)) (e _ (by omega) (by omega)) (e _ (by omega) (by omega))
theorem q126 (hC : CI C s B) (hB : BigOK B) (hn : 9600 ≤ n) (a p g b : Int32) : Rt (f_126 n 0 a p g b C) (fun z C' => z = sGoe B a p g b ∧ FrC C C') := by
  have l8 := hB.1.2.2.2.2.2.2.2.1
  have l3 := hB.1.2.2.1
  unfold f_126 sGoe
  rcases ix_c (N := (sStm (bS B)).length) (by omega) a with ⟨na, ea⟩ | ⟨i, hi, rfl, ea⟩
  · rw [ea]
    simp only [↓reduceIte, k_0, if_true, ↓bd1 (c143_f (n := n) hC na)]
    exact rt_ret ⟨rfl, FrC.refl hC.1⟩
  · rw [ea]
    rcases ix_c (N := 1 + 2 * (sIdx (bS B)).length) (by omega) p with ⟨np, ep⟩ | ⟨k, hk, rfl, ep⟩
    · rw [ep]
      simp only [↓reduceIte, k_0, if_true, ↓bd1 (c143_t (n := n) hC hB hi), ↓bd1 (c144_f (n := n) hC np)]
      exact rt_ret ⟨rfl, FrC.refl hC.1⟩
    · rw [ep]
      have hk : PathOK (bS B) k := hk
      rcases ix_c (N := 4) (by omega) g with ⟨ng, eg⟩ | ⟨st, hg, rfl, eg⟩
      · rw [eg]
        have w1 : f_147 n g (4 : Int32) C = some (.inr 0, C) := c147_f (N := 4) ng
        simp only [↓reduceIte, k_0, if_true, ↓bd1 (c143_t (n := n) hC hB hi), ↓bd1 (c144_t (n := n) hC hB hk), ↓bd1 w1]
        exact rt_ret ⟨rfl, FrC.refl hC.1⟩
      · rw [eg]
        have w0 : f_147 n (nI st) (4 : Int32) C = some (.inl (), C) := c147_t (N := 4) (by omega) hg
        rcases ix_c (N := 4) (by omega) b with ⟨nb, eb⟩ | ⟨w, hw, rfl, eb⟩
        · rw [eb]
          have w1 : f_147 n b (4 : Int32) C = some (.inr 0, C) := c147_f (N := 4) nb
          simp only [↓reduceIte, k_0, if_true, ↓bd1 (c143_t (n := n) hC hB hi), ↓bd1 (c144_t (n := n) hC hB hk), ↓bd1 w0, ↓bd1 w1]
          exact rt_ret ⟨rfl, FrC.refl hC.1⟩
        · rw [eb]
          have w1 : f_147 n (nI w) (4 : Int32) C = some (.inl (), C) := c147_t (N := 4) (by omega) hw
          simp only [↓reduceIte, k_0, if_true, ↓bd1 (c143_t (n := n) hC hB hi), ↓bd1 (c144_t (n := n) hC hB hk), ↓bd1 w0, ↓bd1 w1, ↓bd1 (w_0_10 hC.1), ↓bd1 hC.2.2.1, ↓bd1 (w_0_6 hC.1), k_82, ↓bd1 (w_82_0 hC.1), k_121]
          refine rt_bind (rt_mono (q126_r (n := n) hC hB hi hk hg (by omega)) (fun _ C1 H => ?_))
          obtain ⟨H1, F, H3⟩ := H
          have F' := F.c (by decide)
          have C1i := hC.fr hB F'
          have ec := (EC.run (S := bS B) (t := stmO (bS B) i) (stage := st) (path := k) (T := zT (bZ B)))
          have sT := sEnd_T (S := bS B) (r := sRun (bS B) (stmO (bS B) i) st k (zT (bZ B)))
          have hw4 : w = 0 ∨ w = 1 ∨ w = 2 ∨ w = 3 := by omega
          rcases hw4 with rfl | rfl | rfl | rfl
          · simp only [↓reduceIte, v00, v10, v20, v30, v01, v11, v21, v31, v02, v12, v22, v32, if_true, if_false, ↓bd1 (w_0_6 F.1), k_82, ↓bd1 (w_82_0 F.1)]
            refine rt_bind (rt_mono (c151 (n := n) (r0 := 83) (T := zT (bZ B)) C1i hB hi (by decide) (by omega) C1i.2.2.2.2.2.2.2.2.1.1 hB.2.2.2.1.1.1 (by omega)) (fun _ C2 H => ?_))
            obtain ⟨⟨H4, _⟩, F2, _, _⟩ := H
            have F2' := F2.c (by decide)
            have C2i := C1i.fr hB F2'
            have H5 := H1.two F2 (by omega)
            have P2 := F2.1
            have w83 := c83 (n := n) (rw_of P2 (show 114 ∈ rowsL by decide)) (rw_of P2 (show 122 ∈ rowsL by decide)) H4.1 H5.1 hB.1.2.1 (by omega)
            rw [sT.1] at w83
            simp only [↓reduceIte, ↓bd1 (w_0_9 P2), k_113, if_true, ↓bd1 (w_113_0 P2), ↓bd1 (w_0_10 P2), k_121, ↓bd1 (w_121_0 P2), ↓bd1 C2i.2.2.1, (sc_of P2 hC.2.1).k, k_114, C2i.2.2.2.2.1.1, ↓bd1 w83]
            exact rt_ret ⟨rfl, F'.trans F2'⟩
          · simp only [↓reduceIte, v00, v10, v20, v30, v01, v11, v21, v31, v02, v12, v22, v32, if_true, if_false, ↓bd1 (w_0_10 F.1), k_121, ↓bd1 (c46 (n := n) k_121 ec.1 H1)]
            exact rt_ret ⟨rfl, F'⟩
          · simp only [↓reduceIte, v00, v10, v20, v30, v01, v11, v21, v31, v02, v12, v22, v32, if_true, if_false, ↓bd1 (w_0_10 F.1), k_121]
            exact rt_ret ⟨by rw [H1.2.2.1, sT.2.2]; rfl, F'⟩
          · have w47 := c47 (n := n) (a := 121) F.1 (by decide) H1 (fun p => by rw [sT.2.1]; have := ec.2 p; have := H3.2; omega) (by omega)
            have e : sTwi (sEnd (bS B) (sRun (bS B) (stmO (bS B) i) st k (zT (bZ B)))) = sTwi (sRun (bS B) (stmO (bS B) i) st k (zT (bZ B))) := by unfold sTwi; rw [sT.2.1]
            rw [e] at w47
            simp only [↓reduceIte, v00, v10, v20, v30, v01, v11, v21, v31, v02, v12, v22, v32, if_true, if_false, ↓bd1 (w_0_10 F.1), k_121, ↓bd1 w47]
            exact rt_ret ⟨rfl, F'⟩
theorem c127_lp (hB : BigOK B) {i : Nat} (hi : i < (sStm (bS B)).length) : ∀ m k n C x, k + m = 1 + 2 * (sIdx (bS B)).length → m + 9600 < n → CI C s B → PsF C 113 (bS B) 3 (sEnd (bS B) (sRun (bS B) (stmO (bS B) i) 3 0 (zT (bZ B)))) → Rt (lp_127_13 n 0 (nI i) x (nI k) C) (fun z C' => z = qo (wrF (bS B) (stmO (bS B) i) (zT (bZ B))) m k x ∧ FrC C C') := by
  have l8 := hB.1.2.2.2.2.2.2.2.1
  have l3 := hB.1.2.2.1
  intro m
  induction m with
  | zero =>
    intro k n C x h1 hn hC hF
    obtain ⟨n, rfl⟩ : ∃ m, n = m + 1 := ⟨n - 1, by omega⟩
    have ks := sc_of hC.1 hC.2.1
    have b1 : 1 + 2 * (sIdx (bS B)).length ≤ k := by omega
    simp (disch := omega) only [↓reduceIte, lp_127_13, k_0, if_true, ↓bd1 hC.2.2.1, ks.k, ↓bd1 (c87 (n := n) ks hC.2.2.2.2.1), x_le, b1]
    exact rt_ret ⟨rfl, FrC.refl hC.1⟩
  | succ m ih =>
    intro k n C x h1 hn hC hF
    obtain ⟨n, rfl⟩ : ∃ m, n = m + 1 := ⟨n - 1, by omega⟩
    have ks := sc_of hC.1 hC.2.1
    have b1 : ¬ 1 + 2 * (sIdx (bS B)).length ≤ k := by omega
    have hk : PathOK (bS B) k := by unfold PathOK; omega
    simp (disch := omega) only [↓reduceIte, lp_127_13, k_0, if_true, if_false, ↓bd1 hC.2.2.1, ks.k, ↓bd1 (c87 (n := n) ks hC.2.2.2.2.1), x_le, b1, ↓bd1 (w_0_10 hC.1), ↓bd1 (w_0_6 hC.1), k_82, ↓bd1 (w_82_0 hC.1), k_121]
    refine rt_bind (rt_mono (q126_r (n := n) (g := 0) hC hB hi hk (by omega) (by omega)) (fun _ C1 H => ?_))
    obtain ⟨H1, F, H3⟩ := H
    have F' := F.c (by decide)
    have C1i := hC.fr hB F'
    have P1 := F.1
    have hF1 := hF.two F (by omega)
    have ec := (EC.run (S := bS B) (t := stmO (bS B) i) (stage := 0) (path := k) (T := zT (bZ B)))
    have ec3 := (EC.run (S := bS B) (t := stmO (bS B) i) (stage := 3) (path := 0) (T := zT (bZ B)))
    have sT := sEnd_T (S := bS B) (r := sRun (bS B) (stmO (bS B) i) 0 k (zT (bZ B)))
    have on : ∀ x', Rt (lp_127_13 n 0 (nI i) x' (nI (k + 1)) C1) (fun z C' => z = qo (wrF (bS B) (stmO (bS B) i) (zT (bZ B))) m (k + 1) x' ∧ FrC C C') := fun x' => rt_mono (ih (k + 1) n C1 x' (by omega) (by omega) C1i hF1) (fun _ _ H => ⟨H.1, F'.trans H.2⟩)
    rw [qo]
    simp only [↓reduceIte, ↓bd1 (w_0_10 P1), k_121, if_true, ↓bd1 (c46 (n := n) k_121 ec.1 H1), ↓bd1 (w_0_9 P1), k_113, ↓bd1 (c46 (n := n) k_113 ec3.1 hF1)]
    by_cases d : rE (sRun (bS B) (stmO (bS B) i) 0 k (zT (bZ B))) = rE (sRun (bS B) (stmO (bS B) i) 3 0 (zT (bZ B)))
    · have d' : (rE (sRun (bS B) (stmO (bS B) i) 0 k (zT (bZ B))) = rE (sRun (bS B) (stmO (bS B) i) 3 0 (zT (bZ B)))) = True := eq_true d
      have w83 := c83 (n := n) (rw_of P1 (show 114 ∈ rowsL by decide)) (rw_of P1 (show 122 ∈ rowsL by decide)) hF1.1 H1.1 hB.1.2.1 (by omega)
      rw [sT.1] at w83
      have w83 : f_83 n 114 122 (nI (sCols (bS B))) C1 = some (nI (goL (bS B) (stmO (bS B) i) k 0 (zT (bZ B))), C1) := w83
      have gl := goL_le (S := bS B) (t := stmO (bS B) i) (k := k) (g := 0) (T := zT (bZ B))
      simp only [↓reduceIte, d', not_true, if_false, ↓bd1 (w_0_9 P1), k_113, if_true, ↓bd1 (w_113_0 P1), ↓bd1 (w_0_10 P1), k_121, ↓bd1 (w_121_0 P1), ↓bd1 C1i.2.2.1, (sc_of P1 hC.2.1).k, k_114, C1i.2.2.2.2.1.1, ↓bd1 w83]
      by_cases z : goL (bS B) (stmO (bS B) i) k 0 (zT (bZ B)) = 0
      · have z1 : (nI (goL (bS B) (stmO (bS B) i) k 0 (zT (bZ B))) ≤ 0) = True := eq_true ((x_le0 (by omega)).mpr z)
        have wb : wrB (bS B) (stmO (bS B) i) (zT (bZ B)) k = false := by unfold wrB; rw [d, z]; simp
        have O := on x
        simp only [↓reduceIte, z1, if_true, x_a1, wrF, wb, Bool.false_eq_true, if_false]
        exact O
      · have z1 : ¬ nI (goL (bS B) (stmO (bS B) i) k 0 (zT (bZ B))) ≤ 0 := by rw [x_le0 (by omega)]; exact z
        have wb : wrB (bS B) (stmO (bS B) i) (zT (bZ B)) k = true := by unfold wrB; rw [Bool.or_eq_true]; right; simp; omega
        have O := on (x ||| ((1 : Int32) <<< (nI k &&& 31)))
        simp only [↓reduceIte, z1, if_false, x_a1, wrF, wb, if_true]
        exact O
    · have wb : wrB (bS B) (stmO (bS B) i) (zT (bZ B)) k = true := by unfold wrB; rw [Bool.or_eq_true]; left; simpa using d
      have O := on (x ||| ((1 : Int32) <<< (nI k &&& 31)))
      simp only [↓reduceIte, d, not_false_iff, if_true, x_a1, wrF, wb]
      exact O
theorem q127 (hC : CI C s B) (hB : BigOK B) (hn : 9700 ≤ n) (a : Int32) : Rt (f_127 n 0 a C) (fun z C' => z = sWro B a ∧ FrC C C') := by
  have l8 := hB.1.2.2.2.2.2.2.2.1
  have l3 := hB.1.2.2.1
  unfold f_127 sWro
  rcases ix_c (N := (sStm (bS B)).length) (by omega) a with ⟨na, ea⟩ | ⟨i, hi, rfl, ea⟩
  · rw [ea]
    simp only [↓reduceIte, k_0, if_true, ↓bd1 (c143_f (n := n) hC na)]
    exact rt_ret ⟨rfl, FrC.refl hC.1⟩
  · rw [ea]
    simp only [↓reduceIte, k_0, if_true, ↓bd1 (c143_t (n := n) hC hB hi), ↓bd1 (w_0_6 hC.1), k_82, ↓bd1 (w_82_0 hC.1)]
    refine rt_bind (rt_mono (c151 (n := n) (r0 := 83) (T := zT (bZ B)) hC hB hi (by decide) (by omega) hC.2.2.2.2.2.2.2.2.1.1 hB.2.2.2.1.1.1 (by omega)) (fun _ C1 H => ?_))
    obtain ⟨⟨H4, _⟩, F, _, _⟩ := H
    have F' := F.c (by decide)
    have L := c127_lp (s := s) hB hi (1 + 2 * (sIdx (bS B)).length) 0 n C1 0 (by omega) (by omega) (hC.fr hB F') H4
    rw [x_0] at L
    refine rt_bind (rt_mono L (fun _ C2 H => ?_))
    exact rt_ret ⟨by rw [H.1], F'.trans H.2⟩
/-! the reference -/
theorem m255 (hM : MI C h B) (hB : BigOK B) {i k g : Nat} (hi : i < (sStm (bS B)).length) (hk : PathOK (bS B) k) (hg : g < 4) (hn : 9700 ≤ n) : Rt (f_255 n 145 (nI (8 * h + i)) (nI k) (nI g) C) (fun z C' => z = nI (goL (bS B) (stmO (bS B) i) k g (zT (bZ B))) ∧ MrF C' (bS B) (stmO (bS B) i) (sRun (bS B) (stmO (bS B) i) g k (zT (bZ B))) ∧ cI C' 145 83 = rE (sRun (bS B) (stmO (bS B) i) 3 0 (zT (bZ B))) ∧ FrR C C' ∧ cI C' 145 5 = cI C 145 5 ∧ RSok (bS B) (sRun (bS B) (stmO (bS B) i) g k (zT (bZ B)))) := by
  have l8 := hB.1.2.2.2.2.2.2.2.1
  have hh := hM.1.2.2.1.1
  have hT0 := hM.2.2.2.2.1.1
  have hN := hB.2.2.2.1.1.1
  have hto := stmO_ok hB.1 hi
  have W := m226 (n := n) (f := 0) (h := h) (i := 8 * h + i) hM.1 (by omega) (hM.stm hi) hto (by omega) hT0.1 hT0.2 hN (by omega)
  rw [x_0] at W
  have c4 := hB.1.2.1
  unfold f_255
  rw [if_pos k_145]
  refine rt_bind (rt_mono W (fun _ C3 H => ?_))
  obtain ⟨G1, G2, _, _⟩ := H
  have ec3 := (EC.run (S := bS B) (t := stmO (bS B) i) (stage := 3) (path := 0) (T := zT (bZ B)))
  have sE := sEnd_E (S := bS B) ec3.1
  have e66 : cI C3 145 66 = rE (sRight (bS B) (stmO (bS B) i) (zT (bZ B))) := G1.2.2.2.1
  have TL : ∀ v, v = rE (sRun (bS B) (stmO (bS B) i) 3 0 (zT (bZ B))) → Rt ((lp_255_16 n 145 (nI (8 * h + i)) (nI k) (nI g) (0 : Int32) (uI C3 145 83 v)).bind (fun q => match q with | ((u19, u20, u21, u22), C18) => if isK u19 10 = true then (f_225 n u19 (0 : Int32) C18).bind (fun z => match z with | (_, C25) => (f_224 n u19 u20 u21 u22 C25).bind (fun z => match z with | (_, C28) => (cP C28 u19 58).bind (fun r30 => (cP C28 u19 57).bind (fun r32 => (f_254 n u19 r30 r32 C28).bind (fun z => match z with | (q34, C35) => some (q34, C35)))))) else none)) (fun z C' => z = nI (goL (bS B) (stmO (bS B) i) k g (zT (bZ B))) ∧ MrF C' (bS B) (stmO (bS B) i) (sRun (bS B) (stmO (bS B) i) g k (zT (bZ B))) ∧ cI C' 145 83 = rE (sRun (bS B) (stmO (bS B) i) 3 0 (zT (bZ B))) ∧ FrR C C' ∧ cI C' 145 5 = cI C 145 5 ∧ RSok (bS B) (sRun (bS B) (stmO (bS B) i) g k (zT (bZ B)))) := by
    intro v hv
    have F3 : FrR C (uI C3 145 83 v) := (G2.r (by omega)).uF (Or.inr (by omega))
    have t3 : cI (uI C3 145 83 v) 145 5 = cI C 145 5 := by rw [r_I, if_neg (by omega)]; exact G2.2.2.2 5 (by omega)
    have e83 : cI (uI C3 145 83 v) 145 83 = v := by rw [r_I, if_pos ⟨rfl, rfl⟩]
    have ew : cI (uI C3 145 83 v) 180 = cI C3 180 := r_In (by decide)
    have M3 := hM.frR hB F3
    generalize uI C3 145 83 v = C4 at F3 t3 e83 ew M3
    have L := m255_lp (a := nI (8 * h + i)) (b := nI k) (c := nI g) 150 0 n C4 rfl (by omega) M3.1.1
    rw [x_0] at L
    refine rt_bind (rt_mono L (fun z C5 H => ?_))
    obtain ⟨rfl, p5, _, o5, b5⟩ := H
    have F5 : FrR C4 C5 := ⟨p5, fun b z => o5 b (by omega), fun b y z => o5 b (by omega), fun j _ => by rw [o5 146 (by omega)], fun f _ _ => by rw [o5 145 (by omega)]⟩
    have M5 := M3.frR hB F5
    have T5 : TabM 30 (sCols (bS B)) C5 181 0 (rT (sRight (bS B) (stmO (bS B) i) (zT (bZ B)))) := by
      refine ⟨fun p hp => ?_, fun p hp tp c hc => ?_⟩
      · rw [b5, if_pos (by omega), ew]; exact G1.1.1 p hp
      · rw [b5, if_pos (by omega), ew]; exact G1.1.2 p hp tp c hc
    have Z5 : TabZ 30 (sCols (bS B)) C5 181 0 (rT (sRight (bS B) (stmO (bS B) i) (zT (bZ B)))) := by
      intro p hp tp c h1 h2
      rw [b5, if_pos (by omega), ew]
      exact G1.2.1 p hp tp c h1 h2
    have R := m225 (n := n) (f := 0) M5.1.1 (by omega) M5.2.2.2.2.1.1.1 M5.2.2.2.2.1.1.2 c4 (by omega)
    rw [x_0] at R
    dsimp only
    rw [if_pos k_145]
    refine rt_bind (rt_mono R (fun _ C6 H => ?_))
    obtain ⟨Q1, Q2, Q3, Q4, Q5⟩ := H
    have F6 : FrR C5 C6 := Q1.r (by omega)
    have M6 := M5.frR hB F6
    have V := m224 (n := n) (h := h) (i := 8 * h + i) (path := k) (stage := g) M6.1 (by omega) (M6.stm hi) hto Q4 Q5 hN hk (by omega) (by omega)
    refine rt_bind (rt_mono V (fun _ C7 H => ?_))
    obtain ⟨V1, V2, _, V4⟩ := H
    have F7 : FrR C6 C7 := V2.r (by omega)
    have P7 := (M6.frR hB F7).1.1
    have e181 : cI C7 181 = cI C5 181 := by rw [V2.2.2.1 181 (by unfold MX; omega), Q3 181 (by omega)]
    have X := m254 (n := n) (a := 181) (b := 180) P7 k_181 k_180 l_181 l_180 (T5.of e181) V1.1 (by unfold TabZ; rw [e181]; exact Z5) V1.2.1 c4 (by decide) (by decide) (by omega)
    rw [bd1 (w_145_58 P7), bd1 (w_145_57 P7)]
    refine rt_bind (rt_mono X (fun z C8 H => ?_))
    obtain ⟨rfl, p8, _, o8⟩ := H
    have F8 : FrR C7 C8 := ⟨p8, fun b z => o8 b (by omega), fun b y z => o8 b (by omega), fun j _ => by rw [o8 146 (by omega)], fun f _ _ => by rw [o8 145 (by omega)]⟩
    refine rt_ret ⟨rfl, V1.of (fun f _ _ => by rw [o8 145 (by omega)]) (fun b hb => o8 b (by omega)), ?_, F3.trans (F5.trans (F6.trans (F7.trans F8))), ?_, sReads_ok V4⟩
    · rw [o8 145 (by omega), V2.2.2.2 83 (by omega), Q2, o5 145 (by omega), e83, hv]
    · rw [o8 145 (by omega), V2.2.2.2 5 (by omega), Q2, o5 145 (by omega), t3]
  dsimp only
  rw [e66]
  by_cases d : rE (sRight (bS B) (stmO (bS B) i) (zT (bZ B))) = 5
  · have d2 : rE (sEnd (bS B) (sRun (bS B) (stmO (bS B) i) 3 0 (zT (bZ B)))) = 5 := d
    rw [if_neg (fun z => z d)]
    exact TL 0 (by rw [if_neg (fun z => z d2)] at sE; exact sE)
  · have d2 : ¬ rE (sEnd (bS B) (sRun (bS B) (stmO (bS B) i) 3 0 (zT (bZ B)))) = 5 := d
    rw [if_pos d]
    exact TL _ (by rw [if_pos d2] at sE; exact sE)
theorem q257 (hM : MI C h B) (hB : BigOK B) (hn : 9800 ≤ n) (a p g b : Int32) : Rt (f_257 n 145 a p g b C) (fun z C' => An C' z (sGoe B a p g b) ∧ FrR C C') := by
  have l8 := hB.1.2.2.2.2.2.2.2.1
  have l3 := hB.1.2.2.1
  obtain ⟨M0, t0, F0⟩ := hM.t0 hB
  generalize hC0 : uI C 145 5 0 = C0 at M0 t0 F0
  have hh := M0.1.2.2.1.1
  unfold f_257 sGoe
  rw [hC0]
  rcases ix_c (N := (sStm (bS B)).length) (by omega) a with ⟨na, ea⟩ | ⟨i, hi, rfl, ea⟩
  · rw [ea]
    simp only [↓reduceIte, k_145, if_true, ↓bd1 (m250_f (n := n) M0.1 na t0)]
    exact rt_ret (An_f F0)
  · rw [ea]
    rcases ix_c (N := 1 + 2 * (sIdx (bS B)).length) (by omega) p with ⟨np, ep⟩ | ⟨k, hk, rfl, ep⟩
    · rw [ep]
      simp only [↓reduceIte, k_145, if_true, if_false, n10f, ↓bd1 (m250_t (n := n) M0.1 hi t0), ↓bd1 (m248_f (n := n) M0.1 np t0)]
      exact rt_ret (An_f F0)
    · rw [ep]
      have hk : PathOK (bS B) k := hk
      rcases ix_c (N := 4) (by omega) g with ⟨ng, eg⟩ | ⟨st, hg, rfl, eg⟩
      · rw [eg]
        have w1 : f_163 n g 0 (3 : Int32) C0 = some (0, C0) := m163_f (N := 4) (by omega) ng
        simp only [↓reduceIte, k_145, if_true, if_false, n10f, ↓bd1 (m250_t (n := n) M0.1 hi t0), ↓bd1 (m248_t (n := n) M0.1 hk t0), ↓bd1 w1, ↓bd1 (m162_f (n := n) (w := 1) t0 (by decide)), not_true]
        exact rt_ret (An_f F0)
      · rw [eg]
        have w0 : f_163 n (nI st) 0 (3 : Int32) C0 = some (1, C0) := m163_t (N := 4) (by omega) hg
        rcases ix_c (N := 4) (by omega) b with ⟨nb, eb⟩ | ⟨w, hw, rfl, eb⟩
        · rw [eb]
          have w1 : f_163 n b 0 (3 : Int32) C0 = some (0, C0) := m163_f (N := 4) (by omega) nb
          simp only [↓reduceIte, k_145, if_true, if_false, n10f, ↓bd1 (m250_t (n := n) M0.1 hi t0), ↓bd1 (m248_t (n := n) M0.1 hk t0), ↓bd1 w0, ↓bd1 w1, ↓bd1 (m162_f (n := n) (w := 1) t0 (by decide)), not_true]
          exact rt_ret (An_f F0)
        · rw [eb]
          have w1 : f_163 n (nI w) 0 (3 : Int32) C0 = some (1, C0) := m163_t (N := 4) (by omega) hw
          have W := m255 (n := n) M0 hB hi hk hg (by omega)
          simp (disch := omega) only [k_145, if_true, if_false, n10f, ↓bd1 (m250_t (n := n) M0.1 hi t0), ↓bd1 (m248_t (n := n) M0.1 hk t0), ↓bd1 w0, ↓bd1 w1, ↓bd1 (m162_t (n := n) (w := 1) t0), not_false_iff, M0.1.2.1, ↓reduceIte, n_2, n_3, n_4, n_5, n_6, n_7, n_8, n_10, n_12, n_20, n_30, n_40, n_100, n_120, n_150, n_200, n_230, n_320, n_450, n_900, x_le, x_lt, x_eq, x_lt0, x_le0, x_0le, x_0lt, x_eq0, x_eq1, x_1lt, x_le1, x_lt1, x_1le, x_eqm, x_add, x_a1, x_1a, x_a0, x_0a, x_mul, x_sub, x_s1, x_1s, x_div, x_cl, x_cl0, x_cl1, x_in, x_in0, x_in1, x_ofNat]
          refine rt_bind (rt_mono W (fun z C' H => ?_))
          obtain ⟨rfl, q1, q2, F, t5, q3⟩ := H
          have F' := F0.trans F
          have t5 : cI C' 145 5 = 0 := t5.trans t0
          have ec := (EC.run (S := bS B) (t := stmO (bS B) i) (stage := st) (path := k) (T := zT (bZ B)))
          have hw4 : w = 0 ∨ w = 1 ∨ w = 2 ∨ w = 3 := by omega
          rcases hw4 with rfl | rfl | rfl | rfl
          · simp only [↓reduceIte, v00, v10, v20, v30, v01, v11, v21, v31, v02, v12, v22, v32, if_true, if_false, not_true, not_false_iff]
            exact rt_ret ⟨⟨t5, rfl⟩, F'⟩
          · simp only [↓reduceIte, v00, v10, v20, v30, v01, v11, v21, v31, v02, v12, v22, v32, if_true, if_false, not_true, not_false_iff]
            exact rt_ret ⟨⟨t5, by rw [q1.2.2.2.1]; rfl⟩, F'⟩
          · simp only [↓reduceIte, v00, v10, v20, v30, v01, v11, v21, v31, v02, v12, v22, v32, if_true, if_false, not_true, not_false_iff]
            exact rt_ret ⟨⟨t5, by rw [q1.2.2.1]; rfl⟩, F'⟩
          · have w2 := m256 (n := n) (M0.frR hB F).1.1 q1 (fun p => by have := ec.2 p; have := q3.2; omega) (by omega)
            simp only [↓reduceIte, v00, v10, v20, v30, v01, v11, v21, v31, v02, v12, v22, v32, if_true, if_false, not_true, not_false_iff, ↓bd1 w2]
            exact rt_ret ⟨⟨t5, rfl⟩, F'⟩
theorem m258_lp (hB : BigOK B) {i : Nat} (hi : i < (sStm (bS B)).length) : ∀ m k n C x, k + m = 1 + 2 * (sIdx (bS B)).length → m + 9800 < n → MI C h B → cI C 145 5 = 0 → Rt (lp_258_13 n 145 (nI i) x (nI k) C) (fun z C' => z = qo (wrF (bS B) (stmO (bS B) i) (zT (bZ B))) m k x ∧ cI C' 145 5 = 0 ∧ FrR C C') := by
  have l8 := hB.1.2.2.2.2.2.2.2.1
  have l3 := hB.1.2.2.1
  intro m
  induction m with
  | zero =>
    intro k n C x h1 hn hM t0
    obtain ⟨n, rfl⟩ : ∃ m, n = m + 1 := ⟨n - 1, by omega⟩
    have b1 : 1 + 2 * (sIdx (bS B)).length ≤ k := by omega
    simp (disch := omega) only [↓reduceIte, lp_258_13, k_145, if_true, ↓bd1 (m243 (n := n) hM.1), x_le, b1]
    exact rt_ret ⟨rfl, t0, FrR.refl _⟩
  | succ m ih =>
    intro k n C x h1 hn hM t0
    obtain ⟨n, rfl⟩ : ∃ m, n = m + 1 := ⟨n - 1, by omega⟩
    have hh := hM.1.2.2.1.1
    have b1 : ¬ 1 + 2 * (sIdx (bS B)).length ≤ k := by omega
    have hk : PathOK (bS B) k := by unfold PathOK; omega
    have W := m255 (n := n) (g := 0) hM hB hi hk (by omega) (by omega)
    rw [x_0] at W
    simp (disch := omega) only [lp_258_13, k_145, if_true, if_false, ↓bd1 (m243 (n := n) hM.1), x_le, b1, hM.1.2.1, ↓reduceIte, n_2, n_3, n_4, n_5, n_6, n_7, n_8, n_10, n_12, n_20, n_30, n_40, n_100, n_120, n_150, n_200, n_230, n_320, n_450, n_900, x_lt, x_eq, x_lt0, x_le0, x_0le, x_0lt, x_eq0, x_eq1, x_1lt, x_le1, x_lt1, x_1le, x_eqm, x_add, x_a1, x_1a, x_a0, x_0a, x_mul, x_sub, x_s1, x_1s, x_div, x_cl, x_cl0, x_cl1, x_in, x_in0, x_in1, x_ofNat]
    refine rt_bind (rt_mono W (fun z C1 H => ?_))
    obtain ⟨rfl, q1, q2, F, t5, q3⟩ := H
    have t5 : cI C1 145 5 = 0 := t5.trans t0
    have M1 := hM.frR hB F
    have e66 : cI C1 145 66 = rE (sRun (bS B) (stmO (bS B) i) 0 k (zT (bZ B))) := q1.2.2.2.1
    have gl := goL_le (S := bS B) (t := stmO (bS B) i) (k := k) (g := 0) (T := zT (bZ B))
    have on : ∀ x', Rt (lp_258_13 n 145 (nI i) x' (nI (k + 1)) C1) (fun z C' => z = qo (wrF (bS B) (stmO (bS B) i) (zT (bZ B))) m (k + 1) x' ∧ cI C' 145 5 = 0 ∧ FrR C C') := fun x' => rt_mono (ih (k + 1) n C1 x' (by omega) (by omega) M1 t5) (fun _ _ H => ⟨H.1, H.2.1, F.trans H.2.2⟩)
    rw [qo]
    by_cases z : goL (bS B) (stmO (bS B) i) k 0 (zT (bZ B)) = 0
    · have z1 : ¬ 0 < nI (goL (bS B) (stmO (bS B) i) k 0 (zT (bZ B))) := by rw [x_0lt (by omega)]; omega
      by_cases d : rE (sRun (bS B) (stmO (bS B) i) 0 k (zT (bZ B))) = rE (sRun (bS B) (stmO (bS B) i) 3 0 (zT (bZ B)))
      · have d' : (rE (sRun (bS B) (stmO (bS B) i) 0 k (zT (bZ B))) = rE (sRun (bS B) (stmO (bS B) i) 3 0 (zT (bZ B)))) = True := eq_true d
        have wb : wrB (bS B) (stmO (bS B) i) (zT (bZ B)) k = false := by unfold wrB; rw [d, z]; simp
        have O := on x
        simp only [↓reduceIte, z1, if_false, e66, q2, d', if_true, x_a1, wrF, wb, Bool.false_eq_true]
        exact O
      · have wb : wrB (bS B) (stmO (bS B) i) (zT (bZ B)) k = true := by unfold wrB; rw [Bool.or_eq_true]; left; simpa using d
        have O := on (x ||| ((1 : Int32) <<< (nI k &&& 31)))
        simp only [↓reduceIte, z1, if_false, e66, q2, d, x_a1, wrF, wb, if_true]
        exact O
    · have z1 : 0 < nI (goL (bS B) (stmO (bS B) i) k 0 (zT (bZ B))) := by rw [x_0lt (by omega)]; omega
      have wb : wrB (bS B) (stmO (bS B) i) (zT (bZ B)) k = true := by unfold wrB; rw [Bool.or_eq_true]; right; simp; omega
      have O := on (x ||| ((1 : Int32) <<< (nI k &&& 31)))
      simp only [↓reduceIte, z1, if_true, x_a1, wrF, wb]
      exact O
theorem q258 (hM : MI C h B) (hB : BigOK B) (hn : 9900 ≤ n) (a : Int32) : Rt (f_258 n 145 a C) (fun z C' => An C' z (sWro B a) ∧ FrR C C') := by
  have l8 := hB.1.2.2.2.2.2.2.2.1
  have l3 := hB.1.2.2.1
  obtain ⟨M0, t0, F0⟩ := hM.t0 hB
  generalize hC0 : uI C 145 5 0 = C0 at M0 t0 F0
  unfold f_258 sWro
  rw [hC0]
  rcases ix_c (N := (sStm (bS B)).length) (by omega) a with ⟨na, ea⟩ | ⟨i, hi, rfl, ea⟩
  · rw [ea]
    simp only [↓reduceIte, k_145, if_true, if_false, not_true, ↓bd1 (m250_f (n := n) M0.1 na t0)]
    exact rt_ret (An_f F0)
  · rw [ea]
    have L := m258_lp (h := h) hB hi (1 + 2 * (sIdx (bS B)).length) 0 n C0 0 (by omega) (by omega) M0 t0
    rw [x_0] at L
    simp only [↓reduceIte, k_145, if_true, if_false, n10f, not_false_iff, ↓bd1 (m250_t (n := n) M0.1 hi t0)]
    refine rt_bind (rt_mono L (fun _ C2 H => ?_))
    exact rt_ret ⟨⟨H.2.1, H.1⟩, F0.trans H.2.2⟩
end
