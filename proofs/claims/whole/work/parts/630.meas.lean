/-! Planner.measure: how many rows are read, how many hold (class). -/
def sMs (g ok : Nat → Bool) (rk : Nat → Int) : Nat → Option Int → Nat × Nat → Nat × Nat
  | 0, _, x => x
  | k + 1, last, x => match sNext ok rk last with
    | none => x
    | some p => sMs g ok rk k (some (rk p)) (x.1 + 1, if g p = true then x.2 + 1 else x.2)
theorem sMs_none {g ok : Nat → Bool} {rk : Nat → Int} {k : Nat} {last : Option Int} {x : Nat × Nat} (h : sNext ok rk last = none) : sMs g ok rk (k + 1) last x = x := by
  rw [sMs, h]
theorem sMs_some {g ok : Nat → Bool} {rk : Nat → Int} {k p : Nat} {last : Option Int} {x : Nat × Nat} (h : sNext ok rk last = some p) : sMs g ok rk (k + 1) last x = sMs g ok rk k (some (rk p)) (x.1 + 1, if g p = true then x.2 + 1 else x.2) := by
  rw [sMs, h]
/-- enough is enough -/
theorem sMs_fuel {g ok : Nat → Bool} {rk : Nat → Int} : ∀ k l last x, ahead ok rk last ≤ k → k ≤ l → sMs g ok rk k last x = sMs g ok rk l last x := by
  intro k
  induction k with
  | zero =>
    intro l last x h _
    cases l with
    | zero => rfl
    | succ l =>
      cases e : sNext ok rk last with
      | none => rw [sMs_none e]; rfl
      | some p =>
        have := ahead_lt e
        omega
  | succ k ih =>
    intro l last x h hl
    obtain ⟨l, rfl⟩ : ∃ m, l = m + 1 := ⟨l - 1, by omega⟩
    cases e : sNext ok rk last with
    | none => rw [sMs_none e, sMs_none e]
    | some p =>
      have := ahead_lt e
      rw [sMs_some e, sMs_some e]
      exact ih l _ _ (by omega) (by omega)
theorem sMs_le {g ok : Nat → Bool} {rk : Nat → Int} : ∀ k last x, (sMs g ok rk k last x).1 ≤ x.1 + k ∧ (sMs g ok rk k last x).2 ≤ x.2 + k := by
  intro k
  induction k with
  | zero => intro last x; exact ⟨Nat.le_refl _, Nat.le_refl _⟩
  | succ k ih =>
    intro last x
    cases e : sNext ok rk last with
    | none => rw [sMs_none e]; omega
    | some p =>
      rw [sMs_some e]
      have := ih (some (rk p)) (x.1 + 1, if g p = true then x.2 + 1 else x.2)
      have y : (if g p = true then x.2 + 1 else x.2) ≤ x.2 + 1 := by split <;> omega
      simp only at this
      omega
def PnK (C : AmC) (s st r : Nat) (S : Scr) (t : Stm) (T : Tab) : Prop := PInv C ∧ s ∈ scrL ∧ st ∈ stmsL ∧ ScrC C s S ∧ ScrOK S ∧ StmC (sCols S) C s st t ∧ StmOK (sCols S) t ∧ r ∈ rowsL ∧ TabC (sCols S) C r T ∧ TabN (sCols S) T
def PnX (b : Nat) : Prop := b = 102 ∨ b = 103
theorem rows_pn : ∀ r ∈ rowsL, r ≠ 102 ∧ r ≠ 103 ∧ r + 1 ≠ 102 ∧ r + 1 ≠ 103 := by decide
theorem PnX.ge (b : Nat) (h : PnX b) : 82 ≤ b := by unfold PnX at h; omega
theorem PnK.fr {C C1 : AmC} {s st r : Nat} {S : Scr} {t : Stm} {T : Tab} (h : PnK C s st r S t T) (F : Fr PnX C C1) : PnK C1 s st r S t T := by
  obtain ⟨h1, h2, h3, h4, h5, h6, h7, h8, h9, h10⟩ := h
  have g1 := stm_lt h3
  have g2 := scr_lt h2
  obtain ⟨r1, r2, r3, r4⟩ := rows_pn r h8
  have e : ∀ b, b < 82 → cI C1 b = cI C b := fun b hb => F.2.1 b (fun y => by have := PnX.ge b y; omega)
  exact ⟨h1.of F.1, h2, h3, h4.fr h5 h2 F PnX.ge, h5, h6.of (fun b z1 z2 => e b (by omega)) (e _ (by omega)) (e _ (by omega)) (e _ (by omega)), h7, h8, h9.of (F.2.1 r (fun y => by unfold PnX at y; omega)) (F.2.1 (r + 1) (fun y => by unfold PnX at y; omega)), h10⟩
theorem c62_lp {s st r path : Nat} {S : Scr} {t : Stm} {T : Tab} {R : Int32 → Bool} (hpa : PathOK S path) : ∀ m j n C last (x : Nat × Nat), j + m = 30 → m + 1300 < n → x.1 ≤ j → x.2 ≤ j → PnK C s st r S t T → CurC C 103 S path R last → (∀ y, last = some y → -12000000000 < y ∧ y < 12000000000) → cI C 102 1 = nI x.1 → cI C 102 2 = nI x.2 → Rt (lp_62_8 n 102 s st r (nI j) C) (fun _ C' => cI C' 102 1 = nI (sMs (fun p => sHolds S T (some p) t) (okC S path R T) (sRk S path T) m last x).1 ∧ cI C' 102 2 = nI (sMs (fun p => sHolds S T (some p) t) (okC S path R T) (sRk S path T) m last x).2 ∧ cI C' 102 3 = cI C 102 3 ∧ Fr PnX C C') := by
  intro m
  induction m with
  | zero =>
    intro j n C last x h1 hn x1 x2 hK hC hl e1 e2
    obtain ⟨n, rfl⟩ : ∃ m, n = m + 1 := ⟨n - 1, by omega⟩
    have b1 : 30 ≤ j := by omega
    simp (disch := omega) only [↓reduceIte, lp_62_8, n_30, x_le, b1, if_true]
    exact rt_ret ⟨e1, e2, rfl, Fr.refl _ _⟩
  | succ m ih =>
    intro j n C last x h1 hn x1 x2 hK hC hl e1 e2
    obtain ⟨n, rfl⟩ : ∃ m, n = m + 1 := ⟨n - 1, by omega⟩
    have b1 : ¬ 30 ≤ j := by omega
    have hK0 := hK
    obtain ⟨hP, g2, g3, g4, g5, g6, g7, g8, g9, g10⟩ := hK
    have w5 := c5 (n := n) (a := 103) k_103 (rw_of hP g8) g9 g5 g10 hpa hC hl (by omega)
    cases hs : sNext (okC S path R T) (sRk S path T) last with
    | none =>
      rw [hs] at w5
      have w5 : f_5 n 103 r C = some (-1, C) := w5
      simp (disch := omega) only [↓reduceIte, lp_62_8, n_30, x_le, b1, if_true, if_false, k_102, ↓bd1 (w_102_0 hP), k_103, ↓bd1 w5, not_true]
      rw [sMs_none hs]
      exact rt_ret ⟨e1, e2, rfl, Fr.refl _ _⟩
    | some p =>
      rw [hs] at w5
      obtain ⟨p30, okp⟩ := sNext_ok hs
      have tp : T.1 p = true := by
        unfold okC at okp
        rw [Bool.and_eq_true] at okp
        exact okp.1
      have np : ¬ oI (some p) = (-1 : Int32) := by rw [oI_s, x_eqm (by omega)]; exact id
      have F1 : Fr PnX C (rdC C 103 S path T (some p)) := (rdC_fr C 103 S path T (some p)).mono (fun b hb => Or.inr hb)
      have C1c := rdC_cur (T := T) (p := p) hC
      have ci := rdC_cI C 103 S path T (some p)
      generalize hC1 : rdC C 103 S path T (some p) = C1 at w5 F1 C1c ci
      have F2 : Fr PnX C (uI C1 102 1 (cI C1 102 1 + 1)) := F1.uI (Or.inl rfl)
      have hK2 := hK0.fr F2
      obtain ⟨hP2, _, _, q4, _, q6, _, _, q9, _⟩ := hK2
      have w3 := c103 (n := n) (pl := some p) (sc_of hP2 g2) q4 g5 (rw_of hP2 g8) q9 (fun q z => by cases z; exact p30) (st_of hP2 g3).1 q6 g7 (by omega)
      have C2c : CurC (uI C1 102 1 (cI C1 102 1 + 1)) 103 S path R (some (sRk S path T p)) := C1c.of (r_In (by decide)) rfl
      have v1 : cI (uI C1 102 1 (cI C1 102 1 + 1)) 102 1 = nI (x.1 + 1) := by
        rw [r_I, if_pos ⟨rfl, rfl⟩, ci, e1, x_a1]
      have v2 : cI (uI C1 102 1 (cI C1 102 1 + 1)) 102 2 = nI x.2 := by
        rw [r_I, if_neg (by omega), ci, e2]
      have v3 : cI (uI C1 102 1 (cI C1 102 1 + 1)) 102 3 = cI C 102 3 := by
        rw [r_I, if_neg (by omega), ci]
      have hl2 : ∀ y, some (sRk S path T p) = some y → -12000000000 < y ∧ y < 12000000000 := fun y hy => by
        cases hy
        exact sRk_bd g5 g10 hpa p30 tp
      rw [sMs_some hs]
      generalize hC2 : uI C1 102 1 (cI C1 102 1 + 1) = C2 at F2 hP2 q4 q6 q9 w3 C2c v1 v2 v3
      have ne1 : ¬ (1 : Int32) = 0 := by decide
      rcases bcs (sHolds S T (some p) t) with d | d
      · rw [d] at w3
        simp only [↓reduceIte, Bool.false_eq_true, if_false] at w3
        rw [← hC2] at w3
        simp (disch := omega) only [↓reduceIte, lp_62_8, n_30, x_le, b1, if_true, if_false, k_102, ↓bd1 (w_102_0 hP), k_103, ↓bd1 w5, np, not_false_iff, (sc_of hP g2).k, ↓bd1 w3, x_a1]
        rw [hC2]
        have I := ih (j + 1) n C2 (some (sRk S path T p)) (x.1 + 1, x.2) (by omega) (by omega) (by simp only; omega) (by simp only; omega) (hK0.fr F2) C2c hl2 v1 v2
        simp only [↓reduceIte, d, Bool.false_eq_true, if_false]
        exact rt_mono I (fun _ C' H => ⟨H.1, H.2.1, by rw [H.2.2.1, v3], F2.trans H.2.2.2⟩)
      · rw [d] at w3
        simp only [↓reduceIte, if_true] at w3
        rw [← hC2] at w3
        simp (disch := omega) only [↓reduceIte, lp_62_8, n_30, x_le, b1, if_true, if_false, k_102, ↓bd1 (w_102_0 hP), k_103, ↓bd1 w5, np, not_false_iff, (sc_of hP g2).k, ↓bd1 w3, x_a1, ne1]
        rw [hC2]
        have F3 : Fr PnX C (uI C2 102 2 (cI C2 102 2 + 1)) := F2.uI (Or.inl rfl)
        have I := ih (j + 1) n (uI C2 102 2 (cI C2 102 2 + 1)) (some (sRk S path T p)) (x.1 + 1, x.2 + 1) (by omega) (by omega) (by simp only; omega) (by simp only; omega) (hK0.fr F3) (C2c.of (r_In (by decide)) rfl) hl2 (by rw [r_I, if_neg (by omega)]; exact v1) (by rw [r_I, if_pos ⟨rfl, rfl⟩, v2, x_a1])
        simp only [↓reduceIte, d, if_true]
        exact rt_mono I (fun _ C' H => ⟨H.1, H.2.1, by rw [H.2.2.1, r_I, if_neg (by omega), v3], F3.trans H.2.2.2⟩)
/-- reads and rows that hold, of a statement that is no merge -/
def sMeas (S : Scr) (t : Stm) (path : Nat) (T : Tab) : Nat × Nat := sMs (fun p => sHolds S T (some p) t) (okC S path (rgX S (some t) path none) T) (sRk S path T) 30 none (0, 0)
theorem c62 {n : Nat} {C : AmC} {s st r path : Nat} {S : Scr} {t : Stm} {T : Tab} (hpa : PathOK S path) (h3 : ¬ tKd t = 3) (hK : PnK C s st r S t T) (e1 : cI C 102 1 = 0) (e2 : cI C 102 2 = 0) (hn : 1400 ≤ n) : Rt (f_62 n 102 s st (nI path) r C) (fun _ C' => cI C' 102 1 = nI (sMeas S t path T).1 ∧ cI C' 102 2 = nI (sMeas S t path T).2 ∧ cI C' 102 3 = cI C 102 3 ∧ Fr PnX C C') := by
  have hK0 := hK
  obtain ⟨hP, g2, g3, g4, g5, g6, g7, g8, g9, g10⟩ := hK
  have st8 := stm_lt g3
  unfold f_62
  simp only [↓reduceIte, k_102, if_true, ↓bd1 (w_102_0 hP), k_103]
  refine rt_bind (rt_mono (c2 (n := n) hP g2 g4 g5 hpa k_103 (by omega) (st_of hP g3).1 (by omega) g6 g7 h3 (by omega)) (fun _ C1 H => ?_))
  obtain ⟨H1, H2⟩ := H
  have F1 : Fr PnX C C1 := H2.mono (fun b hb => Or.inr hb)
  have ci : cI C1 102 = cI C 102 := H2.2.1 102 (by decide)
  have L := c62_lp (R := rgX S (some t) path none) hpa 30 0 n C1 none (0, 0) rfl (by omega) (Nat.le_refl _) (Nat.le_refl _) (hK0.fr F1) H1 (fun y hy => by cases hy) (by rw [ci, e1]; rfl) (by rw [ci, e2]; rfl)
  rw [x_0] at L
  refine rt_bind (rt_mono L (fun z C2 H3 => ?_))
  rcases z with z | z
  · exact rt_ret ⟨H3.1, H3.2.1, by rw [H3.2.2.1, ci], F1.trans H3.2.2.2⟩
  · exact rt_ret ⟨H3.1, H3.2.1, by rw [H3.2.2.1, ci], F1.trans H3.2.2.2⟩
