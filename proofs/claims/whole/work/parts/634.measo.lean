/-! Planner.measureMerge: over the other's rows; heldAt (class). -/
def sMg0 (S : Scr) (t : Stm) (path : Nat) (T : Tab) (o : Nat) (x : Nat × Nat) : Nat × Nat := sMs (mgG t T (othN S o (tOth t))) (okC S path (rgX S (some t) path (some o)) T) (sRk S path T) 30 none x
def sMg1 (S : Scr) (t : Stm) (path : Nat) (T : Tab) (o : Nat) (y : (Nat × Nat) × Nat) : (Nat × Nat) × Nat := (sMg0 S t path T o y.1, if (sMg0 S t path T o y.1).2 = y.1.2 ∧ tAdds t = true then y.2 + 1 else y.2)
theorem c63_lp {s st r path : Nat} {S : Scr} {t : Stm} {T : Tab} (hpa : PathOK S path) (h3 : tKd t = 3) : ∀ m o n C (y : (Nat × Nat) × Nat), o + m = (sOth S).length → m + 200 < n → y.1.1 ≤ 30 * o → y.1.2 ≤ 30 * o → y.2 ≤ o → PnK C s st r S t T → cI C 102 1 = nI y.1.1 → cI C 102 2 = nI y.1.2 → cI C 102 3 = nI y.2 → Rt (lp_63_2 n 102 s st (nI path) r (nI o) C) (fun _ C' => cI C' 102 1 = nI (qo (sMg1 S t path T) m o y).1.1 ∧ cI C' 102 2 = nI (qo (sMg1 S t path T) m o y).1.2 ∧ cI C' 102 3 = nI (qo (sMg1 S t path T) m o y).2 ∧ Fr PnX C C') := by
  intro m
  induction m with
  | zero =>
    intro o n C y h1 hn y1 y2 y3 hK e1 e2 e3
    obtain ⟨n, rfl⟩ : ∃ m, n = m + 1 := ⟨n - 1, by omega⟩
    have l10 := hK.2.2.2.2.1.2.2.2.2.2.1
    have b1 : (sOth S).length ≤ o := by omega
    have eo := hK.2.2.2.1.2.2.2.2.1
    simp (disch := omega) only [↓reduceIte, lp_63_2, (sc_of hK.1 hK.2.1).k, if_true, eo, x_le, b1]
    exact rt_ret ⟨e1, e2, e3, Fr.refl _ _⟩
  | succ m ih =>
    intro o n C y h1 hn y1 y2 y3 hK e1 e2 e3
    obtain ⟨n, rfl⟩ : ∃ m, n = m + 1 := ⟨n - 1, by omega⟩
    have l10 := hK.2.2.2.2.1.2.2.2.2.2.1
    have b1 : ¬ (sOth S).length ≤ o := by omega
    have ho : o < (sOth S).length := by omega
    have eo := hK.2.2.2.1.2.2.2.2.1
    have hK0 := hK
    obtain ⟨hP, g2, g3, g4, g5, g6, g7, g8, g9, g10⟩ := hK
    have kt := st_of hP g3
    have ks := sc_of hP g2
    have st8 := stm_lt g3
    have w95 : f_95 n s (nI o) (cI C st 4) C = some (othN S o (tOth t), C) := by
      rw [g6.2.2.2.2.1]
      exact c95 (o := some o) ks g4 g5 (fun q z => by cases z; exact ho) g7.2.2.2.2.1
    simp (disch := omega) only [↓reduceIte, lp_63_2, ks.k, if_true, if_false, eo, x_le, b1, kt.1, ↓bd1 w95, k_102, ↓bd1 (w_102_0 hP), k_103]
    refine rt_bind (rt_mono (c4 (n := n) hP g2 g4 g5 hpa k_103 (by omega) kt.1 (by omega) g6 g7 h3 ho) (fun _ C1 H => ?_))
    obtain ⟨H1, H2⟩ := H
    have F1 : Fr PnX C C1 := H2.mono (fun b hb => Or.inr hb)
    have ci : cI C1 102 = cI C 102 := H2.2.1 102 (by decide)
    have K1 := hK0.fr F1
    have w5 := c5 (n := n) (a := 103) k_103 (rw_of K1.1 g8) K1.2.2.2.2.2.2.2.2.1 g5 g10 hpa H1 (fun y hy => by cases hy) (by omega)
    have F4 : Fr PnX C1 (rdC C1 103 S path T (sNext (okC S path (rgX S (some t) path (some o)) T) (sRk S path T) none)) := (rdC_fr C1 103 S path T _).mono (fun b hb => Or.inr hb)
    have ci2 := rdC_cI C1 103 S path T (sNext (okC S path (rgX S (some t) path (some o)) T) (sRk S path T) none)
    have L := c63_in (R := rgX S (some t) path (some o)) (pth := nI path) (o := nI o) (num := othN S o (tOth t)) (bef := cI C 102 2) hpa 30 0 n (rdC C1 103 S path T (sNext (okC S path (rgX S (some t) path (some o)) T) (sRk S path T) none)) none y.1 rfl (by omega) (by omega) (by omega) (K1.fr F4) (rdC_cur2 _ H1) (by rw [ci2, ci]; exact e1) (by rw [ci2, ci]; exact e2)
    rw [x_0] at L
    simp only [↓reduceIte, ↓bd1 (w_102_0 K1.1), k_103, if_true, ↓bd1 w5]
    refine rt_bind (rt_mono L (fun z C3 H3 => ?_))
    obtain ⟨rfl, L1, L2, L3, F5⟩ := H3
    have F6 : Fr PnX C C3 := F1.trans (F4.trans F5)
    have K3 := hK0.fr F6
    have kt3 := st_of K3.1 g3
    have ew : qo (sMg1 S t path T) (m + 1) o y = qo (sMg1 S t path T) m (o + 1) (sMg1 S t path T o y) := rfl
    rw [ew]
    have lz := sMs_le (g := mgG t T (othN S o (tOth t))) (ok := okC S path (rgX S (some t) path (some o)) T) (rk := sRk S path T) 30 none y.1
    have ez : sMs (mgG t T (othN S o (tOth t))) (okC S path (rgX S (some t) path (some o)) T) (sRk S path T) 30 none y.1 = sMg0 S t path T o y.1 := rfl
    rw [ez] at L1 L2 lz
    have m1 : (sMg1 S t path T o y).1 = sMg0 S t path T o y.1 := rfl
    have c3 : cI C3 102 3 = nI y.2 := by rw [L3, ci2, ci, e3]
    have on : ∀ (C4 : AmC), PnK C4 s st r S t T → cI C4 102 1 = cI C3 102 1 → cI C4 102 2 = cI C3 102 2 → cI C4 102 3 = nI (sMg1 S t path T o y).2 → (sMg1 S t path T o y).2 ≤ o + 1 → Fr PnX C C4 → Rt (lp_63_2 n 102 s st (nI path) r (nI o + 1) C4) (fun _ C' => cI C' 102 1 = nI (qo (sMg1 S t path T) m (o + 1) (sMg1 S t path T o y)).1.1 ∧ cI C' 102 2 = nI (qo (sMg1 S t path T) m (o + 1) (sMg1 S t path T o y)).1.2 ∧ cI C' 102 3 = nI (qo (sMg1 S t path T) m (o + 1) (sMg1 S t path T o y)).2 ∧ Fr PnX C C') := by
      intro C4 K4 a1 a2 a3 a4 F7
      rw [x_a1]
      have I := ih (o + 1) n C4 (sMg1 S t path T o y) (by omega) (by omega) (by rw [m1]; omega) (by rw [m1]; omega) a4 K4 (by rw [a1, L1, m1]) (by rw [a2, L2, m1]) a3
      exact rt_mono I (fun _ C' H => ⟨H.1, H.2.1, H.2.2.1, F7.trans H.2.2.2⟩)
    by_cases d : (sMg0 S t path T o y.1).2 = y.1.2
    · have d' : (cI C3 102 2 = cI C 102 2) = True := eq_true (by rw [L2, e2, d])
      rcases bcs (tAdds t) with a | a
      · have ea : cI C3 st 1 = 0 := by rw [K3.2.2.2.2.2.1.2.1, a]; rfl
        have q : (sMg1 S t path T o y).2 = y.2 := by simp [sMg1, a]
        simp only [↓reduceIte, k_102, if_true, if_false, d', not_true, kt3.1, ea]
        exact on C3 K3 rfl rfl (by rw [q]; exact c3) (by omega) F6
      · have ea : ¬ cI C3 st 1 = 0 := by rw [K3.2.2.2.2.2.1.2.1, a]; decide
        have q : (sMg1 S t path T o y).2 = y.2 + 1 := by simp [sMg1, a, d]
        simp only [↓reduceIte, k_102, if_true, if_false, d', not_true, kt3.1, ea]
        have F7 : Fr PnX C (uI C3 102 3 (cI C3 102 3 + 1)) := F6.uI (Or.inl rfl)
        exact on _ (hK0.fr F7) (by rw [r_I, if_neg (by omega)]) (by rw [r_I, if_neg (by omega)]) (by rw [r_I, if_pos ⟨rfl, rfl⟩, c3, x_a1, q]) (by omega) F7
    · have d' : ¬ cI C3 102 2 = cI C 102 2 := by rw [L2, e2, x_eq (by omega) (by omega)]; exact d
      have q : (sMg1 S t path T o y).2 = y.2 := by simp [sMg1, d]
      simp only [↓reduceIte, k_102, if_true, if_false, d', not_false_iff]
      exact on C3 K3 rfl rfl (by rw [q]; exact c3) (by omega) F6
/-- (reads, rows that hold), new rows of a merge -/
def sMeasM (S : Scr) (t : Stm) (path : Nat) (T : Tab) : (Nat × Nat) × Nat := qo (sMg1 S t path T) (sOth S).length 0 ((0, 0), 0)
theorem c63 {n : Nat} {C : AmC} {s st r path : Nat} {S : Scr} {t : Stm} {T : Tab} (hpa : PathOK S path) (h3 : tKd t = 3) (hK : PnK C s st r S t T) (e1 : cI C 102 1 = 0) (e2 : cI C 102 2 = 0) (e3 : cI C 102 3 = 0) (hn : 400 ≤ n) : Rt (f_63 n 102 s st (nI path) r C) (fun _ C' => cI C' 102 1 = nI (sMeasM S t path T).1.1 ∧ cI C' 102 2 = nI (sMeasM S t path T).1.2 ∧ cI C' 102 3 = nI (sMeasM S t path T).2 ∧ Fr PnX C C') := by
  have l10 := hK.2.2.2.2.1.2.2.2.2.2.1
  have L := c63_lp hpa h3 (sOth S).length 0 n C ((0, 0), 0) (by omega) (by omega) (Nat.le_refl _) (Nat.le_refl _) (Nat.le_refl _) hK (by rw [e1]; rfl) (by rw [e2]; rfl) (by rw [e3]; rfl)
  rw [x_0] at L
  unfold f_63
  exact rt_bind (rt_mono L (fun z C2 H3 => rt_ret H3))
