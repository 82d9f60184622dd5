/-! Planner.measureMerge (class). -/
def mgG (t : Stm) (T : Tab) (num : Int32) (p : Nat) : Bool := decide (T.2 p (tOwn t) = num)
theorem c63_in {s st r path : Nat} {S : Scr} {t : Stm} {T : Tab} {R : Int32 → Bool} {pth o num bef : Int32} (hpa : PathOK S path) : ∀ m j n C last (x : Nat × Nat), j + m = 30 → m + 100 < n → x.1 ≤ 1000 + j → x.2 ≤ 1000 + j → PnK C s st r S t T → CurC C 103 S path R (nxL (sRk S path T) last (sNext (okC S path R T) (sRk S path T) last)) → cI C 102 1 = nI x.1 → cI C 102 2 = nI x.2 → Rt (lp_63_29 n 102 s st pth r o num bef (oI (sNext (okC S path R T) (sRk S path T) last)) (nI j) C) (fun z C' => z = (102, s, st, pth, r, o, bef) ∧ cI C' 102 1 = nI (sMs (mgG t T num) (okC S path R T) (sRk S path T) m last x).1 ∧ cI C' 102 2 = nI (sMs (mgG t T num) (okC S path R T) (sRk S path T) m last x).2 ∧ cI C' 102 3 = cI C 102 3 ∧ Fr PnX C C') := by
  intro m
  induction m with
  | zero =>
    intro j n C last x h1 hn x1 x2 hK hC e1 e2
    obtain ⟨n, rfl⟩ : ∃ m, n = m + 1 := ⟨n - 1, by omega⟩
    have b1 : 30 ≤ j := by omega
    simp (disch := omega) only [↓reduceIte, lp_63_29, n_30, x_le, b1, if_true]
    exact rt_ret ⟨rfl, e1, e2, rfl, Fr.refl _ _⟩
  | succ m ih =>
    intro j n C last x h1 hn x1 x2 hK hC e1 e2
    obtain ⟨n, rfl⟩ : ∃ m, n = m + 1 := ⟨n - 1, by omega⟩
    have b1 : ¬ 30 ≤ j := by omega
    have hK0 := hK
    obtain ⟨hP, g2, g3, g4, g5, g6, g7, g8, g9, g10⟩ := hK
    cases hs : sNext (okC S path R T) (sRk S path T) last with
    | none =>
      have nn : (oI none = (-1 : Int32)) = True := eq_true rfl
      simp (disch := omega) only [↓reduceIte, lp_63_29, n_30, x_le, b1, if_true, if_false, nn]
      rw [sMs_none hs]
      exact rt_ret ⟨rfl, e1, e2, rfl, Fr.refl _ _⟩
    | some p =>
      rw [hs] at hC
      obtain ⟨p30, okp⟩ := sNext_ok hs
      have tp : T.1 p = true := by
        unfold okC at okp
        rw [Bool.and_eq_true] at okp
        exact okp.1
      have np : ¬ oI (some p) = (-1 : Int32) := by rw [oI_s, x_eqm (by omega)]; exact id
      have F2 : Fr PnX C (uI C 102 1 (cI C 102 1 + 1)) := (Fr.refl PnX C).uI (Or.inl rfl)
      have hK2 := hK0.fr F2
      have kt := st_of hP g3
      have st8 := stm_lt g3
      have v1 : cI (uI C 102 1 (cI C 102 1 + 1)) 102 1 = nI (x.1 + 1) := by
        rw [r_I, if_pos ⟨rfl, rfl⟩, e1, x_a1]
      have v2 : cI (uI C 102 1 (cI C 102 1 + 1)) 102 2 = nI x.2 := by
        rw [r_I, if_neg (by omega), e2]
      have v3 : cI (uI C 102 1 (cI C 102 1 + 1)) 102 3 = cI C 102 3 := by
        rw [r_I, if_neg (by omega)]
      have C2c : CurC (uI C 102 1 (cI C 102 1 + 1)) 103 S path R (some (sRk S path T p)) := CurC.of hC (r_In (by decide)) rfl
      have hl2 : ∀ y, some (sRk S path T p) = some y → -12000000000 < y ∧ y < 12000000000 := fun y hy => by
        cases hy
        exact sRk_bd g5 g10 hpa p30 tp
      have w76 : f_76 n r (oI (some p)) (cI (uI C 102 1 (cI C 102 1 + 1)) st 3) (uI C 102 1 (cI C 102 1 + 1)) = some (T.2 p (tOwn t), uI C 102 1 (cI C 102 1 + 1)) := by
        rw [hK2.2.2.2.2.2.1.2.2.2.1, oI_s, rg_eq (rw_of hK2.1 g8) hK2.2.2.2.2.2.2.2.2.1 p30 g7.2.2.2.1 g5.2.1]
        simp [tg, tp]
      rw [sMs_some hs]
      have hP2 := hK2.1
      -- on with the next row
      have on : ∀ (C3 : AmC) (y : Nat × Nat), y.1 ≤ 1000 + (j + 1) → y.2 ≤ 1000 + (j + 1) → PnK C3 s st r S t T → CurC C3 103 S path R (some (sRk S path T p)) → cI C3 102 1 = nI y.1 → cI C3 102 2 = nI y.2 → cI C3 102 3 = cI C 102 3 → Fr PnX C C3 → Rt ((f_5 n 103 r C3).bind (fun z => match z with | (q32, C33) => lp_63_29 n 102 s st pth r o num bef q32 (nI j + 1) C33)) (fun z C' => z = (102, s, st, pth, r, o, bef) ∧ cI C' 102 1 = nI (sMs (mgG t T num) (okC S path R T) (sRk S path T) m (some (sRk S path T p)) y).1 ∧ cI C' 102 2 = nI (sMs (mgG t T num) (okC S path R T) (sRk S path T) m (some (sRk S path T p)) y).2 ∧ cI C' 102 3 = cI C 102 3 ∧ Fr PnX C C') := by
        intro C3 y y1 y2 K3 cc a1 a2 a3 F3
        have w5 := c5 (n := n) (a := 103) k_103 (rw_of K3.1 g8) K3.2.2.2.2.2.2.2.2.1 g5 g10 hpa cc hl2 (by omega)
        rw [w5, Option.bind_some, x_a1]
        have F4 : Fr PnX C3 (rdC C3 103 S path T (sNext (okC S path R T) (sRk S path T) (some (sRk S path T p)))) := (rdC_fr C3 103 S path T _).mono (fun b hb => Or.inr hb)
        have ci := rdC_cI C3 103 S path T (sNext (okC S path R T) (sRk S path T) (some (sRk S path T p)))
        have I := ih (j + 1) n (rdC C3 103 S path T (sNext (okC S path R T) (sRk S path T) (some (sRk S path T p)))) (some (sRk S path T p)) y (by omega) (by omega) y1 y2 (K3.fr F4) (rdC_cur2 _ cc) (by rw [ci]; exact a1) (by rw [ci]; exact a2)
        exact rt_mono I (fun _ C' H => ⟨H.1, H.2.1, H.2.2.1, by rw [H.2.2.2.1, ci, a3], F3.trans (F4.trans H.2.2.2.2)⟩)
      have kr := (rw_of hP g8).1
      by_cases d : T.2 p (tOwn t) = num
      · have d' : (T.2 p (tOwn t) = num) = True := eq_true d
        have gd : mgG t T num p = true := by simp [mgG, d]
        have F3 : Fr PnX C (uI (uI C 102 1 (cI C 102 1 + 1)) 102 2 (cI (uI C 102 1 (cI C 102 1 + 1)) 102 2 + 1)) := F2.uI (Or.inl rfl)
        have O := on _ (x.1 + 1, x.2 + 1) (by simp only; omega) (by simp only; omega) (hK0.fr F3) (C2c.of (r_In (by decide)) rfl) (by rw [r_I, if_neg (by omega)]; exact v1) (by rw [r_I, if_pos ⟨rfl, rfl⟩, v2, x_a1]) (by rw [r_I, if_neg (by omega), v3]) F3
        rw [gd]
        have wp := w_102_0 (hK0.fr F3).1
        simp (disch := omega) only [↓reduceIte, lp_63_29, n_30, x_le, b1, if_true, if_false, np, k_102, kt.1, kr, ↓bd1 w76, d', not_true, ↓bd1 wp, k_103]
        exact O
      · have gd : mgG t T num p = false := by simp [mgG, d]
        have O := on _ (x.1 + 1, x.2) (by simp only; omega) (by simp only; omega) hK2 C2c v1 v2 v3 F2
        rw [gd]
        have wp := w_102_0 hP2
        simp (disch := omega) only [↓reduceIte, lp_63_29, n_30, x_le, b1, if_true, if_false, np, k_102, kt.1, kr, ↓bd1 w76, d, not_false_iff, ↓bd1 wp, k_103, Bool.false_eq_true]
        exact O
