/-! The reference's measure of a statement that is no merge. -/
theorem MK.frN {C C1 : AmC} {h i : Nat} {S : Scr} {t : Stm} (k : MK C h S i t) (F : FrN C C1) : MK C1 h S i t := by
  obtain ⟨k1, k2, k3, k4, k5⟩ := k
  exact ⟨k1.of F.1 (F.2.2.2 40 (by omega) (by omega)) F.m, (F.2.2.2 59 (by omega) (by omega)).trans k2, k3, k4.of F.m, k5⟩
def CntN (C : AmC) (S : Scr) (t : Stm) (x : Nat × Nat) : Prop := cI C 145 69 = nI x.1 ∧ cI C 191 1 = nI x.1 ∧ cI C 191 2 = nI x.2 ∧ cI C 191 3 = nI (x.2 * sEach S t)
theorem m241_a {h i path : Nat} {S : Scr} {t : Stm} {T : Tab} {pth p3 : Int32} (hpa : PathOK S path) (h3 : ¬ tKd t = 3) (hN : TabN (sCols S) T) : ∀ m n C last (x : Nat × Nat) (fl : Int32), ahead (sOk S t path (some 0) T) (sRk S path T) last ≤ m → m + 1300 < n → x.1 + m ≤ 300 → x.2 ≤ x.1 → MK C h S i t → TabM 30 (sCols S) C 180 0 T → cI C 145 60 = nI path → LastM C S path (nxL (sRk S path T) last (sNext (sOk S t path (some 0) T) (sRk S path T) last)) → (fl = 0 ∨ fl = 1) → CntN C S t x → Rt (lp_241_46 n 145 (nI i) pth p3 (nI 0) fl (oI (sNext (sOk S t path (some 0) T) (sRk S path T) last)) C) (fun z C' => (∃ f2, z = (145, nI i, pth, p3, nI 0, f2)) ∧ CntN C' S t (sMs (fun p => sHolds S T (some p) t) (sOk S t path (some 0) T) (sRk S path T) (m + 1) last x) ∧ FrN C C') := by
  intro m
  induction m with
  | zero =>
    intro n C last x fl hm hn x1 x2 hK hT hon hL hf hc
    obtain ⟨n, rfl⟩ : ∃ m, n = m + 1 := ⟨n - 1, by omega⟩
    cases hs : sNext (sOk S t path (some 0) T) (sRk S path T) last with
    | some p =>
      exfalso
      have := ahead_lt hs
      omega
    | none =>
      have nn : (oI none = (-1 : Int32)) = True := eq_true rfl
      simp only [↓reduceIte, lp_241_46, nn, if_true]
      rw [sMs_none hs]
      exact rt_ret ⟨⟨_, rfl⟩, hc, FrN.refl _⟩
  | succ m ih =>
    intro n C last x fl hm hn x1 x2 hK hT hon hL hf hc
    obtain ⟨n, rfl⟩ : ∃ m, n = m + 1 := ⟨n - 1, by omega⟩
    cases hs : sNext (sOk S t path (some 0) T) (sRk S path T) last with
    | none =>
      have nn : (oI none = (-1 : Int32)) = True := eq_true rfl
      simp only [↓reduceIte, lp_241_46, nn, if_true]
      rw [sMs_none hs]
      exact rt_ret ⟨⟨_, rfl⟩, hc, FrN.refl _⟩
    | some p =>
      rw [hs] at hL
      have hal := ahead_lt hs
      obtain ⟨p30, okp⟩ := sNext_ok hs
      have tp : T.1 p = true := sOk_has p okp
      have np : ¬ oI (some p) = (-1 : Int32) := by rw [oI_s, x_eqm (by omega)]; exact id
      obtain ⟨a1, a2, a3, a4⟩ := hc
      have hi := hK.2.2.1
      have F1 : FrN C (uI C 145 69 (cI C 145 69 + 1)) := (FrN.refl C).uF
      have K1 := hK.frN F1
      have T1 := F1.tab hT
      have P1 := K1.1.1
      have ek : ∀ C', FrN C C' → cI C' 170 i = nI (tKd t) := fun C' F' => (hK.frN F').2.2.2.1.1
      have k4 := hK.2.2.2.2.1
      have e3 : ¬ nI (tKd t) = (3 : Int32) := by rw [n_3, x_eq (by omega) (by omega)]; exact h3
      have w210 := m210 (n := n) K1.1 T1 p30 tp K1.2.1 hi K1.2.2.2.1 K1.2.2.2.2 (by omega)
      have t1 : Int32.toNatClampNeg 1 = 1 := by decide
      have t2 : Int32.toNatClampNeg 2 = 2 := by decide
      have t3 : Int32.toNatClampNeg 3 = 3 := by decide
      have i1 : amIn (1 : Int32) (aLen 191) = true := by decide
      have i2 : amIn (2 : Int32) (aLen 191) = true := by decide
      have i3 : amIn (3 : Int32) (aLen 191) = true := by decide
      have n01 : ¬ (1 : Int32) = 0 := by decide
      rw [sMs_some hs]
      -- on with the next row
      have on : ∀ (C4 : AmC) (y : Nat × Nat) (f2 : Int32), (f2 = 0 ∨ f2 = 1) → y.1 = x.1 + 1 → y.2 ≤ y.1 → CntN C4 S t y → FrN C C4 → LastM C4 S path (some (sRk S path T p)) → Rt ((f_205 n 145 (nI 0) C4).bind (fun z => match z with | (q74, C75) => lp_241_46 n 145 (nI i) pth p3 (nI 0) f2 q74 C75)) (fun z C' => (∃ f2, z = (145, nI i, pth, p3, nI 0, f2)) ∧ CntN C' S t (sMs (fun p => sHolds S T (some p) t) (sOk S t path (some 0) T) (sRk S path T) (m + 1) (some (sRk S path T p)) y) ∧ FrN C C') := by
        intro C4 y f2 hf2 y1 y2 c4 F4 L4
        have K4 := hK.frN F4
        have w := m205 (n := n) (o := 0) K4.1 (F4.tab hT) hN hpa K4.run (fun z => by obtain ⟨t', e, h3'⟩ := z; cases e; exact absurd h3' h3) L4 ((F4.2.2.2 60 (by omega) (by omega)).trans hon) (by omega)
        have F5 := FrN.rd C4 S path T (sNext (sOk S t path (some 0) T) (sRk S path T) (some (sRk S path T p)))
        have eo : (fun p => T.1 p && sRng S (some t) path (some 0) T p) = sOk S t path (some 0) T := rfl
        rw [eo] at w
        obtain ⟨R1, R2, R3⟩ := rdM_fr C4 S path T (sNext (sOk S t path (some 0) T) (sRk S path T) (some (sRk S path T p)))
        rw [w, Option.bind_some]
        obtain ⟨q1, q2, q3, q4⟩ := c4
        have I := ih n _ (some (sRk S path T p)) y f2 (by omega) (by omega) (by omega) y2 (K4.frN F5) (F5.tab (F4.tab hT)) ((F5.2.2.2 60 (by omega) (by omega)).trans ((F4.2.2.2 60 (by omega) (by omega)).trans hon)) (rdM_last2 K4.1.2.2.2 hN hpa sOk_has L4) hf2 ⟨by rw [R3 69 (by omega)]; exact q1, by rw [R2 191 (by decide)]; exact q2, by rw [R2 191 (by decide)]; exact q3, by rw [R2 191 (by decide)]; exact q4⟩
        exact rt_mono I (fun _ C' H => ⟨H.1, H.2.1, F4.trans (F5.trans H.2.2)⟩)
      have b69 : cI (uI C 145 69 (cI C 145 69 + 1)) 145 69 = nI (x.1 + 1) := by rw [r_I, if_pos ⟨rfl, rfl⟩, a1, x_a1]
      have ba : cI (uI C 145 69 (cI C 145 69 + 1)) 191 = cI C 191 := r_In (by decide)
      have L1 : LastM (uI C 145 69 (cI C 145 69 + 1)) S path (some (sRk S path T p)) := LastM.of hL (fun f g1 g2 => by rw [r_I, if_neg (by omega)])
      have ek1 := ek _ F1
      generalize hC1 : uI C 145 69 (cI C 145 69 + 1) = C1 at F1 K1 T1 P1 w210 b69 ba L1 ek1
      have w210 : f_210 n 145 (oI (some p)) C1 = some (if sHolds S T (some p) t = true then 1 else 0, C1) := w210
      have F2 : FrN C (uI C1 191 (Int32.toNatClampNeg (1 : Int32)) ((cI C1 191 (Int32.toNatClampNeg (1 : Int32))) + (1 : Int32))) := F1.uA
      have P2 := (hK.frN F2).1.1
      rcases bcs (sHolds S T (some p) t) with d | d
      · rw [d] at w210
        simp only [↓reduceIte, Bool.false_eq_true, if_false] at w210
        have O := fun f2 hf2 => on _ (x.1 + 1, x.2) f2 hf2 rfl (by simp only; omega) ⟨by rw [r_In (by decide)]; exact b69, by rw [t1, r_I, if_pos ⟨rfl, rfl⟩, ba, a2, x_a1], by rw [t1, r_I, if_neg (by omega), ba, a3], by rw [t1, r_I, if_neg (by omega), ba, a4]⟩ F2 (LastM.of L1 (fun f g1 g2 => by rw [r_In (by decide)]))
        simp only [↓reduceIte, d, Bool.false_eq_true, if_false]
        subst hC1
        rcases hf with rfl | rfl
        · simp (disch := omega) only [↓reduceIte, lp_241_46, np, if_true, if_false, k_145, ↓bd1 (w_145_32 P1), k_170, l_170, x_in, x_cl, hi, ek1, e3, not_true, not_false_iff, ↓bd1 w210, ↓bd1 (w_145_81 P1), k_191, i1]
          exact O _ (Or.inl rfl)
        · simp (disch := omega) only [↓reduceIte, lp_241_46, np, if_true, if_false, k_145, ↓bd1 (w_145_32 P1), k_170, l_170, x_in, x_cl, hi, ek1, e3, not_true, not_false_iff, ↓bd1 w210, ↓bd1 (w_145_81 P1), k_191, i1, n01]
          exact O _ (Or.inr rfl)
      · rw [d] at w210
        simp only [↓reduceIte, if_true] at w210
        have F3 : FrN C (uI (uI C1 191 (Int32.toNatClampNeg (1 : Int32)) ((cI C1 191 (Int32.toNatClampNeg (1 : Int32))) + (1 : Int32))) 191 (Int32.toNatClampNeg (2 : Int32)) ((cI (uI C1 191 (Int32.toNatClampNeg (1 : Int32)) ((cI C1 191 (Int32.toNatClampNeg (1 : Int32))) + (1 : Int32))) 191 (Int32.toNatClampNeg (2 : Int32))) + (1 : Int32))) := F2.uA
        have P3 := (hK.frN F3).1.1
        have ek3 := ek _ F3
        have w240 := m240 (n := n) (hK.frN F3).1 hi (hK.frN F3).2.2.2.1 hK.2.2.2.2 h3 (by omega)
        have F4 : FrN C (uI (uI (uI C1 191 (Int32.toNatClampNeg (1 : Int32)) ((cI C1 191 (Int32.toNatClampNeg (1 : Int32))) + (1 : Int32))) 191 (Int32.toNatClampNeg (2 : Int32)) ((cI (uI C1 191 (Int32.toNatClampNeg (1 : Int32)) ((cI C1 191 (Int32.toNatClampNeg (1 : Int32))) + (1 : Int32))) 191 (Int32.toNatClampNeg (2 : Int32))) + (1 : Int32))) 191 (Int32.toNatClampNeg (3 : Int32)) ((cI (uI (uI C1 191 (Int32.toNatClampNeg (1 : Int32)) ((cI C1 191 (Int32.toNatClampNeg (1 : Int32))) + (1 : Int32))) 191 (Int32.toNatClampNeg (2 : Int32)) ((cI (uI C1 191 (Int32.toNatClampNeg (1 : Int32)) ((cI C1 191 (Int32.toNatClampNeg (1 : Int32))) + (1 : Int32))) 191 (Int32.toNatClampNeg (2 : Int32))) + (1 : Int32))) 191 (Int32.toNatClampNeg (3 : Int32))) + nI (sEach S t))) := F3.uA
        have se := sEach_le (t := t) hK.1.2.2.2
        have O := fun f2 hf2 => on (uI (uI (uI C1 191 (Int32.toNatClampNeg (1 : Int32)) ((cI C1 191 (Int32.toNatClampNeg (1 : Int32))) + (1 : Int32))) 191 (Int32.toNatClampNeg (2 : Int32)) ((cI (uI C1 191 (Int32.toNatClampNeg (1 : Int32)) ((cI C1 191 (Int32.toNatClampNeg (1 : Int32))) + (1 : Int32))) 191 (Int32.toNatClampNeg (2 : Int32))) + (1 : Int32))) 191 (Int32.toNatClampNeg (3 : Int32)) ((cI (uI (uI C1 191 (Int32.toNatClampNeg (1 : Int32)) ((cI C1 191 (Int32.toNatClampNeg (1 : Int32))) + (1 : Int32))) 191 (Int32.toNatClampNeg (2 : Int32)) ((cI (uI C1 191 (Int32.toNatClampNeg (1 : Int32)) ((cI C1 191 (Int32.toNatClampNeg (1 : Int32))) + (1 : Int32))) 191 (Int32.toNatClampNeg (2 : Int32))) + (1 : Int32))) 191 (Int32.toNatClampNeg (3 : Int32))) + nI (sEach S t))) (x.1 + 1, x.2 + 1) f2 hf2 rfl (by simp only; omega) ⟨by rw [r_In (by decide), r_In (by decide), r_In (by decide)]; exact b69, by rw [t1, t2, t3, r_I, if_neg (by omega), r_I, if_neg (by omega), r_I, if_pos ⟨rfl, rfl⟩, ba, a2, x_a1], by rw [t1, t2, t3, r_I, if_neg (by omega), r_I, if_pos ⟨rfl, rfl⟩, r_I, if_neg (by omega), ba, a3, x_a1], by rw [t1, t2, t3, r_I, if_pos ⟨rfl, rfl⟩, r_I, if_neg (by omega), r_I, if_neg (by omega), ba, a4, x_add, Nat.add_mul, Nat.one_mul]⟩ F4 (LastM.of L1 (fun f g1 g2 => by rw [r_In (by decide), r_In (by decide), r_In (by decide)]))
        simp only [↓reduceIte, d, if_true]
        subst hC1
        rcases hf with rfl | rfl
        · simp (disch := omega) only [↓reduceIte, lp_241_46, np, if_true, if_false, k_145, ↓bd1 (w_145_32 P1), k_170, l_170, x_in, x_cl, hi, ek1, ek3, e3, not_true, not_false_iff, ↓bd1 w210, ↓bd1 (w_145_81 P1), ↓bd1 (w_145_81 P2), ↓bd1 (w_145_81 P3), ↓bd1 (w_145_32 P3), ↓bd1 w240, k_191, i1, i2, i3, n01]
          exact O _ (Or.inr rfl)
        · simp (disch := omega) only [↓reduceIte, lp_241_46, np, if_true, if_false, k_145, ↓bd1 (w_145_32 P1), k_170, l_170, x_in, x_cl, hi, ek1, ek3, e3, not_true, not_false_iff, ↓bd1 w210, ↓bd1 (w_145_81 P1), ↓bd1 (w_145_81 P2), ↓bd1 (w_145_81 P3), ↓bd1 (w_145_32 P3), ↓bd1 w240, k_191, i1, i2, i3, n01]
          exact O _ (Or.inr rfl)
