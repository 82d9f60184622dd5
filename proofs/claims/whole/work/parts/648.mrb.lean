/-! The reference's measure of a merge: one other's row. -/
def CntG (C : AmC) (S : Scr) (t : Stm) (ad : Nat) (x : Nat × Nat) : Prop := cI C 145 69 = nI x.1 ∧ cI C 191 1 = nI (x.2 + ad) ∧ cI C 191 2 = nI (x.2 + ad) ∧ cI C 191 3 = nI (x.2 * sEach S t + ad * (1 + sCols S))
theorem m241_b {h i path o ad x0 : Nat} {S : Scr} {t : Stm} {T : Tab} {pth p3 : Int32} (hpa : PathOK S path) (h3 : tKd t = 3) (hN : TabN (sCols S) T) (ho : o < (sOth S).length) : ∀ m n C last (x : Nat × Nat) (fl : Int32), ahead (sOk S t path (some o) T) (sRk S path T) last ≤ m → m + 1300 < n → x.1 + m ≤ 900 → x.2 ≤ x.1 → MK C h S i t → TabM 30 (sCols S) C 180 0 T → cI C 145 60 = nI path → LastM C S path (nxL (sRk S path T) last (sNext (sOk S t path (some o) T) (sRk S path T) last)) → (fl = 0 ∨ fl = 1) → x0 ≤ x.2 → fl = (if x.2 = x0 then 0 else 1) → CntG C S t ad x → Rt (lp_241_46 n 145 (nI i) pth p3 (nI o) fl (oI (sNext (sOk S t path (some o) T) (sRk S path T) last)) C) (fun z C' => z = (145, nI i, pth, p3, nI o, if (sMs (mgG t T (othN S o (tOth t))) (sOk S t path (some o) T) (sRk S path T) (m + 1) last x).2 = x0 then 0 else 1) ∧ CntG C' S t ad (sMs (mgG t T (othN S o (tOth t))) (sOk S t path (some o) T) (sRk S path T) (m + 1) last x) ∧ FrN C C') := by
  intro m
  induction m with
  | zero =>
    intro n C last x fl hm hn x1 x2 hK hT hon hL hf hx0 hfl hc
    obtain ⟨n, rfl⟩ : ∃ m, n = m + 1 := ⟨n - 1, by omega⟩
    cases hs : sNext (sOk S t path (some o) T) (sRk S path T) last with
    | some p =>
      exfalso
      have := ahead_lt hs
      omega
    | none =>
      have nn : (oI none = (-1 : Int32)) = True := eq_true rfl
      simp only [↓reduceIte, lp_241_46, nn, if_true]
      rw [sMs_none hs, ← hfl]
      exact rt_ret ⟨rfl, hc, FrN.refl _⟩
  | succ m ih =>
    intro n C last x fl hm hn x1 x2 hK hT hon hL hf hx0 hfl hc
    obtain ⟨n, rfl⟩ : ∃ m, n = m + 1 := ⟨n - 1, by omega⟩
    cases hs : sNext (sOk S t path (some o) T) (sRk S path T) last with
    | none =>
      have nn : (oI none = (-1 : Int32)) = True := eq_true rfl
      simp only [↓reduceIte, lp_241_46, nn, if_true]
      rw [sMs_none hs, ← hfl]
      exact rt_ret ⟨rfl, hc, FrN.refl _⟩
    | some p =>
      rw [hs] at hL
      have hal := ahead_lt hs
      obtain ⟨p30, okp⟩ := sNext_ok hs
      have tp : T.1 p = true := sOk_has p okp
      have np : ¬ oI (some p) = (-1 : Int32) := by rw [oI_s, x_eqm (by omega)]; exact id
      obtain ⟨a1, a2, a3, a4⟩ := hc
      have hi := hK.2.2.1
      have F1 : FrN C (uI C 145 69 (cI C 145 69 + 1)) := (FrN.refl C).uF
      have K1 := hK.frN F1
      have T1 := F1.tab hT
      have P1 := K1.1.1
      have ek : ∀ C', FrN C C' → cI C' 170 i = nI (tKd t) := fun C' F' => (hK.frN F').2.2.2.1.1
      have k4 := hK.2.2.2.2.1
      have e3 : (nI (tKd t) = (3 : Int32)) = True := by rw [h3]; decide
      have hO := hK.1.2.2.2
      obtain ⟨ow, ot⟩ := K1.2.2.2.1.2.2.1 h3
      have w193 : f_193 n 145 (oI (some p)) (cI (uI C 145 69 (cI C 145 69 + 1)) 172 (Int32.toNatClampNeg (nI i))) (uI C 145 69 (cI C 145 69 + 1)) = some (T.2 p (tOwn t), uI C 145 69 (cI C 145 69 + 1)) := by
        rw [x_cl (by omega), ow, oI_s]
        exact m193 P1 T1 p30 tp hK.2.2.2.2.2.2.2.1 hO.2.1
      have w206 : f_206 n 145 (nI o) (cI (uI C 145 69 (cI C 145 69 + 1)) 173 (Int32.toNatClampNeg (nI i))) (uI C 145 69 (cI C 145 69 + 1)) = some (othN S o (tOth t), uI C 145 69 (cI C 145 69 + 1)) := by
        rw [x_cl (by omega), ot]
        exact m206 K1.1 ho hK.2.2.2.2.2.2.2.2.1
      have t1 : Int32.toNatClampNeg 1 = 1 := by decide
      have t2 : Int32.toNatClampNeg 2 = 2 := by decide
      have t3 : Int32.toNatClampNeg 3 = 3 := by decide
      have i1 : amIn (1 : Int32) (aLen 191) = true := by decide
      have i2 : amIn (2 : Int32) (aLen 191) = true := by decide
      have i3 : amIn (3 : Int32) (aLen 191) = true := by decide
      have n01 : ¬ (1 : Int32) = 0 := by decide
      rw [sMs_some hs]
      have on : ∀ (C4 : AmC) (y : Nat × Nat) (f2 : Int32), (f2 = 0 ∨ f2 = 1) → (x0 ≤ y.2 → f2 = (if y.2 = x0 then 0 else 1)) → y.1 = x.1 + 1 → (x0 ≤ y.2 ∧ y.2 ≤ y.1) → CntG C4 S t ad y → FrN C C4 → LastM C4 S path (some (sRk S path T p)) → Rt ((f_205 n 145 (nI o) C4).bind (fun z => match z with | (q74, C75) => lp_241_46 n 145 (nI i) pth p3 (nI o) f2 q74 C75)) (fun z C' => z = (145, nI i, pth, p3, nI o, if (sMs (mgG t T (othN S o (tOth t))) (sOk S t path (some o) T) (sRk S path T) (m + 1) (some (sRk S path T p)) y).2 = x0 then 0 else 1) ∧ CntG C' S t ad (sMs (mgG t T (othN S o (tOth t))) (sOk S t path (some o) T) (sRk S path T) (m + 1) (some (sRk S path T p)) y) ∧ FrN C C') := by
        intro C4 y f2 hf2 hf3 y1 y2 c4 F4 L4
        have K4 := hK.frN F4
        have w := m205 (n := n) (o := o) K4.1 (F4.tab hT) hN hpa K4.run (fun _ => ho) L4 ((F4.2.2.2 60 (by omega) (by omega)).trans hon) (by omega)
        have F5 := FrN.rd C4 S path T (sNext (sOk S t path (some o) T) (sRk S path T) (some (sRk S path T p)))
        have eo : (fun p => T.1 p && sRng S (some t) path (some o) T p) = sOk S t path (some o) T := rfl
        rw [eo] at w
        obtain ⟨R1, R2, R3⟩ := rdM_fr C4 S path T (sNext (sOk S t path (some o) T) (sRk S path T) (some (sRk S path T p)))
        rw [w, Option.bind_some]
        obtain ⟨q1, q2, q3, q4⟩ := c4
        have I := ih n _ (some (sRk S path T p)) y f2 (by omega) (by omega) (by omega) y2.2 (K4.frN F5) (F5.tab (F4.tab hT)) ((F5.2.2.2 60 (by omega) (by omega)).trans ((F4.2.2.2 60 (by omega) (by omega)).trans hon)) (rdM_last2 K4.1.2.2.2 hN hpa sOk_has L4) hf2 y2.1 (hf3 y2.1) ⟨by rw [R3 69 (by omega)]; exact q1, by rw [R2 191 (by decide)]; exact q2, by rw [R2 191 (by decide)]; exact q3, by rw [R2 191 (by decide)]; exact q4⟩
        exact rt_mono I (fun _ C' H => ⟨H.1, H.2.1, F4.trans (F5.trans H.2.2)⟩)
      have b69 : cI (uI C 145 69 (cI C 145 69 + 1)) 145 69 = nI (x.1 + 1) := by rw [r_I, if_pos ⟨rfl, rfl⟩, a1, x_a1]
      have ba : cI (uI C 145 69 (cI C 145 69 + 1)) 191 = cI C 191 := r_In (by decide)
      have L1 : LastM (uI C 145 69 (cI C 145 69 + 1)) S path (some (sRk S path T p)) := LastM.of hL (fun f g1 g2 => by rw [r_I, if_neg (by omega)])
      have ek1 := ek _ F1
      by_cases d0 : T.2 p (tOwn t) = othN S o (tOth t)
      · have gd : mgG t T (othN S o (tOth t)) p = true := by simp [mgG, d0]
        have d : (T.2 p (tOwn t) = othN S o (tOth t)) = True := eq_true d0
        have F2 : FrN C (uI (uI C 145 69 (cI C 145 69 + 1)) 191 (Int32.toNatClampNeg (1 : Int32)) ((cI (uI C 145 69 (cI C 145 69 + 1)) 191 (Int32.toNatClampNeg (1 : Int32))) + (1 : Int32))) := F1.uA
        have P2 := (hK.frN F2).1.1
        have F3 : FrN C (uI (uI (uI C 145 69 (cI C 145 69 + 1)) 191 (Int32.toNatClampNeg (1 : Int32)) ((cI (uI C 145 69 (cI C 145 69 + 1)) 191 (Int32.toNatClampNeg (1 : Int32))) + (1 : Int32))) 191 (Int32.toNatClampNeg (2 : Int32)) ((cI (uI (uI C 145 69 (cI C 145 69 + 1)) 191 (Int32.toNatClampNeg (1 : Int32)) ((cI (uI C 145 69 (cI C 145 69 + 1)) 191 (Int32.toNatClampNeg (1 : Int32))) + (1 : Int32))) 191 (Int32.toNatClampNeg (2 : Int32))) + (1 : Int32))) := F2.uA
        have P3 := (hK.frN F3).1.1
        have ek3 := ek _ F3
        have eh3 := (hK.frN F3).2.2.2.1.2.1
        have hw := hK.2.2.2.2.2.1
        have sm := sEach_mg (S := S) h3
        by_cases c2 : tHow t = 2
        · have f2 : (nI (tHow t) = (2 : Int32)) = True := by rw [c2]; decide
          have se : sEach S t = 0 := by rw [sm, if_pos c2]
          have F4 : FrN C (uI (uI (uI (uI C 145 69 (cI C 145 69 + 1)) 191 (Int32.toNatClampNeg (1 : Int32)) ((cI (uI C 145 69 (cI C 145 69 + 1)) 191 (Int32.toNatClampNeg (1 : Int32))) + (1 : Int32))) 191 (Int32.toNatClampNeg (2 : Int32)) ((cI (uI (uI C 145 69 (cI C 145 69 + 1)) 191 (Int32.toNatClampNeg (1 : Int32)) ((cI (uI C 145 69 (cI C 145 69 + 1)) 191 (Int32.toNatClampNeg (1 : Int32))) + (1 : Int32))) 191 (Int32.toNatClampNeg (2 : Int32))) + (1 : Int32))) 191 (Int32.toNatClampNeg (3 : Int32)) ((cI (uI (uI (uI C 145 69 (cI C 145 69 + 1)) 191 (Int32.toNatClampNeg (1 : Int32)) ((cI (uI C 145 69 (cI C 145 69 + 1)) 191 (Int32.toNatClampNeg (1 : Int32))) + (1 : Int32))) 191 (Int32.toNatClampNeg (2 : Int32)) ((cI (uI (uI C 145 69 (cI C 145 69 + 1)) 191 (Int32.toNatClampNeg (1 : Int32)) ((cI (uI C 145 69 (cI C 145 69 + 1)) 191 (Int32.toNatClampNeg (1 : Int32))) + (1 : Int32))) 191 (Int32.toNatClampNeg (2 : Int32))) + (1 : Int32))) 191 (Int32.toNatClampNeg (3 : Int32))) + (0 : Int32))) := F3.uA
          have O := on (uI (uI (uI (uI C 145 69 (cI C 145 69 + 1)) 191 (Int32.toNatClampNeg (1 : Int32)) ((cI (uI C 145 69 (cI C 145 69 + 1)) 191 (Int32.toNatClampNeg (1 : Int32))) + (1 : Int32))) 191 (Int32.toNatClampNeg (2 : Int32)) ((cI (uI (uI C 145 69 (cI C 145 69 + 1)) 191 (Int32.toNatClampNeg (1 : Int32)) ((cI (uI C 145 69 (cI C 145 69 + 1)) 191 (Int32.toNatClampNeg (1 : Int32))) + (1 : Int32))) 191 (Int32.toNatClampNeg (2 : Int32))) + (1 : Int32))) 191 (Int32.toNatClampNeg (3 : Int32)) ((cI (uI (uI (uI C 145 69 (cI C 145 69 + 1)) 191 (Int32.toNatClampNeg (1 : Int32)) ((cI (uI C 145 69 (cI C 145 69 + 1)) 191 (Int32.toNatClampNeg (1 : Int32))) + (1 : Int32))) 191 (Int32.toNatClampNeg (2 : Int32)) ((cI (uI (uI C 145 69 (cI C 145 69 + 1)) 191 (Int32.toNatClampNeg (1 : Int32)) ((cI (uI C 145 69 (cI C 145 69 + 1)) 191 (Int32.toNatClampNeg (1 : Int32))) + (1 : Int32))) 191 (Int32.toNatClampNeg (2 : Int32))) + (1 : Int32))) 191 (Int32.toNatClampNeg (3 : Int32))) + (0 : Int32))) (x.1 + 1, x.2 + 1) 1 (Or.inr rfl) (fun _ => by rw [if_neg (by simp only; omega)]) rfl (by simp only; omega) ⟨by rw [r_In (by decide), r_In (by decide), r_In (by decide)]; exact b69, by rw [t1, t2, t3, r_I, if_neg (by omega), r_I, if_neg (by omega), r_I, if_pos ⟨rfl, rfl⟩, ba, a2, x_a1]; congr 1; simp only; omega, by rw [t1, t2, t3, r_I, if_neg (by omega), r_I, if_pos ⟨rfl, rfl⟩, r_I, if_neg (by omega), ba, a3, x_a1]; congr 1; simp only; omega, by rw [t1, t2, t3, r_I, if_pos ⟨rfl, rfl⟩, r_I, if_neg (by omega), r_I, if_neg (by omega), ba, a4, x_a0]; congr 1; simp only [Nat.add_mul, Nat.one_mul]; omega⟩ F4 (LastM.of L1 (fun f g1 g2 => by rw [r_In (by decide), r_In (by decide), r_In (by decide)]))
          simp only [↓reduceIte, gd, if_true]
          rcases hf with rfl | rfl
          · simp (disch := omega) only [↓reduceIte, lp_241_46, np, if_true, if_false, k_145, ↓bd1 (w_145_32 P1), k_170, l_170, x_in, x_cl, hi, ek1, ek3, e3, not_true, not_false_iff, ↓bd1 (w_145_34 P1), k_172, l_172, ↓bd1 w193, ↓bd1 (w_145_35 P1), k_173, l_173, ↓bd1 w206, d, ↓bd1 (w_145_81 P1), ↓bd1 (w_145_81 P2), ↓bd1 (w_145_81 P3), ↓bd1 (w_145_32 P3), ↓bd1 (w_145_33 P3), k_171, l_171, eh3, f2, k_191, i1, i2, i3, n01]
            exact O
          · simp (disch := omega) only [↓reduceIte, lp_241_46, np, if_true, if_false, k_145, ↓bd1 (w_145_32 P1), k_170, l_170, x_in, x_cl, hi, ek1, ek3, e3, not_true, not_false_iff, ↓bd1 (w_145_34 P1), k_172, l_172, ↓bd1 w193, ↓bd1 (w_145_35 P1), k_173, l_173, ↓bd1 w206, d, ↓bd1 (w_145_81 P1), ↓bd1 (w_145_81 P2), ↓bd1 (w_145_81 P3), ↓bd1 (w_145_32 P3), ↓bd1 (w_145_33 P3), k_171, l_171, eh3, f2, k_191, i1, i2, i3, n01]
            exact O
        · have f2 : ¬ nI (tHow t) = (2 : Int32) := by rw [n_2, x_eq (by omega) (by omega)]; exact c2
          by_cases c1 : tHow t = 1
          · have f1 : (nI (tHow t) = (1 : Int32)) = True := by rw [c1]; decide
            have se : sEach S t = 1 := by rw [sm, if_neg c2, if_pos c1]
            have F4 : FrN C (uI (uI (uI (uI C 145 69 (cI C 145 69 + 1)) 191 (Int32.toNatClampNeg (1 : Int32)) ((cI (uI C 145 69 (cI C 145 69 + 1)) 191 (Int32.toNatClampNeg (1 : Int32))) + (1 : Int32))) 191 (Int32.toNatClampNeg (2 : Int32)) ((cI (uI (uI C 145 69 (cI C 145 69 + 1)) 191 (Int32.toNatClampNeg (1 : Int32)) ((cI (uI C 145 69 (cI C 145 69 + 1)) 191 (Int32.toNatClampNeg (1 : Int32))) + (1 : Int32))) 191 (Int32.toNatClampNeg (2 : Int32))) + (1 : Int32))) 191 (Int32.toNatClampNeg (3 : Int32)) ((cI (uI (uI (uI C 145 69 (cI C 145 69 + 1)) 191 (Int32.toNatClampNeg (1 : Int32)) ((cI (uI C 145 69 (cI C 145 69 + 1)) 191 (Int32.toNatClampNeg (1 : Int32))) + (1 : Int32))) 191 (Int32.toNatClampNeg (2 : Int32)) ((cI (uI (uI C 145 69 (cI C 145 69 + 1)) 191 (Int32.toNatClampNeg (1 : Int32)) ((cI (uI C 145 69 (cI C 145 69 + 1)) 191 (Int32.toNatClampNeg (1 : Int32))) + (1 : Int32))) 191 (Int32.toNatClampNeg (2 : Int32))) + (1 : Int32))) 191 (Int32.toNatClampNeg (3 : Int32))) + (1 : Int32))) := F3.uA
            have O := on (uI (uI (uI (uI C 145 69 (cI C 145 69 + 1)) 191 (Int32.toNatClampNeg (1 : Int32)) ((cI (uI C 145 69 (cI C 145 69 + 1)) 191 (Int32.toNatClampNeg (1 : Int32))) + (1 : Int32))) 191 (Int32.toNatClampNeg (2 : Int32)) ((cI (uI (uI C 145 69 (cI C 145 69 + 1)) 191 (Int32.toNatClampNeg (1 : Int32)) ((cI (uI C 145 69 (cI C 145 69 + 1)) 191 (Int32.toNatClampNeg (1 : Int32))) + (1 : Int32))) 191 (Int32.toNatClampNeg (2 : Int32))) + (1 : Int32))) 191 (Int32.toNatClampNeg (3 : Int32)) ((cI (uI (uI (uI C 145 69 (cI C 145 69 + 1)) 191 (Int32.toNatClampNeg (1 : Int32)) ((cI (uI C 145 69 (cI C 145 69 + 1)) 191 (Int32.toNatClampNeg (1 : Int32))) + (1 : Int32))) 191 (Int32.toNatClampNeg (2 : Int32)) ((cI (uI (uI C 145 69 (cI C 145 69 + 1)) 191 (Int32.toNatClampNeg (1 : Int32)) ((cI (uI C 145 69 (cI C 145 69 + 1)) 191 (Int32.toNatClampNeg (1 : Int32))) + (1 : Int32))) 191 (Int32.toNatClampNeg (2 : Int32))) + (1 : Int32))) 191 (Int32.toNatClampNeg (3 : Int32))) + (1 : Int32))) (x.1 + 1, x.2 + 1) 1 (Or.inr rfl) (fun _ => by rw [if_neg (by simp only; omega)]) rfl (by simp only; omega) ⟨by rw [r_In (by decide), r_In (by decide), r_In (by decide)]; exact b69, by rw [t1, t2, t3, r_I, if_neg (by omega), r_I, if_neg (by omega), r_I, if_pos ⟨rfl, rfl⟩, ba, a2, x_a1]; congr 1; simp only; omega, by rw [t1, t2, t3, r_I, if_neg (by omega), r_I, if_pos ⟨rfl, rfl⟩, r_I, if_neg (by omega), ba, a3, x_a1]; congr 1; simp only; omega, by rw [t1, t2, t3, r_I, if_pos ⟨rfl, rfl⟩, r_I, if_neg (by omega), r_I, if_neg (by omega), ba, a4, x_a1]; congr 1; simp only [Nat.add_mul, Nat.one_mul]; omega⟩ F4 (LastM.of L1 (fun f g1 g2 => by rw [r_In (by decide), r_In (by decide), r_In (by decide)]))
            simp only [↓reduceIte, gd, if_true]
            rcases hf with rfl | rfl
            · simp (disch := omega) only [↓reduceIte, lp_241_46, np, if_true, if_false, k_145, ↓bd1 (w_145_32 P1), k_170, l_170, x_in, x_cl, hi, ek1, ek3, e3, not_true, not_false_iff, ↓bd1 (w_145_34 P1), k_172, l_172, ↓bd1 w193, ↓bd1 (w_145_35 P1), k_173, l_173, ↓bd1 w206, d, ↓bd1 (w_145_81 P1), ↓bd1 (w_145_81 P2), ↓bd1 (w_145_81 P3), ↓bd1 (w_145_32 P3), ↓bd1 (w_145_33 P3), k_171, l_171, eh3, f2, f1, k_191, i1, i2, i3, n01]
              exact O
            · simp (disch := omega) only [↓reduceIte, lp_241_46, np, if_true, if_false, k_145, ↓bd1 (w_145_32 P1), k_170, l_170, x_in, x_cl, hi, ek1, ek3, e3, not_true, not_false_iff, ↓bd1 (w_145_34 P1), k_172, l_172, ↓bd1 w193, ↓bd1 (w_145_35 P1), k_173, l_173, ↓bd1 w206, d, ↓bd1 (w_145_81 P1), ↓bd1 (w_145_81 P2), ↓bd1 (w_145_81 P3), ↓bd1 (w_145_32 P3), ↓bd1 (w_145_33 P3), k_171, l_171, eh3, f2, f1, k_191, i1, i2, i3, n01]
              exact O
          · have f1 : ¬ nI (tHow t) = (1 : Int32) := by rw [x_eq1 (by omega)]; exact c1
            have se : sEach S t = 1 + sSets 4 t := by rw [sm, if_neg c2, if_neg c1, if_pos (by omega)]
            have w239 := m239 (n := n) (hK.frN F3).1 hi (hK.frN F3).2.2.2.1 hK.2.2.2.2 (by omega)
            have F4 : FrN C (uI (uI (uI (uI C 145 69 (cI C 145 69 + 1)) 191 (Int32.toNatClampNeg (1 : Int32)) ((cI (uI C 145 69 (cI C 145 69 + 1)) 191 (Int32.toNatClampNeg (1 : Int32))) + (1 : Int32))) 191 (Int32.toNatClampNeg (2 : Int32)) ((cI (uI (uI C 145 69 (cI C 145 69 + 1)) 191 (Int32.toNatClampNeg (1 : Int32)) ((cI (uI C 145 69 (cI C 145 69 + 1)) 191 (Int32.toNatClampNeg (1 : Int32))) + (1 : Int32))) 191 (Int32.toNatClampNeg (2 : Int32))) + (1 : Int32))) 191 (Int32.toNatClampNeg (3 : Int32)) ((cI (uI (uI (uI C 145 69 (cI C 145 69 + 1)) 191 (Int32.toNatClampNeg (1 : Int32)) ((cI (uI C 145 69 (cI C 145 69 + 1)) 191 (Int32.toNatClampNeg (1 : Int32))) + (1 : Int32))) 191 (Int32.toNatClampNeg (2 : Int32)) ((cI (uI (uI C 145 69 (cI C 145 69 + 1)) 191 (Int32.toNatClampNeg (1 : Int32)) ((cI (uI C 145 69 (cI C 145 69 + 1)) 191 (Int32.toNatClampNeg (1 : Int32))) + (1 : Int32))) 191 (Int32.toNatClampNeg (2 : Int32))) + (1 : Int32))) 191 (Int32.toNatClampNeg (3 : Int32))) + ((1 : Int32) + nI (sSets 4 t)))) := F3.uA
            have O := on (uI (uI (uI (uI C 145 69 (cI C 145 69 + 1)) 191 (Int32.toNatClampNeg (1 : Int32)) ((cI (uI C 145 69 (cI C 145 69 + 1)) 191 (Int32.toNatClampNeg (1 : Int32))) + (1 : Int32))) 191 (Int32.toNatClampNeg (2 : Int32)) ((cI (uI (uI C 145 69 (cI C 145 69 + 1)) 191 (Int32.toNatClampNeg (1 : Int32)) ((cI (uI C 145 69 (cI C 145 69 + 1)) 191 (Int32.toNatClampNeg (1 : Int32))) + (1 : Int32))) 191 (Int32.toNatClampNeg (2 : Int32))) + (1 : Int32))) 191 (Int32.toNatClampNeg (3 : Int32)) ((cI (uI (uI (uI C 145 69 (cI C 145 69 + 1)) 191 (Int32.toNatClampNeg (1 : Int32)) ((cI (uI C 145 69 (cI C 145 69 + 1)) 191 (Int32.toNatClampNeg (1 : Int32))) + (1 : Int32))) 191 (Int32.toNatClampNeg (2 : Int32)) ((cI (uI (uI C 145 69 (cI C 145 69 + 1)) 191 (Int32.toNatClampNeg (1 : Int32)) ((cI (uI C 145 69 (cI C 145 69 + 1)) 191 (Int32.toNatClampNeg (1 : Int32))) + (1 : Int32))) 191 (Int32.toNatClampNeg (2 : Int32))) + (1 : Int32))) 191 (Int32.toNatClampNeg (3 : Int32))) + ((1 : Int32) + nI (sSets 4 t)))) (x.1 + 1, x.2 + 1) 1 (Or.inr rfl) (fun _ => by rw [if_neg (by simp only; omega)]) rfl (by simp only; omega) ⟨by rw [r_In (by decide), r_In (by decide), r_In (by decide)]; exact b69, by rw [t1, t2, t3, r_I, if_neg (by omega), r_I, if_neg (by omega), r_I, if_pos ⟨rfl, rfl⟩, ba, a2, x_a1]; congr 1; simp only; omega, by rw [t1, t2, t3, r_I, if_neg (by omega), r_I, if_pos ⟨rfl, rfl⟩, r_I, if_neg (by omega), ba, a3, x_a1]; congr 1; simp only; omega, by rw [t1, t2, t3, r_I, if_pos ⟨rfl, rfl⟩, r_I, if_neg (by omega), r_I, if_neg (by omega), ba, a4, x_1a, x_add]; congr 1; simp only [Nat.add_mul, Nat.one_mul]; omega⟩ F4 (LastM.of L1 (fun f g1 g2 => by rw [r_In (by decide), r_In (by decide), r_In (by decide)]))
            simp only [↓reduceIte, gd, if_true]
            rcases hf with rfl | rfl
            · simp (disch := omega) only [↓reduceIte, lp_241_46, np, if_true, if_false, k_145, ↓bd1 (w_145_32 P1), k_170, l_170, x_in, x_cl, hi, ek1, ek3, e3, not_true, not_false_iff, ↓bd1 (w_145_34 P1), k_172, l_172, ↓bd1 w193, ↓bd1 (w_145_35 P1), k_173, l_173, ↓bd1 w206, d, ↓bd1 (w_145_81 P1), ↓bd1 (w_145_81 P2), ↓bd1 (w_145_81 P3), ↓bd1 (w_145_32 P3), ↓bd1 (w_145_33 P3), k_171, l_171, eh3, f2, f1, ↓bd1 w239, k_191, i1, i2, i3, n01]
              exact O
            · simp (disch := omega) only [↓reduceIte, lp_241_46, np, if_true, if_false, k_145, ↓bd1 (w_145_32 P1), k_170, l_170, x_in, x_cl, hi, ek1, ek3, e3, not_true, not_false_iff, ↓bd1 (w_145_34 P1), k_172, l_172, ↓bd1 w193, ↓bd1 (w_145_35 P1), k_173, l_173, ↓bd1 w206, d, ↓bd1 (w_145_81 P1), ↓bd1 (w_145_81 P2), ↓bd1 (w_145_81 P3), ↓bd1 (w_145_32 P3), ↓bd1 (w_145_33 P3), k_171, l_171, eh3, f2, f1, ↓bd1 w239, k_191, i1, i2, i3, n01]
              exact O
      · have gd : mgG t T (othN S o (tOth t)) p = false := by simp [mgG, d0]
        have O := on _ (x.1 + 1, x.2) fl hf (fun _ => hfl) rfl (by simp only; omega) ⟨b69, by rw [ba, a2], by rw [ba, a3], by rw [ba, a4]⟩ F1 L1
        simp only [↓reduceIte, gd, Bool.false_eq_true, if_false]
        rcases hf with rfl | rfl
        · simp (disch := omega) only [↓reduceIte, lp_241_46, np, if_true, if_false, k_145, ↓bd1 (w_145_32 P1), k_170, l_170, x_in, x_cl, hi, ek1, e3, not_true, not_false_iff, ↓bd1 (w_145_34 P1), k_172, l_172, ↓bd1 w193, ↓bd1 (w_145_35 P1), k_173, l_173, ↓bd1 w206, d0]
          exact O
        · simp (disch := omega) only [↓reduceIte, lp_241_46, np, if_true, if_false, k_145, ↓bd1 (w_145_32 P1), k_170, l_170, x_in, x_cl, hi, ek1, e3, not_true, not_false_iff, ↓bd1 (w_145_34 P1), k_172, l_172, ↓bd1 w193, ↓bd1 (w_145_35 P1), k_173, l_173, ↓bd1 w206, d0, n01]
          exact O
