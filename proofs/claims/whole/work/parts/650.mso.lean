/-! The reference's measure: over the others; behind it all, decides. -/
def FrO (C C' : AmC) : Prop := cP C' = cP C ∧ (cJ C' = cJ C ∧ cI C' 191 0 = cI C 191 0) ∧ (∀ b, ¬ (b = 145 ∨ b = 191) → cI C' b = cI C b) ∧ ∀ f, ¬ (60 ≤ f ∧ f ≤ 64) → ¬ f = 69 → cI C' 145 f = cI C 145 f
theorem FrO.refl (C : AmC) : FrO C C := ⟨rfl, ⟨rfl, rfl⟩, fun _ _ => rfl, fun _ _ _ => rfl⟩
theorem FrO.trans {C C1 C2 : AmC} (h : FrO C C1) (g : FrO C1 C2) : FrO C C2 := ⟨g.1.trans h.1, ⟨g.2.1.1.trans h.2.1.1, g.2.1.2.trans h.2.1.2⟩, fun b z => (g.2.2.1 b z).trans (h.2.2.1 b z), fun f y z => (g.2.2.2 f y z).trans (h.2.2.2 f y z)⟩
theorem FrN.o {C C1 : AmC} (h : FrN C C1) : FrO C C1 := ⟨h.1, h.2.1, h.2.2.1, fun f y z => h.2.2.2 f (fun w => y (by omega)) z⟩
theorem FrO.uA {C C1 : AmC} (h : FrO C C1) {j : Nat} {v : Int32} (hj : ¬ j = 0 := by decide) : FrO C (uI C1 191 j v) := ⟨h.1, ⟨h.2.1.1, by rw [r_I, if_neg (fun z => hj z.2.symm)]; exact h.2.1.2⟩, fun b z => (r_In (fun (e : b = 191) => z (Or.inr e))).trans (h.2.2.1 b z), fun f y z => by rw [r_In (by decide)]; exact h.2.2.2 f y z⟩
theorem FrO.beg (C : AmC) (v : Int32) : FrO C (uI (uI C 145 61 0) 145 60 v) := ⟨rfl, ⟨rfl, by rw [r_In (by decide), r_In (by decide)]⟩, fun b z => by rw [r_In (fun e => z (Or.inl e)), r_In (fun e => z (Or.inl e))], fun f y z => by rw [r_I, if_neg (by omega), r_I, if_neg (by omega)]⟩
theorem MK.frO {C C1 : AmC} {h i : Nat} {S : Scr} {t : Stm} (k : MK C h S i t) (F : FrO C C1) : MK C1 h S i t := by
  obtain ⟨k1, k2, k3, k4, k5⟩ := k
  have m : ∀ a, 151 ≤ a → a < 178 → cI C1 a = cI C a := fun a h1 h2 => F.2.2.1 a (by omega)
  exact ⟨k1.of F.1 (F.2.2.2 40 (by omega) (by omega)) m, (F.2.2.2 59 (by omega) (by omega)).trans k2, k3, k4.of m, k5⟩
theorem FrO.tab {C C1 : AmC} {cols : Nat} {T : Tab} (h : FrO C C1) (hT : TabM 30 cols C 180 0 T) : TabM 30 cols C1 180 0 T := by
  unfold TabM
  rw [h.2.2.1 180 (by omega)]
  exact hT
theorem m241_s {n : Nat} {C : AmC} {h i path o : Nat} {S : Scr} {t : Stm} {T : Tab} (hpa : PathOK S path) (hN : TabN (sCols S) T) (hK : MK C h S i t) (hT : TabM 30 (sCols S) C 180 0 T) (ho : tKd t = 3 → o < (sOth S).length) (hn : 500 ≤ n) : ∃ C2 C3, f_204 n 145 (nI path) C = some ((), C2) ∧ f_205 n 145 (nI o) C2 = some (oI (sNext (sOk S t path (some o) T) (sRk S path T) none), C3) ∧ FrO C C3 ∧ cI C3 191 = cI C 191 ∧ cI C3 145 69 = cI C 145 69 ∧ cI C3 145 60 = nI path ∧ LastM C3 S path (nxL (sRk S path T) none (sNext (sOk S t path (some o) T) (sRk S path T) none)) := by
  have F0 := FrO.beg C (nI path)
  have K0 := hK.frO F0
  have L0 : LastM (uI (uI C 145 61 0) 145 60 (nI path)) S path none := by
    show cI _ 145 61 = 0
    rw [r_I, if_neg (by decide), r_I, if_pos ⟨rfl, rfl⟩]
  have on0 : cI (uI (uI C 145 61 0) 145 60 (nI path)) 145 60 = nI path := by rw [r_I, if_pos ⟨rfl, rfl⟩]
  have w := m205 (n := n) (o := o) K0.1 (F0.tab hT) hN hpa K0.run (fun z => by obtain ⟨t', e, h3'⟩ := z; cases e; exact ho h3') L0 on0 hn
  have eo : (fun p => T.1 p && sRng S (some t) path (some o) T p) = sOk S t path (some o) T := rfl
  rw [eo] at w
  obtain ⟨R1, R2, R3⟩ := rdM_fr (uI (uI C 145 61 0) 145 60 (nI path)) S path T (sNext (sOk S t path (some o) T) (sRk S path T) none)
  have F5 := (FrN.rd (uI (uI C 145 61 0) 145 60 (nI path)) S path T (sNext (sOk S t path (some o) T) (sRk S path T) none))
  refine ⟨_, _, ?_, w, F0.trans F5.o, ?_, ?_, ?_, rdM_last2 K0.1.2.2.2 hN hpa sOk_has L0⟩
  · unfold f_204
    simp only [↓reduceIte, k_145, if_true]
  · rw [R2 191 (by decide), r_In (by decide), r_In (by decide)]
  · rw [R3 69 (by omega), r_I, if_neg (by omega), r_I, if_neg (by omega)]
  · rw [F5.2.2.2 60 (by omega) (by omega)]; exact on0
theorem sMs_21 {g ok : Nat → Bool} {rk : Nat → Int} : ∀ k last x, x.2 ≤ x.1 → (sMs g ok rk k last x).2 ≤ (sMs g ok rk k last x).1 := by
  intro k
  induction k with
  | zero => intro last x h; exact h
  | succ k ih =>
    intro last x h
    cases e : sNext ok rk last with
    | none => rw [sMs_none e]; exact h
    | some p =>
      rw [sMs_some e]
      refine ih _ _ ?_
      simp only
      split <;> omega
theorem ahead30 {ok : Nat → Bool} {rk : Nat → Int} {last : Option Int} : ahead ok rk last ≤ 30 := cnt_le 30 _
theorem m241_n {n : Nat} {C : AmC} {h i path : Nat} {S : Scr} {t : Stm} {T : Tab} (hpa : PathOK S path) (h3 : ¬ tKd t = 3) (hN : TabN (sCols S) T) (hK : MK C h S i t) (hT : TabM 30 (sCols S) C 180 0 T) (hc : CntN C S t (0, 0)) (hn : 1400 ≤ n) : Rt (lp_241_34 n 145 (nI i) (nI path) (1 : Int32) (0 : Int32) C) (fun _ C' => CntN C' S t (sMeas S t path T) ∧ FrO C C') := by
  obtain ⟨n, rfl⟩ : ∃ m, n = m + 1 := ⟨n - 1, by omega⟩
  obtain ⟨n, rfl⟩ : ∃ m, n = m + 1 := ⟨n - 1, by omega⟩
  obtain ⟨C2, C3, w4, w5, F3, a1, a2, a3, L3⟩ := m241_s (n := n + 1) (o := 0) hpa hN hK hT (fun z => absurd z h3) (by omega)
  have L := m241_a (h := h) (i := i) (path := path) (pth := nI path) (p3 := (1 : Int32)) hpa h3 hN 30 (n + 1) C3 none (0, 0) 0 ahead30 (by omega) (by omega) (by omega) (hK.frO F3) (F3.tab hT) a3 L3 (Or.inl rfl) ⟨by rw [a2]; exact hc.1, by rw [a1]; exact hc.2.1, by rw [a1]; exact hc.2.2.1, by rw [a1]; exact hc.2.2.2⟩
  have e : sMs (fun p => sHolds S T (some p) t) (sOk S t path (some 0) T) (sRk S path T) (30 + 1) none (0, 0) = sMeas S t path T := by
    have eo : okC S path (rgX S (some t) path none) T = sOk S t path (some 0) T := funext (okC_eq h3)
    unfold sMeas
    rw [eo]
    exact (sMs_fuel 30 31 none (0, 0) ahead30 (by omega)).symm
  rw [e] at L
  rw [x_0] at w5 L
  have l10 : ¬ (1 : Int32) ≤ 0 := by decide
  have l11 : ((1 : Int32) ≤ 0 + 1) = True := eq_true (by decide)
  have k4 := hK.2.2.2.2.1
  have e3 : ¬ nI (tKd t) = (3 : Int32) := by rw [n_3, x_eq (by omega) (by omega)]; exact h3
  have hi := hK.2.2.1
  rw [lp_241_34]
  simp only [↓reduceIte, l10, if_false, k_145, if_true, ↓bd1 w4, ↓bd1 w5]
  refine rt_bind (rt_mono L (fun z C4 H => ?_))
  obtain ⟨⟨f2, rfl⟩, H2, H3⟩ := H
  have K4 := (hK.frO F3).frN H3
  have hP := K4.1.1
  have ek := K4.2.2.2.1.1
  simp (disch := omega) only [↓reduceIte, if_true, if_false, Option.bind_some, k_145, ↓bd1 (w_145_32 hP), k_170, l_170, x_in, x_cl, hi, ek, e3, not_false_iff, lp_241_34, l11]
  exact rt_ret ⟨H2, F3.trans H3.o⟩
theorem m241_m {h i path : Nat} {S : Scr} {t : Stm} {T : Tab} (hpa : PathOK S path) (h3 : tKd t = 3) (hN : TabN (sCols S) T) : ∀ m o n C (y : (Nat × Nat) × Nat), o + m = (sOth S).length → m + 1400 < n → y.1.1 ≤ 30 * o → y.1.2 ≤ y.1.1 → y.2 ≤ o → MK C h S i t → TabM 30 (sCols S) C 180 0 T → CntG C S t y.2 y.1 → Rt (lp_241_34 n 145 (nI i) (nI path) (nI (sOth S).length) (nI o) C) (fun _ C' => CntG C' S t (qo (sMg1 S t path T) m o y).2 (qo (sMg1 S t path T) m o y).1 ∧ FrO C C') := by
  intro m
  induction m with
  | zero =>
    intro o n C y h1 hn y1 y2 y3 hK hT hc
    obtain ⟨n, rfl⟩ : ∃ m, n = m + 1 := ⟨n - 1, by omega⟩
    have l10 := hK.1.2.2.2.2.2.2.2.2.1
    have b1 : (sOth S).length ≤ o := by omega
    simp (disch := omega) only [↓reduceIte, lp_241_34, x_le, b1, if_true]
    exact rt_ret ⟨hc, FrO.refl _⟩
  | succ m ih =>
    intro o n C y h1 hn y1 y2 y3 hK hT hc
    obtain ⟨n, rfl⟩ : ∃ m, n = m + 1 := ⟨n - 1, by omega⟩
    have hO := hK.1.2.2.2
    have l10 := hO.2.2.2.2.2.1
    have b1 : ¬ (sOth S).length ≤ o := by omega
    have ho : o < (sOth S).length := by omega
    obtain ⟨C2, C3, w4, w5, F3, a1, a2, a3, L3⟩ := m241_s (n := n) (o := o) hpa hN hK hT (fun _ => ho) (by omega)
    have L := m241_b (h := h) (i := i) (path := path) (ad := y.2) (x0 := y.1.2) (pth := nI path) (p3 := nI (sOth S).length) hpa h3 hN ho 30 n C3 none y.1 0 ahead30 (by omega) (by omega) y2 (hK.frO F3) (F3.tab hT) a3 L3 (Or.inl rfl) (Nat.le_refl _) (by rw [if_pos rfl]) ⟨by rw [a2]; exact hc.1, by rw [a1]; exact hc.2.1, by rw [a1]; exact hc.2.2.1, by rw [a1]; exact hc.2.2.2⟩
    have e : sMs (mgG t T (othN S o (tOth t))) (sOk S t path (some o) T) (sRk S path T) (30 + 1) none y.1 = sMg0 S t path T o y.1 := by
      have eo : okC S path (rgX S (some t) path (some o)) T = sOk S t path (some o) T := funext okC_eqO
      unfold sMg0
      rw [eo]
      exact (sMs_fuel 30 31 none y.1 ahead30 (by omega)).symm
    rw [e] at L
    have lz := sMs_le (g := mgG t T (othN S o (tOth t))) (ok := okC S path (rgX S (some t) path (some o)) T) (rk := sRk S path T) 30 none y.1
    have ez : sMs (mgG t T (othN S o (tOth t))) (okC S path (rgX S (some t) path (some o)) T) (sRk S path T) 30 none y.1 = sMg0 S t path T o y.1 := rfl
    rw [ez] at lz
    have l2 : (sMg0 S t path T o y.1).2 ≤ (sMg0 S t path T o y.1).1 := sMs_21 30 none y.1 y2
    have hi := hK.2.2.1
    have i64 : 4 * i < 64 := by omega
    have e3 : (nI (tKd t) = (3 : Int32)) = True := by rw [h3]; decide
    rw [lp_241_34, if_neg (by rw [x_le (by omega) (by omega)]; exact b1), if_pos k_145, bd1 w4]
    dsimp only
    rw [bd1 w5]
    dsimp only
    refine rt_bind (rt_mono L (fun z C4 H => ?_))
    obtain ⟨rfl, H2, H3⟩ := H
    have F4 : FrO C C4 := F3.trans H3.o
    have K4 := hK.frO F4
    have hP := K4.1.1
    have ek := K4.2.2.2.1.1
    have ew : qo (sMg1 S t path T) (m + 1) o y = qo (sMg1 S t path T) m (o + 1) (sMg1 S t path T o y) := rfl
    rw [ew]
    have m1 : (sMg1 S t path T o y).1 = sMg0 S t path T o y.1 := rfl
    have on : ∀ (C5 : AmC), CntG C5 S t (sMg1 S t path T o y).2 (sMg1 S t path T o y).1 → (sMg1 S t path T o y).2 ≤ o + 1 → FrO C C5 → Rt (lp_241_34 n 145 (nI i) (nI path) (nI (sOth S).length) (nI o + 1) C5) (fun _ C' => CntG C' S t (qo (sMg1 S t path T) m (o + 1) (sMg1 S t path T o y)).2 (qo (sMg1 S t path T) m (o + 1) (sMg1 S t path T o y)).1 ∧ FrO C C') := by
      intro C5 c5 q2 F5
      rw [x_a1]
      have I := ih (o + 1) n C5 (sMg1 S t path T o y) (by omega) (by omega) (by rw [m1]; omega) (by rw [m1]; exact l2) q2 (hK.frO F5) (F5.tab hT) c5
      exact rt_mono I (fun _ C' H => ⟨H.1, F5.trans H.2⟩)
    by_cases d : (sMg0 S t path T o y.1).2 = y.1.2
    · simp only [↓reduceIte, d, if_true]
      have v0 := K4.2.2.2.1.2.2.2.2.1 0 (by decide)
      simp only [Nat.add_zero] at v0
      rcases bcs (tAdds t) with ba | ba
      · have vn : tNew t 0 = none := by
          unfold tAdds at ba
          cases hz : tNew t 0 with
          | none => rfl
          | some v => rw [hz] at ba; cases ba
        rw [vn] at v0
        have v0 : cI C4 177 (4 * i) = -1 := v0
        have q : (sMg1 S t path T o y).2 = y.2 := by simp [sMg1, ba]
        have O := on C4 (by rw [q, m1]; exact H2) (by omega) F4
        rw [x_a1] at O
        simp (disch := omega) only [if_true, if_false, Option.bind_some, k_145, ↓bd1 (w_145_32 hP), k_170, l_170, ↓bd1 (w_145_39 hP), k_177, l_177, ↓reduceIte, n_2, n_3, n_4, n_5, n_6, n_7, n_8, n_10, n_12, n_20, n_30, n_40, n_100, n_120, n_150, n_200, n_230, n_320, n_450, n_900, x_le, x_lt, x_eq, x_lt0, x_le0, x_0le, x_0lt, x_eq0, x_eq1, x_1lt, x_le1, x_lt1, x_1le, x_eqm, x_add, x_a1, x_1a, x_a0, x_0a, x_mul, x_sub, x_s1, x_1s, x_div, x_cl, x_cl0, x_cl1, x_in, x_in0, x_in1, x_ofNat, hi, i64, ek, e3, h3, not_true, v0]
        exact O
      · have vs : ∃ v, tNew t 0 = some v := by
          unfold tAdds at ba
          cases hz : tNew t 0 with
          | none => rw [hz] at ba; cases ba
          | some v => exact ⟨v, rfl⟩
        obtain ⟨v, hv⟩ := vs
        rw [hv] at v0
        obtain ⟨kk, z1, z2⟩ := v0
        have z3 := z2.1
        have em : ¬ nI kk = (-1 : Int32) := by rw [x_eqm (by omega)]; exact id
        have q : (sMg1 S t path T o y).2 = y.2 + 1 := by simp [sMg1, ba, d]
        have t1 : Int32.toNatClampNeg 1 = 1 := by decide
        have t2 : Int32.toNatClampNeg 2 = 2 := by decide
        have t3 : Int32.toNatClampNeg 3 = 3 := by decide
        have i1 : amIn (1 : Int32) (aLen 191) = true := by decide
        have i2 : amIn (2 : Int32) (aLen 191) = true := by decide
        have i3 : amIn (3 : Int32) (aLen 191) = true := by decide
        have hh := K4.1.2.2.1.1
        have eh := K4.1.2.1
        have ec := K4.1.2.2.1.2.1
        have G1 : FrO C (uI C4 191 1 (cI C4 191 1 + 1)) := F4.uA
        have G2 : FrO C (uI (uI C4 191 1 (cI C4 191 1 + 1)) 191 2 (cI (uI C4 191 1 (cI C4 191 1 + 1)) 191 2 + 1)) := G1.uA
        have P1 := (hK.frO G1).1.1
        have P2 := (hK.frO G2).1.1
        have eh2 := (hK.frO G2).1.2.1
        have ec2 := (hK.frO G2).1.2.2.1.2.1
        have O := on (uI (uI (uI C4 191 1 (cI C4 191 1 + 1)) 191 2 (cI (uI C4 191 1 (cI C4 191 1 + 1)) 191 2 + 1)) 191 3 (cI (uI (uI C4 191 1 (cI C4 191 1 + 1)) 191 2 (cI (uI C4 191 1 (cI C4 191 1 + 1)) 191 2 + 1)) 191 3 + (1 + nI (sCols S)))) ?_ (by omega) G2.uA
        · simp (disch := omega) only [if_true, if_false, Option.bind_some, k_145, ↓bd1 (w_145_32 hP), k_170, l_170, ↓bd1 (w_145_39 hP), k_177, l_177, ↓reduceIte, n_2, n_3, n_4, n_5, n_6, n_7, n_8, n_10, n_12, n_20, n_30, n_40, n_100, n_120, n_150, n_200, n_230, n_320, n_450, n_900, x_le, x_lt, x_eq, x_lt0, x_le0, x_0le, x_0lt, x_eq0, x_eq1, x_1lt, x_le1, x_lt1, x_1le, x_eqm, x_add, x_a1, x_1a, x_a0, x_0a, x_mul, x_sub, x_s1, x_1s, x_div, x_cl, x_cl0, x_cl1, x_in, x_in0, x_in1, x_ofNat, hi, i64, ek, e3, h3, show (1 : Nat) < 4 from by decide, show (2 : Nat) < 4 from by decide, show (3 : Nat) < 4 from by decide, not_true, z1, em, not_false_iff, ↓bd1 (w_145_81 hP), k_191, l_191, i1, i2, i3, t1, t2, t3, ↓bd1 (w_145_81 P1), ↓bd1 (w_145_81 P2), ↓bd1 (w_145_21 P2), k_159, l_159, eh2, ec2, hh]
          simp only [x_a1, x_1a] at O
          exact O
        · obtain ⟨c1, c2, c3, c4⟩ := H2
          rw [q, m1]
          refine ⟨by rw [r_In (by decide), r_In (by decide), r_In (by decide)]; exact c1, ?_, ?_, ?_⟩
          · rw [r_I, if_neg (by omega), r_I, if_neg (by omega), r_I, if_pos ⟨rfl, rfl⟩, c2, x_a1, Nat.add_assoc]
          · rw [r_I, if_neg (by omega), r_I, if_pos ⟨rfl, rfl⟩, r_I, if_neg (by omega), c3, x_a1, Nat.add_assoc]
          · rw [r_I, if_pos ⟨rfl, rfl⟩, r_I, if_neg (by omega), r_I, if_neg (by omega), c4, x_1a, x_add, Nat.add_mul, Nat.one_mul, Nat.add_assoc]
    · have q : (sMg1 S t path T o y).2 = y.2 := by simp [sMg1, d]
      have n01 : ¬ (1 : Int32) = 0 := by decide
      have O := on C4 (by rw [q, m1]; exact H2) (by omega) F4
      simp (disch := omega) only [↓reduceIte, if_true, if_false, Option.bind_some, k_145, ↓bd1 (w_145_32 hP), k_170, l_170, x_in, x_cl, hi, ek, e3, not_true, not_false_iff, d, n01]
      exact O
/-- what a plan of the reference changes -/
def FrQ (X : Nat → Prop) (C C' : AmC) : Prop := cP C' = cP C ∧ (∀ b, ¬ b = 145 → ¬ X b → cI C' b = cI C b) ∧ ∀ f, ¬ (59 ≤ f ∧ f ≤ 64) → ¬ f = 69 → cI C' 145 f = cI C 145 f
theorem FrQ.refl {X : Nat → Prop} (C : AmC) : FrQ X C C := ⟨rfl, fun _ _ _ => rfl, fun _ _ _ => rfl⟩
theorem FrQ.trans {X : Nat → Prop} {C C1 C2 : AmC} (h : FrQ X C C1) (g : FrQ X C1 C2) : FrQ X C C2 := ⟨g.1.trans h.1, fun b y z => (g.2.1 b y z).trans (h.2.1 b y z), fun f y z => (g.2.2 f y z).trans (h.2.2 f y z)⟩
theorem FrQ.mono {X Y : Nat → Prop} {C C1 : AmC} (h : FrQ X C C1) (k : ∀ b, X b → Y b) : FrQ Y C C1 := ⟨h.1, fun b y z => h.2.1 b y (fun w => z (k b w)), h.2.2⟩
theorem FrO.q {C C1 : AmC} (h : FrO C C1) : FrQ (fun b => b = 191) C C1 := ⟨h.1, fun b y z => h.2.2.1 b (fun w => w.elim y z), fun f y z => h.2.2.2 f (fun w => y (by omega)) z⟩
theorem fr191 {C C' : AmC} (F : Fr (fun x => x = 191) C C') : FrQ (fun b => b = 191) C C' := ⟨F.1, fun b _ z => F.2.1 b z, fun f _ _ => by rw [F.2.1 145 (by decide)]⟩
theorem MK.same {C C1 : AmC} {h i : Nat} {S : Scr} {t : Stm} (k : MK C h S i t) (p : cP C1 = cP C) (e : cI C1 145 = cI C 145) (m : ∀ a, 151 ≤ a → a < 178 → cI C1 a = cI C a) : MK C1 h S i t := by
  obtain ⟨k1, k2, k3, k4, k5⟩ := k
  exact ⟨k1.of p (by rw [e]) m, by rw [e]; exact k2, k3, k4.of m, k5⟩
theorem m241 {n : Nat} {C : AmC} {h i path : Nat} {S : Scr} {t : Stm} {T : Tab} (hpa : PathOK S path) (hM : MC C h S) (hi : i < 16) (ht : StmM C i t) (hto : StmOK (sCols S) t) (hN : TabN (sCols S) T) (hT : TabM 30 (sCols S) C 180 0 T) (hn : 1500 ≤ n) : Rt (f_241 n 145 (nI i) (nI path) C) (fun _ C' => cI C' 145 69 = nI (sPm S t path T).1.1 ∧ cI C' 191 0 = 0 ∧ (∀ k, 1 ≤ k → k ≤ 3 → cI C' 191 k = nI (sHeld S t (sPm S t path T) k)) ∧ FrQ (fun b => b = 191) C C') := by
  have F0 : FrQ (fun b => b = 191) C (uI (uI C 145 59 (nI i)) 145 69 0) := ⟨rfl, fun b y z => by rw [r_In y, r_In y], fun f y z => by rw [r_I, if_neg (by omega), r_I, if_neg (by omega)]⟩
  have K0 : MK (uI (uI C 145 59 (nI i)) 145 69 0) h S i t := by
    have m : ∀ a, 151 ≤ a → a < 178 → cI (uI (uI C 145 59 (nI i)) 145 69 0) a = cI C a := fun a h1 h2 => by rw [r_In (by omega), r_In (by omega)]
    exact ⟨hM.of F0.1 (F0.2.2 40 (by omega) (by omega)) m, by rw [r_I, if_neg (by omega), r_I, if_pos ⟨rfl, rfl⟩], hi, ht.of m, hto⟩
  have T0 : TabM 30 (sCols S) (uI (uI C 145 59 (nI i)) 145 69 0) 180 0 T := by
    unfold TabM
    rw [F0.2.1 180 (by decide) (by decide)]
    exact hT
  have e69 : cI (uI (uI C 145 59 (nI i)) 145 69 0) 145 69 = 0 := by rw [r_I, if_pos ⟨rfl, rfl⟩]
  have Z := m241_z (a := nI i) (b := nI path) 4 0 n (uI (uI C 145 59 (nI i)) 145 69 0) rfl (by omega) K0.1.1
  rw [x_0] at Z
  unfold f_241
  rw [if_pos k_145]
  refine rt_bind (rt_mono Z (fun z C1 H => ?_))
  obtain ⟨rfl, z1, _, z2⟩ := H
  have F1 := fr191 z2
  have K1 := K0.same z2.1 (z2.2.1 145 (by decide)) (fun a z3 z4 => z2.2.1 a (by omega))
  have T1 : TabM 30 (sCols S) C1 180 0 T := T0.of (z2.2.1 180 (by decide))
  have e69 : cI C1 145 69 = 0 := (by rw [z2.2.1 145 (by decide)]; exact e69)
  have hP := K1.1.1
  have ek := K1.2.2.2.1.1
  have k4 := hto.1
  have hh := K1.1.2.2.1.1
  have eh := K1.1.2.1
  have eo := K1.1.2.2.1.2.2.2.2.2.1
  by_cases h3 : tKd t = 3
  · have e3 : (nI (tKd t) = (3 : Int32)) = True := by rw [h3]; decide
    have L := m241_m (h := h) (i := i) (path := path) hpa h3 hN (sOth S).length 0 n C1 ((0, 0), 0) (by omega) (by have := hM.2.2.2.2.2.2.2.2.1; omega) (by simp) (Nat.le_refl _) (Nat.le_refl _) K1 T1 ⟨by rw [e69]; rfl, by rw [z1 1 (by omega) (by omega)]; rfl, by rw [z1 2 (by omega) (by omega)]; rfl, by rw [z1 3 (by omega) (by omega)]; simp [x_0]⟩
    rw [x_0] at L
    simp (disch := omega) only [↓reduceIte, if_true, if_false, Option.bind_some, k_145, ↓bd1 (w_145_32 hP), k_170, l_170, ↓bd1 (w_145_24 hP), k_162, l_162, x_in, x_cl, hi, hh, eh, ek, e3, eo, not_true]
    refine rt_bind (rt_mono L (fun _ C2 H => ?_))
    have ep : sPm S t path T = qo (sMg1 S t path T) (sOth S).length 0 ((0, 0), 0) := by unfold sPm; rw [if_pos h3]; rfl
    rw [← ep] at H
    obtain ⟨⟨c1, c2, c3, c4⟩, F2⟩ := H
    refine rt_ret ⟨c1, F2.2.1.2.trans (z1 0 (by omega) (by omega)), fun k k1 k3 => ?_, F0.trans (F1.trans F2.q)⟩
    have kk : k = 1 ∨ k = 2 ∨ k = 3 := by omega
    rcases kk with rfl | rfl | rfl
    · rw [c2]; simp [sHeld, h3]
    · rw [c3]; simp [sHeld, h3]
    · rw [c4]; simp [sHeld]
  · have e3 : ¬ nI (tKd t) = (3 : Int32) := by rw [n_3, x_eq (by omega) (by omega)]; exact h3
    have L := m241_n (n := n) hpa h3 hN K1 T1 ⟨by rw [e69]; rfl, by rw [z1 1 (by omega) (by omega)]; rfl, by rw [z1 2 (by omega) (by omega)]; rfl, by rw [z1 3 (by omega) (by omega)]; simp [x_0]⟩ (by omega)
    simp (disch := omega) only [↓reduceIte, if_true, if_false, Option.bind_some, k_145, ↓bd1 (w_145_32 hP), k_170, l_170, x_in, x_cl, hi, ek, e3, not_false_iff]
    refine rt_bind (rt_mono L (fun _ C2 H => ?_))
    have ep : sPm S t path T = (sMeas S t path T, 0) := by unfold sPm; rw [if_neg h3]
    rw [ep]
    obtain ⟨⟨c1, c2, c3, c4⟩, F2⟩ := H
    refine rt_ret ⟨c1, F2.2.1.2.trans (z1 0 (by omega) (by omega)), fun k k1 k3 => ?_, F0.trans (F1.trans F2.q)⟩
    have kk : k = 1 ∨ k = 2 ∨ k = 3 := by omega
    rcases kk with rfl | rfl | rfl
    · rw [c2]; simp [sHeld, h3]
    · rw [c3]; simp [sHeld]
    · rw [c4]; simp [sHeld]
theorem sRsn_le {S : Scr} {t : Stm} {path : Nat} : sRsn S t path ≤ 7 := by
  unfold sRsn
  split <;> split <;> split <;> omega
theorem m242 {n : Nat} {C : AmC} {h i path : Nat} {S : Scr} {t : Stm} {T : Tab} (hpa : PathOK S path) (hM : MC C h S) (hi : i < 16) (ht : StmM C i t) (hto : StmOK (sCols S) t) (hN : TabN (sCols S) T) (hT : TabM 30 (sCols S) C 146 0 T) (hZ : TabZ 30 (sCols S) C 146 0 T) (hn : 1500 ≤ n) : Rt (f_242 n 145 (nI i) (nI path) C) (fun z C' => z = nI (sPl S t path T).1 ∧ cI C' 145 69 = nI (sPm S t path T).1.1 ∧ cI C' 191 0 = 0 ∧ (∀ k, 1 ≤ k → k ≤ 3 → cI C' 191 k = nI (sHeld S t (sPm S t path T) k)) ∧ FrQ (fun b => b = 180 ∨ b = 191) C C') := by
  have w := m238 (n := n) hM hi ht hto hpa (by omega)
  have R := m225 (n := n) (f := 0) hM.1 (by omega) hT hZ hM.2.2.2.2.1 (by omega)
  rw [x_0] at R
  unfold f_242
  simp only [↓reduceIte, k_145, if_true, ↓bd1 w]
  refine rt_bind (rt_mono R (fun _ C1 H => ?_))
  obtain ⟨G1, G2, G3, G4, _⟩ := H
  have F1 : FrQ (fun b => b = 180 ∨ b = 191) C C1 := ⟨G1.1, fun b _ z => G3 b (fun e => z (Or.inl e)), fun f _ _ => by rw [G2]⟩
  have m : ∀ a, 151 ≤ a → a < 178 → cI C1 a = cI C a := fun a h1 h2 => G3 a (by omega)
  have M1 : MC C1 h S := hM.of F1.1 (by rw [G2]) m
  have L := m241 (n := n) hpa M1 hi (ht.of m) hto hN G4 hn
  refine rt_bind (rt_mono L (fun _ C2 H2 => ?_))
  obtain ⟨q1, q0, q2, F2⟩ := H2
  have F : FrQ (fun b => b = 180 ∨ b = 191) C C2 := F1.trans (F2.mono (fun b e => Or.inr e))
  have r7 := sRsn_le (S := S) (t := t) (path := path)
  by_cases r0 : sRsn S t path = 0
  · have e0 : nI (sRsn S t path) = 0 := by rw [r0]; rfl
    have p0 : (sPl S t path T).1 = 0 := by simp [sPl, sStg, r0]
    simp only [↓reduceIte, e0, not_true, if_false]
    exact rt_ret ⟨by rw [p0]; rfl, q1, q0, q2, F⟩
  · have e0 : ¬ nI (sRsn S t path) = 0 := by rw [x_eq0 (by omega)]; exact r0
    have b := sPm_le (S := S) (t := t) (path := path) (T := T) hM.2.2.2
    have bb := fun k => sHeld_le (S := S) (t := t) (y := sPm S t path T) (k := k) hM.2.2.2 b.1 b.2.1 b.2.2
    obtain ⟨z, wz, hz⟩ := m242_lp (n := n) (h1 := sHeld S t (sPm S t path T) 1) (h2 := sHeld S t (sPm S t path T) 2) (h3 := sHeld S t (sPm S t path T) 3) (rsn := sRsn S t path) (M1.1.of F2.1) (by have := bb 1; omega) (by have := bb 2; omega) (by have := bb 3; omega) (q2 1 (by omega) (by omega)) (q2 2 (by omega) (by omega)) (q2 3 (by omega) (by omega)) r7 (by omega)
    rw [stD_eq (by omega)] at hz
    simp only [↓reduceIte, e0, not_false_iff, if_true]
    rw [bd1 wz]
    rcases hz with rfl | rfl
    · exact rt_ret ⟨rfl, q1, q0, q2, F⟩
    · exact rt_ret ⟨rfl, q1, q0, q2, F⟩
