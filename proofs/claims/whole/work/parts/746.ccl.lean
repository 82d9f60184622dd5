/-! The class reads clauses: columns, rows, others. -/
section
variable {n s i j N A V F cols r : Nat} {C C' C1 : AmC} {x : Nat → Nat} {t : Tel}
def RCl (s : Nat) (x : Nat → Nat) (N : Nat) (C : AmC) (r : PE Tel) (z : Int32) (C' : AmC) : Prop := Fr (fun b => b = 109 ∨ (s ≤ b ∧ b < s + 40)) C C' ∧ PRc C' z s x N r (fun t2 j2 => ∃ A' V' F', PS C' s x N j2 t2 A' V' F')
theorem RCl.fl {r : PE Tel} {k : Nat} (hF : Fr (fun b => b = 109 ∨ (s ≤ b ∧ b < s + 40)) C C') (er : r = .inl (k, j)) (f : Flt C' x N k j) : RCl s x N C r 0 C' := ⟨hF, Or.inl ⟨k, j, er, rfl, f⟩⟩
/-- it refuses a clause -/
theorem RCl.rf {D : AmC} {r : PE Tel} {k : Nat} {v : Int32} (hF : Fr (fun b => b = 109 ∨ (s ≤ b ∧ b < s + 40)) C D) (h : Pc D s x N j) (hk : 1 ≤ k ∧ k ≤ 4) (ev : v = nI k) (er : r = .inl (k, j)) : Rt ((f_25 n 109 v D).bind (fun z => match z with | (q6, C7) => if q6 = 0 ∨ q6 = 1 then some (q6, C7) else none)) (RCl s x N C r) := by
  rw [bd1 (c25 h)]
  dsimp only
  rw [bool_i]
  exact rt_ret (RCl.fl ((hF.uI (Or.inl rfl)).uI (Or.inl rfl)) er (flt hk ev))
theorem RCl.b2 {r : PE Tel} {z : Int32} (h : RCl s x N C r z C') : Rt (if z = 0 ∨ z = 1 then some (z, C') else none) (RCl s x N C r) := by
  obtain ⟨F1, ⟨k, j, e, rfl, f⟩ | ⟨a, j, e, rfl, f⟩⟩ := h
  · rw [if_pos (Or.inl rfl)]; exact rt_ret ⟨F1, Or.inl ⟨k, j, e, rfl, f⟩⟩
  · rw [if_pos (Or.inr rfl)]; exact rt_ret ⟨F1, Or.inr ⟨a, j, e, rfl, f⟩⟩
theorem FrPa.w (h : FrPa C C') : Fr (fun b => b = 109 ∨ (s ≤ b ∧ b < s + 40)) C C' := h.1.mono (fun b z => Or.inl z)
theorem RStm.c {r : PE Stm} {z : Int32} (h : RStm s x N C t r z C') (hm : (sStm t.1).length < 8) (er : spStm x N (sCols t.1) i = r) : RCl s x N C (spSt x N t i) z C' := by
  unfold spSt
  rw [if_pos hm, er]
  obtain ⟨F1, ⟨k, j, e, rfl, f⟩ | ⟨a, j, e, rfl, f⟩⟩ := h
  · exact ⟨F1, Or.inl ⟨k, j, by rw [e], rfl, f⟩⟩
  · exact ⟨F1, Or.inr ⟨_, j, by rw [e], rfl, f⟩⟩
/-- the tail of the columns clause -/
theorem c27 {first : Bool} (hP : PS C s x N i t A V F) (hk : tK x N i = 200) (hf : first = true → t = tel0) : Rt (f_27 n 109 (if first = true then 1 else 0) C) (RCl s x N C (spCol x N first t i)) := by
  obtain ⟨q1, q2, q3, q4, q5, ⟨q6, q6', q6''⟩, q7, q8, q9, q10, q11, q12, q13⟩ := hP
  have hs := q1.2.1
  have sl := scr_lt hs
  cases first with
  | false =>
    show Rt (f_27 n 109 (0 : Int32) C) (RCl s x N C (.inl (4, i)))
    unfold f_27
    rw [if_neg (fun q => q rfl), if_pos k_109]
    exact RCl.rf (k := 4) (Fr.refl _ C) q1 (by omega) rfl rfl
  | true =>
    have := hf rfl
    subst this
    have F1 : FrPa C (uI C 109 4 ((cI C 109 4) + 1)) := (FrPa.refl C).u (by omega)
    have p1 := q1.go (by omega)
    have a1 := ps_1 (x := x) (N := N) (i := i) (by omega)
    have tl := tN_lt (x := x) (N := N) (i + 1)
    rw [show (if true = true then (1 : Int32) else 0) = 1 from rfl]
    unfold f_27 spCol
    rw [if_pos (show ¬ (1 : Int32) = 0 by decide), if_pos (show true = true from rfl), if_pos k_109, bd1 (c23 p1)]
    dsimp only
    by_cases e8 : tK x N (i + 1) = 128
    · rw [if_pos (tq_128.mpr e8), bd1 (c23 p1), if_neg (show ¬ tK x N (i + 1) = 129 by omega), if_pos e8]
      dsimp only
      rw [if_neg (by rw [tq_129]; omega), bd1 (c24 p1)]
      dsimp only
      by_cases e1 : 1 ≤ tN x N (i + 1)
      · rw [if_neg (by rw [x_lt1 (by omega)]; omega), bd1 (c24 p1)]
        dsimp only
        by_cases e4 : tN x N (i + 1) ≤ 4
        · rw [n_4, if_pos ((x_le (by omega) (by omega)).mpr e4), bd1 p1.2.2.1, bd1 (c24 p1)]
          dsimp only
          rw [if_pos (sc_of p1.1 hs).1]
          have p2 : Pc (uI (uI C 109 4 ((cI C 109 4) + 1)) s 0 (nI (tN x N (i + 1)))) s x N (i + 1) := p1.cell (by omega)
          have p3 := p2.go (by omega)
          have a2 : ps x N (i + 1) + 1 ≤ ps x N (i + 2) := ps_1 (by omega)
          have FW : Fr (fun b => b = 109 ∨ (s ≤ b ∧ b < s + 40)) C (uI (uI (uI C 109 4 ((cI C 109 4) + 1)) s 0 (nI (tN x N (i + 1)))) 109 4 ((cI (uI (uI C 109 4 ((cI C 109 4) + 1)) s 0 (nI (tN x N (i + 1)))) 109 4) + 1)) := (((Fr.refl _ C).uI (Or.inl rfl)).uI (by omega)).uI (Or.inl rfl)
          rw [if_pos (And.intro e1 e4)]
          refine rt_bind (rt_mono (c26 (c := 59) p3 (by decide) (by decide)) (fun z C4 H => RCl.b2 ?_))
          obtain ⟨F4, ⟨k, j', e, rfl, fl⟩ | ⟨u, j', e, rfl, p4, _⟩⟩ := H
          · obtain ⟨no, rfl, rfl⟩ := spP_no e
            exact RCl.fl (FW.trans F4.w) (by rw [if_neg no]) fl
          · obtain ⟨yes, rfl⟩ := spP_ps e
            have yes : tK x N (i + 2) = 59 := yes
            have a3 : ps x N (i + 2) + 1 ≤ ps x N (i + 3) := ps_1 (by omega)
            have c4 : ∀ b, b ≠ 109 → b ≠ s → cI C4 b = cI C b := fun b z1 z2 => by rw [F4.1.2.1 b z1, r_In z1, r_In z2, r_In z1]
            have c4s : ∀ f, f ≠ 0 → cI C4 s f = cI C s f := fun f z => by rw [F4.1.2.1 s (by omega), r_In (by omega), r_I, if_neg (by omega), r_In (by omega)]
            have c40 : cI C4 s 0 = nI (tN x N (i + 1)) := by rw [F4.1.2.1 s (by omega), r_In (by omega), r_I, if_pos ⟨rfl, rfl⟩]
            refine ⟨FW.trans F4.w, Or.inr ⟨((tN x N (i + 1), tel0.1.2), tel0.2), i + 3, by rw [if_pos yes], rfl, p4, A, V, F, p4, ⟨c40, ?_, fun z hz => absurd hz (Nat.not_lt_zero z), ?_, ?_, fun z hz => absurd hz (Nat.not_lt_zero z), ?_, fun z hz => absurd hz (Nat.not_lt_zero z)⟩, ?_, ?_, ?_, ⟨?_, ?_, ?_⟩, fun z hz => absurd hz (Nat.not_lt_zero z), e1, e4, q10, q11, q12, q13⟩⟩
            · rw [c4s 2 (by omega)]; exact q2.2.1
            · rw [c4s 5 (by omega)]; exact q2.2.2.2.1
            · rw [c4s 6 (by omega)]; exact q2.2.2.2.2.1
            · rw [c4s 8 (by omega)]; exact q2.2.2.2.2.2.2.1
            · refine ⟨fun p hp => ?_, fun p hp => ?_, fun p hp tp => ?_⟩
              · rw [c4 (s + 1) (by omega) (by omega)]; exact q3.1 p hp
              · rw [c4 (s + 1) (by omega) (by omega)]; exact q3.2.1 p hp
              · have : decide (p < 0) = true := tp
                rw [decide_eq_true_eq] at this
                omega
            · unfold AC
              rw [c4s 11 (by omega), c4s 15 (by omega), c4 (s + 13) (by omega) (by omega)]
              exact q4
            · rw [c4s 17 (by omega)]; exact q5
            · omega
            · omega
            · omega
        · rw [n_4, if_neg (by rw [x_le (by omega) (by omega)]; exact e4), if_neg (show ¬ (1 ≤ tN x N (i + 1) ∧ tN x N (i + 1) ≤ 4) by omega)]
          exact RCl.rf (k := 2) F1.w p1 (by omega) rfl rfl
      · rw [if_pos (by rw [x_lt1 (by omega)]; omega), if_neg (show ¬ (1 ≤ tN x N (i + 1) ∧ tN x N (i + 1) ≤ 4) by omega)]
        exact RCl.rf (k := 2) F1.w p1 (by omega) rfl rfl
    · rw [if_neg (fun q => e8 (tq_128.mp q)), bd1 (c23 p1)]
      dsimp only
      by_cases e9 : tK x N (i + 1) = 129
      · rw [if_pos (tq_129.mpr e9), bd1 (c23 p1), if_pos e9]
        dsimp only
        rw [if_pos (tq_129.mpr e9)]
        exact RCl.rf (k := 2) F1.w p1 (by omega) rfl rfl
      · rw [if_neg (fun q => e9 (tq_129.mp q)), if_neg e9, if_neg e8]
        exact RCl.rf (k := 1) F1.w p1 (by omega) rfl rfl
/-! a row's numbers -/
def FrN4 (a b : Nat) (C C' : AmC) : Prop := Fr (fun y => y = 109 ∨ y = a) C C' ∧ ∀ m, ¬ (b ≤ m ∧ m < b + 4) → cI C' a m = cI C a m
theorem FrN4.trans {a b : Nat} {C2 : AmC} (h : FrN4 a b C C1) (g : FrN4 a b C1 C2) : FrN4 a b C C2 := ⟨h.1.trans g.1, fun m z => (g.2 m z).trans (h.2 m z)⟩
theorem c28_lp (hr : r < 30) (h4 : cols ≤ 4) : ∀ k c i g C n, c + k = cols → k < n → Pc C s x N i → cI C s 0 = nI cols → (∀ d, d < c → cI C (s + 2) (r * 4 + d) = g d) →
    Rt (lp_28_20 n 109 (nI r) (nI c) C) (fun z C' => FrN4 (s + 2) (r * 4) C C' ∧ ((∃ k' j, spR x N k c i g = .inl (k', j) ∧ z = .inl () ∧ Flt C' x N k' j) ∨ ∃ g' j, spR x N k c i g = .inr (g', j) ∧ z = .inr (109, nI r) ∧ Pc C' s x N j ∧ ∀ d, d < cols → cI C' (s + 2) (r * 4 + d) = g' d)) := by
  intro k
  induction k with
  | zero =>
    intro c i g C n h1 h2 h hc hg
    obtain ⟨n, rfl⟩ : ∃ m, n = m + 1 := ⟨n - 1, by omega⟩
    have : c = cols := by omega
    subst this
    rw [lp_28_20, if_pos k_109, bd1 h.2.2.1, if_pos (sc_of h.1 h.2.1).1, hc, if_pos ((x_le (by omega) (by omega)).mpr (Nat.le_refl _))]
    exact rt_ret ⟨⟨Fr.refl _ C, fun _ _ => rfl⟩, Or.inr ⟨g, i, rfl, rfl, h, hg⟩⟩
  | succ k ih =>
    intro c i g C n h1 h2 h hc hg
    obtain ⟨n, rfl⟩ : ∃ m, n = m + 1 := ⟨n - 1, by omega⟩
    have hs := h.2.1
    have sl := scr_lt hs
    rw [lp_28_20, if_pos k_109, bd1 h.2.2.1, if_pos (sc_of h.1 h.2.1).1, hc, if_neg (by rw [x_le (by omega) (by omega)]; omega)]
    refine rt_bind (rt_mono (c30 h) (fun z C1 H => ?_))
    obtain ⟨F1, ⟨k', j, er, rfl, fl⟩ | ⟨v, j, er, rfl, p1, ev⟩⟩ := H
    · dsimp only
      rw [if_neg (fun q => q rfl)]
      exact rt_ret ⟨⟨F1.1.mono (fun b z => Or.inl z), fun m _ => by rw [F1.1.2.1 (s + 2) (by omega)]⟩, Or.inl ⟨k', j, by rw [spR, er], rfl, fl⟩⟩
    · have sk := sc_of p1.1 p1.2.1
      have rk := rw_of p1.1 sk.2.2.2.2.2.2.2.2.2.2.2.2.2.2.2.2.2.2.2.2.2.2.2.2.2.2.2.2.2.2.2.2.2.1
      dsimp only
      rw [if_pos (by decide), bd1 p1.2.2.1, if_pos sk.1, bd1 sk.2.1, if_pos rk.1, bd1 (rp_raw rk hr (show c < 4 by omega)), ev]
      dsimp only
      rw [x_a1]
      have F2 : FrN4 (s + 2) (r * 4) C (uI C1 (s + 1 + 1) (r * 4 + c) v) := ⟨(F1.1.mono (fun b z => Or.inl z)).uI (Or.inr rfl), fun m z => by rw [r_I, if_neg (by omega), F1.1.2.1 (s + 2) (by omega)]⟩
      have e : spR x N (k + 1) c i g = spR x N k (c + 1) j (fun d => if d = c then v else g d) := by rw [spR, er]
      rw [e]
      refine rt_mono (ih (c + 1) j (fun d => if d = c then v else g d) _ n (by omega) (by omega) (p1.cell (by omega)) (by rw [r_In (by omega), F1.1.2.1 s (by omega)]; exact hc) (fun d hd => ?_)) (fun z C' H => ⟨F2.trans H.1, H.2⟩)
      by_cases q : d = c
      · rw [if_pos q, q, r_I, if_pos ⟨rfl, rfl⟩]
      · rw [if_neg q, r_I, if_neg (by omega), F1.1.2.1 (s + 2) (by omega)]
        exact hg d (by omega)
theorem c96 {o c : Nat} {v : Int32} (hP : PInv C) (hs : s ∈ scrL) (ho : o < 10) (hc : c < 4) : f_96 n s (nI o) (nI c) v C = some ((), uI C (s + 5) (o * 4 + c) v) := by
  obtain ⟨k0, p1, p3, p4, p7, p9, p10, p12, p13, p14, p16, p18, p19, k3, k4, k5, k10, k11, k12, k13, k14, k15, l3, l4, l5, l10, l11, l12, l13, l14, l15, k6, l6, hr, hst, hp6⟩ := sc_of hP hs
  unfold f_96
  rw [if_neg (by rw [x_lt0 (by omega)]; exact id), n_10, if_neg (by rw [x_le (by omega) (by omega)]; omega), if_neg (by rw [x_lt0 (by omega)]; exact id), n_4, if_neg (by rw [x_le (by omega) (by omega)]; omega), if_pos k0, bd1 p7, if_pos k5, x_mul, x_add, l5, if_pos ((x_in (by omega)).mpr (by omega)), x_cl (by omega)]
theorem c29_lp (hr : r < 10) (h4 : cols ≤ 4) : ∀ k c i g C n, c + k = cols → k < n → Pc C s x N i → cI C s 0 = nI cols → cI C s 6 = nI r → (∀ d, d < c → cI C (s + 5) (r * 4 + d) = g d) →
    Rt (lp_29_17 n 109 (nI c) C) (fun z C' => FrN4 (s + 5) (r * 4) C C' ∧ ((∃ k' j, spR x N k c i g = .inl (k', j) ∧ z = .inl () ∧ Flt C' x N k' j) ∨ ∃ g' j, spR x N k c i g = .inr (g', j) ∧ z = .inr 109 ∧ Pc C' s x N j ∧ ∀ d, d < cols → cI C' (s + 5) (r * 4 + d) = g' d)) := by
  intro k
  induction k with
  | zero =>
    intro c i g C n h1 h2 h hc h6 hg
    obtain ⟨n, rfl⟩ : ∃ m, n = m + 1 := ⟨n - 1, by omega⟩
    have : c = cols := by omega
    subst this
    rw [lp_29_17, if_pos k_109, bd1 h.2.2.1, if_pos (sc_of h.1 h.2.1).1, hc, if_pos ((x_le (by omega) (by omega)).mpr (Nat.le_refl _))]
    exact rt_ret ⟨⟨Fr.refl _ C, fun _ _ => rfl⟩, Or.inr ⟨g, i, rfl, rfl, h, hg⟩⟩
  | succ k ih =>
    intro c i g C n h1 h2 h hc h6 hg
    obtain ⟨n, rfl⟩ : ∃ m, n = m + 1 := ⟨n - 1, by omega⟩
    have hs := h.2.1
    have sl := scr_lt hs
    rw [lp_29_17, if_pos k_109, bd1 h.2.2.1, if_pos (sc_of h.1 h.2.1).1, hc, if_neg (by rw [x_le (by omega) (by omega)]; omega)]
    refine rt_bind (rt_mono (c30 h) (fun z C1 H => ?_))
    obtain ⟨F1, ⟨k', j, er, rfl, fl⟩ | ⟨v, j, er, rfl, p1, ev⟩⟩ := H
    · dsimp only
      rw [if_neg (fun q => q rfl)]
      exact rt_ret ⟨⟨F1.1.mono (fun b z => Or.inl z), fun m _ => by rw [F1.1.2.1 (s + 5) (by omega)]⟩, Or.inl ⟨k', j, by rw [spR, er], rfl, fl⟩⟩
    · have sk := sc_of p1.1 p1.2.1
      have e6 : cI C1 s 6 = nI r := by rw [F1.1.2.1 s (by omega)]; exact h6
      dsimp only
      rw [if_pos (by decide), bd1 p1.2.2.1, bd1 p1.2.2.1, if_pos sk.1, if_pos sk.1, e6, bd1 (c96 p1.1 hs hr (show c < 4 by omega)), ev]
      dsimp only
      rw [x_a1]
      have F2 : FrN4 (s + 5) (r * 4) C (uI C1 (s + 5) (r * 4 + c) v) := ⟨(F1.1.mono (fun b z => Or.inl z)).uI (Or.inr rfl), fun m z => by rw [r_I, if_neg (by omega), F1.1.2.1 (s + 5) (by omega)]⟩
      have e : spR x N (k + 1) c i g = spR x N k (c + 1) j (fun d => if d = c then v else g d) := by rw [spR, er]
      rw [e]
      refine rt_mono (ih (c + 1) j (fun d => if d = c then v else g d) _ n (by omega) (by omega) (p1.cell (by omega)) (by rw [r_In (by omega), F1.1.2.1 s (by omega)]; exact hc) (by rw [r_In (by omega)]; exact e6) (fun d hd => ?_)) (fun z C' H => ⟨F2.trans H.1, H.2⟩)
      by_cases q : d = c
      · rw [if_pos q, q, r_I, if_pos ⟨rfl, rfl⟩]
      · rw [if_neg q, r_I, if_neg (by omega), F1.1.2.1 (s + 5) (by omega)]
        exact hg d (by omega)
end
