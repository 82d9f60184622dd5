/-! The reference reads a text. -/
section
variable {n h i j N A V T m r c : Nat} {C C' : AmC} {x : Nat → Nat} {t : Tel}
theorem at_0 {K v : Nat} (g : AtT C K v) : (cI C 145 48 = 0) ↔ K = 132 := by
  rcases g with ⟨a, b, _⟩ | ⟨a, b, _⟩ | ⟨a, b, _⟩ | ⟨a, b, _⟩ | ⟨k, d, a, b, _⟩ | ⟨a, b, _⟩ | ⟨a, b, _⟩
  · exact ⟨fun _ => a, fun _ => b⟩
  · exact ⟨fun z => absurd (b.symm.trans z) (by decide), fun z => by omega⟩
  · exact ⟨fun z => absurd (b.symm.trans z) (by decide), fun z => by omega⟩
  · exact ⟨fun z => absurd (b.symm.trans z) (by decide), fun z => by omega⟩
  · exact ⟨fun z => absurd (b.symm.trans z) (by decide), fun z => by omega⟩
  · exact ⟨fun z => by rcases b with b | b <;> exact absurd (b.symm.trans z) (by decide), fun z => by omega⟩
  · have := sg_ne a
    exact ⟨fun z => absurd (b.symm.trans z) (by decide), fun z => by omega⟩
theorem m187 (hn : 4000 ≤ n) (hP : PSm 0 C h x N i t A V T) (hO : TelOK t) (h54 : cI C 145 54 = nI c) (c9 : c ≤ 900) (hf : c = 0 → t = tel0) (hk : tK x N i ≠ 132) : Rt (f_187 n 145 C) (fun _ C' => RC h x N C (spCl x N (decide (c = 0)) t i) C') := by
  have hp := hP.1
  have hh := hp.2.1
  obtain ⟨a1, a2, a3, a4, a5⟩ := at_1 hp.at
  obtain ⟨q1, q2, q3⟩ := m170f (n := n) (k := 1) (v := 1) hp (by omega) rfl
  have def1 : ¬ (200 ≤ tK x N i ∧ tK x N i ≤ 208) → Rt ((f_170 n 145 (0 : Int32) (1 : Int32) C).bind (fun z => match z with | (q247, C248) => some ((), C248))) (fun _ C' => RC h x N C (spCl x N (decide (c = 0)) t i) C') := by
    intro g
    rw [bd1 q1]
    refine rt_ret (RC.fl (q3.mono (fun _ _ z => W0.p z)) ?_ q2)
    unfold spCl
    rw [if_neg (by omega), if_neg (by omega), if_neg (by omega), if_neg (by omega), if_neg (by omega), if_neg (by omega)]
  unfold f_187
  rw [if_pos k_145]
  by_cases s1 : cI C 145 48 = 1
  · rw [if_neg (fun z => z s1)]
    by_cases g : 200 ≤ tK x N i ∧ tK x N i ≤ 208
    · obtain ⟨k, ek⟩ : ∃ k, tK x N i = 200 + k := ⟨tK x N i - 200, by omega⟩
      obtain ⟨_, kw⟩ := a4 k ek
      have mk : mp k = k := by unfold mp; rw [if_pos (by omega)]
      rw [mk] at kw
      rw [kw]
      have : k = 0 ∨ k = 1 ∨ k = 2 ∨ k = 3 ∨ k = 4 ∨ k = 5 ∨ k = 6 ∨ k = 7 ∨ k = 8 := by omega
      rcases this with rfl | rfl | rfl | rfl | rfl | rfl | rfl | rfl | rfl
      · have es : spCl x N (decide (c = 0)) t i = spCol x N (decide (c = 0)) t i := by unfold spCl; rw [if_pos ek]
        rw [if_pos (show nI 0 = (0 : Int32) from rfl), es]
        exact m_col (by omega) hP h54 c9 hf hk
      · have es : spCl x N (decide (c = 0)) t i = spRow x N t i := by unfold spCl; rw [if_neg (by omega), if_pos ek]
        have r9 : t.2.1 ≤ 30 := hO.2.2
        rw [if_neg (by decide), if_pos (show nI 1 = (1 : Int32) from rfl), es, hP.2.2.2.2.2.2, n_30]
        by_cases hr : t.2.1 < 30
        · rw [if_neg (by rw [x_le (by omega) (by omega)]; omega), bd1 (m170t hp (by decide))]
          dsimp only
          rw [if_pos (by decide)]
          exact m_row (by omega) hP hO hk hr
        · obtain ⟨y1, y2, y3⟩ := m170f (n := n) (k := 2) (v := 2) hp (by omega) rfl
          rw [if_pos ((x_le (by omega) (by omega)).mpr (by omega)), bd1 y1]
          dsimp only
          rw [if_neg (fun z => z rfl)]
          exact rt_ret (RC.fl (y3.mono (fun _ _ z => W0.p z)) (by unfold spRow; rw [if_neg hr]) y2)
      · have es : spCl x N (decide (c = 0)) t i = spOth x N t i := by unfold spCl; rw [if_neg (by omega), if_neg (by omega), if_pos ek]
        have o9 := hO.1.2.2.2.2.2.1
        rw [if_neg (by decide), if_neg (by decide), if_pos (show nI 2 = (2 : Int32) from rfl), es, bd1 (w_145_24 hp.1), if_pos k_162, hp.2.2.1, l_162, if_pos ((x_in (by omega)).mpr hh), x_cl (by omega), hP.2.1.2.2.2.2.1, n_10]
        by_cases hr : (sOth t.1).length < 10
        · rw [if_neg (by rw [x_le (by omega) (by omega)]; omega), bd1 (m170t hp (by decide))]
          dsimp only
          rw [if_pos (by decide)]
          exact m_oth (by omega) hP hO hk hr
        · obtain ⟨y1, y2, y3⟩ := m170f (n := n) (k := 2) (v := 2) hp (by omega) rfl
          rw [if_pos ((x_le (by omega) (by omega)).mpr (by omega)), bd1 y1]
          dsimp only
          rw [if_neg (fun z => z rfl)]
          exact rt_ret (RC.fl (y3.mono (fun _ _ z => W0.p z)) (by unfold spOth; rw [if_neg hr]) y2)
      · have es : spCl x N (decide (c = 0)) t i = spK x N true t i := by unfold spCl; rw [if_neg (by omega), if_neg (by omega), if_neg (by omega), if_pos ek]
        rw [if_neg (by decide), if_neg (by decide), if_neg (by decide), if_pos (show nI 3 = (3 : Int32) from rfl), if_neg (fun z => z rfl), es]
        exact rt_bind (rt_mono (m186 (ky := true) (by omega) hP hO hk) (fun _ D H => rt_ret H))
      · have es : spCl x N (decide (c = 0)) t i = spK x N false t i := by unfold spCl; rw [if_neg (by omega), if_neg (by omega), if_neg (by omega), if_neg (by omega), if_pos ek]
        rw [if_neg (by decide), if_neg (by decide), if_neg (by decide), if_neg (by decide), if_pos (show nI 4 = (4 : Int32) from rfl), if_pos (by decide), es]
        exact rt_bind (rt_mono (m186 (ky := false) (by omega) hP hO hk) (fun _ D H => rt_ret H))
      · have es : spCl x N (decide (c = 0)) t i = spSt x N t i := by unfold spCl; rw [if_neg (by omega), if_neg (by omega), if_neg (by omega), if_neg (by omega), if_neg (by omega), if_pos (by omega)]
        rw [if_neg (by decide), if_neg (by decide), if_neg (by decide), if_neg (by decide), if_neg (by decide), if_pos (show nI 5 = (5 : Int32) from rfl), es]
        exact m_stm (by omega) hP hO (by omega)
      · have es : spCl x N (decide (c = 0)) t i = spSt x N t i := by unfold spCl; rw [if_neg (by omega), if_neg (by omega), if_neg (by omega), if_neg (by omega), if_neg (by omega), if_pos (by omega)]
        rw [if_neg (by decide), if_neg (by decide), if_neg (by decide), if_neg (by decide), if_neg (by decide), if_neg (by decide), if_pos (show nI 6 = (6 : Int32) from rfl), es]
        exact m_stm (by omega) hP hO (by omega)
      · have es : spCl x N (decide (c = 0)) t i = spSt x N t i := by unfold spCl; rw [if_neg (by omega), if_neg (by omega), if_neg (by omega), if_neg (by omega), if_neg (by omega), if_pos (by omega)]
        rw [if_neg (by decide), if_neg (by decide), if_neg (by decide), if_neg (by decide), if_neg (by decide), if_neg (by decide), if_neg (by decide), if_pos (show nI 7 = (7 : Int32) from rfl), es]
        exact m_stm (by omega) hP hO (by omega)
      · have es : spCl x N (decide (c = 0)) t i = spSt x N t i := by unfold spCl; rw [if_neg (by omega), if_neg (by omega), if_neg (by omega), if_neg (by omega), if_neg (by omega), if_pos (by omega)]
        rw [if_neg (by decide), if_neg (by decide), if_neg (by decide), if_neg (by decide), if_neg (by decide), if_neg (by decide), if_neg (by decide), if_neg (by decide), if_pos (show nI 8 = (8 : Int32) from rfl), es]
        exact m_stm (by omega) hP hO (by omega)
    · have ne : ∀ q, q ≤ 8 → ¬ cI C 145 50 = nI q := by
        intro q hq z
        by_cases g2 : 200 ≤ tK x N i
        · obtain ⟨k, ek⟩ : ∃ k, tK x N i = 200 + k := ⟨tK x N i - 200, by omega⟩
          obtain ⟨k1, kw⟩ := a4 k ek
          have := mp_lt k1
          rw [kw, x_eq (by omega) (by omega)] at z
          unfold mp at z
          split at z
          · omega
          · split at z <;> omega
        · by_cases e : tK x N i = 130
          · obtain ⟨v1, v2⟩ := a3 e
            rw [v2, x_eq (by omega) (by omega)] at z
            omega
          · rw [a5 e g2] at z
            exact ((x_eqm (by omega)).mp z.symm).elim
      rw [if_neg (show ¬ cI C 145 50 = (0 : Int32) from ne 0 (by omega)), if_neg (show ¬ cI C 145 50 = (1 : Int32) from ne 1 (by omega)), if_neg (show ¬ cI C 145 50 = (2 : Int32) from ne 2 (by omega)), if_neg (show ¬ cI C 145 50 = (3 : Int32) from ne 3 (by omega)), if_neg (show ¬ cI C 145 50 = (4 : Int32) from ne 4 (by omega)), if_neg (show ¬ cI C 145 50 = (5 : Int32) from ne 5 (by omega)), if_neg (show ¬ cI C 145 50 = (6 : Int32) from ne 6 (by omega)), if_neg (show ¬ cI C 145 50 = (7 : Int32) from ne 7 (by omega)), if_neg (show ¬ cI C 145 50 = (8 : Int32) from ne 8 (by omega))]
      exact def1 g
  · rw [if_pos s1, if_neg (by decide), if_neg (by decide), if_neg (by decide), if_neg (by decide), if_neg (by decide), if_neg (by decide), if_neg (by decide), if_neg (by decide), if_neg (by decide)]
    exact def1 (fun g => s1 (a2 (Or.inl g.1)))
/-! the whole text -/
theorem ps_all : ∀ j q, ps x N j < N → q ≤ j → ps x N q < N := by
  intro j
  induction j with
  | zero => intro q h1 h2; rw [show q = 0 by omega]; exact h1
  | succ j ih =>
    intro q h1 h2
    by_cases e : q = j + 1
    · rw [e]; exact h1
    · refine ih q ?_ (by omega)
      by_cases g : ps x N j < N
      · exact g
      · rw [ps, if_neg g] at h1
        exact absurd h1 (Nat.lt_irrefl _)
theorem iok_s (h : tK x N j ≠ 132) : Iok x N (j + 1) := fun q hq => ps_all j q (ps_k h) (by omega)
def WP4 (h b j : Nat) : Prop := WP h b j ∨ (b = 145 ∧ j = 54)
def E89 (h : Nat) (x : Nat → Nat) (N : Nat) (C : AmC) (r : PE Tel) (z : Nat) (C' : AmC) : Prop := z = 145 ∧ FrZ (WP4 h) C C' ∧ ((∃ k j, r = .inl (k, j) ∧ FltM C' x N k j) ∨ ∃ t j, r = .inr (t, j) ∧ TelOK t ∧ ∃ A V T, PSm 0 C' h x N j t A V T)
theorem b189 (g : Bd C) (hn : 1 ≤ n) : lp_189_63 n 145 C = some (145, C) := by
  obtain ⟨n, rfl⟩ : ∃ m, n = m + 1 := ⟨n - 1, by omega⟩
  rw [lp_189_63, if_pos k_145, if_pos g]
theorem m189_lp (N9 : N ≤ 900) : ∀ f c t i C n A V T, f + c = 902 → c ≤ i → Iok x N i → f + 4100 < n → PSm 0 C h x N i t A V T → TelOK t → (c = 0 → t = tel0) → cI C 145 54 = nI c → Rt (lp_189_63 n 145 C) (E89 h x N C (spL x N f c t i)) := by
  intro f
  induction f with
  | zero =>
    intro c t i C n A V T h1 h2 h3
    have := h3.le N9
    omega
  | succ f ih =>
    intro c t i C n A V T h1 h2 h3 h4 hP hO hf h54
    obtain ⟨n, rfl⟩ : ∃ m, n = m + 1 := ⟨n - 1, by omega⟩
    have i9 := h3.le N9
    have hp := hP.1
    rw [lp_189_63, if_pos k_145, if_neg (fun z => z hp.2.2.2.2.2.1), spL]
    by_cases e : tK x N i = 132
    · rw [if_pos ((at_0 hp.at).mpr e), if_pos e]
      exact rt_ret ⟨rfl, FrZ.refl C, Or.inr ⟨t, i, rfl, hO, A, V, T, hP⟩⟩
    · rw [if_neg (fun z => e ((at_0 hp.at).mp z)), if_neg e]
      refine rt_bind (rt_mono (m187 (by omega) hP hO h54 (by omega) hf e) (fun _ D H => ?_))
      obtain ⟨FD, r0, er, H⟩ := H
      have d54 : cI D 145 54 = nI c := by rw [FD.2 145 54 (by unfold WP; omega)]; exact h54
      dsimp only
      rw [d54, x_a1]
      have FX : FrZ (WP4 h) C (uI D 145 54 (nI (c + 1))) := (FD.mono (W' := WP4 h) (fun _ _ z => Or.inl z)).u (Or.inr ⟨rfl, rfl⟩)
      have oX : ∀ f, f ≠ 54 → cI (uI D 145 54 (nI (c + 1))) 145 f = cI D 145 f := fun f z => by rw [r_I, if_neg (fun q => z q.2)]
      have oB : ∀ b, b ≠ 145 → cI (uI D 145 54 (nI (c + 1))) b = cI D b := fun b z => r_In z
      rcases H with ⟨k, j, e0, fl⟩ | ⟨t2, j, e0, pD, A', V', T', hP2⟩
      · have flX : FltM (uI D 145 54 (nI (c + 1))) x N k j := fl.of (oX 51 (by omega)) (oX 44 (by omega))
        rw [if_pos flX.bd, b189 flX.bd (by omega)]
        rw [e0] at er
        have er : spCl x N (decide (c = 0)) t i = .inl (k, j) := er.symm
        exact rt_ret ⟨rfl, FX, Or.inl ⟨k, j, by rw [er], flX⟩⟩
      · have pX : Pm (uI D 145 54 (nI (c + 1))) h x N j := pD.of rfl (fun f _ _ => oX f (by omega)) (oB 178 (by omega))
        rw [if_neg (fun z => z pX.2.2.2.2.2.1)]
        refine rt_bind (rt_mono (m173 (c := 59) (v := 59) (by omega) pX (by decide) rfl) (fun _ E H => ?_))
        obtain ⟨FE, H⟩ := H
        have FE' : FrZ (WP4 h) C E := FX.trans (FE.mono (fun _ _ z => Or.inl (W0.p z)))
        rw [e0] at er
        have er : spCl x N (decide (c = 0)) t i = (if tK x N j = 59 then .inr (t2, j + 1) else .inl (1, j)) := er.symm
        dsimp only
        rcases H with ⟨k, j', e1, fl⟩ | ⟨_, j', e1, pE, _⟩
        · obtain ⟨n59, k1, j1⟩ := spP_no e1
          rw [if_neg n59] at er
          rw [b189 fl.bd (by omega)]
          exact rt_ret ⟨rfl, FE', Or.inl ⟨k, j', by rw [er, k1, j1], fl⟩⟩
        · obtain ⟨y59, j1⟩ := spP_ps e1
          subst j1
          rw [if_pos y59] at er
          obtain ⟨o2, lt⟩ := spCl_ok N9 hO (fun q => hf (of_decide_eq_true q)) er
          rw [er]
          have u := ps_1 (x := x) (N := N) (i := j) (by omega)
          obtain ⟨_, s2, s3, s4, s5, ⟨s6, s7, s8⟩, s9⟩ := hP2
          have oE : ∀ b, b ≠ 145 → cI E b = cI D b := fun b z => by rw [FE.c (fun j q => z q.1), oB b z]
          have P3 : PSm 0 E h x N (j + 1) t2 A' V' T' := ⟨pE, s2.of (fun b z1 z2 => oE b (by omega)), s3.of (oE 179 (by omega)), ⟨by rw [oE 164 (by omega)]; exact s4.1, by rw [oE 165 (by omega)]; exact s4.2⟩, by rw [oE 166 (by omega)]; exact s5, ⟨by omega, by omega, by omega⟩, by rw [FE.2 145 53 (by unfold W0; omega), oX 53 (by omega)]; exact s9⟩
          refine rt_mono (ih (c + 1) t2 (j + 1) E n A' V' T' (by omega) (by omega) (iok_s (by omega)) (by omega) P3 o2 (fun q => by omega) (by rw [FE.2 145 54 (by unfold W0; omega), r_I, if_pos ⟨rfl, rfl⟩])) (fun z D2 H => ⟨H.1, FE'.trans H.2.1, H.2.2⟩)
end
