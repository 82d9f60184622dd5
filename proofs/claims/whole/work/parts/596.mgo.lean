/-! The reference's run: the spool is gone through. -/
theorem m221_lp {h i j : Nat} {S : Scr} {t : Stm} {pl : Option Nat} (hj : j < 320) (hp : ∀ p, pl = some p → p < 30) (hnew : isNewS t pl = true → ∀ c, c < sCols S → (tNew t c).isSome = true) : ∀ k c n C, c + k = sCols S → k < n → MK C h S i t → Rt (lp_221_5 n 145 (nI j) (oI pl) (nI c) C) (fun _ C' => FrK C C' ∧ cI C' 145 66 = cI C 145 66 ∧ cI C' 145 67 = cI C 145 67 ∧ cI C' 145 68 = cI C 145 68 ∧ (∀ d, d < c → cI C' 187 d = cI C 187 d) ∧ (∀ d, c ≤ d → d < sCols S → cI C' 187 d = cI C 190 (4 * j + d)) ∧ ∀ d, d < 32 → bt (cI C' 145 76) d = if c ≤ d ∧ d < sCols S ∧ (valsS t pl d).isSome = true then true else bt (cI C 145 76) d) := by
  intro k
  induction k with
  | zero =>
    intro c n C h1 h2 hK
    obtain ⟨n, rfl⟩ : ∃ m, n = m + 1 := ⟨n - 1, by omega⟩
    obtain ⟨⟨hP, hh, hS, hO⟩, k2, k3, k4, k5⟩ := hK
    have h4 := hO.2.1
    have hb := hS.1
    have h3 : sCols S ≤ c := by omega
    simp (disch := omega) only [↓reduceIte, lp_221_5, if_true, if_false, Option.bind_some, k_145, ↓bd1 (w_145_21 hP), k_159, l_159, hh, x_in, x_cl, hb, hS.2.1, x_le, h3]
    exact rt_ret ⟨FrK.refl _, rfl, rfl, rfl, fun _ _ => rfl, fun d z1 z2 => by omega, fun d hd => by rw [if_neg (by omega)]⟩
  | succ k ih =>
    intro c n C h1 h2 hK
    obtain ⟨n, rfl⟩ : ∃ m, n = m + 1 := ⟨n - 1, by omega⟩
    have hK0 := hK
    obtain ⟨⟨hP, hh, hS, hO⟩, k2, k3, k4, k5⟩ := hK
    have h4 := hO.2.1
    have hb := hS.1
    have h3 : ¬ sCols S ≤ c := by omega
    have c4 : c < 4 := by omega
    have i1 : 4 * j + c < 1280 := by omega
    have i64 : 4 * i + c < 64 := by omega
    have F1 : FrK C (uI C 187 c (cI C 190 (4 * j + c))) := (FrK.refl C).u187 c _
    have K1 := hK0.fr F1.frM (by decide)
    have w214 := m214 (n := n) K1 hp
    have ne1 : ¬ (1 : Int32) = 0 := by decide
    have ki := K1.2.2.2.1.2.2.2.1 c c4
    have a145 : cI (uI C 187 c (cI C 190 (4 * j + c))) 145 = cI C 145 := r_In (by decide)
    have P1 := K1.1.1
    -- what follows
    have go : ∀ C1, FrK C C1 → (cI C1 145 66 = cI C 145 66 ∧ cI C1 145 67 = cI C 145 67 ∧ cI C1 145 68 = cI C 145 68) → (∀ d, cI C1 187 d = if d = c then cI C 190 (4 * j + c) else cI C 187 d) → (∀ d, d < 32 → bt (cI C1 145 76) d = if d = c ∧ (valsS t pl c).isSome = true then true else bt (cI C 145 76) d) → Rt (lp_221_5 n 145 (nI j) (oI pl) (nI (c + 1)) C1) (fun _ C' => FrK C C' ∧ cI C' 145 66 = cI C 145 66 ∧ cI C' 145 67 = cI C 145 67 ∧ cI C' 145 68 = cI C 145 68 ∧ (∀ d, d < c → cI C' 187 d = cI C 187 d) ∧ (∀ d, c ≤ d → d < sCols S → cI C' 187 d = cI C 190 (4 * j + d)) ∧ ∀ d, d < 32 → bt (cI C' 145 76) d = if c ≤ d ∧ d < sCols S ∧ (valsS t pl d).isSome = true then true else bt (cI C 145 76) d) := by
      intro C1 FF e6 e187 e76
      refine rt_mono (ih (c + 1) n C1 (by omega) (by omega) (hK0.fr FF.frM (by decide))) (fun _ C' H => ?_)
      obtain ⟨H1, H2, H3, H4, H5, H6, H7⟩ := H
      refine ⟨FF.trans H1, H2.trans e6.1, H3.trans e6.2.1, H4.trans e6.2.2, fun d hd => by rw [H5 d (by omega), e187, if_neg (by omega)], fun d z1 z2 => ?_, fun d hd => ?_⟩
      · by_cases e : d = c
        · subst e
          rw [H5 d (by omega), e187, if_pos rfl]
        · rw [H6 d (by omega) z2, FF.2.2.1 190 (by decide) (by decide)]
      · rw [H7 d hd, e76 d hd]
        by_cases e : d = c
        · subst e
          rw [if_neg (by omega)]
          rcases bcs (valsS t pl d).isSome with v | v
          · simp [v]
          · simp [v, show d < sCols S by omega]
        · have q : (c + 1 ≤ d ∧ d < sCols S ∧ (valsS t pl d).isSome = true) ↔ (c ≤ d ∧ d < sCols S ∧ (valsS t pl d).isSome = true) := by
            constructor
            · rintro ⟨a1, a2, a3⟩; exact ⟨by omega, a2, a3⟩
            · rintro ⟨a1, a2, a3⟩; exact ⟨by omega, a2, a3⟩
          simp only [↓reduceIte, q, e, false_and, if_false]
    have b187 : ∀ d, cI (uI C 187 c (cI C 190 (4 * j + c))) 187 d = if d = c then cI C 190 (4 * j + c) else cI C 187 d := fun d => by rw [r_I]; simp
    have FB : FrK C (uI (uI C 187 c (cI C 190 (4 * j + c))) 145 76 (cI C 145 76 ||| ((1 : Int32) <<< (nI c &&& 31)))) := F1.u145 _ (by omega)
    have GB : (valsS t pl c).isSome = true → Rt (lp_221_5 n 145 (nI j) (oI pl) (nI (c + 1)) (uI (uI C 187 c (cI C 190 (4 * j + c))) 145 76 (cI C 145 76 ||| ((1 : Int32) <<< (nI c &&& 31))))) _ := fun vs => go _ FB ⟨by rw [r_I, if_neg (by decide), a145], by rw [r_I, if_neg (by decide), a145], by rw [r_I, if_neg (by decide), a145]⟩ (fun d => by rw [r_In (by decide), b187]) (fun d hd => by
      rw [r_I, if_pos ⟨rfl, rfl⟩, b_set _ (by omega) d hd]
      by_cases e : d = c <;> simp [e, vs])
    rcases bcs (isNewS t pl) with b | b
    · rw [b] at w214
      simp only [↓reduceIte, Bool.false_eq_true, if_false] at w214
      have ev : valsS t pl c = tSet t c := by simp [valsS, b]
      cases hv : tSet t c with
      | none =>
        rw [hv] at ki
        have ki : cI (uI C 187 c (cI C 190 (4 * j + c))) 176 (4 * i + c) = -1 := ki
        simp (disch := omega) only [lp_221_5, if_true, if_false, Option.bind_some, k_145, ↓bd1 (w_145_21 hP), k_159, l_159, hh, x_in, x_cl, hb, hS.2.1, ↓reduceIte, n_2, n_3, n_4, n_5, n_6, n_7, n_8, n_10, n_12, n_20, n_30, n_40, n_100, n_120, n_150, n_200, n_230, n_320, n_450, n_900, x_le, x_lt, x_eq, x_lt0, x_le0, x_0le, x_0lt, x_eq0, x_eq1, x_1lt, x_le1, x_lt1, x_1le, x_eqm, x_add, x_a1, x_1a, x_a0, x_0a, x_mul, x_sub, x_s1, x_1s, x_div, x_cl0, x_cl1, x_in0, x_in1, x_ofNat, h3, ↓bd1 (w_145_75 hP), k_187, l_187, ↓bd1 (w_145_79 hP), k_190, l_190, i1, c4, w214, not_true, ↓bp_I, ↓bd1 (w_145_38 hP), k_176, l_176, a145, k2, i64, ki]
        exact go _ F1 ⟨by rw [a145], by rw [a145], by rw [a145]⟩ b187 (fun d hd => by
          rw [a145, ev, hv]
          simp)
      | some v =>
        rw [hv] at ki
        obtain ⟨kk, z1, z2⟩ := ki
        have z3 := z2.1
        have em : ¬ nI kk = (-1 : Int32) := by rw [x_eqm (by omega)]; exact id
        simp (disch := omega) only [lp_221_5, if_true, if_false, Option.bind_some, k_145, ↓bd1 (w_145_21 hP), k_159, l_159, hh, x_in, x_cl, hb, hS.2.1, ↓reduceIte, n_2, n_3, n_4, n_5, n_6, n_7, n_8, n_10, n_12, n_20, n_30, n_40, n_100, n_120, n_150, n_200, n_230, n_320, n_450, n_900, x_le, x_lt, x_eq, x_lt0, x_le0, x_0le, x_0lt, x_eq0, x_eq1, x_1lt, x_le1, x_lt1, x_1le, x_eqm, x_add, x_a1, x_1a, x_a0, x_0a, x_mul, x_sub, x_s1, x_1s, x_div, x_cl0, x_cl1, x_in0, x_in1, x_ofNat, h3, ↓bd1 (w_145_75 hP), k_187, l_187, ↓bd1 (w_145_79 hP), k_190, l_190, i1, c4, w214, not_true, ↓bp_I, ↓bd1 (w_145_38 hP), k_176, l_176, a145, k2, i64, z1, em]
        exact GB (by rw [ev, hv]; rfl)
    · rw [b] at w214
      simp only [↓reduceIte, if_true] at w214
      simp (disch := omega) only [lp_221_5, if_true, if_false, Option.bind_some, k_145, ↓bd1 (w_145_21 hP), k_159, l_159, hh, x_in, x_cl, hb, hS.2.1, ↓reduceIte, n_2, n_3, n_4, n_5, n_6, n_7, n_8, n_10, n_12, n_20, n_30, n_40, n_100, n_120, n_150, n_200, n_230, n_320, n_450, n_900, x_le, x_lt, x_eq, x_lt0, x_le0, x_0le, x_0lt, x_eq0, x_eq1, x_1lt, x_le1, x_lt1, x_1le, x_eqm, x_add, x_a1, x_1a, x_a0, x_0a, x_mul, x_sub, x_s1, x_1s, x_div, x_cl0, x_cl1, x_in0, x_in1, x_ofNat, h3, ↓bd1 (w_145_75 hP), k_187, l_187, ↓bd1 (w_145_79 hP), k_190, l_190, i1, c4, w214, ne1, not_false_iff, a145]
      exact GB (by rw [valsS, if_pos b]; exact hnew b c (by omega))
theorem m221 {n : Nat} {C : AmC} {h i j : Nat} {S : Scr} {t : Stm} {pl : Option Nat} {mk : Nat → Int32} (hj : j < 320) (hp : ∀ p, pl = some p → p < 30) (hnew : isNewS t pl = true → ∀ c, c < sCols S → (tNew t c).isSome = true) (hK : MK C h S i t) (hm : isKpt t pl = false → ∀ c, c < sCols S → (valsS t pl c).isSome = true → cI C 190 (4 * j + c) = mk c) (hn : 20 ≤ n) : Rt (f_221 n 145 (nI j) (oI pl) C) (fun _ C' => FrK C C' ∧ cI C' 145 66 = cI C 145 66 ∧ cI C' 145 67 = cI C 145 67 ∧ cI C' 145 68 = cI C 145 68 ∧ (isKpt t pl = false → MdM C' S t pl mk)) := by
  have F : FrK C (uI C 145 76 0) := (FrK.refl C).u145 _ (by omega)
  have h4 := hK.1.2.2.2.2.1
  have L := m221_lp (h := h) (i := i) hj hp hnew (sCols S) 0 n (uI C 145 76 0) (by omega) (by omega) (hK.fr F.frM (by decide))
  unfold f_221
  rw [if_pos k_145]
  rw [x_0] at L
  refine rt_bind (rt_mono L (fun _ C' H => ?_))
  obtain ⟨H1, H2, H3, H4, H5, H6, H7⟩ := H
  have d : ∀ f, ¬ f = 76 → cI (uI C 145 76 0) 145 f = cI C 145 f := fun f hf => by rw [r_I, if_neg (by omega)]
  refine rt_ret ⟨F.trans H1, H2.trans (d 66 (by decide)), H3.trans (d 67 (by decide)), H4.trans (d 68 (by decide)), fun z => ⟨fun c hc => ?_, fun c hc hv => ?_⟩⟩
  · have e76 : cI (uI C 145 76 0) 145 76 = 0 := by rw [r_I, if_pos ⟨rfl, rfl⟩]
    rw [H7 c (by omega), e76, b_0]
    by_cases z : c < sCols S
    · cases hv : (valsS t pl c).isSome <;> simp [z]
    · simp [z]
  · rw [H6 c (by omega) hc, r_In (by decide)]
    exact hm z c hc hv
