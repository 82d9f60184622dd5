/-! The class's pass meets a row. -/
theorem PsF.of {C C1 : AmC} {a stage : Nat} {S : Scr} {r : RS} (h : PsF C a S stage r) (e0 : ∀ f, 8 ≤ f → ¬ f = 9 → cI C1 a f = cI C a f) (e1 : cI C1 (a + 1) = cI C (a + 1)) (e2 : cI C1 (a + 2) = cI C (a + 2)) (e7 : cI C1 (a + 7) = cI C (a + 7)) : PsF C1 a S stage r := by
  obtain ⟨h1, h2, h3, h4, h5, h6, h7⟩ := h
  exact ⟨h1.of e1 e2, by rw [e0 8 (by omega) (by omega)]; exact h2, by rw [e0 10 (by omega) (by omega)]; exact h3, by rw [e0 11 (by omega) (by omega)]; exact h4, by rw [e0 12 (by omega) (by omega)]; exact h5, by rw [e0 13 (by omega) (by omega)]; exact h6, by rw [e7]; exact h7⟩
theorem ItC.of {C C1 : AmC} {a stage : Nat} {S : Scr} {t : Stm} {its : List Itm} (h : ItC C a S t stage its) (e9 : cI C1 a 9 = cI C a 9) (e4 : ∀ i, i < its.length → cI C1 (a + 4) i = cI C (a + 4) i) (e5 : ∀ i, i < its.length → cI C1 (a + 5) i = cI C (a + 5) i) (e6 : ∀ i, i < its.length * 4 → cI C1 (a + 6) i = cI C (a + 6) i) (h4 : sCols S ≤ 4) : ItC C1 a S t stage its := by
  obtain ⟨h1, h2, h3⟩ := h
  refine ⟨e9.trans h1, h2, fun i hi => ?_⟩
  obtain ⟨q1, q2, q3⟩ := h3 i hi
  refine ⟨by rw [e4 i hi]; exact q1, by rw [e5 i hi]; exact q2, fun z => ⟨by rw [e4 i hi]; exact q1, fun d hd hv => ?_⟩⟩
  rw [e6 _ (by omega)]
  exact (q3 z).2 d hd hv
theorem ItC.push {C C1 : AmC} {a stage : Nat} {S : Scr} {t : Stm} {its : List Itm} {q : Itm} (h : ItC C a S t stage its) (hl : its.length < 40) (e9 : cI C1 a 9 = nI (its.length + 1)) (e4 : ∀ i, i < its.length → cI C1 (a + 4) i = cI C (a + 4) i) (e5 : ∀ i, i < its.length → cI C1 (a + 5) i = cI C (a + 5) i) (e6 : ∀ i, i < its.length * 4 → cI C1 (a + 6) i = cI C (a + 6) i) (h4 : sCols S ≤ 4) (n4 : cI C1 (a + 4) its.length = oI q.1) (n5 : cI C1 (a + 5) its.length = oI q.2.1) (n6 : stage = 3 → SlC C1 a its.length S t q.1 q.2.2) : ItC C1 a S t stage (its ++ [q]) := by
  obtain ⟨h1, h2, h3⟩ := h
  refine ⟨by rw [e9]; simp, by simp; omega, fun i hi => ?_⟩
  by_cases c : i < its.length
  · rw [List.getElem_append_left c]
    obtain ⟨q1, q2, q3⟩ := h3 i c
    refine ⟨by rw [e4 i c]; exact q1, by rw [e5 i c]; exact q2, fun z => ⟨by rw [e4 i c]; exact q1, fun d hd hv => ?_⟩⟩
    rw [e6 _ (by omega)]
    exact (q3 z).2 d hd hv
  · have e : i = its.length := by
      simp only [List.length_append, List.length_cons, List.length_nil] at hi
      omega
    subst e
    rw [List.getElem_append_right (Nat.le_refl _)]
    simp only [Nat.sub_self, List.getElem_cons_zero]
    exact ⟨n4, n5, n6⟩
theorem rE_end (r : RS) (e x y : Int32) : rE (rEnd r e x y) = e := rfl
theorem c53 {n : Nat} {C : AmC} {a s st stage : Nat} {S : Scr} {x : RS × List Itm} {t : Stm} {pl o : Option Nat} (hst : stage ≤ 3) (hp : ∀ p, pl = some p → p < 30 ∧ (rT x.1).1 p = true) (ho : ∀ q, o = some q → q < (sOth S).length) (h : PK C a s st S t) (hF : PasC C a S t stage x) (hE : rE x.1 = 0) (hw : (rL x.1).length ≤ 200) (hlen : stage ≠ 0 → x.2.length < 40) (hl0 : stage = 0 → x.2 = []) (hnew : isNewS t pl = true → ∀ c, c < sCols S → (tNew t c).isSome = true) (hn : 1300 ≤ n) : Rt (f_53 n a (oI pl) (oI o) C) (fun _ C' => PasC C' a S t stage (sMeet S t stage pl o x) ∧ Fr (PX a) C C') := by
  have hK := h
  obtain ⟨hP, g2, g3, g4, g5, g6, g7, g8, g9, g10⟩ := h
  have k3 := pa_of hP g2
  have kt := st_of hP g4
  obtain ⟨a1, a2⟩ := pas_ge g2
  have hcol := g8.2.1
  obtain ⟨r, its⟩ := x
  dsimp only at hp hE hw hlen hl0
  obtain ⟨f, hI⟩ := hF
  dsimp only at f hI
  have hI := hI hE
  obtain ⟨f1, f2, f3, f4, f5, f6, f7⟩ := id f
  rw [hE] at f4
  have hp1 : ∀ p, pl = some p → p < 30 := fun p z => (hp p z).1
  have c3 := tCh_le g10
  -- the slot
  have slot : ∃ j, j < 40 ∧ (stage = 0 → j = 0) ∧ (¬ stage = 0 → j = its.length) := by
    by_cases e : stage = 0
    · exact ⟨0, by omega, fun _ => rfl, fun z => absurd e z⟩
    · exact ⟨its.length, hlen e, fun z => absurd z e, fun _ => rfl⟩
  obtain ⟨j, hj, hj0, hj1⟩ := slot
  have F1 : Fr (PX a) C (uI (uI C (a + 4) j (oI pl)) (a + 5) j (oI o)) := ((Fr.refl (PX a) C).uI (a := a + 4) (by unfold PX; omega)).uI (a := a + 5) (by unfold PX; omega)
  generalize hC1 : uI (uI C (a + 4) j (oI pl)) (a + 5) j (oI o) = C1 at F1
  have PXge : ∀ b, PX a b → 82 ≤ b := fun b hb => by unfold PX at hb; omega
  have K1 := hK.fr F1 PXge
  have d0 : cI C1 a = cI C a := by rw [← hC1, r_In (by omega), r_In (by omega)]
  have d1 : cI C1 (a + 1) = cI C (a + 1) := by rw [← hC1, r_In (by omega), r_In (by omega)]
  have d2 : cI C1 (a + 2) = cI C (a + 2) := by rw [← hC1, r_In (by omega), r_In (by omega)]
  have d6 : cI C1 (a + 6) = cI C (a + 6) := by rw [← hC1, r_In (by omega), r_In (by omega)]
  have d7 : cI C1 (a + 7) = cI C (a + 7) := by rw [← hC1, r_In (by omega), r_In (by omega)]
  have d4 : ∀ i, cI C1 (a + 4) i = if i = j then oI pl else cI C (a + 4) i := fun i => by
    rw [← hC1, r_In (by omega), r_I]
    simp
  have d5 : ∀ i, cI C1 (a + 5) i = if i = j then oI o else cI C (a + 5) i := fun i => by
    rw [← hC1, r_I, r_In (by omega)]
    simp
  have f1' : TabC (sCols S) C1 (a + 1) (rT r) := f1.of d1 d2
  have P1 : PsF C1 a S stage r := f.of (fun _ _ _ => by rw [d0]) d1 d2 d7
  have same : PasC C a S t stage (r, its) := ⟨f, fun _ => hI⟩
  have same1 : PasC C1 a S t stage (r, its) := ⟨P1, fun _ => by
    by_cases e : stage = 0
    · have := hl0 e
      subst this
      exact hI.of (by rw [d0]) (fun i hi => by cases hi) (fun i hi => by cases hi) (fun i _ => by rw [d6]) hcol
    · exact hI.of (by rw [d0]) (fun i hi => by rw [d4 i, if_neg (by rw [hj1 e]; omega)]) (fun i hi => by rw [d5 i, if_neg (by rw [hj1 e]; omega)]) (fun i _ => by rw [d6]) hcol⟩
  have w103 := c103 (n := n) (sc_of K1.1 g3) K1.2.2.2.2.2.2.1 g8 (rw_of K1.1 k3.rw) f1' hp1 kt.1 K1.2.2.2.2.2.2.2.2.1 g10 (by omega)
  have w56 := c56 (n := n) hj hp1 ho K1 f1' (by rw [d4, if_pos rfl]) (by rw [d5, if_pos rfl]) (by rw [d0]; exact f4) (by omega)
  have ne1 : ¬ (1 : Int32) = 0 := by decide
  have j9 : ¬ stage = 0 → cI C a 9 = nI j := fun e => by rw [hj1 e]; exact hI.1
  have jlt : ¬ 40 ≤ j := by omega
  have cl : Int32.toNatClampNeg (nI j) = j := x_cl (by omega)
  have nX : uI (uI C (a + 4) (Int32.toNatClampNeg (nI j)) (oI pl)) (a + 5) (Int32.toNatClampNeg (nI j)) (oI o) = C1 := by rw [cl]; exact hC1
  have n0 : uI (uI C (a + 4) 0 (oI pl)) (a + 5) 0 (oI o) = uI (uI C (a + 4) 0 (oI pl)) (a + 5) 0 (oI o) := rfl
  have z8 : cI C1 a 8 = nI stage := by rw [d0]; exact f2
  have z9 : ¬ stage = 0 → cI C1 a 9 = nI j := fun e => by rw [d0]; exact j9 e
  -- behind the check of what is kept
  have main : isKpt t pl = false → Rt (if stage = 1 then some ((), uI C1 a 9 (cI C1 a 9 + 1)) else if sHolds S (rT r) pl t = true then (if stage = 0 then (f_56 n a (nI j) C1).bind (fun z => match z with
      | (_, C2) => if (cI C2 a 8) = 0 then (if ¬ (cI C2 a 11) = 0 then some ((), C2) else (f_57 n a (nI j) C2).bind (fun z => match z with
        | (_, C3) => some ((), C3))) else some ((), uI C2 a 9 ((cI C2 a 9) + (1 : Int32)))) else if stage = 3 then (f_56 n a (nI j) C1).bind (fun z => match z with
      | (_, C2) => if (cI C2 a 8) = 0 then (if ¬ (cI C2 a 11) = 0 then some ((), C2) else (f_57 n a (nI j) C2).bind (fun z => match z with
        | (_, C3) => some ((), C3))) else some ((), uI C2 a 9 ((cI C2 a 9) + (1 : Int32)))) else some ((), uI C1 a 9 (cI C1 a 9 + 1))) else some ((), C1)) (fun _ C' => PasC C' a S t stage (sMeet S t stage pl o (r, its)) ∧ Fr (PX a) C C') := by
    intro hk
    have push : ¬ stage = 0 → ¬ stage = 3 → Rt (some ((), uI C1 a 9 (cI C1 a 9 + 1))) (fun _ C' => PasC C' a S t stage (r, its ++ [(pl, o, fun _ => 0)]) ∧ Fr (PX a) C C') := by
      intro e e3
      refine rt_ret ⟨⟨P1.of (fun f _ z => ?_) (r_In (by omega)) (r_In (by omega)) (r_In (by omega)), fun _ => ?_⟩, F1.uI (a := a) (Or.inl rfl)⟩
      · rw [r_I, if_neg (fun w => z w.2)]
      · have jl := hj1 e
        subst jl
        refine hI.push hj (by rw [r_I, if_pos ⟨rfl, rfl⟩, z9 e, x_a1]) (fun i hi => by rw [r_In (by omega), d4, if_neg (by omega)]) (fun i hi => by rw [r_In (by omega), d5, if_neg (by omega)]) (fun i hi => by rw [r_In (by omega), d6]) hcol (by rw [r_In (by omega), d4, if_pos rfl]) (by rw [r_In (by omega), d5, if_pos rfl]) (fun z => absurd z e3)
    by_cases s1 : stage = 1
    · have e : sMeet S t stage pl o (r, its) = (r, its ++ [(pl, o, fun _ => 0)]) := by
        simp [sMeet, hk, s1]
      rw [e, if_pos s1]
      exact push (by omega) (by omega)
    · rw [if_neg s1]
      rcases bcs (sHolds S (rT r) pl t) with b | b
      · have e : sMeet S t stage pl o (r, its) = (r, its) := by
          simp [sMeet, hk, s1, b]
        rw [e, b]
        simp only [↓reduceIte, Bool.false_eq_true, if_false]
        exact rt_ret ⟨same1, F1⟩
      · rw [b]
        simp only [↓reduceIte, if_true]
        have FMP : ∀ C2, Fr (fun b => b = a ∨ b = a + 6) C1 C2 → Fr (PX a) C C2 := fun C2 F => F1.trans (F.mono (fun b hb => by unfold PX; omega))
        by_cases s0 : stage = 0
        · rw [if_pos s0]
          have e : sMeet S t stage pl o (r, its) = (sMkW S t pl o r, its) := by
            simp [sMeet, hk, s0, b]
          rw [e]
          refine rt_bind (rt_mono w56 (fun _ C2 H => ?_))
          obtain ⟨H1, H2, H3, H4⟩ := H
          dsimp only
          have y8 : cI C2 a 8 = 0 := by rw [H3 8 (by omega), z8, s0]; rfl
          have it0 := hl0 s0
          subst it0
          have it2 : ∀ C3, cI C3 a 9 = cI C1 a 9 → ItC C3 a S t stage [] := fun C3 q => ⟨by rw [q, d0]; exact hI.1, by simp, fun i hi => by cases hi⟩
          rw [if_pos y8]
          have eo : sOver S (rT r) t pl o = qf (ovF S (rT r) t pl o) (sCols S) 0 := rfl
          cases ho2 : qf (ovF S (rT r) t pl o) (sCols S) 0 with
          | some d =>
            rw [ho2] at H4 eo
            obtain ⟨q1, q2, q3⟩ := H4
            have ne2 : ¬ (2 : Int32) = 0 := by decide
            rw [q1, if_pos ne2]
            have e2 : sMkW S t pl o r = rEnd r 2 (oI pl) (nI d) := by rw [sMkW, eo]
            rw [e2]
            refine rt_ret ⟨⟨⟨f1'.of (H1.2.1 _ (by omega)) (H1.2.1 _ (by omega)), by rw [H3 8 (by omega)]; exact z8, by rw [H3 10 (by omega), d0]; exact f3, q1, q2, q3, fun p hp => by rw [H1.2.1 _ (by omega), d7]; exact f7 p hp⟩, fun z => ?_⟩, FMP C2 H1⟩
            exact absurd z ne2
          | none =>
            rw [ho2] at H4 eo
            obtain ⟨q1, q2⟩ := H4
            have y11 : cI C2 a 11 = 0 := by rw [q1, d0]; exact f4
            simp only [↓reduceIte, y11, not_true, if_false]
            have e2 : sMkW S t pl o r = sWrite t pl (mkS S (rT r) t pl o) r := by rw [sMkW, eo]
            rw [e2]
            have P2 : PsF C2 a S stage r := P1.of (fun f _ _ => by rw [q1]) (H1.2.1 _ (by omega)) (H1.2.1 _ (by omega)) (H1.2.1 _ (by omega))
            have K2 := K1.fr H1 (fun b hb => by omega)
            have e4 : cI C2 (a + 4) j = oI pl := by rw [H1.2.1 _ (by omega), d4, if_pos rfl]
            refine rt_bind (rt_mono (c57 (n := n) (mk := mkS S (rT r) t pl o) hj hp1 K2 P2 hw hnew (fun p z _ => (hp p z).2) ⟨e4, fun d hd hv => q2 d (by omega) (by omega) hv⟩ (by omega)) (fun _ C3 G => ?_))
            refine rt_ret ⟨⟨G.1, fun _ => it2 C3 (by rw [G.2.2, q1])⟩, (FMP C2 H1).trans (G.2.1.mono (fun b hb => by unfold PX; omega))⟩
        · rw [if_neg s0]
          by_cases s3 : stage = 3
          · rw [if_pos s3]
            have e : sMeet S t stage pl o (r, its) = (match sOver S (rT r) t pl o with
              | some c => (rEnd r 2 (oI pl) (nI c), its)
              | none => (r, its ++ [(pl, o, mkS S (rT r) t pl o)])) := by
              simp [sMeet, hk, s3, b]
              cases sOver S (rT r) t pl o <;> rfl
            rw [e]
            refine rt_bind (rt_mono w56 (fun _ C2 H => ?_))
            obtain ⟨H1, H2, H3, H4⟩ := H
            dsimp only
            have y8 : ¬ cI C2 a 8 = 0 := by rw [H3 8 (by omega), z8, s3]; decide
            rw [if_neg y8]
            have y9 : cI C2 a 9 = nI j := by rw [H3 9 (by omega), z9 s0]
            have eo : sOver S (rT r) t pl o = qf (ovF S (rT r) t pl o) (sCols S) 0 := rfl
            have u : ∀ f, ¬ f = 9 → cI (uI C2 a 9 (cI C2 a 9 + 1)) a f = cI C2 a f := fun f hf => by rw [r_I, if_neg (fun w => hf w.2)]
            cases ho2 : qf (ovF S (rT r) t pl o) (sCols S) 0 with
            | some d =>
              rw [ho2] at H4 eo
              obtain ⟨q1, q2, q3⟩ := H4
              have ne2 : ¬ (2 : Int32) = 0 := by decide
              rw [eo]
              refine rt_ret ⟨⟨⟨f1'.of (by rw [r_In (by omega)]; exact H1.2.1 _ (by omega)) (by rw [r_In (by omega)]; exact H1.2.1 _ (by omega)), by rw [u 8 (by omega), H3 8 (by omega)]; exact z8, by rw [u 10 (by omega), H3 10 (by omega), d0]; exact f3, by rw [u 11 (by omega)]; exact q1, by rw [u 12 (by omega)]; exact q2, by rw [u 13 (by omega)]; exact q3, fun p hp => by rw [r_In (by omega), H1.2.1 _ (by omega), d7]; exact f7 p hp⟩, fun z => ?_⟩, (FMP C2 H1).uI (a := a) (Or.inl rfl)⟩
              exact absurd z ne2
            | none =>
              rw [ho2] at H4 eo
              obtain ⟨q1, q2⟩ := H4
              rw [eo]
              have P2 : PsF C2 a S stage r := P1.of (fun f _ _ => by rw [q1]) (H1.2.1 _ (by omega)) (H1.2.1 _ (by omega)) (H1.2.1 _ (by omega))
              refine rt_ret ⟨⟨P2.of (fun f _ z => u f z) (r_In (by omega)) (r_In (by omega)) (r_In (by omega)), fun _ => ?_⟩, (FMP C2 H1).uI (a := a) (Or.inl rfl)⟩
              have jl := hj1 s0
              subst jl
              have e4 : ∀ i, cI (uI C2 a 9 (cI C2 a 9 + 1)) (a + 4) i = cI C1 (a + 4) i := fun i => by rw [r_In (by omega), H1.2.1 _ (by omega)]
              have e5 : ∀ i, cI (uI C2 a 9 (cI C2 a 9 + 1)) (a + 5) i = cI C1 (a + 5) i := fun i => by rw [r_In (by omega), H1.2.1 _ (by omega)]
              refine hI.push hj (by rw [r_I, if_pos ⟨rfl, rfl⟩, y9, x_a1]) (fun i hi => by rw [e4, d4, if_neg (by omega)]) (fun i hi => by rw [e5, d5, if_neg (by omega)]) (fun i hi => by rw [r_In (by omega), H2 i (by omega), d6]) hcol (by rw [e4, d4, if_pos rfl]) (by rw [e5, d5, if_pos rfl]) (fun _ => ⟨by rw [e4, d4, if_pos rfl], fun d hd hv => ?_⟩)
              rw [r_In (by omega)]
              exact q2 d (by omega) (by omega) hv
          · rw [if_neg s3]
            have e : sMeet S t stage pl o (r, its) = (r, its ++ [(pl, o, fun _ => 0)]) := by
              simp [sMeet, hk, s3, s0, b]
            rw [e]
            exact push s0 s3
  have km : ∀ p, pl = some p → oI pl = nI p ∧ ¬ nI p = (-1 : Int32) := fun p z => ⟨by rw [z]; rfl, by rw [x_eqm (by have := hp1 p z; omega)]; exact id⟩
  have w103s := fun e => show f_103 n s st (a + 1) (oI pl) C1 = some (e, C1) ↔ _ from Iff.rfl
  clear w103s
  unfold f_53
  by_cases hkp : isKpt t pl = true
  · -- kept
    unfold isKpt at hkp
    simp only [Bool.and_eq_true, decide_eq_true_eq] at hkp
    obtain ⟨q1, q2⟩ := hkp
    cases hpl : pl with
    | none => rw [hpl] at q2; cases q2
    | some p =>
      obtain ⟨m1, m2⟩ := km p hpl
      have e : sMeet S t stage (some p) o (r, its) = (r, its) := by simp [sMeet, isKpt, q1]
      rw [e]
      have n2 : nI 2 = (2 : Int32) := rfl
      by_cases s0 : stage = 0
      · have y8 : cI C a 8 = 0 := by rw [f2, s0]; rfl
        simp only [↓reduceIte, k3.k, if_true, if_false, y8, not_true, oI_s, m2, ↓bd1 g6, kt.1, g9.2.2.1, q1, n2]
        exact rt_ret ⟨same, Fr.refl _ _⟩
      · have y8 : ¬ cI C a 8 = 0 := by rw [f2, x_eq0 (by omega)]; exact s0
        have y9 := j9 s0
        have yl : ¬ nI j < 0 := by rw [x_lt0 (by omega)]; exact id
        have yg : ¬ (40 : Int32) ≤ nI j := by rw [n_40, x_le (by omega) (by omega)]; omega
        simp only [↓reduceIte, k3.k, if_true, if_false, y8, not_true, not_false_iff, y9, yl, yg, oI_s, m2, ↓bd1 g6, kt.1, g9.2.2.1, q1, n2]
        exact rt_ret ⟨same, Fr.refl _ _⟩
  · have hk : isKpt t pl = false := by simpa using hkp
    have M := main hk
    have nk : ∀ p, pl = some p → ¬ tCh t = 2 := fun p z w => by
      rw [z] at hk
      simp [isKpt, w] at hk
    have a54 : ¬ a + 5 = a + 4 := by omega
    have i4 : amIn (nI j) 40 = true := by rw [x_in (by omega)]; exact hj
    have i0 : amIn (0 : Int32) 40 = true := by decide
    have hst4 : stage = 0 ∨ stage = 1 ∨ stage = 2 ∨ stage = 3 := by omega
    rcases hst4 with e | e | e | e
    · subst e
      have t0 : (nI 0 = (0 : Int32)) = True := by decide
      have t1 : (nI 0 = (1 : Int32)) = False := by decide
      have t3 : (nI 0 = (3 : Int32)) = False := by decide
      have jz := hj0 rfl
      subst jz
      have jc : nI 0 = (0 : Int32) := rfl
      rw [jc] at M
      cases hpl : pl with
      | none =>
        rcases bcs (sHolds S (rT r) pl t) with b | b
        · have w : f_103 n s st (a + 1) (oI pl) C1 = some (0, C1) := by rw [w103, b]; rfl
          rw [b] at M
          simp only [↓reduceIte, if_true, if_false, Bool.false_eq_true, show (0 : Nat) = 0 ↔ True from by decide, show (0 : Nat) = 1 ↔ False from by decide, show (0 : Nat) = 3 ↔ False from by decide] at M
          rw [hpl] at w M hC1
          simp (disch := omega) only [↓reduceIte, k3.k, if_true, if_false, f2, z8, t0, t1, t3, not_true, not_false_iff, show (oI none = (-1 : Int32)) ↔ True from by decide, ↓bd1 k3.p2, ↓bp_I, ↓bd1 k3.p3, k3.k4, k3.k5, k3.l4, k3.l5, i0, x_cl0, hC1, ↓bd1 (show cP C1 a 6 = some s from K1.2.2.2.2.1), ↓bd1 (show cP C1 a 7 = some st from K1.2.2.2.2.2.1), ↓bd1 (show cP C1 a 0 = some (a + 1) from (pa_of K1.1 g2).p0), (sc_of K1.1 g3).k, ↓bd1 g5, ↓bd1 g6, ↓bd1 k3.p0, Option.bind_some, w, ne1]
          exact M
        · have w : f_103 n s st (a + 1) (oI pl) C1 = some (1, C1) := by rw [w103, b]; rfl
          rw [b] at M
          simp only [↓reduceIte, if_true, if_false, Bool.false_eq_true, show (0 : Nat) = 0 ↔ True from by decide, show (0 : Nat) = 1 ↔ False from by decide, show (0 : Nat) = 3 ↔ False from by decide] at M
          rw [hpl] at w M hC1
          simp (disch := omega) only [↓reduceIte, k3.k, if_true, if_false, f2, z8, t0, t1, t3, not_true, not_false_iff, show (oI none = (-1 : Int32)) ↔ True from by decide, ↓bd1 k3.p2, ↓bp_I, ↓bd1 k3.p3, k3.k4, k3.k5, k3.l4, k3.l5, i0, x_cl0, hC1, ↓bd1 (show cP C1 a 6 = some s from K1.2.2.2.2.1), ↓bd1 (show cP C1 a 7 = some st from K1.2.2.2.2.2.1), ↓bd1 (show cP C1 a 0 = some (a + 1) from (pa_of K1.1 g2).p0), (sc_of K1.1 g3).k, ↓bd1 g5, ↓bd1 g6, ↓bd1 k3.p0, Option.bind_some, w, ne1]
          exact M
      | some p =>
        obtain ⟨m1, m2⟩ := km p hpl
        have nk2 : (nI (tCh t) = (2 : Int32)) = False := by
          have := nk p hpl
          rw [n_2, x_eq (by omega) (by omega)]
          simp [this]
        rw [← hpl]
        rcases bcs (sHolds S (rT r) pl t) with b | b
        · have w : f_103 n s st (a + 1) (oI pl) C1 = some (0, C1) := by rw [w103, b]; rfl
          rw [b] at M
          simp only [↓reduceIte, if_true, if_false, Bool.false_eq_true, show (0 : Nat) = 0 ↔ True from by decide, show (0 : Nat) = 1 ↔ False from by decide, show (0 : Nat) = 3 ↔ False from by decide] at M
          rw [m1] at w hC1
          simp (disch := omega) only [↓reduceIte, k3.k, if_true, if_false, f2, z8, t0, t1, t3, not_true, not_false_iff, m1, m2, ↓bd1 g6, kt.1, g9.2.2.1, nk2, ↓bd1 k3.p2, ↓bp_I, ↓bd1 k3.p3, k3.k4, k3.k5, k3.l4, k3.l5, i0, x_cl0, hC1, ↓bd1 (show cP C1 a 6 = some s from K1.2.2.2.2.1), ↓bd1 (show cP C1 a 7 = some st from K1.2.2.2.2.2.1), ↓bd1 (show cP C1 a 0 = some (a + 1) from (pa_of K1.1 g2).p0), (sc_of K1.1 g3).k, ↓bd1 g5, ↓bd1 g6, ↓bd1 k3.p0, Option.bind_some, w, ne1]
          exact M
        · have w : f_103 n s st (a + 1) (oI pl) C1 = some (1, C1) := by rw [w103, b]; rfl
          rw [b] at M
          simp only [↓reduceIte, if_true, if_false, Bool.false_eq_true, show (0 : Nat) = 0 ↔ True from by decide, show (0 : Nat) = 1 ↔ False from by decide, show (0 : Nat) = 3 ↔ False from by decide] at M
          rw [m1] at w hC1
          simp (disch := omega) only [↓reduceIte, k3.k, if_true, if_false, f2, z8, t0, t1, t3, not_true, not_false_iff, m1, m2, ↓bd1 g6, kt.1, g9.2.2.1, nk2, ↓bd1 k3.p2, ↓bp_I, ↓bd1 k3.p3, k3.k4, k3.k5, k3.l4, k3.l5, i0, x_cl0, hC1, ↓bd1 (show cP C1 a 6 = some s from K1.2.2.2.2.1), ↓bd1 (show cP C1 a 7 = some st from K1.2.2.2.2.2.1), ↓bd1 (show cP C1 a 0 = some (a + 1) from (pa_of K1.1 g2).p0), (sc_of K1.1 g3).k, ↓bd1 g5, ↓bd1 g6, ↓bd1 k3.p0, Option.bind_some, w, ne1]
          exact M
    · subst e
      have t0 : (nI 1 = (0 : Int32)) = False := by decide
      have t1 : (nI 1 = (1 : Int32)) = True := by decide
      have t3 : (nI 1 = (3 : Int32)) = False := by decide
      have y9 := j9 (by decide)
      have yl : ¬ nI j < 0 := by rw [x_lt0 (by omega)]; exact id
      have yg : ¬ (40 : Int32) ≤ nI j := by rw [n_40, x_le (by omega) (by omega)]; omega
      cases hpl : pl with
      | none =>
        rw [hpl] at M hC1
        simp only [↓reduceIte, if_true, if_false, show (1 : Nat) = 0 ↔ False from by decide, show (1 : Nat) = 1 ↔ True from by decide, show (1 : Nat) = 3 ↔ False from by decide] at M
        simp (disch := omega) only [↓reduceIte, k3.k, if_true, if_false, f2, z8, t0, t1, t3, not_true, not_false_iff, y9, yl, yg, show (oI none = (-1 : Int32)) ↔ True from by decide, ↓bd1 k3.p2, ↓bp_I, ↓bd1 k3.p3, k3.k4, k3.k5, k3.l4, k3.l5, i4, cl, hC1, ↓bd1 (show cP C1 a 6 = some s from K1.2.2.2.2.1), ↓bd1 (show cP C1 a 7 = some st from K1.2.2.2.2.2.1), ↓bd1 (show cP C1 a 0 = some (a + 1) from (pa_of K1.1 g2).p0), (sc_of K1.1 g3).k, ↓bd1 g5, ↓bd1 g6, ↓bd1 k3.p0, Option.bind_some]
        exact M
      | some p =>
        obtain ⟨m1, m2⟩ := km p hpl
        have nk2 : (nI (tCh t) = (2 : Int32)) = False := by
          have := nk p hpl
          rw [n_2, x_eq (by omega) (by omega)]
          simp [this]
        rw [← hpl]
        rw [m1] at hC1
        simp only [↓reduceIte, if_true, if_false, show (1 : Nat) = 0 ↔ False from by decide, show (1 : Nat) = 1 ↔ True from by decide, show (1 : Nat) = 3 ↔ False from by decide] at M
        simp (disch := omega) only [↓reduceIte, k3.k, if_true, if_false, f2, z8, t0, t1, t3, not_true, not_false_iff, y9, yl, yg, m1, m2, ↓bd1 g6, kt.1, g9.2.2.1, nk2, ↓bd1 k3.p2, ↓bp_I, ↓bd1 k3.p3, k3.k4, k3.k5, k3.l4, k3.l5, i4, cl, hC1, ↓bd1 (show cP C1 a 6 = some s from K1.2.2.2.2.1), ↓bd1 (show cP C1 a 7 = some st from K1.2.2.2.2.2.1), ↓bd1 (show cP C1 a 0 = some (a + 1) from (pa_of K1.1 g2).p0), (sc_of K1.1 g3).k, ↓bd1 g5, ↓bd1 g6, ↓bd1 k3.p0, Option.bind_some]
        exact M
    · subst e
      have t0 : (nI 2 = (0 : Int32)) = False := by decide
      have t1 : (nI 2 = (1 : Int32)) = False := by decide
      have t3 : (nI 2 = (3 : Int32)) = False := by decide
      have y9 := j9 (by decide)
      have yl : ¬ nI j < 0 := by rw [x_lt0 (by omega)]; exact id
      have yg : ¬ (40 : Int32) ≤ nI j := by rw [n_40, x_le (by omega) (by omega)]; omega
      cases hpl : pl with
      | none =>
        rcases bcs (sHolds S (rT r) pl t) with b | b
        · have w : f_103 n s st (a + 1) (oI pl) C1 = some (0, C1) := by rw [w103, b]; rfl
          rw [b] at M
          simp only [↓reduceIte, if_true, if_false, Bool.false_eq_true, show (2 : Nat) = 0 ↔ False from by decide, show (2 : Nat) = 1 ↔ False from by decide, show (2 : Nat) = 3 ↔ False from by decide] at M
          rw [hpl] at w M hC1
          simp (disch := omega) only [↓reduceIte, k3.k, if_true, if_false, f2, z8, t0, t1, t3, not_true, not_false_iff, y9, yl, yg, show (oI none = (-1 : Int32)) ↔ True from by decide, ↓bd1 k3.p2, ↓bp_I, ↓bd1 k3.p3, k3.k4, k3.k5, k3.l4, k3.l5, i4, cl, hC1, ↓bd1 (show cP C1 a 6 = some s from K1.2.2.2.2.1), ↓bd1 (show cP C1 a 7 = some st from K1.2.2.2.2.2.1), ↓bd1 (show cP C1 a 0 = some (a + 1) from (pa_of K1.1 g2).p0), (sc_of K1.1 g3).k, ↓bd1 g5, ↓bd1 g6, ↓bd1 k3.p0, Option.bind_some, w, ne1]
          exact M
        · have w : f_103 n s st (a + 1) (oI pl) C1 = some (1, C1) := by rw [w103, b]; rfl
          rw [b] at M
          simp only [↓reduceIte, if_true, if_false, Bool.false_eq_true, show (2 : Nat) = 0 ↔ False from by decide, show (2 : Nat) = 1 ↔ False from by decide, show (2 : Nat) = 3 ↔ False from by decide] at M
          rw [hpl] at w M hC1
          simp (disch := omega) only [↓reduceIte, k3.k, if_true, if_false, f2, z8, t0, t1, t3, not_true, not_false_iff, y9, yl, yg, show (oI none = (-1 : Int32)) ↔ True from by decide, ↓bd1 k3.p2, ↓bp_I, ↓bd1 k3.p3, k3.k4, k3.k5, k3.l4, k3.l5, i4, cl, hC1, ↓bd1 (show cP C1 a 6 = some s from K1.2.2.2.2.1), ↓bd1 (show cP C1 a 7 = some st from K1.2.2.2.2.2.1), ↓bd1 (show cP C1 a 0 = some (a + 1) from (pa_of K1.1 g2).p0), (sc_of K1.1 g3).k, ↓bd1 g5, ↓bd1 g6, ↓bd1 k3.p0, Option.bind_some, w, ne1]
          exact M
      | some p =>
        obtain ⟨m1, m2⟩ := km p hpl
        have nk2 : (nI (tCh t) = (2 : Int32)) = False := by
          have := nk p hpl
          rw [n_2, x_eq (by omega) (by omega)]
          simp [this]
        rw [← hpl]
        rcases bcs (sHolds S (rT r) pl t) with b | b
        · have w : f_103 n s st (a + 1) (oI pl) C1 = some (0, C1) := by rw [w103, b]; rfl
          rw [b] at M
          simp only [↓reduceIte, if_true, if_false, Bool.false_eq_true, show (2 : Nat) = 0 ↔ False from by decide, show (2 : Nat) = 1 ↔ False from by decide, show (2 : Nat) = 3 ↔ False from by decide] at M
          rw [m1] at w hC1
          simp (disch := omega) only [↓reduceIte, k3.k, if_true, if_false, f2, z8, t0, t1, t3, not_true, not_false_iff, y9, yl, yg, m1, m2, ↓bd1 g6, kt.1, g9.2.2.1, nk2, ↓bd1 k3.p2, ↓bp_I, ↓bd1 k3.p3, k3.k4, k3.k5, k3.l4, k3.l5, i4, cl, hC1, ↓bd1 (show cP C1 a 6 = some s from K1.2.2.2.2.1), ↓bd1 (show cP C1 a 7 = some st from K1.2.2.2.2.2.1), ↓bd1 (show cP C1 a 0 = some (a + 1) from (pa_of K1.1 g2).p0), (sc_of K1.1 g3).k, ↓bd1 g5, ↓bd1 g6, ↓bd1 k3.p0, Option.bind_some, w, ne1]
          exact M
        · have w : f_103 n s st (a + 1) (oI pl) C1 = some (1, C1) := by rw [w103, b]; rfl
          rw [b] at M
          simp only [↓reduceIte, if_true, if_false, Bool.false_eq_true, show (2 : Nat) = 0 ↔ False from by decide, show (2 : Nat) = 1 ↔ False from by decide, show (2 : Nat) = 3 ↔ False from by decide] at M
          rw [m1] at w hC1
          simp (disch := omega) only [↓reduceIte, k3.k, if_true, if_false, f2, z8, t0, t1, t3, not_true, not_false_iff, y9, yl, yg, m1, m2, ↓bd1 g6, kt.1, g9.2.2.1, nk2, ↓bd1 k3.p2, ↓bp_I, ↓bd1 k3.p3, k3.k4, k3.k5, k3.l4, k3.l5, i4, cl, hC1, ↓bd1 (show cP C1 a 6 = some s from K1.2.2.2.2.1), ↓bd1 (show cP C1 a 7 = some st from K1.2.2.2.2.2.1), ↓bd1 (show cP C1 a 0 = some (a + 1) from (pa_of K1.1 g2).p0), (sc_of K1.1 g3).k, ↓bd1 g5, ↓bd1 g6, ↓bd1 k3.p0, Option.bind_some, w, ne1]
          exact M
    · subst e
      have t0 : (nI 3 = (0 : Int32)) = False := by decide
      have t1 : (nI 3 = (1 : Int32)) = False := by decide
      have t3 : (nI 3 = (3 : Int32)) = True := by decide
      have y9 := j9 (by decide)
      have yl : ¬ nI j < 0 := by rw [x_lt0 (by omega)]; exact id
      have yg : ¬ (40 : Int32) ≤ nI j := by rw [n_40, x_le (by omega) (by omega)]; omega
      cases hpl : pl with
      | none =>
        rcases bcs (sHolds S (rT r) pl t) with b | b
        · have w : f_103 n s st (a + 1) (oI pl) C1 = some (0, C1) := by rw [w103, b]; rfl
          rw [b] at M
          simp only [↓reduceIte, if_true, if_false, Bool.false_eq_true, show (3 : Nat) = 0 ↔ False from by decide, show (3 : Nat) = 1 ↔ False from by decide, show (3 : Nat) = 3 ↔ True from by decide] at M
          rw [hpl] at w M hC1
          simp (disch := omega) only [↓reduceIte, k3.k, if_true, if_false, f2, z8, t0, t1, t3, not_true, not_false_iff, y9, yl, yg, show (oI none = (-1 : Int32)) ↔ True from by decide, ↓bd1 k3.p2, ↓bp_I, ↓bd1 k3.p3, k3.k4, k3.k5, k3.l4, k3.l5, i4, cl, hC1, ↓bd1 (show cP C1 a 6 = some s from K1.2.2.2.2.1), ↓bd1 (show cP C1 a 7 = some st from K1.2.2.2.2.2.1), ↓bd1 (show cP C1 a 0 = some (a + 1) from (pa_of K1.1 g2).p0), (sc_of K1.1 g3).k, ↓bd1 g5, ↓bd1 g6, ↓bd1 k3.p0, Option.bind_some, w, ne1]
          exact M
        · have w : f_103 n s st (a + 1) (oI pl) C1 = some (1, C1) := by rw [w103, b]; rfl
          rw [b] at M
          simp only [↓reduceIte, if_true, if_false, Bool.false_eq_true, show (3 : Nat) = 0 ↔ False from by decide, show (3 : Nat) = 1 ↔ False from by decide, show (3 : Nat) = 3 ↔ True from by decide] at M
          rw [hpl] at w M hC1
          simp (disch := omega) only [↓reduceIte, k3.k, if_true, if_false, f2, z8, t0, t1, t3, not_true, not_false_iff, y9, yl, yg, show (oI none = (-1 : Int32)) ↔ True from by decide, ↓bd1 k3.p2, ↓bp_I, ↓bd1 k3.p3, k3.k4, k3.k5, k3.l4, k3.l5, i4, cl, hC1, ↓bd1 (show cP C1 a 6 = some s from K1.2.2.2.2.1), ↓bd1 (show cP C1 a 7 = some st from K1.2.2.2.2.2.1), ↓bd1 (show cP C1 a 0 = some (a + 1) from (pa_of K1.1 g2).p0), (sc_of K1.1 g3).k, ↓bd1 g5, ↓bd1 g6, ↓bd1 k3.p0, Option.bind_some, w, ne1]
          exact M
      | some p =>
        obtain ⟨m1, m2⟩ := km p hpl
        have nk2 : (nI (tCh t) = (2 : Int32)) = False := by
          have := nk p hpl
          rw [n_2, x_eq (by omega) (by omega)]
          simp [this]
        rw [← hpl]
        rcases bcs (sHolds S (rT r) pl t) with b | b
        · have w : f_103 n s st (a + 1) (oI pl) C1 = some (0, C1) := by rw [w103, b]; rfl
          rw [b] at M
          simp only [↓reduceIte, if_true, if_false, Bool.false_eq_true, show (3 : Nat) = 0 ↔ False from by decide, show (3 : Nat) = 1 ↔ False from by decide, show (3 : Nat) = 3 ↔ True from by decide] at M
          rw [m1] at w hC1
          simp (disch := omega) only [↓reduceIte, k3.k, if_true, if_false, f2, z8, t0, t1, t3, not_true, not_false_iff, y9, yl, yg, m1, m2, ↓bd1 g6, kt.1, g9.2.2.1, nk2, ↓bd1 k3.p2, ↓bp_I, ↓bd1 k3.p3, k3.k4, k3.k5, k3.l4, k3.l5, i4, cl, hC1, ↓bd1 (show cP C1 a 6 = some s from K1.2.2.2.2.1), ↓bd1 (show cP C1 a 7 = some st from K1.2.2.2.2.2.1), ↓bd1 (show cP C1 a 0 = some (a + 1) from (pa_of K1.1 g2).p0), (sc_of K1.1 g3).k, ↓bd1 g5, ↓bd1 g6, ↓bd1 k3.p0, Option.bind_some, w, ne1]
          exact M
        · have w : f_103 n s st (a + 1) (oI pl) C1 = some (1, C1) := by rw [w103, b]; rfl
          rw [b] at M
          simp only [↓reduceIte, if_true, if_false, Bool.false_eq_true, show (3 : Nat) = 0 ↔ False from by decide, show (3 : Nat) = 1 ↔ False from by decide, show (3 : Nat) = 3 ↔ True from by decide] at M
          rw [m1] at w hC1
          simp (disch := omega) only [↓reduceIte, k3.k, if_true, if_false, f2, z8, t0, t1, t3, not_true, not_false_iff, y9, yl, yg, m1, m2, ↓bd1 g6, kt.1, g9.2.2.1, nk2, ↓bd1 k3.p2, ↓bp_I, ↓bd1 k3.p3, k3.k4, k3.k5, k3.l4, k3.l5, i4, cl, hC1, ↓bd1 (show cP C1 a 6 = some s from K1.2.2.2.2.1), ↓bd1 (show cP C1 a 7 = some st from K1.2.2.2.2.2.1), ↓bd1 (show cP C1 a 0 = some (a + 1) from (pa_of K1.1 g2).p0), (sc_of K1.1 g3).k, ↓bd1 g5, ↓bd1 g6, ↓bd1 k3.p0, Option.bind_some, w, ne1]
          exact M
