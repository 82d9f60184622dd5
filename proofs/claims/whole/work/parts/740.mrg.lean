/-! The class reads a merge. -/
section
variable {n s i j N A V cols st F : Nat} {C C' C1 : AmC} {x : Nat → Nat} {t : Tel}
theorem c38 {D : AmC} : f_38 n 109 1 1 D = some ((), uI (uI D 109 11 1) 109 12 1) := by
  unfold f_38
  rw [if_pos k_109, if_pos (Or.inr rfl), if_pos (Or.inr rfl)]
theorem c37 (hn : 3000 ≤ n) (hP : PS C s x N i t A V F) (hm : (sStm t.1).length < 8) (hk : tK x N i = 208) : Rt (f_37 n 109 C) (RStm s x N C t (spG x N (sCols t.1) i)) := by
  have hP' := hP
  obtain ⟨q1, q2, q3, q4, q5, ⟨q6, q6', q6''⟩, q7, q8, q9, q10, q11, q12, q13⟩ := hP
  have hs := q1.2.1
  have sl := scr_lt hs
  have w := ps_1 (x := x) (N := N) (i := i) (by omega)
  have hst := stm_in hs hm
  have N9 := q1.2.2.2.2.2.2.2.2
  unfold f_37
  rw [if_pos k_109]
  refine rt_bind (rt_mono (c33 (F := F) (by omega) q1 (by omega) hm q2.2.2.2.2.2.2.1 q5) (fun z C1 H => ?_))
  obtain ⟨rfl, p1, e8, es, F1, o1, l1, b0, b1, b2, b3, b4, b7, b8, bs, bv⟩ := H
  obtain ⟨U1, A1⟩ := beg_u (A := A) (V := V) (F := F) (by omega) F1 es hs
  generalize st_ : s + 16 + 3 * (sStm t.1).length = st at *
  dsimp only
  rw [if_pos (st_of p1.1 hst).1]
  have U1' : FrU s st A V F C (uI C1 st 0 1) := U1.st1 (by omega) (by omega) (by omega)
  refine rt_bind (rt_mono (c31 (cols := sCols t.1) (p1.cell (by omega)) (by rw [r_In (by omega), es 0 (by omega)]; exact q2.1) q9) (fun z C2 H => ?_))
  obtain ⟨F2, ⟨k, j, er, rfl, fl⟩ | ⟨a, j, er, rfl, p2, ea⟩⟩ := H
  · dsimp only
    rw [if_neg (fun q => q rfl)]
    exact rt_ret (RStm.fl ((U1'.pa hs F2.1).w (by omega) (by omega)) (by unfold spG; rw [er]) fl)
  obtain ⟨ka, _, la, rfl⟩ := spC_ps er
  have c2 : ∀ y, y ≠ 109 → y ≠ st → cI C2 y = cI C1 y := fun y z1 z2 => by rw [F2.1.2.1 y z1, r_In z2]
  have c2s : ∀ f, f ≠ 0 → cI C2 st f = cI C1 st f := fun f z => by rw [F2.1.2.1 st (by omega), r_I, if_neg (by omega)]
  have c20 : cI C2 st 0 = 1 := by rw [F2.1.2.1 st (by omega), r_I, if_pos ⟨rfl, rfl⟩]
  have U2 : FrU s st A V F C (uI C2 st 3 (nI a)) := (U1'.pa hs F2.1).st1 (by omega) (by omega) (by omega)
  dsimp only
  rw [if_pos (by decide), ea]
  refine rt_bind (rt_mono (c31 (cols := sCols t.1) (p2.cell (by omega)) (by rw [r_In (by omega), c2 s (by omega) (by omega), es 0 (by omega)]; exact q2.1) q9) (fun z C3 H => ?_))
  obtain ⟨F3, ⟨k, j, er3, rfl, fl⟩ | ⟨b, j, er3, rfl, p3, eb⟩⟩ := H
  · dsimp only
    rw [if_neg (fun q => q rfl)]
    exact rt_ret (RStm.fl ((U2.pa hs F3.1).w (by omega) (by omega)) (by unfold spG; rw [er]; dsimp only; rw [er3]) fl)
  obtain ⟨kb, _, lb, rfl⟩ := spC_ps er3
  have c3 : ∀ y, y ≠ 109 → y ≠ st → cI C3 y = cI C1 y := fun y z1 z2 => by rw [F3.1.2.1 y z1, r_In z2, c2 y z1 z2]
  have c3s : ∀ f, f ≠ 0 → f ≠ 3 → cI C3 st f = cI C1 st f := fun f z z3 => by rw [F3.1.2.1 st (by omega), r_I, if_neg (by omega), c2s f z]
  have c30' : cI C3 st 0 = 1 := by rw [F3.1.2.1 st (by omega), r_I, if_neg (by omega)]; exact c20
  have c33' : cI C3 st 3 = nI a := by rw [F3.1.2.1 st (by omega), r_I, if_pos ⟨rfl, rfl⟩]
  have U3 : FrU s st A V F C (uI C3 st 4 (nI b)) := (U2.pa hs F3.1).st1 (by omega) (by omega) (by omega)
  have p4 : Pc (uI C3 st 4 (nI b)) s x N (i + 1 + 1 + 1) := p3.cell (by omega)
  have w1 := ps_1 (x := x) (N := N) (i := i + 1) (by omega)
  have w2 := ps_1 (x := x) (N := N) (i := i + 1 + 1) (by omega)
  have sG : spG x N (sCols t.1) i = (match spG1 x N (sCols t.1) (i + 1 + 1 + 1) with
      | .inl e => .inl e
      | .inr (h, j3) => match spG2 x N (sCols t.1) j3 with
        | .inl e => .inl e
        | .inr (g, j4) => .inr (((3, h.1, a, b), h.2, g, []), j4)) := by
    unfold spG
    rw [er]
    dsimp only
    rw [er3]
    rfl
  generalize i + 1 + 1 + 1 = i3 at *
  dsimp only
  rw [if_pos (by decide), eb, bd1 (c23 p4)]
  dsimp only
  -- what stands behind the word, at how h
  have go : ∀ h : Nat, tK x N i3 ≠ 132 → ∃ D, D = uI (uI (uI (uI (uI C3 st 4 (nI b)) 109 4 ((cI (uI C3 st 4 (nI b)) 109 4) + 1)) st 2 (nI h)) 109 11 1) 109 12 1 ∧ Pc D s x N (i3 + 1) ∧ FrU s st A V F C D ∧ ps x N i3 + 1 ≤ ps x N (i3 + 1) ∧ AC D s A V ∧ cI D s 8 = nI ((sStm t.1).length + 1) ∧ cI D s 17 = nI F ∧ cI D s 0 = nI (sCols t.1) ∧ cI D 109 11 = 1 ∧ cI D 109 12 = 1 ∧ MgC D s st F h a b no4 := by
    intro h hk3
    have c5 : ∀ y, y ≠ 109 → y ≠ st → cI (uI (uI (uI (uI (uI C3 st 4 (nI b)) 109 4 ((cI (uI C3 st 4 (nI b)) 109 4) + 1)) st 2 (nI h)) 109 11 1) 109 12 1) y = cI C1 y := fun y z1 z2 => by rw [r_In z1, r_In z1, r_In z2, r_In z1, r_In z2]; exact c3 y z1 z2
    have c5s : ∀ f, f ≠ 0 → f ≠ 2 → f ≠ 3 → f ≠ 4 → cI (uI (uI (uI (uI (uI C3 st 4 (nI b)) 109 4 ((cI (uI C3 st 4 (nI b)) 109 4) + 1)) st 2 (nI h)) 109 11 1) 109 12 1) st f = cI C1 st f := fun f z0 z2 z3 z4 => by rw [r_In (by omega), r_In (by omega), r_I, if_neg (by omega), r_In (by omega), r_I, if_neg (by omega)]; exact c3s f z0 z3
    have F5 : Fr (fun b => b = 109) (uI C3 st 4 (nI b)) (uI (uI C3 st 4 (nI b)) 109 4 ((cI (uI C3 st 4 (nI b)) 109 4) + 1)) := Fr.uI (S := fun b => b = 109) (Fr.refl _ _) rfl
    have U5 : FrU s st A V F C (uI (uI (uI C3 st 4 (nI b)) 109 4 ((cI (uI C3 st 4 (nI b)) 109 4) + 1)) st 2 (nI h)) := (U3.pa hs F5).st1 (by omega) (by omega) (by omega)
    have F6 : Fr (fun b => b = 109) (uI (uI (uI C3 st 4 (nI b)) 109 4 ((cI (uI C3 st 4 (nI b)) 109 4) + 1)) st 2 (nI h)) (uI (uI (uI (uI (uI C3 st 4 (nI b)) 109 4 ((cI (uI C3 st 4 (nI b)) 109 4) + 1)) st 2 (nI h)) 109 11 1) 109 12 1) := Fr.uI (S := fun b => b = 109) (Fr.uI (S := fun b => b = 109) (Fr.refl _ _) rfl) rfl
    refine ⟨_, rfl, (((p4.go hk3).cell (by omega)).set (by omega)).set (by omega), U5.pa hs F6, ps_1 hk3, ?_, ?_, ?_, ?_, ?_, ?_, ?_, ?_, ?_, ?_, ?_, ?_, ?_, fun c hc => ?_, fun c hc => ?_⟩
    · have := A1 q4
      unfold AC at this ⊢
      rw [c5 s (by omega) (by omega), c5 (s + 13) (by omega) (by omega)]
      exact this
    · rw [c5 s (by omega) (by omega)]; exact e8
    · rw [c5 s (by omega) (by omega), es 17 (by omega)]; exact q5
    · rw [c5 s (by omega) (by omega), es 0 (by omega)]; exact q2.1
    · rw [r_I, if_neg (by omega), r_I, if_pos ⟨rfl, rfl⟩]
    · rw [r_I, if_pos ⟨rfl, rfl⟩]
    · rw [r_In (by omega), r_In (by omega), r_I, if_neg (by omega), r_In (by omega), r_I, if_neg (by omega)]; exact c30'
    · rw [c5s 1 (by omega) (by omega) (by omega) (by omega)]; exact b1
    · rw [r_In (by omega), r_In (by omega), r_I, if_pos ⟨rfl, rfl⟩]
    · rw [r_In (by omega), r_In (by omega), r_I, if_neg (by omega), r_In (by omega), r_I, if_neg (by omega)]; exact c33'
    · rw [r_In (by omega), r_In (by omega), r_I, if_neg (by omega), r_In (by omega), r_I, if_pos ⟨rfl, rfl⟩]
    · rw [c5s 7 (by omega) (by omega) (by omega) (by omega)]; exact b7
    · rw [c5s 8 (by omega) (by omega) (by omega) (by omega)]; exact b8
    · show cI _ _ _ = -1
      rw [c5 _ (by omega) (by omega)]; exact bs c hc
    · show cI _ _ _ = -1
      rw [c5 _ (by omega) (by omega)]; exact bv c hc
  by_cases k9 : tK x N i3 = 209
  · obtain ⟨D, eD, d1, d2, d3, d4, d5, d6, d7, d8, d9, dM⟩ := go 0 (by omega)
    have eD : uI (uI (uI (uI (uI C3 st 4 (nI b)) 109 4 ((cI (uI C3 st 4 (nI b)) 109 4) + 1)) st 2 (0 : Int32)) 109 11 1) 109 12 1 = D := eD.symm
    rw [tq_209.mpr k9, if_pos rfl, if_neg (fun q => q rfl), bd1 c38]
    dsimp only
    rw [if_neg (fun q => q rfl), eD]
    obtain ⟨y0, y1, y2, y3, y4, y7, y8, ys, yv⟩ := dM
    refine rt_bind (rt_mono (c39 (n := n) (T := F) (oth := true) (A := A) (V := V) (cols := sCols t.1) q8 q9 hst (by omega) (by omega) (by omega) d1 d7 d8 d9 d4 (by omega) (by omega) ys) (fun z C6 H => ?_))
    obtain ⟨F6, ⟨k, j, er6, rfl, fl⟩ | ⟨g, j, er6, rfl, p6, ct, G6⟩⟩ := H
    · dsimp only
      rw [if_neg (fun q => q rfl)]
      exact rt_ret (RStm.fl ((d2.trans (F6.u (by omega)) (by omega) (by omega) (Nat.le_refl _)).w (by omega) (by omega)) (by rw [sG]; unfold spG1; rw [if_pos k9, er6]) fl)
    · dsimp only
      rw [if_pos (by decide)]
      have up := (spT_up q8 N9 _ _ _ _ _ er6).1
      have s6 : cI C6 st = cI D st := F6.1.2.1 st (by omega)
      refine c37_t (st := st) (j := j) (h := 0) (a := a) (b := b) (g := g) hn hP' hm st_.symm p6 (d2.trans (F6.u (by omega)) (by omega) (by omega) (Nat.le_refl _)) ct (by omega) (by rw [F6.2.1 8 (by omega) (by omega) (Or.inl (by omega))]; exact d5) (by rw [F6.2.1 17 (by omega) (by omega) (Or.inr rfl)]; exact d6) ⟨by rw [s6]; exact y0, by rw [s6]; exact y1, by rw [s6]; exact y2, by rw [s6]; exact y3, by rw [s6]; exact y4, by rw [s6]; exact y7, by rw [s6]; exact y8, G6, fun c hc => ?_⟩ (by omega) ?_
      · rw [F6.1.2.1 (st + 2) (by omega)]; exact yv c hc
      · rw [sG]; unfold spG1; rw [if_pos k9, er6]; rfl
  by_cases k6 : tK x N i3 = 206
  · obtain ⟨D, eD, d1, d2, d3, d4, d5, d6, d7, d8, d9, dM⟩ := go 1 (by omega)
    have eD : uI (uI (uI (uI (uI C3 st 4 (nI b)) 109 4 ((cI (uI C3 st 4 (nI b)) 109 4) + 1)) st 2 (1 : Int32)) 109 11 1) 109 12 1 = D := eD.symm
    rw [tq_206.mpr k6, if_neg (by decide), if_pos rfl, if_pos (by decide), if_neg (fun q => q rfl), bd1 c38]
    dsimp only
    rw [if_pos (by decide), eD]
    refine c37_t (st := st) (j := i3 + 1) (h := 1) (a := a) (b := b) (g := no4) hn hP' hm st_.symm d1 d2 ⟨A, V, Nat.le_refl _, Nat.le_refl _, d4, by omega, by omega⟩ (by omega) d5 d6 dM (by omega) ?_
    rw [sG]; unfold spG1; rw [if_neg k9, if_pos k6]; rfl
  by_cases k0 : tK x N i3 = 210
  · obtain ⟨D, eD, d1, d2, d3, d4, d5, d6, d7, d8, d9, dM⟩ := go 2 (by omega)
    have eD : uI (uI (uI (uI (uI C3 st 4 (nI b)) 109 4 ((cI (uI C3 st 4 (nI b)) 109 4) + 1)) st 2 (2 : Int32)) 109 11 1) 109 12 1 = D := eD.symm
    rw [tq_210.mpr k0, if_neg (by decide), if_neg (by decide), if_pos rfl, if_pos (by decide), if_pos (by decide), bd1 c38]
    dsimp only
    rw [if_pos (by decide), eD]
    refine c37_t (st := st) (j := i3 + 1) (h := 2) (a := a) (b := b) (g := no4) hn hP' hm st_.symm d1 d2 ⟨A, V, Nat.le_refl _, Nat.le_refl _, d4, by omega, by omega⟩ (by omega) d5 d6 dM (by omega) ?_
    rw [sG]; unfold spG1; rw [if_neg k9, if_neg k6, if_pos k0]; rfl
  rw [if_neg (fun q => k9 (tq_209.mp q)), if_neg (fun q => k6 (tq_206.mp q)), if_neg (fun q => k0 (tq_210.mp q))]
  rw [bd1 (c25 p4)]
  dsimp only
  rw [bool_i]
  have F7 : Fr (fun b => b = 109) (uI C3 st 4 (nI b)) (uI (uI (uI C3 st 4 (nI b)) 109 6 1) 109 7 (nI (ps x N i3))) := Fr.uI (S := fun b => b = 109) (Fr.uI (S := fun b => b = 109) (Fr.refl _ _) rfl) rfl
  exact rt_ret (RStm.fl ((U3.pa hs F7).w (by omega) (by omega)) (by rw [sG]; unfold spG1; rw [if_neg k9, if_neg k6, if_neg k0]) (flt (k := 1) (by omega) rfl))
end
