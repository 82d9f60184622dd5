/-! The class reads statements. -/
section
variable {n s i j N A B V W T U cols st F m : Nat} {C C' C1 : AmC} {x : Nat → Nat} {t : Tel} {oth col : Bool}
theorem spF_some : ∀ k c i g g' j, spF x N oth col cols k c i g = .inr (g', j) → (∀ d, c ≤ d → d < c + k → (g' d).isSome = true) ∧ (∀ d, d < c → g' d = g d) ∧ (∀ d, c + k ≤ d → g' d = g d) := by
  intro k
  induction k with
  | zero =>
    intro c i g g' j h
    cases h
    exact ⟨fun d h1 h2 => absurd h2 (by omega), fun _ _ => rfl, fun _ _ => rfl⟩
  | succ k ih =>
    intro c i g g' j h
    have step : ∀ i2, (match spW x N oth col cols i2 with
        | .inl e => .inl e
        | .inr (v, j) => spF x N oth col cols k (c + 1) j (ufn g c v)) = (.inr (g', j) : PE (Nat → Option Val)) → (∀ d, c ≤ d → d < c + (k + 1) → (g' d).isSome = true) ∧ (∀ d, d < c → g' d = g d) ∧ (∀ d, c + (k + 1) ≤ d → g' d = g d) := by
      intro i2 h2
      cases e : spW x N oth col cols i2 with
      | inl q => rw [e] at h2; cases h2
      | inr q =>
        obtain ⟨v, j2⟩ := q
        rw [e] at h2
        obtain ⟨a1, a2, a3⟩ := ih _ _ _ _ _ h2
        refine ⟨fun d h3 h4 => ?_, fun d h3 => ?_, fun d h3 => ?_⟩
        · by_cases q : d = c
          · subst q
            rw [a2 d (by omega)]
            unfold ufn
            rw [if_pos rfl]
            rfl
          · exact a1 d (by omega) (by omega)
        · rw [a2 d (by omega)]; unfold ufn; rw [if_neg (by omega)]
        · rw [a3 d (by omega)]; unfold ufn; rw [if_neg (by omega)]
    rw [spF] at h
    by_cases c0 : c = 0
    · rw [if_pos c0] at h; exact step i h
    · rw [if_neg c0] at h
      by_cases q : tK x N i = 44
      · rw [if_pos q] at h; exact step (i + 1) h
      · rw [if_neg q] at h; cases h
theorem spT_up (h1c : 1 ≤ cols) (N9 : N ≤ 900) : ∀ f i g g' j, spT x N oth cols f i g = .inr (g', j) → ps x N i + 3 ≤ ps x N j ∧ i < j := by
  intro f
  induction f with
  | zero => intro i g g' j h; cases h
  | succ f ih =>
    intro i g g' j h
    rw [spT] at h
    by_cases e : tK x N i = 130
    · rw [if_pos e] at h
      by_cases e2 : tN x N i < cols ∧ g (tN x N i) = none
      · rw [if_pos e2] at h
        by_cases e3 : tK x N (i + 1) = 61
        · rw [if_pos e3] at h
          cases ew : spW x N oth true cols (i + 2) with
          | inl q => rw [ew] at h; cases h
          | inr q =>
            obtain ⟨v, j1⟩ := q
            rw [ew] at h
            obtain ⟨_, z2, z3, _⟩ := spW_ps h1c N9 ew
            have a1 := ps_1 (x := x) (N := N) (i := i) (by omega)
            have a2 : ps x N (i + 1) + 1 ≤ ps x N (i + 2) := ps_1 (by omega)
            have h : (if tK x N j1 = 44 then spT x N oth cols f (j1 + 1) (ufn g (tN x N i) v) else .inr (ufn g (tN x N i) v, j1)) = (.inr (g', j) : PE (Nat → Option Val)) := h
            by_cases e4 : tK x N j1 = 44
            · rw [if_pos e4] at h
              have a3 := ps_1 (x := x) (N := N) (i := j1) (by omega)
              have := ih _ _ _ _ h
              omega
            · rw [if_neg e4] at h
              cases h
              omega
        · rw [if_neg e3] at h; cases h
      · rw [if_neg e2] at h; cases h
    · rw [if_neg e] at h; cases h
/-- how a statement ends -/
def RStm (s : Nat) (x : Nat → Nat) (N : Nat) (C : AmC) (t : Tel) (r : PE Stm) (z : Int32) (C' : AmC) : Prop := Fr (fun b => b = 109 ∨ (s ≤ b ∧ b < s + 40)) C C' ∧ PRc C' z s x N (spE x N r) (fun t2 j2 => ∃ A' V' F', PS C' s x N j2 (scSt t.1 t2, t.2) A' V' F')
theorem RStm.fl {r : PE Stm} {k : Nat} (hF : Fr (fun b => b = 109 ∨ (s ≤ b ∧ b < s + 40)) C C') (er : r = .inl (k, j)) (f : Flt C' x N k j) : RStm s x N C t r 0 C' := ⟨hF, Or.inl ⟨k, j, by rw [er]; rfl, rfl, f⟩⟩
theorem RStm.b {r : PE Stm} {z : Int32} (h : RStm s x N C t r z C') : Rt (if z = 0 then some ((0 : Int32), C') else some ((1 : Int32), C')) (RStm s x N C t r) := by
  obtain ⟨F1, ⟨k, j, e, rfl, f⟩ | ⟨a, j, e, rfl, f⟩⟩ := h
  · rw [if_pos rfl]; exact rt_ret ⟨F1, Or.inl ⟨k, j, e, rfl, f⟩⟩
  · rw [if_neg (by decide)]; exact rt_ret ⟨F1, Or.inr ⟨a, j, e, rfl, f⟩⟩
theorem RStm.b2 {r : PE Stm} {z : Int32} (h : RStm s x N C t r z C') : Rt (if z = 0 ∨ z = 1 then some (z, C') else none) (RStm s x N C t r) := by
  obtain ⟨F1, ⟨k, j, e, rfl, f⟩ | ⟨a, j, e, rfl, f⟩⟩ := h
  · rw [if_pos (Or.inl rfl)]; exact rt_ret ⟨F1, Or.inl ⟨k, j, e, rfl, f⟩⟩
  · rw [if_pos (Or.inr rfl)]; exact rt_ret ⟨F1, Or.inr ⟨a, j, e, rfl, f⟩⟩
theorem FrU.w (h : FrU s st A V F C C') (s1 : s + 16 ≤ st) (s2 : st + 2 < s + 40) : Fr (fun b => b = 109 ∨ (s ≤ b ∧ b < s + 40)) C C' := h.1.mono (fun b z => by omega)
theorem c_end {t' : Stm} {r : PE Stm} {C3 : AmC} (hP : PS C s x N i t A V F) (hm : (sStm t.1).length < 8) (hst : st = s + 16 + 3 * (sStm t.1).length) (p3 : Pc C3 s x N j) (FU : FrU s st A V F C C3) (e8 : cI C3 s 8 = nI ((sStm t.1).length + 1)) (ct : Cnt C3 s A V x N j) (eF : cI C3 s 17 = nI (F + (tTst t').length)) (b6 : 6 * (F + (tTst t').length) ≤ ps x N j) (sm : StmC (sCols t.1) C3 s st t') (f7 : cI C3 st 7 = nI F) (er : r = .inr (t', j)) : Rt (f_26 n 109 59 C3) (RStm s x N C t r) := by
  obtain ⟨q1, q2, q3, q4, q5, ⟨q6, q6', q6''⟩, q7, q8, q9, q10, q11, q12, q13⟩ := hP
  have hs := q1.2.1
  have sl := scr_lt hs
  have N9 := q1.2.2.2.2.2.2.2.2
  obtain ⟨A3, V3, g1, g2, g3, g4, g5⟩ := ct
  have pj := ps_le (x := x) (N := N) j
  have pii := ps_le (x := x) (N := N) i
  refine rt_mono (c26 (c := 59) p3 (by decide) (by decide)) (fun z C4 H => ?_)
  obtain ⟨F4, ⟨k, j', e, rfl, fl⟩ | ⟨u, j', e, rfl, p4, _⟩⟩ := H
  · obtain ⟨no, rfl, rfl⟩ := spP_no e
    refine ⟨(FU.pa hs F4.1).w (by omega) (by omega), Or.inl ⟨1, j', ?_, rfl, fl⟩⟩
    rw [er]
    show (if tK x N j' = 59 then _ else _) = _
    rw [if_neg no]
  · obtain ⟨yes, rfl⟩ := spP_ps e
    have FU4 := FU.pa hs F4.1
    have p1 := ps_1 (x := x) (N := N) (i := j) (by omega)
    have c4 : ∀ b, b ≠ 109 → cI C4 b = cI C3 b := fun b z => F4.1.2.1 b z
    have AC4 : AC C4 s A3 V3 := g3.pa hs F4
    obtain ⟨r1, r2, r3⟩ := sc_add (t := t) (t' := t') hs q2 q3 q4 q7 (by omega) hst hm FU4 (by rw [c4 s (by omega)]; exact e8) AC4 g2 (by omega) (sm.of (fun b z1 z2 => c4 b (by omega)) (c4 _ (by omega)) (c4 _ (by omega)) (c4 _ (by omega))) (by rw [c4 st (by omega)]; exact f7)
    refine ⟨FU4.w (by omega) (by omega), Or.inr ⟨t', j + 1, ?_, rfl, p4, A3, V3, F + (tTst t').length, p4, r1, r2, AC4, by rw [c4 s (by omega)]; exact eF, ⟨by omega, by omega, by omega⟩, r3, q8, q9, ?_, q11, q12, q13⟩⟩
    · rw [er]
      show (if tK x N j = 59 then _ else _) = _
      rw [if_pos yes]
    · show (sStm t.1 ++ [t']).length ≤ 8
      rw [List.length_append, List.length_singleton]
      omega
theorem beg_u {D : AmC} (s1 : s + 16 ≤ st) (F1 : Fr (fun b => b = 109 ∨ b = s ∨ (st ≤ b ∧ b ≤ st + 2)) C D) (es : ∀ f, f ≠ 8 → cI D s f = cI C s f) (hs : s ∈ scrL) : FrU s st A V F C D ∧ (AC C s A V → AC D s A V) := by
  have sl := scr_lt hs
  have c : ∀ b, s < b → b < s + 16 → cI D b = cI C b := fun b z1 z2 => F1.2.1 b (by omega)
  refine ⟨⟨F1.mono (fun b z => by omega), fun f z _ _ _ => es f z, fun k _ => ?_, fun _ k _ => ?_, fun k _ => ?_⟩, fun h => ?_⟩
  · rw [c (s + 10) (by omega) (by omega), c (s + 11) (by omega) (by omega), c (s + 12) (by omega) (by omega)]; exact ⟨rfl, rfl, rfl⟩
  · rw [c (s + 13) (by omega) (by omega)]
  · rw [c (s + 14) (by omega) (by omega), c (s + 15) (by omega) (by omega)]; exact ⟨rfl, rfl⟩
  · unfold AC
    rw [es 11 (by omega), es 15 (by omega), c (s + 13) (by omega) (by omega)]
    exact h
theorem c34 (hn : 3000 ≤ n) (hP : PS C s x N i t A V F) (hm : (sStm t.1).length < 8) (hk : tK x N i = 205) : Rt (f_34 n 109 C) (RStm s x N C t (spU x N (sCols t.1) i)) := by
  have hP' := hP
  obtain ⟨q1, q2, q3, q4, q5, ⟨q6, q6', q6''⟩, q7, q8, q9, q10, q11, q12, q13⟩ := hP
  have hs := q1.2.1
  have sl := scr_lt hs
  have w := ps_w (x := x) (N := N) (i := i) (k := 5) (by decide) hk
  have w6 : (wlC.getD 5 []).length = 6 := by decide
  have hst := stm_in hs hm
  unfold f_34
  rw [if_pos k_109]
  refine rt_bind (rt_mono (c33 (F := F) (by omega) q1 (by omega) hm q2.2.2.2.2.2.2.1 q5) (fun z C1 H => ?_))
  obtain ⟨rfl, p1, e8, es, F1, o1, l1, b0, b1, b2, b3, b4, b7, b8, bs, bv⟩ := H
  obtain ⟨U1, A1⟩ := beg_u (A := A) (V := V) (F := F) (by omega) F1 es hs
  generalize st_ : s + 16 + 3 * (sStm t.1).length = st at *
  dsimp only
  refine rt_bind (rt_mono (c39 (T := F) (oth := false) (A := A) (V := V) (cols := sCols t.1) q8 q9 hst (by omega) (by omega) (by omega) p1 (by rw [es 0 (by omega)]; exact q2.1) o1 l1 (A1 q4) (by omega) (by omega) bs) (fun z C2 H => ?_))
  obtain ⟨F2, ⟨k, j, er, rfl, fl⟩ | ⟨g, j, er, rfl, p2, ⟨A2, V2, h1, h2, h3, h4, h5⟩, G2⟩⟩ := H
  · dsimp only
    rw [if_pos rfl]
    exact rt_ret (RStm.fl ((U1.trans (F2.u (by omega)) (Nat.le_refl _) (Nat.le_refl _) (Nat.le_refl _)).w (by omega) (by omega)) (by unfold spU; rw [er]) fl)
  have U2 : FrU s st A V F C C2 := U1.trans (F2.u (by omega)) (Nat.le_refl _) (Nat.le_refl _) (Nat.le_refl _)
  have st2 : cI C2 st = cI C1 st := F2.1.2.1 st (by omega)
  have v2 : cI C2 (st + 2) = cI C1 (st + 2) := F2.1.2.1 (st + 2) (by omega)
  have up := (spT_up q8 q1.2.2.2.2.2.2.2.2 _ _ _ _ _ er).1
  have pj := ps_le (x := x) (N := N) j
  dsimp only
  rw [if_neg (by decide)]
  refine rt_bind (rt_mono (c41 (F := F) (A := A2) (V := V2) (cols := sCols t.1) q8 q9 hst (by omega) (by omega) (by omega) p2 (by rw [F2.2.1 0 (by omega) (by omega) (Or.inl (by omega)), es 0 (by omega)]; exact q2.1) (by rw [F2.2.2.2.2.2.1]; exact o1) (by rw [F2.2.2.2.2.2.2]; exact l1) h3 (by omega) (by omega) (by omega) (by rw [F2.2.1 17 (by omega) (by omega) (Or.inr rfl), es 17 (by omega)]; exact q5) (by rw [st2]; exact b8)) (fun z C3 H => ?_))
  obtain ⟨F3, ⟨k, j3, er3, rfl, fl⟩ | ⟨ts, j3, er3, rfl, p3, ⟨A3, V3, g1, g2, g3, g4, g5⟩, eF, b6, g8, gT, gf⟩⟩ := H
  · dsimp only
    rw [if_pos rfl]
    exact rt_ret (RStm.fl ((U2.trans (F3.u (by omega)) (by omega) (by omega) (Nat.le_refl _)).w (by omega) (by omega)) (by unfold spU; rw [er]; dsimp only; rw [er3]) fl)
  have U3 : FrU s st A V F C C3 := U2.trans (F3.u (by omega)) (by omega) (by omega) (Nat.le_refl _)
  have pj3 := ps_le (x := x) (N := N) j3
  have N9 := q1.2.2.2.2.2.2.2.2
  dsimp only
  rw [if_neg (by decide)]
  refine rt_bind (rt_mono (c_end (st := st) (j := j3) (t' := ((0, 0, 0, 0), g, no4, ts)) hP' hm st_.symm p3 U3 ?_ ⟨A3, V3, by omega, by omega, g3, g4, g5⟩ eF b6 ⟨?_, ?_, ?_, ?_, ?_, ?_, ?_, F, ?_, g8, ?_, ?_⟩ ?_ (by unfold spU; rw [er]; dsimp only; rw [er3])) (fun z C4 H => H.b))
  · rw [F3.2.1 8 (by omega) (by omega) (Or.inl (by omega)), F2.2.1 8 (by omega) (by omega) (Or.inl (by omega))]; exact e8
  · rw [gf 0 (by omega), st2]; exact b0
  · rw [gf 1 (by omega), st2]; exact b1
  · rw [gf 2 (by omega), st2]; exact b2
  · rw [gf 3 (by omega), st2]; exact b3
  · rw [gf 4 (by omega), st2]; exact b4
  · intro c hc
    rw [F3.1.2.1 (st + 1) (by omega)]
    exact (G2 c hc).keepT h3 F3 g3.2.1 (by omega) (by omega)
  · intro c hc
    rw [F3.1.2.1 (st + 2) (by omega), v2]
    exact bv c hc
  · rw [gf 7 (by omega), st2]; exact b7
  · show F + ts.length ≤ 450
    omega
  · exact gT
  · rw [gf 7 (by omega), st2]; exact b7
end
