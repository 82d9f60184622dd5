/-! The class reads tests: its loop. -/
section
variable {n s i j N A B V W T U cols st p F : Nat} {C C' : AmC} {x : Nat → Nat}
/-- a test: the left side, the sign, the right side -/
theorem c41_b {f : Nat} {acc : List Tst} (h1c : 1 ≤ cols) (h4 : cols ≤ 4) (hst : st ∈ stmsL) (s1 : s + 16 ≤ st) (s2 : st + 2 < s + 40) (hn : 1000 ≤ n) (h : Pc C s x N i) (wd : tK x N i = 215 ∨ tK x N i = 216) (hc : cI C s 0 = nI cols) (ho : cI C 109 11 = 0) (hl : cI C 109 12 = 1) (hA : AC C s A V) (b1 : 2 * A ≤ ps x N i + 1) (b2 : 3 * V ≤ ps x N i) (b3 : 6 * (F + acc.length) ≤ ps x N i) (hT : cI C s 17 = nI (F + acc.length)) (h8 : cI C st 8 = nI acc.length) (hts : TstC C s F acc)
    (ih : ∀ i2 acc2 C2 A2 V2, i + 4 ≤ i2 → Pc C2 s x N i2 → cI C2 s 0 = nI cols → cI C2 109 11 = 0 → cI C2 109 12 = 1 → AC C2 s A2 V2 → 2 * A2 ≤ ps x N i2 + 1 → 3 * V2 ≤ ps x N i2 → 6 * (F + acc2.length) ≤ ps x N i2 → cI C2 s 17 = nI (F + acc2.length) → cI C2 st 8 = nI acc2.length → TstC C2 s F acc2 → Rt (lp_41_8 n 109 st (nI p + 1) C2) (E41 x N s st A2 V2 F C2 (if tK x N i2 = 216 then spH x N cols f i2 acc2 else .inr (acc2, i2)))) :
    Rt ((f_42 n 109 (uI C 109 4 ((cI C 109 4) + (1 : Int32)))).bind (fun z => match z with | (q16, C17) => (if ¬ q16 = 0 then (f_23 n 109 C17).bind (fun z => match z with | (q20, C21) => (if q20 = (60 : Int32) then (f_42 n 109 (uI C21 109 4 ((cI C21 109 4) + (1 : Int32)))).bind (fun z => match z with | (q24, C25) => (if ¬ q24 = 0 then (cP C25 109 5).bind (fun r28 => if isK r28 6 = true then (f_99 n r28 st q20 (cI C17 109 10) C25).bind (fun z => match z with | (_, C32) => lp_41_8 n 109 st (nI p + (1 : Int32)) C32) else none) else some ((.inr (.inr (.inl ()))), C25))) else (if q20 = (61 : Int32) then (f_42 n 109 (uI C21 109 4 ((cI C21 109 4) + (1 : Int32)))).bind (fun z => match z with | (q35, C36) => (if ¬ q35 = 0 then (cP C36 109 5).bind (fun r39 => if isK r39 6 = true then (f_99 n r39 st q20 (cI C17 109 10) C36).bind (fun z => match z with | (_, C43) => lp_41_8 n 109 st (nI p + (1 : Int32)) C43) else none) else some ((.inr (.inr (.inl ()))), C36))) else (if q20 = (62 : Int32) then (f_42 n 109 (uI C21 109 4 ((cI C21 109 4) + (1 : Int32)))).bind (fun z => match z with | (q46, C47) => (if ¬ q46 = 0 then (cP C47 109 5).bind (fun r50 => if isK r50 6 = true then (f_99 n r50 st q20 (cI C17 109 10) C47).bind (fun z => match z with | (_, C54) => lp_41_8 n 109 st (nI p + (1 : Int32)) C54) else none) else some ((.inr (.inr (.inl ()))), C47))) else some ((.inr (.inl 109)), C21))))) else some ((.inl ()), C17)))) (E41 x N s st A V F C (spH x N cols (f + 1) i acc)) := by
  have hs := h.2.1
  have sl := scr_lt hs
  have N9 := h.2.2.2.2.2.2.2.2
  have w3 : ps x N i + 3 ≤ ps x N (i + 1) := by
    rcases wd with q | q
    · have := ps_w (x := x) (N := N) (i := i) (k := 15) (by decide) q
      have e : (wlC.getD 15 []).length = 5 := by decide
      omega
    · have := ps_w (x := x) (N := N) (i := i) (k := 16) (by decide) q
      have e : (wlC.getD 16 []).length = 3 := by decide
      omega
  have pi := ps_le (x := x) (N := N) (i + 1)
  have F1 : FrPa C (uI C 109 4 ((cI C 109 4) + 1)) := (FrPa.refl C).u (by omega)
  have hG := h.go (show tK x N i ≠ 132 by omega)
  refine rt_bind (rt_mono (c42 (n := n) (oth := false) (col := true) (A := A) (V := V) h1c h4 hG (by rw [F1.1.2.1 s (by omega)]; exact hc) (by rw [F1.2.1]; exact ho) (by rw [F1.2.2]; exact hl) (hA.pa hs F1) (by omega) (by omega) (by omega)) (fun z C3 H => ?_))
  obtain ⟨F3, ⟨k', j, er, rfl, fl⟩ | ⟨l, j, er, rfl, p5, ev, vc, ac, b4⟩⟩ := H
  · dsimp only
    rw [if_neg (fun q => q rfl)]
    exact rt_ret ⟨(F1.t hs).tr (F3.t hs), Or.inl ⟨k', j, by rw [spH, er], Or.inl rfl, fl⟩⟩
  · obtain ⟨t1, t2, t3, _⟩ := spW_ps h1c N9 er
    have pj := ps_le (x := x) (N := N) j
    have FT : FrT true (fun b => b = st) s A V (F + acc.length) C C3 := (F1.t hs).tr (F3.t hs)
    have FT0 : FrT true (fun b => b = st) s A V F C C3 := (F1.t hs).tr (F3.t hs)
    have st3 : cI C3 st = cI C st := by rw [F3.1.2.1 st (by omega), F1.1.2.1 st (by omega)]
    have sH : spH x N cols (f + 1) i acc = (if isCm (tK x N j) = true then (match spW x N false true cols (j + 1) with
      | .inl e => .inl e
      | .inr (r, j2) => if tK x N j2 = 216 then spH x N cols f j2 (acc ++ [(l, nI (tK x N j), r)]) else .inr (acc ++ [(l, nI (tK x N j), r)], j2)) else .inl (1, j)) := by
      rw [spH, er]
      rfl
    dsimp only
    rw [if_pos (by decide), bd1 (c23 p5)]
    dsimp only
    by_cases cm : isCm (tK x N j) = true
    · rw [if_pos cm] at sH
      have cc := isCm_cs cm
      have R := c41_r (n := n) (x := x) (N := N) (s := s) (st := st) (cols := cols) (A := A + l.length) (V := V + 1) (F := F) (p := p) (i := j) (sg := tK x N j) (l := l) (acc := acc) (C := C3) (D := C3) (k0 := none) (Q := E41 x N s st A V F C (spH x N cols (f + 1) i acc)) h1c h4 hst s1 s2 hn p5 rfl (by omega) (by rw [FT0.2.1 0 (by omega) (by omega) (Or.inl (by omega))]; exact hc) (by rw [FT0.2.2.2.2.2.1]; exact ho) (by rw [FT0.2.2.2.2.2.2]; exact hl) ac b4 (by omega) (by omega) (by rw [F3.2.1 17 (by omega) (by omega), F1.1.2.1 s (by omega)]; exact hT) (by rw [st3]; exact h8) (by omega) vc (hts.keepT hA FT ac.2.1 (by omega) (by omega)) (by rw [ev]; rfl)
        (fun C' FF k j2 e2 fl => ⟨FT0.trans FF (by omega) (by omega) (Nat.le_refl _), Or.inl ⟨k, j2, by rw [sH, e2], Or.inr rfl, fl⟩⟩)
        (fun C1 j2 r e2 g1 g2 g3 g4 g5 g6 g7 g8 g9 => by
          rw [e2] at sH
          have sH : spH x N cols (f + 1) i acc = (if tK x N j2 = 216 then spH x N cols f j2 (acc ++ [(l, nI (tK x N j), r)]) else .inr (acc ++ [(l, nI (tK x N j), r)], j2)) := sH
          rw [sH]
          obtain ⟨_, _, u3, _⟩ := spW_ps h1c N9 e2
          have ll : (acc ++ [(l, nI (tK x N j), r)]).length = acc.length + 1 := by simp
          have F9 : FrT true (fun b => b = st) s A V F C C1 := FT0.trans g2 (by omega) (by omega) (Nat.le_refl _)
          refine rt_mono (ih j2 (acc ++ [(l, nI (tK x N j), r)]) C1 (A + l.length + r.length) (V + 1 + 1) (by omega) g1 (by rw [F9.2.1 0 (by omega) (by omega) (Or.inl (by omega))]; exact hc) (by rw [F9.2.2.2.2.2.1]; exact ho) (by rw [F9.2.2.2.2.2.2]; exact hl) g4 g5 (by omega) (by rw [ll]; omega) g7 g8 g9) (fun z C' H => ?_)
          exact H.pre F9 (fun f hf => (g3 f hf).trans (by rw [st3])) (by omega) (by omega))
      rcases cc with q | q | q
      · rw [if_pos (tq_60.mpr q)]; exact R
      · rw [if_neg (by rw [tq_60]; omega), if_pos (tq_61.mpr q)]; exact R
      · rw [if_neg (by rw [tq_60]; omega), if_neg (by rw [tq_61]; omega), if_pos (tq_62.mpr q)]; exact R
    · obtain ⟨o1, o2, o3⟩ := isCm_no cm
      rw [if_neg cm] at sH
      rw [if_neg (by rw [tq_60]; exact o1), if_neg (by rw [tq_61]; exact o2), if_neg (by rw [tq_62]; exact o3)]
      exact rt_ret ⟨FT0, Or.inr (Or.inl ⟨j, sH, rfl, p5⟩)⟩
theorem c41_lp (h1c : 1 ≤ cols) (h4 : cols ≤ 4) (hst : st ∈ stmsL) (s1 : s + 16 ≤ st) (s2 : st + 2 < s + 40) : ∀ f p i acc C n A V, f + p = 901 → 4 * p ≤ i → f + 1000 < n → Pc C s x N i → cI C s 0 = nI cols → cI C 109 11 = 0 → cI C 109 12 = 1 → AC C s A V → 2 * A ≤ ps x N i + 1 → 3 * V ≤ ps x N i → 6 * (F + acc.length) ≤ ps x N i → cI C s 17 = nI (F + acc.length) → cI C st 8 = nI acc.length → TstC C s F acc →
    Rt (lp_41_8 n 109 st (nI p) C) (E41 x N s st A V F C (if tK x N i = 216 ∨ (tK x N i = 215 ∧ p = 0) then spH x N cols f i acc else .inr (acc, i))) := by
  intro f
  induction f with
  | zero =>
    intro p i acc C n A V h1 h2 h3 h
    have := h.2.2.2.2.2.1.le h.2.2.2.2.2.2.2.2
    omega
  | succ f ih =>
    intro p i acc C n A V h1 h2 h3 h hc ho hl hA b1 b2 b3 hT h8 hts
    obtain ⟨n, rfl⟩ : ∃ m, n = m + 1 := ⟨n - 1, by omega⟩
    have i9 := h.2.2.2.2.2.1.le h.2.2.2.2.2.2.2.2
    have body := fun (wd : tK x N i = 215 ∨ tK x N i = 216) => c41_b (n := n) (f := f) (p := p) (acc := acc) (F := F) h1c h4 hst s1 s2 (by omega) h wd hc ho hl hA b1 b2 b3 hT h8 hts (fun i2 acc2 C2 A2 V2 g0 g1 g2 g3 g4 g5 g6 g7 g8 g9 g10 g11 => by
      have := ih (p + 1) i2 acc2 C2 n A2 V2 (by omega) (by omega) (by omega) g1 g2 g3 g4 g5 g6 g7 g8 g9 g10 g11
      rw [x_a1]
      have e : (tK x N i2 = 216 ∨ (tK x N i2 = 215 ∧ p + 1 = 0)) ↔ tK x N i2 = 216 := by omega
      simp only [e] at this
      exact this)
    have done : Rt (some ((.inr (.inr (.inr ())) : (Unit) ⊕ (Nat) ⊕ (Unit) ⊕ (Unit)), C)) (E41 x N s st A V F C (.inr (acc, i))) := rt_ret ⟨FrT.refl, Or.inr (Or.inr ⟨acc, i, rfl, rfl, h, ⟨A, V, Nat.le_refl _, Nat.le_refl _, hA, b1, b2⟩, hT, b3, h8, hts, fun _ _ => rfl⟩)⟩
    rw [lp_41_8, n_900, if_neg (by rw [x_le (by omega) (by omega)]; omega), if_pos k_109, bd1 (c23 h)]
    dsimp only
    by_cases e5 : tK x N i = 215
    · rw [if_neg (fun q => q (tq_215.mpr e5))]
      by_cases p0 : p = 0
      · rw [if_pos (show nI p = 0 by rw [p0]; rfl), if_pos (Or.inr ⟨e5, p0⟩)]
        exact body (Or.inl e5)
      · rw [if_neg (by rw [x_eq0 (by omega)]; exact p0), bd1 (c23 h)]
        dsimp only
        rw [if_pos (show ¬ nI (tK x N i) = 216 by rw [tq_216]; omega), if_neg (show ¬ (tK x N i = 216 ∨ (tK x N i = 215 ∧ p = 0)) by omega)]
        exact done
    · rw [if_pos (fun q => e5 (tq_215.mp q)), bd1 (c23 h)]
      dsimp only
      by_cases e6 : tK x N i = 216
      · rw [if_neg (fun q => q (tq_216.mpr e6)), if_pos (Or.inl e6)]
        exact body (Or.inr e6)
      · rw [if_pos (fun q => e6 (tq_216.mp q)), if_neg (by omega)]
        exact done
/-- what reading tests leaves -/
def WhC (x : Nat → Nat) (N s st A V F : Nat) (C C' : AmC) (ts : List Tst) (j : Nat) : Prop := Cnt C' s A V x N j ∧ cI C' s 17 = nI (F + ts.length) ∧ 6 * (F + ts.length) ≤ ps x N j ∧ cI C' st 8 = nI ts.length ∧ TstC C' s F ts ∧ ∀ f, f ≠ 8 → cI C' st f = cI C st f
theorem c41 (h1c : 1 ≤ cols) (h4 : cols ≤ 4) (hst : st ∈ stmsL) (s1 : s + 16 ≤ st) (s2 : st + 2 < s + 40) (hn : 2000 ≤ n) (h : Pc C s x N i) (hc : cI C s 0 = nI cols) (ho : cI C 109 11 = 0) (hl : cI C 109 12 = 1) (hA : AC C s A V) (b1 : 2 * A ≤ ps x N i + 1) (b2 : 3 * V ≤ ps x N i) (b3 : 6 * F ≤ ps x N i) (hT : cI C s 17 = nI F) (h8 : cI C st 8 = 0) :
    Rt (f_41 n 109 st C) (fun z C' => FrT true (fun b => b = st) s A V F C C' ∧ PRc C' z s x N (spX x N cols i) (fun ts j => WhC x N s st A V F C C' ts j)) := by
  have hs := h.2.1
  have ht0 : TstC C s F [] := fun q hq => absurd hq (Nat.not_lt_zero q)
  unfold f_41 spX
  rw [if_pos k_109, bd1 (c23 h)]
  dsimp only
  by_cases e5 : tK x N i = 215
  · rw [if_pos (tq_215.mpr e5), if_pos e5]
    have L := c41_lp (x := x) (N := N) (F := F) h1c h4 hst s1 s2 901 0 i [] C n A V rfl (by omega) (by omega) h hc ho hl hA b1 b2 b3 hT h8 ht0
    rw [if_pos (Or.inr ⟨e5, rfl⟩)] at L
    refine rt_bind (rt_mono L (fun z C1 H => ?_))
    obtain ⟨FF, ⟨k, j, e, hz, fl⟩ | ⟨j, e, rfl, p1⟩ | ⟨ts, j, e, rfl, p1, H⟩⟩ := H
    · rcases hz with rfl | rfl
      · exact rt_ret ⟨FF, Or.inl ⟨k, j, e, rfl, fl⟩⟩
      · exact rt_ret ⟨FF, Or.inl ⟨k, j, e, rfl, fl⟩⟩
    · dsimp only
      rw [if_pos k_109]
      exact rt_mono (c25r (α := List Tst) (k := 1) (Q := fun _ _ _ => False) p1 (by omega) rfl _ e) (fun z D H => ⟨FF.tr (H.1.t hs), H.2.elim Or.inl (fun ⟨_, _, _, _, _, H⟩ => H.elim)⟩)
    · exact rt_ret ⟨FF, Or.inr ⟨ts, j, e, rfl, p1, H⟩⟩
  · rw [if_neg (fun q => e5 (tq_215.mp q)), if_neg e5]
    exact rt_ret ⟨FrT.refl, Or.inr ⟨[], i, rfl, rfl, h, ⟨A, V, Nat.le_refl _, Nat.le_refl _, hA, b1, b2⟩, hT, b3, h8, ht0, fun _ _ => rfl⟩⟩
end
