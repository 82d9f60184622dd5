/-! The class reads delete, insert, merge. -/
section
variable {n s i j N A B V W T U cols st F m : Nat} {C C' C1 : AmC} {x : Nat → Nat} {t : Tel} {oth col : Bool}
theorem spF_up (h1c : 1 ≤ cols) (N9 : N ≤ 900) : ∀ k c i g g' j, spF x N oth col cols k c i g = .inr (g', j) → ps x N i ≤ ps x N j ∧ i ≤ j := by
  intro k
  induction k with
  | zero => intro c i g g' j h; cases h; exact ⟨Nat.le_refl _, Nat.le_refl _⟩
  | succ k ih =>
    intro c i g g' j h
    have step : ∀ i2, ps x N i ≤ ps x N i2 → i ≤ i2 → (match spW x N oth col cols i2 with
        | .inl e => .inl e
        | .inr (v, j) => spF x N oth col cols k (c + 1) j (ufn g c v)) = (.inr (g', j) : PE (Nat → Option Val)) → ps x N i ≤ ps x N j ∧ i ≤ j := by
      intro i2 l1 l2 h2
      cases e : spW x N oth col cols i2 with
      | inl q => rw [e] at h2; cases h2
      | inr q =>
        obtain ⟨v, j2⟩ := q
        rw [e] at h2
        obtain ⟨_, z2, z3, _⟩ := spW_ps h1c N9 e
        have := ih _ _ _ _ _ h2
        omega
    rw [spF] at h
    by_cases c0 : c = 0
    · rw [if_pos c0] at h; exact step i (Nat.le_refl _) (Nat.le_refl _) h
    · rw [if_neg c0] at h
      by_cases q : tK x N i = 44
      · rw [if_pos q] at h
        have := ps_1 (x := x) (N := N) (i := i) (by omega)
        exact step (i + 1) (by omega) (by omega) h
      · rw [if_neg q] at h; cases h
theorem c35 (hn : 3000 ≤ n) (hP : PS C s x N i t A V F) (hm : (sStm t.1).length < 8) (hk : tK x N i = 206) : Rt (f_35 n 109 C) (RStm s x N C t (spD x N (sCols t.1) i)) := by
  have hP' := hP
  obtain ⟨q1, q2, q3, q4, q5, ⟨q6, q6', q6''⟩, q7, q8, q9, q10, q11, q12, q13⟩ := hP
  have hs := q1.2.1
  have sl := scr_lt hs
  have w := ps_w (x := x) (N := N) (i := i) (k := 6) (by decide) hk
  have w6 : (wlC.getD 6 []).length = 6 := by decide
  have hst := stm_in hs hm
  unfold f_35
  rw [if_pos k_109]
  refine rt_bind (rt_mono (c33 (F := F) (by omega) q1 (by omega) hm q2.2.2.2.2.2.2.1 q5) (fun z C1 H => ?_))
  obtain ⟨rfl, p1, e8, es, F1, o1, l1, b0, b1, b2, b3, b4, b7, b8, bs, bv⟩ := H
  obtain ⟨U1, A1⟩ := beg_u (A := A) (V := V) (F := F) (by omega) F1 es hs
  generalize st_ : s + 16 + 3 * (sStm t.1).length = st at *
  dsimp only
  refine rt_bind (rt_mono (c41 (F := F) (A := A) (V := V) (cols := sCols t.1) q8 q9 hst (by omega) (by omega) (by omega) p1 (by rw [es 0 (by omega)]; exact q2.1) o1 l1 (A1 q4) (by omega) (by omega) (by omega) (by rw [es 17 (by omega)]; exact q5) b8) (fun z C3 H => ?_))
  obtain ⟨F3, ⟨k, j3, er3, rfl, fl⟩ | ⟨ts, j3, er3, rfl, p3, ⟨A3, V3, g1, g2, g3, g4, g5⟩, eF, b6, g8, gT, gf⟩⟩ := H
  · dsimp only
    rw [if_pos rfl]
    exact rt_ret (RStm.fl ((U1.trans (F3.u (by omega)) (by omega) (by omega) (Nat.le_refl _)).w (by omega) (by omega)) (by unfold spD; rw [er3]) fl)
  have U3 : FrU s st A V F C C3 := U1.trans (F3.u (by omega)) (by omega) (by omega) (Nat.le_refl _)
  have pj3 := ps_le (x := x) (N := N) j3
  have N9 := q1.2.2.2.2.2.2.2.2
  dsimp only
  rw [if_neg (by decide)]
  refine rt_bind (rt_mono (c_end (st := st) (j := j3) (t' := ((1, 0, 0, 0), no4, no4, ts)) hP' hm st_.symm p3 U3 ?_ ⟨A3, V3, by omega, by omega, g3, g4, g5⟩ eF b6 ⟨?_, ?_, ?_, ?_, ?_, ?_, ?_, F, ?_, g8, ?_, ?_⟩ ?_ (by unfold spD; rw [er3])) (fun z C4 H => H.b))
  · rw [F3.2.1 8 (by omega) (by omega) (Or.inl (by omega))]; exact e8
  · rw [gf 0 (by omega)]; exact b0
  · rw [gf 1 (by omega)]; exact b1
  · rw [gf 2 (by omega)]; exact b2
  · rw [gf 3 (by omega)]; exact b3
  · rw [gf 4 (by omega)]; exact b4
  · intro c hc
    rw [F3.1.2.1 (st + 1) (by omega)]
    exact bs c hc
  · intro c hc
    rw [F3.1.2.1 (st + 2) (by omega)]
    exact bv c hc
  · rw [gf 7 (by omega)]; exact b7
  · show F + ts.length ≤ 450
    omega
  · exact gT
  · rw [gf 7 (by omega)]; exact b7
theorem c36 (hn : 3000 ≤ n) (hP : PS C s x N i t A V F) (hm : (sStm t.1).length < 8) (hk : tK x N i = 207) : Rt (f_36 n 109 C) (RStm s x N C t (spI x N (sCols t.1) i)) := by
  have hP' := hP
  obtain ⟨q1, q2, q3, q4, q5, ⟨q6, q6', q6''⟩, q7, q8, q9, q10, q11, q12, q13⟩ := hP
  have hs := q1.2.1
  have sl := scr_lt hs
  have w := ps_w (x := x) (N := N) (i := i) (k := 7) (by decide) hk
  have w6 : (wlC.getD 7 []).length = 6 := by decide
  have hst := stm_in hs hm
  have N9 := q1.2.2.2.2.2.2.2.2
  unfold f_36
  rw [if_pos k_109]
  refine rt_bind (rt_mono (c33 (F := F) (by omega) q1 (by omega) hm q2.2.2.2.2.2.2.1 q5) (fun z C1 H => ?_))
  obtain ⟨rfl, p1, e8, es, F1, o1, l1, b0, b1, b2, b3, b4, b7, b8, bs, bv⟩ := H
  obtain ⟨U1, A1⟩ := beg_u (A := A) (V := V) (F := F) (by omega) F1 es hs
  generalize st_ : s + 16 + 3 * (sStm t.1).length = st at *
  dsimp only
  rw [if_pos (st_of p1.1 hst).1]
  have U1' : FrU s st A V F C (uI C1 st 1 1) := U1.st1 (by omega) (by omega) (by omega)
  refine rt_bind (rt_mono (c40 (T := F) (oth := false) (col := true) (A := A) (V := V) (cols := sCols t.1) (g := no4) q8 q9 hst (by omega) (by omega) (by omega) (p1.cell (by omega)) (by rw [r_In (by omega), es 0 (by omega)]; exact q2.1) (by rw [r_In (by omega)]; exact o1) (by rw [r_In (by omega)]; exact l1) ((A1 q4).cell (by omega)) (by omega) (by omega) (fun c hc => by rw [r_In (by omega)]; exact bv c hc)) (fun z C2 H => ?_))
  obtain ⟨F2, ⟨k, j, er, rfl, fl⟩ | ⟨g, j, er, rfl, p2, ⟨A2, V2, h1, h2, h3, h4, h5⟩, G2⟩⟩ := H
  · dsimp only
    rw [if_pos rfl]
    exact rt_ret (RStm.fl ((U1'.trans (F2.u (by omega)) (Nat.le_refl _) (Nat.le_refl _) (Nat.le_refl _)).w (by omega) (by omega)) (by unfold spI; rw [er]) fl)
  have U2 : FrU s st A V F C C2 := U1'.trans (F2.u (by omega)) (Nat.le_refl _) (Nat.le_refl _) (Nat.le_refl _)
  have st2 : ∀ f, f ≠ 1 → cI C2 st f = cI C1 st f := fun f hf => by rw [F2.1.2.1 st (by omega), r_I, if_neg (by omega)]
  have st21 : cI C2 st 1 = 1 := by rw [F2.1.2.1 st (by omega), r_I, if_pos ⟨rfl, rfl⟩]
  have v2 : cI C2 (st + 1) = cI C1 (st + 1) := by rw [F2.1.2.1 (st + 1) (by omega), r_In (by omega)]
  have up := (spF_up q8 N9 _ _ _ _ _ _ er).1
  have so := (spF_some _ _ _ _ _ _ er).1 0 (by omega) (by omega)
  have pj := ps_le (x := x) (N := N) j
  dsimp only
  rw [if_neg (by decide)]
  refine rt_bind (rt_mono (c41 (F := F) (A := A2) (V := V2) (cols := sCols t.1) q8 q9 hst (by omega) (by omega) (by omega) p2 (by rw [F2.2.1 0 (by omega) (by omega) (Or.inl (by omega)), r_In (by omega), es 0 (by omega)]; exact q2.1) (by rw [F2.2.2.2.2.2.1, r_In (by omega)]; exact o1) (by rw [F2.2.2.2.2.2.2, r_In (by omega)]; exact l1) h3 (by omega) (by omega) (by omega) (by rw [F2.2.1 17 (by omega) (by omega) (Or.inr rfl), r_In (by omega), es 17 (by omega)]; exact q5) (by rw [st2 8 (by omega)]; exact b8)) (fun z C3 H => ?_))
  obtain ⟨F3, ⟨k, j3, er3, rfl, fl⟩ | ⟨ts, j3, er3, rfl, p3, ⟨A3, V3, g1, g2, g3, g4, g5⟩, eF, b6, g8, gT, gf⟩⟩ := H
  · dsimp only
    rw [if_pos rfl]
    exact rt_ret (RStm.fl ((U2.trans (F3.u (by omega)) (by omega) (by omega) (Nat.le_refl _)).w (by omega) (by omega)) (by unfold spI; rw [er]; dsimp only; rw [er3]) fl)
  have U3 : FrU s st A V F C C3 := U2.trans (F3.u (by omega)) (by omega) (by omega) (Nat.le_refl _)
  have pj3 := ps_le (x := x) (N := N) j3
  dsimp only
  rw [if_neg (by decide)]
  refine rt_bind (rt_mono (c_end (st := st) (j := j3) (t' := ((2, 0, 0, 0), no4, g, ts)) hP' hm st_.symm p3 U3 ?_ ⟨A3, V3, by omega, by omega, g3, g4, g5⟩ eF b6 ⟨?_, ?_, ?_, ?_, ?_, ?_, ?_, F, ?_, g8, ?_, ?_⟩ ?_ (by unfold spI; rw [er]; dsimp only; rw [er3])) (fun z C4 H => H.b))
  · rw [F3.2.1 8 (by omega) (by omega) (Or.inl (by omega)), F2.2.1 8 (by omega) (by omega) (Or.inl (by omega)), r_In (by omega)]; exact e8
  · rw [gf 0 (by omega), st2 0 (by omega)]; exact b0
  · rw [gf 1 (by omega), st21]
    show 1 = if (g 0).isSome = true then (1 : Int32) else 0
    rw [if_pos so]
  · rw [gf 2 (by omega), st2 2 (by omega)]; exact b2
  · rw [gf 3 (by omega), st2 3 (by omega)]; exact b3
  · rw [gf 4 (by omega), st2 4 (by omega)]; exact b4
  · intro c hc
    rw [F3.1.2.1 (st + 1) (by omega), v2]
    exact bs c hc
  · intro c hc
    rw [F3.1.2.1 (st + 2) (by omega)]
    exact (G2 c hc).keepT h3 F3 g3.2.1 (by omega) (by omega)
  · rw [gf 7 (by omega), st2 7 (by omega)]; exact b7
  · show F + ts.length ≤ 450
    omega
  · exact gT
  · rw [gf 7 (by omega), st2 7 (by omega)]; exact b7
/-- what a merge has told when its sets are read -/
def MgC (C3 : AmC) (s st F h a b : Nat) (g : Nat → Option Val) : Prop := cI C3 st 0 = 1 ∧ cI C3 st 1 = 0 ∧ cI C3 st 2 = nI h ∧ cI C3 st 3 = nI a ∧ cI C3 st 4 = nI b ∧ cI C3 st 7 = nI F ∧ cI C3 st 8 = 0 ∧ SetC C3 s (st + 1) g ∧ SetC C3 s (st + 2) no4
theorem c37_t {D : AmC} {r : PE Stm} {h a b : Nat} {g : Nat → Option Val} (hn : 3000 ≤ n) (hP : PS C s x N i t A V F) (hm : (sStm t.1).length < 8) (st_ : st = s + 16 + 3 * (sStm t.1).length) (p2 : Pc D s x N j) (U2 : FrU s st A V F C D) (ct : Cnt D s A V x N j) (b6 : 6 * F ≤ ps x N j) (e8 : cI D s 8 = nI ((sStm t.1).length + 1)) (eF : cI D s 17 = nI F) (M : MgC D s st F h a b g) (hh : h ≤ 2) (er : r = match spG2 x N (sCols t.1) j with
        | .inl e => .inl e
        | .inr (g', j4) => .inr (((3, h, a, b), g, g', []), j4)) :
    Rt ((f_23 n 109 D).bind (fun z => match z with | (q24, C25) => (if ¬ q24 = (207 : Int32) then (f_26 n 109 (59 : Int32) C25).bind (fun z => match z with | (q28, C29) => if q28 = 0 ∨ q28 = 1 then some (q28, C29) else none) else (f_38 n 109 (1 : Int32) (0 : Int32) (uI (uI C25 109 4 ((cI C25 109 4) + (1 : Int32))) st 1 (1 : Int32))).bind (fun z => match z with | (_, C33) => (f_40 n 109 st C33).bind (fun z => match z with | (q35, C36) => (if ¬ q35 = 0 then (f_26 n 109 (59 : Int32) C36).bind (fun z => match z with | (q39, C40) => if q39 = 0 ∨ q39 = 1 then some (q39, C40) else none) else some ((0 : Int32), C36))))))) (RStm s x N C t r) := by
  have hP' := hP
  obtain ⟨q1, q2, q3, q4, q5, ⟨q6, q6', q6''⟩, q7, q8, q9, q10, q11, q12, q13⟩ := hP
  have hs := q1.2.1
  have sl := scr_lt hs
  have hst : st ∈ stmsL := by rw [st_]; exact stm_in hs hm
  have N9 := q1.2.2.2.2.2.2.2.2
  have hc : cI D s 0 = nI (sCols t.1) := by rw [U2.2.1 0 (by omega) (by omega) (by omega) (by omega)]; exact q2.1
  obtain ⟨m0, m1, m2, m3, m4, m7, m8, ms, mv⟩ := M
  unfold spG2 at er
  rw [bd1 (c23 p2)]
  dsimp only
  by_cases e : tK x N j = 207
  · obtain ⟨A2, V2, h1, h2, h3, h4, h5⟩ := ct
    have w := ps_w (x := x) (N := N) (i := j) (k := 7) (by decide) e
    have w6 : (wlC.getD 7 []).length = 6 := by decide
    rw [if_neg (fun q => q (tq_207.mpr e))]
    rw [if_pos e] at er
    have pG := p2.go (by omega)
    have w38 : f_38 n 109 1 0 (uI (uI D 109 4 ((cI D 109 4) + 1)) st 1 1) = some ((), uI (uI (uI (uI D 109 4 ((cI D 109 4) + 1)) st 1 1) 109 11 1) 109 12 0) := by
      unfold f_38
      rw [if_pos k_109, if_pos (Or.inr rfl), if_pos (Or.inl rfl)]
    rw [bd1 w38]
    dsimp only
    have F0 : Fr (fun b => b = 109) (uI (uI D 109 4 ((cI D 109 4) + 1)) st 1 1) (uI (uI (uI (uI D 109 4 ((cI D 109 4) + 1)) st 1 1) 109 11 1) 109 12 0) := Fr.uI (S := fun b => b = 109) (Fr.uI (S := fun b => b = 109) (Fr.refl _ _) rfl) rfl
    have F00 : Fr (fun b => b = 109) D (uI D 109 4 ((cI D 109 4) + 1)) := (Fr.refl _ D).uI rfl
    have UE : FrU s st A V F C (uI (uI (uI (uI D 109 4 ((cI D 109 4) + 1)) st 1 1) 109 11 1) 109 12 0) := ((U2.pa hs F00).st1 (by omega) (by omega) (by omega)).pa hs F0
    have cE : ∀ y, y ≠ 109 → y ≠ st → cI (uI (uI (uI (uI D 109 4 ((cI D 109 4) + 1)) st 1 1) 109 11 1) 109 12 0) y = cI D y := fun y z1 z2 => by rw [r_In z1, r_In z1, r_In z2, r_In z1]
    have cF : ∀ f, f ≠ 1 → cI (uI (uI (uI (uI D 109 4 ((cI D 109 4) + 1)) st 1 1) 109 11 1) 109 12 0) st f = cI D st f := fun f z => by rw [r_In (by omega), r_In (by omega), r_I, if_neg (by omega), r_In (by omega)]
    have cF1 : cI (uI (uI (uI (uI D 109 4 ((cI D 109 4) + 1)) st 1 1) 109 11 1) 109 12 0) st 1 = 1 := by rw [r_In (by omega), r_In (by omega), r_I, if_pos ⟨rfl, rfl⟩]
    have acE : AC (uI (uI (uI (uI D 109 4 ((cI D 109 4) + 1)) st 1 1) 109 11 1) 109 12 0) s A2 V2 := by
      unfold AC
      rw [cE s (by omega) (by omega), cE (s + 13) (by omega) (by omega)]
      exact h3
    refine rt_bind (rt_mono (c40 (T := F) (oth := true) (col := false) (A := A2) (V := V2) (cols := sCols t.1) (g := no4) q8 q9 hst (by omega) (by omega) (by omega) (((pG.cell (by omega)).set (by omega)).set (by omega)) (by rw [cE s (by omega) (by omega)]; exact hc) (by rw [r_I, if_neg (by omega), r_I, if_pos ⟨rfl, rfl⟩]; rfl) (by rw [r_I, if_pos ⟨rfl, rfl⟩]; rfl) acE (by omega) (by omega) (fun c hc => by rw [cE _ (by omega) (by omega)]; exact mv c hc)) (fun z C3 H => ?_))
    obtain ⟨F3, ⟨k, j3, er3, rfl, fl⟩ | ⟨g', j3, er3, rfl, p3, ⟨A3, V3, g1, g2, g3, g4, g5⟩, G3⟩⟩ := H
    · dsimp only
      rw [if_neg (fun q => q rfl)]
      exact rt_ret (RStm.fl ((UE.trans (F3.u (by omega)) (by omega) (by omega) (Nat.le_refl _)).w (by omega) (by omega)) (by rw [er, er3]) fl)
    · dsimp only
      rw [if_pos (by decide)]
      have up := (spF_up q8 N9 _ _ _ _ _ _ er3).1
      have so := (spF_some _ _ _ _ _ _ er3).1 0 (by omega) (by omega)
      have pj3 := ps_le (x := x) (N := N) j3
      have s3 : cI C3 st = cI (uI (uI (uI (uI D 109 4 ((cI D 109 4) + 1)) st 1 1) 109 11 1) 109 12 0) st := F3.1.2.1 st (by omega)
      refine rt_bind (rt_mono (c_end (st := st) (j := j3) (t' := ((3, h, a, b), g, g', [])) hP' hm st_ p3 (UE.trans (F3.u (by omega)) (by omega) (by omega) (Nat.le_refl _)) ?_ ⟨A3, V3, by omega, by omega, g3, g4, g5⟩ ?_ ?_ ⟨?_, ?_, ?_, ?_, ?_, ?_, ?_, F, ?_, ?_, ?_, fun q hq => absurd hq (Nat.not_lt_zero q)⟩ ?_ (by rw [er, er3])) (fun z C4 H => H.b2))
      · rw [F3.2.1 8 (by omega) (by omega) (Or.inl (by omega)), cE s (by omega) (by omega)]; exact e8
      · rw [F3.2.1 17 (by omega) (by omega) (Or.inr rfl), cE s (by omega) (by omega)]; exact eF
      · show 6 * (F + 0) ≤ _
        omega
      · rw [s3, cF 0 (by omega)]; exact m0
      · rw [s3, cF1]
        show 1 = if (g' 0).isSome = true then (1 : Int32) else 0
        rw [if_pos so]
      · rw [s3, cF 2 (by omega)]; exact m2
      · rw [s3, cF 3 (by omega)]; exact m3
      · rw [s3, cF 4 (by omega)]; exact m4
      · intro c hc
        rw [F3.1.2.1 (st + 1) (by omega), cE _ (by omega) (by omega)]
        exact VOC.keepT ((ms c hc).of (fun y z1 z2 => cE y (by omega) (by omega))) acE F3 g3.2.1 (by omega) (by omega)
      · exact G3
      · rw [s3, cF 7 (by omega)]; exact m7
      · rw [s3, cF 8 (by omega)]; exact m8
      · show F + 0 ≤ 450
        omega
      · rw [s3, cF 7 (by omega)]; exact m7
  · rw [if_pos (fun q => e (tq_207.mp q))]
    rw [if_neg e] at er
    have pj := ps_le (x := x) (N := N) j
    refine rt_bind (rt_mono (c_end (st := st) (j := j) (t' := ((3, h, a, b), g, no4, [])) hP' hm st_ p2 U2 e8 ct eF b6 ⟨m0, m1, m2, m3, m4, ms, mv, F, m7, m8, ?_, fun q hq => absurd hq (Nat.not_lt_zero q)⟩ m7 er) (fun z C4 H => H.b2))
    show F + 0 ≤ 450
    omega
end
