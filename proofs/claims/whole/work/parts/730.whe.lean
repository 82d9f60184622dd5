/-! The class reads a new row's values; tests. -/
section
variable {n s i j N A B V W T U cols st p : Nat} {C C' : AmC} {x : Nat → Nat} {oth col : Bool} {X Y : Nat → Prop} {wt : Bool}
theorem spP_ps {c : Nat} {u : Unit} (h : spP x N c i = .inr (u, j)) : tK x N i = c ∧ j = i + 1 := by
  unfold spP at h
  by_cases q : tK x N i = c
  · rw [if_pos q] at h; cases h; exact ⟨q, rfl⟩
  · rw [if_neg q] at h; cases h
theorem spP_no {c k : Nat} (h : spP x N c i = .inl (k, j)) : ¬ tK x N i = c ∧ k = 1 ∧ j = i := by
  unfold spP at h
  by_cases q : tK x N i = c
  · rw [if_pos q] at h; cases h
  · rw [if_neg q] at h; cases h; exact ⟨q, rfl, rfl⟩
theorem c40_lp (h1c : 1 ≤ cols) (h4 : cols ≤ 4) (hst : st ∈ stmsL) (s1 : s + 16 ≤ st) (s2 : st + 2 < s + 40) : ∀ k c i g C n A V, c + k = cols → k + 1000 < n → Pc C s x N i → cI C s 0 = nI cols → cI C 109 11 = (if oth = true then 1 else 0) → cI C 109 12 = (if col = true then 1 else 0) → AC C s A V → 2 * A ≤ ps x N i + (if c = 0 then 0 else 1) → 3 * V + 5 + (if c = 0 then 1 else 0) ≤ ps x N i + c → SetC C s (st + 2) g →
    Rt (lp_40_2 n 109 st (nI c) C) (fun z C' => FrT false (fun b => b = st + 2) s A V T C C' ∧ ((∃ k' j, spF x N oth col cols k c i g = .inl (k', j) ∧ (z = .inl () ∨ z = .inr (.inl ())) ∧ Flt C' x N k' j) ∨ ∃ g' j, spF x N oth col cols k c i g = .inr (g', j) ∧ z = .inr (.inr ()) ∧ Pc C' s x N j ∧ Cnt C' s A V x N j ∧ SetC C' s (st + 2) g')) := by
  intro k
  induction k with
  | zero =>
    intro c i g C n A V h1 h2 h hc ho hl hA b1 b2 hG
    obtain ⟨n, rfl⟩ : ∃ m, n = m + 1 := ⟨n - 1, by omega⟩
    have : c = cols := by omega
    subst this
    rw [if_neg (by omega)] at b1 b2
    rw [lp_40_2, if_pos k_109, bd1 h.2.2.1, if_pos (sc_of h.1 h.2.1).1, hc, if_pos ((x_le (by omega) (by omega)).mpr (Nat.le_refl _))]
    exact rt_ret ⟨FrT.refl, Or.inr ⟨g, i, rfl, rfl, h, ⟨A, V, Nat.le_refl _, Nat.le_refl _, hA, b1, by omega⟩, hG⟩⟩
  | succ k ih =>
    intro c i g C n A V h1 h2 h hc ho hl hA b1 b2 hG
    obtain ⟨n, rfl⟩ : ∃ m, n = m + 1 := ⟨n - 1, by omega⟩
    have hs := h.2.1
    have sl := scr_lt hs
    have N9 := h.2.2.2.2.2.2.2.2
    have pi := ps_le (x := x) (N := N) i
    -- the value at token i2
    have val : ∀ i2 D, FrPa C D → Pc D s x N i2 → 2 * A ≤ ps x N i2 → 3 * V + 6 ≤ ps x N i2 + c → spF x N oth col cols (k + 1) c i g = (match spW x N oth col cols i2 with
        | .inl e => .inl e
        | .inr (v, j) => spF x N oth col cols k (c + 1) j (ufn g c v)) → Rt ((f_42 n 109 D).bind (fun z => match z with | (q8, C9) => (if ¬ q8 = 0 then if isK st 8 = true then (cP C9 st 6).bind (fun r13 => if isK r13 12 = true then if amIn (nI c) (aLen r13) = true then lp_40_2 n 109 st (nI c + (1 : Int32)) (uI C9 r13 (Int32.toNatClampNeg (nI c)) (cI C9 109 10)) else none else none) else none else some ((.inr (.inl ())), C9)))) (fun z C' => FrT false (fun b => b = st + 2) s A V T C C' ∧ ((∃ k' j, spF x N oth col cols (k + 1) c i g = .inl (k', j) ∧ (z = .inl () ∨ z = .inr (.inl ())) ∧ Flt C' x N k' j) ∨ ∃ g' j, spF x N oth col cols (k + 1) c i g = .inr (g', j) ∧ z = .inr (.inr ()) ∧ Pc C' s x N j ∧ Cnt C' s A V x N j ∧ SetC C' s (st + 2) g')) := by
      intro i2 D FD pD d1 d2 sF
      have pi2 := ps_le (x := x) (N := N) i2
      refine rt_bind (rt_mono (c42 (n := n) (oth := oth) (col := col) (A := A) (V := V) h1c h4 pD (by rw [FD.1.2.1 s (by omega)]; exact hc) (by rw [FD.2.1]; exact ho) (by rw [FD.2.2]; exact hl) (hA.pa hs FD) d1 (by omega) (by omega)) (fun z C3 H => ?_))
      obtain ⟨F3, ⟨k', j, er, rfl, fl⟩ | ⟨v, j, er, rfl, p5, ev, vc, ac, b3⟩⟩ := H
      · dsimp only
        rw [if_neg (fun q => q rfl)]
        exact rt_ret ⟨(FD.t hs).tr (F3.t hs), Or.inl ⟨k', j, by rw [sF, er], Or.inr rfl, fl⟩⟩
      · obtain ⟨t1, t2, t3, _⟩ := spW_ps h1c N9 er
        rw [er] at sF
        have sF : spF x N oth col cols (k + 1) c i g = spF x N oth col cols k (c + 1) j (ufn g c v) := sF
        have hk3 := st_of p5.1 hst
        have pj := ps_le (x := x) (N := N) j
        dsimp only
        rw [if_pos (by decide), if_pos hk3.1, bd1 hk3.2.2.1, if_pos hk3.2.2.2.2.2.1, hk3.2.2.2.2.2.2, if_pos ((x_in (by omega)).mpr (by omega)), x_cl (by omega), ev, x_a1]
        have F6 : FrT false (fun b => b = st + 2) s A V T C (uI C3 (st + 2) c (nI V)) := ((FD.t hs).tr (F3.t hs)).cell hs rfl (by omega) (by omega)
        have ac6 : AC (uI C3 (st + 2) c (nI V)) s (A + v.length) (V + 1) := ac.cell (by omega)
        have G6 : SetC (uI C3 (st + 2) c (nI V)) s (st + 2) (ufn g c v) := by
          intro c' hc4
          unfold ufn
          by_cases d : c' = c
          · rw [if_pos d, d, r_I, if_pos ⟨rfl, rfl⟩]
            exact ⟨V, rfl, vc.stc (by omega)⟩
          · rw [if_neg d, r_I, if_neg (fun q => d q.2), F3.1.2.1 (st + 2) (by omega), FD.1.2.1 (st + 2) (by omega)]
            exact (((hG c' hc4).pa hs FD).keepT (wt := false) (X := fun b => b = st + 2) (T := T) (hA.pa hs FD) (F3.t hs) ac.2.1 (by omega) (by omega)).stc (by omega)
        refine rt_mono (ih (c + 1) j (ufn g c v) _ n (A + v.length) (V + 1) (by omega) (by omega) (p5.cell (by omega)) (by rw [F6.2.1 0 (by omega) (by omega) (Or.inl (by omega))]; exact hc) (by rw [F6.2.2.2.2.2.1]; exact ho) (by rw [F6.2.2.2.2.2.2]; exact hl) ac6 (by rw [if_neg (by omega)]; omega) (by rw [if_neg (by omega)]; omega) G6) (fun z D2 H => ?_)
        obtain ⟨F9, H⟩ := H
        refine ⟨F6.trans F9 (by omega) (by omega) (Nat.le_refl _), ?_⟩
        rw [sF]
        rcases H with H | ⟨g', j', H1, H2, H3, ⟨A', V', H4, H5, H6⟩, H7⟩
        · exact Or.inl H
        · exact Or.inr ⟨g', j', H1, H2, H3, ⟨A', V', by omega, by omega, H6⟩, H7⟩
    rw [lp_40_2, if_pos k_109, bd1 h.2.2.1, if_pos (sc_of h.1 h.2.1).1, hc, if_neg (by rw [x_le (by omega) (by omega)]; omega), n_4, if_neg (by rw [x_le (by omega) (by omega)]; omega)]
    by_cases c0 : c = 0
    · rw [if_pos c0] at b1 b2
      rw [if_pos (by rw [c0]; decide)]
      refine val i C (FrPa.refl C) h (by omega) (by omega) ?_
      rw [spF, if_pos c0]
      rfl
    · rw [if_neg c0] at b1 b2
      rw [if_neg (by rw [x_le0 (by omega)]; exact c0)]
      refine rt_bind (rt_mono (c26 (c := 44) h (by decide) (by decide)) (fun z C2 H => ?_))
      obtain ⟨F2, ⟨k', j, er, rfl, fl⟩ | ⟨u, j, er, rfl, p3, _⟩⟩ := H
      · obtain ⟨q, rfl, rfl⟩ := spP_no er
        dsimp only
        rw [if_neg (fun q => q rfl)]
        exact rt_ret ⟨F2.t hs, Or.inl ⟨1, j, by rw [spF, if_neg c0, if_neg q], Or.inl rfl, fl⟩⟩
      · obtain ⟨q, rfl⟩ := spP_ps er
        have := ps_1 (x := x) (N := N) (i := i) (by omega)
        dsimp only
        rw [if_pos (by decide)]
        refine val (i + 1) C2 F2 p3 (by omega) (by omega) ?_
        rw [spF, if_neg c0, if_pos q]
        rfl
theorem c40 {g : Nat → Option Val} (h1c : 1 ≤ cols) (h4 : cols ≤ 4) (hst : st ∈ stmsL) (s1 : s + 16 ≤ st) (s2 : st + 2 < s + 40) (hn : 2000 ≤ n) (h : Pc C s x N i) (hc : cI C s 0 = nI cols) (ho : cI C 109 11 = if oth = true then 1 else 0) (hl : cI C 109 12 = if col = true then 1 else 0) (hA : AC C s A V) (b1 : 2 * A ≤ ps x N i) (b2 : 3 * V + 6 ≤ ps x N i) (hG : SetC C s (st + 2) g) :
    Rt (f_40 n 109 st C) (fun z C' => FrT false (fun b => b = st + 2) s A V T C C' ∧ PRc C' z s x N (spF x N oth col cols cols 0 i g) (fun g' j => Cnt C' s A V x N j ∧ SetC C' s (st + 2) g')) := by
  unfold f_40
  refine rt_bind (rt_mono (c40_lp (T := T) (oth := oth) (col := col) h1c h4 hst s1 s2 cols 0 i g C n A V (by omega) (by omega) h hc ho hl hA (by rw [if_pos rfl]; omega) (by rw [if_pos rfl]; omega) hG) (fun z C1 H => ?_))
  obtain ⟨F, ⟨k, j, e, hz, fl⟩ | ⟨g', j, e, rfl, p1, H1, H2⟩⟩ := H
  · rcases hz with rfl | rfl
    · exact rt_ret ⟨F, Or.inl ⟨k, j, e, rfl, fl⟩⟩
    · exact rt_ret ⟨F, Or.inl ⟨k, j, e, rfl, fl⟩⟩
  · exact rt_ret ⟨F, Or.inr ⟨g', j, e, rfl, p1, H1, H2⟩⟩
/-! tests -/
def TstC (C : AmC) (s f : Nat) (ts : List Tst) : Prop := ∀ q (h : q < ts.length), ∃ k, cI C (s + 14) (f + q) = ts[q].2.1 ∧ cI C (s + 15) (f + q) = nI k ∧ VC C s k ts[q].1 ∧ VC C s (k + 1) ts[q].2.2
def c99C (C : AmC) (s st T m : Nat) (sg lv : Int32) : AmC := uI (uI (uI (uI C (s + 14) T sg) (s + 15) T lv) s 17 (nI (T + 1))) st 8 (nI (m + 1))
theorem c99 {m : Nat} {sg lv : Int32} (hP : PInv C) (hs : s ∈ scrL) (hk : StK C st) (s1 : s + 16 ≤ st) (e : cI C s 17 = nI T) (e8 : cI C st 8 = nI m) (hT : T < 450) : f_99 n s st sg lv C = some ((), c99C C s st T m sg lv) := by
  obtain ⟨k0, p1, p3, p4, p7, p9, p10, p12, p13, p14, p16, p18, p19, k3, k4, k5, k10, k11, k12, k13, k14, k15, l3, l4, l5, l10, l11, l12, l13, l14, l15, k6, l6, hr, hst, hp6⟩ := sc_of hP hs
  have p19' : cP (uI C (s + 14) T sg) s 19 = some (s + 15) := p19
  have e1 : cI (uI C (s + 14) T sg) s 17 = nI T := by rw [r_In (by omega)]; exact e
  have e2 : cI (uI (uI C (s + 14) T sg) (s + 15) T lv) s 17 = nI T := by rw [r_In (by omega)]; exact e1
  have e3 : cI (uI (uI (uI C (s + 14) T sg) (s + 15) T lv) s 17 (nI (T + 1))) st 8 = nI m := by rw [r_In (by omega), r_In (by omega), r_In (by omega)]; exact e8
  unfold f_99 c99C
  rw [if_pos k0, e, if_neg (by rw [x_lt0 (by omega)]; exact id), n_450, if_pos ((x_lt (by omega) (by omega)).mpr hT), bd1 p18, if_pos k14, l14, if_pos ((x_in (by omega)).mpr hT), x_cl (by omega), bd1 p19', if_pos k15, e1, l15, if_pos ((x_in (by omega)).mpr hT), x_cl (by omega), if_pos hk.1, e2, x_a1, e3, x_a1]
theorem c99_o {m b : Nat} {sg lv : Int32} (z1 : b ≠ s) (z2 : b ≠ s + 14) (z3 : b ≠ s + 15) (z4 : b ≠ st) : cI (c99C C s st T m sg lv) b = cI C b := by
  unfold c99C
  rw [r_In z4, r_In z1, r_In z3, r_In z2]
theorem c99_fr {m : Nat} {sg lv : Int32} (hs : s ∈ scrL) (s1 : s + 16 ≤ st) (s2 : st + 2 < s + 40) (hT : U ≤ T) : FrT true (fun b => b = st) s A V U C (c99C C s st T m sg lv) := by
  have sl := scr_lt hs
  refine ⟨?_, fun f z y w => ?_, fun k z => ⟨?_, ?_, ?_⟩, fun v k z => ?_, fun k z => ⟨?_, ?_⟩, ?_, ?_⟩
  · unfold c99C
    exact ((((Fr.refl _ C).uI (by omega)).uI (by omega)).uI (by omega)).uI (by omega)
  · unfold c99C
    have w := w.resolve_right (by decide)
    rw [r_In (by omega), r_I, if_neg (by omega), r_In (by omega), r_In (by omega)]
  · rw [c99_o (by omega) (by omega) (by omega) (by omega)]
  · rw [c99_o (by omega) (by omega) (by omega) (by omega)]
  · rw [c99_o (by omega) (by omega) (by omega) (by omega)]
  · rw [c99_o (by omega) (by omega) (by omega) (by omega)]
  · unfold c99C
    rw [r_In (by omega), r_In (by omega), r_In (by omega), r_I, if_neg (by omega)]
  · unfold c99C
    rw [r_In (by omega), r_In (by omega), r_I, if_neg (by omega), r_In (by omega)]
  · rw [c99_o (by omega) (by omega) (by omega) (by omega)]
  · rw [c99_o (by omega) (by omega) (by omega) (by omega)]
theorem isCm_cs {k : Nat} (h : isCm k = true) : k = 60 ∨ k = 61 ∨ k = 62 := by
  unfold isCm at h
  simp only [Bool.or_eq_true, decide_eq_true_eq] at h
  omega
theorem isCm_no {k : Nat} (h : ¬ isCm k = true) : ¬ k = 60 ∧ ¬ k = 61 ∧ ¬ k = 62 := by
  refine ⟨fun e => h ?_, fun e => h ?_, fun e => h ?_⟩ <;> subst e <;> rfl
/-- what the loop over tests ends with -/
def E41 (x : Nat → Nat) (N s st A V F : Nat) (C : AmC) (r : PE (List Tst)) (z : (Unit) ⊕ (Nat) ⊕ (Unit) ⊕ (Unit)) (C' : AmC) : Prop :=
  FrT true (fun b => b = st) s A V F C C' ∧ ((∃ k j, r = .inl (k, j) ∧ (z = .inl () ∨ z = .inr (.inr (.inl ()))) ∧ Flt C' x N k j) ∨ (∃ j, r = .inl (1, j) ∧ z = .inr (.inl 109) ∧ Pc C' s x N j) ∨ ∃ ts j, r = .inr (ts, j) ∧ z = .inr (.inr (.inr ())) ∧ Pc C' s x N j ∧ Cnt C' s A V x N j ∧ cI C' s 17 = nI (F + ts.length) ∧ 6 * (F + ts.length) ≤ ps x N j ∧ cI C' st 8 = nI ts.length ∧ TstC C' s F ts ∧ ∀ f, f ≠ 8 → cI C' st f = cI C st f)
theorem E41.pre {F : Nat} {C1 : AmC} {r : PE (List Tst)} {z : (Unit) ⊕ (Nat) ⊕ (Unit) ⊕ (Unit)} {A1 V1 : Nat} (F1 : FrT true (fun b => b = st) s A V F C C1) (e : ∀ f, f ≠ 8 → cI C1 st f = cI C st f) (hA : A ≤ A1) (hV : V ≤ V1) (H : E41 x N s st A1 V1 F C1 r z C') : E41 x N s st A V F C r z C' := by
  obtain ⟨F2, H⟩ := H
  refine ⟨F1.trans F2 hA hV (Nat.le_refl _), ?_⟩
  rcases H with H | H | ⟨ts, j, H1, H2, H3, ⟨A', V', H4, H5, H6⟩, H7, H8, H9, H10, H11⟩
  · exact Or.inl H
  · exact Or.inr (Or.inl H)
  · exact Or.inr (Or.inr ⟨ts, j, H1, H2, H3, ⟨A', V', by omega, by omega, H6⟩, H7, H8, H9, H10, fun f z => (H11 f z).trans (e f z)⟩)
theorem TstC.keepT {F : Nat} {V2 : Nat} {ts : List Tst} (h : TstC C s F ts) (hA : AC C s A V) (Fr1 : FrT wt X s A V (F + ts.length) C C') (h15 : cI C' s 15 = nI V2) (hv : V ≤ V2) (h4 : V2 ≤ 450) : TstC C' s F ts := by
  intro q hq
  obtain ⟨k, a1, a2, a3, a4⟩ := h q hq
  have z := Fr1.2.2.2.2.1 (F + q) (by omega)
  exact ⟨k, by rw [z.1]; exact a1, by rw [z.2]; exact a2, a3.keepT hA Fr1 h15 hv h4, a4.keepT hA Fr1 h15 hv h4⟩
/-- the right side of a test, and the test -/
theorem c41_r {F sg : Nat} {l : Val} {acc : List Tst} {Q : (Unit) ⊕ (Nat) ⊕ (Unit) ⊕ (Unit) → AmC → Prop} {D : AmC} {k0 : Option (((Unit) ⊕ (Nat) ⊕ (Unit) ⊕ (Unit)) × AmC)} (h1c : 1 ≤ cols) (h4 : cols ≤ 4) (hst : st ∈ stmsL) (s1 : s + 16 ≤ st) (s2 : st + 2 < s + 40) (hn : 1000 ≤ n) (h : Pc C s x N i) (sg1 : tK x N i = sg) (sg2 : sg ≠ 132) (hc : cI C s 0 = nI cols) (ho : cI C 109 11 = 0) (hl : cI C 109 12 = 1) (hA : AC C s A V) (b1 : 2 * A ≤ ps x N i + 1) (b2 : 3 * V + 1 ≤ ps x N i) (b3 : 6 * (F + acc.length) + 4 ≤ ps x N i) (hT : cI C s 17 = nI (F + acc.length)) (h8 : cI C st 8 = nI acc.length) (hv0 : 1 ≤ V) (hvc : VC C s (V - 1) l) (hts : TstC C s F acc) (hlv : cI D 109 10 = nI (V - 1))
    (QF : ∀ C', FrT true (fun b => b = st) s A V F C C' → ∀ k j, spW x N false true cols (i + 1) = .inl (k, j) → Flt C' x N k j → Q (.inr (.inr (.inl ()))) C')
    (QG : ∀ C1 j r, spW x N false true cols (i + 1) = .inr (r, j) → Pc C1 s x N j → FrT true (fun b => b = st) s A V F C C1 → (∀ f, f ≠ 8 → cI C1 st f = cI C st f) → AC C1 s (A + r.length) (V + 1) → 2 * (A + r.length) ≤ ps x N j + 1 → ps x N i + 2 ≤ ps x N j → cI C1 s 17 = nI (F + (acc ++ [(l, nI sg, r)]).length) → cI C1 st 8 = nI (acc ++ [(l, nI sg, r)]).length → TstC C1 s F (acc ++ [(l, nI sg, r)]) → Rt (lp_41_8 n 109 st (nI p + (1 : Int32)) C1) Q) :
    Rt ((f_42 n 109 (uI C 109 4 ((cI C 109 4) + (1 : Int32)))).bind (fun z => match z with | (q24, C25) => (if ¬ q24 = 0 then (cP C25 109 5).bind (fun r28 => if isK r28 6 = true then (f_99 n r28 st (nI sg) (cI D 109 10) C25).bind (fun z => match z with | (_, C32) => lp_41_8 n 109 st (nI p + (1 : Int32)) C32) else none) else some ((.inr (.inr (.inl ()))), C25)))) Q := by
  have hs := h.2.1
  have sl := scr_lt hs
  have N9 := h.2.2.2.2.2.2.2.2
  have pi := ps_le (x := x) (N := N) i
  have p1 := ps_1 (x := x) (N := N) (i := i) (by omega)
  have F1 : FrPa C (uI C 109 4 ((cI C 109 4) + 1)) := (FrPa.refl C).u (by omega)
  have hG := h.go (by omega)
  refine rt_bind (rt_mono (c42 (n := n) (oth := false) (col := true) (A := A) (V := V) h1c h4 hG (by rw [F1.1.2.1 s (by omega)]; exact hc) (by rw [F1.2.1]; exact ho) (by rw [F1.2.2]; exact hl) (hA.pa hs F1) (by omega) (by omega) (by omega)) (fun z C3 H => ?_))
  obtain ⟨F3, ⟨k', j, er, rfl, fl⟩ | ⟨r, j, er, rfl, p5, ev, vc, ac, b4⟩⟩ := H
  · dsimp only
    rw [if_neg (fun q => q rfl)]
    exact rt_ret (QF _ ((F1.t hs).tr (F3.t hs)) k' j er fl)
  · obtain ⟨t1, t2, t3, _⟩ := spW_ps h1c N9 er
    have pj := ps_le (x := x) (N := N) j
    have FT : FrT true (fun b => b = st) s A V (F + acc.length) C C3 := (F1.t hs).tr (F3.t hs)
    have hT3 : cI C3 s 17 = nI (F + acc.length) := by rw [F3.2.1 17 (by omega) (by omega), F1.1.2.1 s (by omega)]; exact hT
    have h83 : cI C3 st 8 = nI acc.length := by rw [F3.1.2.1 st (by omega), F1.1.2.1 st (by omega)]; exact h8
    dsimp only
    rw [if_pos (by decide), bd1 p5.2.2.1, if_pos (sc_of p5.1 p5.2.1).1, bd1 (c99 p5.1 hs (st_of p5.1 hst) s1 hT3 h83 (by omega))]
    dsimp only
    rw [hlv]
    have ll : (acc ++ [(l, nI sg, r)]).length = acc.length + 1 := by simp
    have F4 : FrT true (fun b => b = st) s A V (F + acc.length) C3 (c99C C3 s st (F + acc.length) acc.length (nI sg) (nI (V - 1))) := c99_fr hs s1 s2 (Nat.le_refl _)
    have F5 : FrT true (fun b => b = st) s A V F C (c99C C3 s st (F + acc.length) acc.length (nI sg) (nI (V - 1))) := (((F1.t hs).tr (F3.t hs)) : FrT true (fun b => b = st) s A V F C C3).tr (c99_fr hs s1 s2 (by omega))
    have ac4 : AC (c99C C3 s st (F + acc.length) acc.length (nI sg) (nI (V - 1))) s (A + r.length) (V + 1) := by
      obtain ⟨a1, a2, a3⟩ := ac
      unfold AC
      rw [c99_o (b := s + 13) (by omega) (by omega) (by omega) (by omega)]
      exact ⟨by unfold c99C; rw [r_In (by omega), r_I, if_neg (by omega), r_In (by omega), r_In (by omega)]; exact a1, by unfold c99C; rw [r_In (by omega), r_I, if_neg (by omega), r_In (by omega), r_In (by omega)]; exact a2, a3⟩
    refine QG _ j r er ?_ F5 (fun f z => ?_) ac4 b4 (by omega) ?_ ?_ ?_
    · exact p5.of rfl (fun b z1 z2 => c99_o (by omega) (by omega) (by omega) (by omega))
    · unfold c99C
      rw [r_I, if_neg (by omega), r_In (by omega), r_In (by omega), r_In (by omega), F3.1.2.1 st (by omega), F1.1.2.1 st (by omega)]
    · rw [ll]
      unfold c99C
      rw [r_In (by omega), r_I, if_pos ⟨rfl, rfl⟩]
      rfl
    · rw [ll]
      unfold c99C
      rw [r_I, if_pos ⟨rfl, rfl⟩]
    · have vr : VC (c99C C3 s st (F + acc.length) acc.length (nI sg) (nI (V - 1))) s V r := vc.keep ac (fun k _ => by rw [c99_o (by omega) (by omega) (by omega) (by omega), c99_o (by omega) (by omega) (by omega) (by omega), c99_o (by omega) (by omega) (by omega) (by omega)]; exact ⟨rfl, rfl, rfl⟩) (fun _ k _ => by rw [c99_o (by omega) (by omega) (by omega) (by omega)]) ac4.2.1 (Nat.le_refl _) (by omega)
      have F6 : FrT true (fun b => b = st) s A V (F + acc.length) C (c99C C3 s st (F + acc.length) acc.length (nI sg) (nI (V - 1))) := FT.tr F4
      have vl := hvc.keepT hA F6 ac4.2.1 (by omega) (by omega)
      have tk := hts.keepT hA F6 ac4.2.1 (by omega) (by omega)
      intro q hq
      by_cases d : q < acc.length
      · rw [List.getElem_append_left d]
        exact tk q d
      · have : q = acc.length := by omega
        subst this
        rw [List.getElem_append_right (Nat.le_refl _)]
        simp only [Nat.sub_self, List.getElem_cons_zero]
        refine ⟨V - 1, ?_, ?_, vl, ?_⟩
        · unfold c99C
          rw [r_In (by omega), r_In (by omega), r_In (by omega), r_I, if_pos ⟨rfl, rfl⟩]
        · unfold c99C
          rw [r_In (by omega), r_In (by omega), r_I, if_pos ⟨rfl, rfl⟩]
        · rw [show V - 1 + 1 = V by omega]
          exact vr
end
