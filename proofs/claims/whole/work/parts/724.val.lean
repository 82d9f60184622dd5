/-! The class reads a value. -/
section
variable {n s i j N A V cols : Nat} {C C' : AmC} {x : Nat → Nat} {oth col : Bool}
def c97C (C : AmC) (s A : Nat) (a b c : Int32) : AmC := uI (uI (uI (uI C (s + 10) A a) (s + 11) A b) (s + 12) A c) s 11 (nI (A + 1))
theorem c97 {a b c : Int32} (hP : PInv C) (hs : s ∈ scrL) (e : cI C s 11 = nI A) (hA : A < 450) : f_97 n s a b c C = some (1, c97C C s A a b c) := by
  obtain ⟨k0, p1, p3, p4, p7, p9, p10, p12, p13, p14, p16, p18, p19, k3, k4, k5, k10, k11, k12, k13, k14, k15, l3, l4, l5, l10, l11, l12, l13, l14, l15, k6, l6, hr, hst, hp6⟩ := sc_of hP hs
  have p13' : cP (uI C (s + 10) A a) s 13 = some (s + 11) := p13
  have p14' : cP (uI (uI C (s + 10) A a) (s + 11) A b) s 14 = some (s + 12) := p14
  have e1 : cI (uI C (s + 10) A a) s 11 = nI A := by rw [r_In (by omega)]; exact e
  have e2 : cI (uI (uI C (s + 10) A a) (s + 11) A b) s 11 = nI A := by rw [r_In (by omega)]; exact e1
  have e3 : cI (uI (uI (uI C (s + 10) A a) (s + 11) A b) (s + 12) A c) s 11 = nI A := by rw [r_In (by omega)]; exact e2
  unfold f_97 c97C
  rw [if_pos k0, e, if_neg (by rw [x_lt0 (by omega)]; exact id), n_450, if_pos ((x_lt (by omega) (by omega)).mpr hA), bd1 p12, if_pos k10, l10, if_pos ((x_in (by omega)).mpr hA), x_cl (by omega), bd1 p13', if_pos k11, e1, l11, if_pos ((x_in (by omega)).mpr hA), x_cl (by omega), bd1 p14', if_pos k12, e2, l12, if_pos ((x_in (by omega)).mpr hA), x_cl (by omega), e3, x_a1]
def c98C (C : AmC) (s V A : Nat) : AmC := uI (if V = 0 then uI (uI C s 15 (nI (V + 1))) (s + 13) 0 0 else uI C s 15 (nI (V + 1))) (s + 13) (V + 1) (nI A)
theorem c98 (hP : PInv C) (hs : s ∈ scrL) (e : cI C s 15 = nI V) (e1 : cI C s 11 = nI A) (hV : V < 450) : f_98 n s C = some (nI V, c98C C s V A) := by
  obtain ⟨k0, p1, p3, p4, p7, p9, p10, p12, p13, p14, p16, p18, p19, k3, k4, k5, k10, k11, k12, k13, k14, k15, l3, l4, l5, l10, l11, l12, l13, l14, l15, k6, l6, hr, hst, hp6⟩ := sc_of hP hs
  have p16' : cP (uI C s 15 (nI (V + 1))) s 16 = some (s + 13) := p16
  have p16'' : cP (uI (uI C s 15 (nI (V + 1))) (s + 13) 0 0) s 16 = some (s + 13) := p16
  have a1 : cI (uI C s 15 (nI (V + 1))) s 15 = nI (V + 1) := by rw [r_I, if_pos ⟨rfl, rfl⟩]
  have a2 : cI (uI C s 15 (nI (V + 1))) s 11 = nI A := by rw [r_I, if_neg (by omega)]; exact e1
  have b1 : cI (uI (uI C s 15 (nI (V + 1))) (s + 13) 0 0) s 15 = nI (V + 1) := by rw [r_In (by omega)]; exact a1
  have b2 : cI (uI (uI C s 15 (nI (V + 1))) (s + 13) 0 0) s 11 = nI A := by rw [r_In (by omega)]; exact a2
  unfold f_98 c98C
  rw [if_pos k0, e, if_neg (by rw [x_lt0 (by omega)]; exact id), n_450, if_pos ((x_lt (by omega) (by omega)).mpr hV), x_a1]
  by_cases z : V = 0
  · subst z
    rw [if_neg (fun q => q rfl), bd1 p16', if_pos k13, l13, if_pos (show amIn (0 : Int32) 451 = true by decide), show Int32.toNatClampNeg (0 : Int32) = 0 from rfl, bd1 p16'', if_pos k13, b1, l13, if_pos (show amIn (nI 1) 451 = true by decide), b2, if_pos rfl]
    rfl
  · rw [if_pos (by rw [x_eq0 (by omega)]; exact z), bd1 p16', if_pos k13, a1, l13, if_pos ((x_in (by omega)).mpr (by omega)), x_cl (by omega), a2, if_neg z]
/-- an atom of a column -/
theorem c43c {D : AmC} {m : Nat} {sg kk : Int32} (hD : Pc D s x N i) (F : FrPa C D) (hc : cI D s 0 = nI cols) (h4 : cols ≤ 4) (e : cI C s 11 = nI A) (hA : A < 450) (km : kC m = kk) : Rt ((f_31 n 109 D).bind (fun z => match z with | (q12, C13) => (if q12 = 0 then some ((0 : Int32), C13) else (cP C13 109 5).bind (fun r16 => if isK r16 6 = true then (f_97 n r16 sg kk (cI C13 109 8) C13).bind (fun z => match z with | (q19, C20) => (if q19 = 0 then some ((0 : Int32), C20) else some ((1 : Int32), C20))) else none)))) (fun z C' => (∃ k j, spM m (spC x N cols i) = .inl (k, j) ∧ z = 0 ∧ FrPa C C' ∧ Flt C' x N k j) ∨ ∃ a j C1, spM m (spC x N cols i) = .inr (a, j) ∧ z = 1 ∧ FrPa C C1 ∧ Pc C1 s x N j ∧ C' = c97C C1 s A sg (kC a.1) a.2) := by
  have sl := scr_lt hD.2.1
  refine rt_bind (rt_mono (c31 hD hc h4) (fun z C1 H => ?_))
  obtain ⟨F1, ⟨k, j, er, rfl, fl⟩ | ⟨c, j, er, rfl, h1, ec⟩⟩ := H
  · dsimp only
    rw [if_pos rfl]
    exact rt_ret (Or.inl ⟨k, j, by rw [er]; rfl, rfl, F.trans F1, fl⟩)
  · dsimp only
    have e11 : cI C1 s 11 = nI A := by rw [(F.trans F1).1.2.1 s (by omega)]; exact e
    rw [if_neg (by decide), bd1 h1.2.2.1, if_pos (sc_of h1.1 h1.2.1).1, bd1 (c97 h1.1 h1.2.1 e11 hA)]
    dsimp only
    rw [if_neg (by decide)]
    exact rt_ret (Or.inr ⟨(m, nI c), j, C1, by rw [er]; rfl, rfl, F.trans F1, h1, by rw [ec, km]⟩)
theorem c43 {sg : Int32} (h : Pc C s x N i) (hc : cI C s 0 = nI cols) (h4 : cols ≤ 4) (ho : cI C 109 11 = if oth = true then 1 else 0) (hl : cI C 109 12 = if col = true then 1 else 0) (e : cI C s 11 = nI A) (hA : ps x N i < N → A < 450) : Rt (f_43 n 109 sg C) (fun z C' => (∃ k j, spA x N oth col cols i = .inl (k, j) ∧ z = 0 ∧ FrPa C C' ∧ Flt C' x N k j) ∨ ∃ a j C1, spA x N oth col cols i = .inr (a, j) ∧ z = 1 ∧ FrPa C C1 ∧ Pc C1 s x N j ∧ C' = c97C C1 s A sg (kC a.1) a.2) := by
  have sl := scr_lt h.2.1
  have F1 : FrPa C (uI C 109 4 ((cI C 109 4) + 1)) := (FrPa.refl C).u (by omega)
  have hc1 : cI (uI C 109 4 ((cI C 109 4) + 1)) s 0 = nI cols := by rw [r_In (by omega)]; exact hc
  unfold f_43 spA
  rw [if_pos k_109, bd1 (c23 h)]
  dsimp only
  by_cases e1 : tK x N i = 130
  · rw [if_pos (tq_130.mpr e1), if_pos e1, hl]
    have hA := hA (ps_k (by omega))
    cases col
    · rw [if_neg (fun q => q rfl), if_neg (by decide), bd1 (c25 h)]
      dsimp only
      rw [bool_i]
      exact rt_ret (Or.inl ⟨3, i, rfl, rfl, ((FrPa.refl C).u (by omega)).u (by omega), flt (by omega) rfl⟩)
    · rw [if_pos (by decide), if_pos rfl]
      exact c43c h (FrPa.refl C) hc h4 e hA rfl
  rw [if_neg (fun q => e1 (tq_130.mp q)), if_neg e1]
  by_cases e2 : tK x N i = 202
  · rw [if_pos (tq_202.mpr e2), if_pos e2, ho]
    have hA := hA (ps_k (by omega))
    cases oth
    · rw [if_neg (fun q => q rfl), if_neg (by decide), bd1 (c25 h)]
      dsimp only
      rw [bool_i]
      exact rt_ret (Or.inl ⟨3, i, rfl, rfl, ((FrPa.refl C).u (by omega)).u (by omega), flt (by omega) rfl⟩)
    · rw [if_pos (by decide), if_pos rfl]
      exact c43c (h.go (by omega)) F1 hc1 h4 e hA rfl
  rw [if_neg (fun q => e2 (tq_202.mp q)), if_neg e2]
  by_cases e3 : tK x N i = 211
  · have g := tq_211.mpr e3
    rw [g, if_pos rfl, if_pos e3]
    exact c43c (h.go (by omega)) F1 hc1 h4 e (hA (ps_k (by omega))) rfl
  rw [if_neg (fun q => e3 (tq_211.mp q)), if_neg e3]
  by_cases e4 : tK x N i = 212
  · have g := tq_212.mpr e4
    rw [g, if_pos rfl, if_pos e4]
    exact c43c (h.go (by omega)) F1 hc1 h4 e (hA (ps_k (by omega))) rfl
  rw [if_neg (fun q => e4 (tq_212.mp q)), if_neg e4]
  by_cases e5 : tK x N i = 213
  · have g := tq_213.mpr e5
    rw [g, if_pos rfl, if_pos e5]
    exact c43c (h.go (by omega)) F1 hc1 h4 e (hA (ps_k (by omega))) rfl
  rw [if_neg (fun q => e5 (tq_213.mp q)), if_neg e5]
  by_cases e6 : tK x N i = 214
  · have h1 := h.go (by omega)
    have e11 : cI (uI C 109 4 ((cI C 109 4) + 1)) s 11 = nI A := by rw [r_In (by omega)]; exact e
    rw [if_pos (tq_214.mpr e6), if_pos e6, bd1 h1.2.2.1, if_pos (sc_of h1.1 h1.2.1).1, bd1 (c97 h1.1 h1.2.1 e11 (hA (ps_k (by omega))))]
    dsimp only
    rw [if_pos (Or.inr rfl)]
    exact rt_ret (Or.inr ⟨(6, 0), i + 1, _, rfl, rfl, F1, h1, rfl⟩)
  rw [if_neg (fun q => e6 (tq_214.mp q)), if_neg e6]
  refine rt_bind (rt_mono (c30 h) (fun z C1 H => ?_))
  obtain ⟨F2, ⟨k, j, er, rfl, fl⟩ | ⟨v, j, er, rfl, h1, ec⟩⟩ := H
  · dsimp only
    rw [if_pos rfl]
    exact rt_ret (Or.inl ⟨k, j, by rw [er]; rfl, rfl, F2, fl⟩)
  · dsimp only
    have e11 : cI C1 s 11 = nI A := by rw [F2.1.2.1 s (by omega)]; exact e
    have pk : ps x N i < N := by
      refine ps_k (fun q => ?_)
      unfold spS at er
      rw [if_neg (by omega)] at er
      unfold spN at er
      rw [if_neg (by omega), if_neg (by omega)] at er
      cases er
    rw [if_neg (by decide), bd1 h1.2.2.1, if_pos (sc_of h1.1 h1.2.1).1, bd1 (c97 h1.1 h1.2.1 e11 (hA pk))]
    dsimp only
    rw [if_neg (by decide)]
    exact rt_ret (Or.inr ⟨(0, v), j, C1, by rw [er]; rfl, rfl, F2, h1, by rw [ec]; rfl⟩)
/-! how far it goes -/
theorem spN_ps {v : Int32} {ng : Bool} (h : spN x N ng i = .inr (v, j)) : j = i + 1 ∧ tK x N i = 128 ∧ v = (if ng = true then -nI (tN x N i) else nI (tN x N i)) := by
  unfold spN at h
  by_cases e : tK x N i = 129
  · rw [if_pos e] at h; cases h
  · rw [if_neg e] at h
    by_cases e2 : tK x N i = 128
    · rw [if_pos e2] at h; cases h; exact ⟨rfl, e2, rfl⟩
    · rw [if_neg e2] at h; cases h
theorem okN_nI {k : Nat} (h : k ≤ 9999) : okN (nI k) ∧ okN (-nI k) := by
  unfold okN
  rw [Int32.toInt_neg, nI_toInt (by omega)]
  have : (-(k : Int)).bmod (2 ^ 32) = -(k : Int) := by
    apply Int.bmod_eq_of_le <;> omega
  rw [this]
  omega
theorem spS_ps {v : Int32} (h : spS x N i = .inr (v, j)) : tK x N i ≠ 132 ∧ ps x N i + 1 ≤ ps x N j ∧ okN v ∧ i < j := by
  unfold spS at h
  by_cases e : tK x N i = 45
  · rw [if_pos e] at h
    obtain ⟨rfl, g, gv⟩ := spN_ps h
    have a := ps_1 (x := x) (N := N) (i := i) (by omega)
    have b := ps_1 (x := x) (N := N) (i := i + 1) (by omega)
    have o := okN_nI (tN_lt (x := x) (N := N) (i + 1))
    rw [if_pos rfl] at gv
    exact ⟨by omega, by omega, by rw [gv]; exact o.2, by omega⟩
  · rw [if_neg e] at h
    obtain ⟨rfl, g, gv⟩ := spN_ps h
    have b := ps_1 (x := x) (N := N) (i := i) (by omega)
    have o := okN_nI (tN_lt (x := x) (N := N) i)
    rw [if_neg (by decide)] at gv
    exact ⟨by omega, b, by rw [gv]; exact o.1, by omega⟩
theorem spC_ps {c : Nat} (h : spC x N cols i = .inr (c, j)) : tK x N i = 130 ∧ c = tN x N i ∧ c < cols ∧ j = i + 1 := by
  unfold spC at h
  by_cases e : tK x N i = 130
  · rw [if_pos e] at h
    by_cases g : tN x N i < cols
    · rw [if_pos g] at h; cases h; exact ⟨e, rfl, g, rfl⟩
    · rw [if_neg g] at h; cases h
  · rw [if_neg e] at h; cases h
theorem spM_ps {m : Nat} {a : Nat × Int32} (h : spM m (spC x N cols i) = .inr (a, j)) : tK x N i ≠ 132 ∧ ps x N i + 1 ≤ ps x N j ∧ j = i + 1 ∧ a.1 = m ∧ ∃ c, c < cols ∧ a.2 = nI c := by
  cases e : spC x N cols i with
  | inl k => rw [e] at h; cases h
  | inr q =>
    obtain ⟨c, j'⟩ := q
    rw [e] at h
    cases h
    obtain ⟨h1, h2, h3, rfl⟩ := spC_ps e
    exact ⟨by omega, ps_1 (by omega), rfl, rfl, c, h3, rfl⟩
theorem spA_ps {a : Nat × Int32} (h1c : 1 ≤ cols) (h : spA x N oth col cols i = .inr (a, j)) : tK x N i ≠ 132 ∧ ps x N i + 1 ≤ ps x N j ∧ i < j ∧ ((a.1 = 0 ∧ okN a.2) ∨ (1 ≤ a.1 ∧ a.1 ≤ 6 ∧ ∃ c, c < cols ∧ a.2 = nI c)) ∧ (a.1 = 2 → oth = true) ∧ (a.1 = 1 → col = true) := by
  unfold spA at h
  have two : ∀ m, tK x N i ≠ 132 → 3 ≤ m → m ≤ 6 → spM m (spC x N cols (i + 1)) = .inr (a, j) → tK x N i ≠ 132 ∧ ps x N i + 1 ≤ ps x N j ∧ i < j ∧ ((a.1 = 0 ∧ okN a.2) ∨ (1 ≤ a.1 ∧ a.1 ≤ 6 ∧ ∃ c, c < cols ∧ a.2 = nI c)) ∧ (a.1 = 2 → oth = true) ∧ (a.1 = 1 → col = true) := by
    intro m t m1 m2 g
    obtain ⟨g1, g2, g3, g4, g5⟩ := spM_ps g
    have := ps_1 t
    exact ⟨t, by omega, by omega, Or.inr ⟨by omega, by omega, g5⟩, by omega, by omega⟩
  by_cases e1 : tK x N i = 130
  · rw [if_pos e1] at h
    rcases bcs col with hb | hb
    · rw [hb, if_neg (by decide)] at h; cases h
    · rw [hb, if_pos rfl] at h
      obtain ⟨g1, g2, g3, g4, g5⟩ := spM_ps h
      exact ⟨by omega, g2, by omega, Or.inr ⟨by omega, by omega, g5⟩, by omega, fun _ => hb⟩
  rw [if_neg e1] at h
  by_cases e2 : tK x N i = 202
  · rw [if_pos e2] at h
    rcases bcs oth with hb | hb
    · rw [hb, if_neg (by decide)] at h; cases h
    · rw [hb, if_pos rfl] at h
      obtain ⟨g1, g2, g3, g4, g5⟩ := spM_ps h
      have := ps_1 (x := x) (N := N) (i := i) (by omega)
      exact ⟨by omega, by omega, by omega, Or.inr ⟨by omega, by omega, g5⟩, fun _ => hb, by omega⟩
  rw [if_neg e2] at h
  by_cases e3 : tK x N i = 211
  · rw [if_pos e3] at h; exact two 3 (by omega) (by omega) (by omega) h
  rw [if_neg e3] at h
  by_cases e4 : tK x N i = 212
  · rw [if_pos e4] at h; exact two 4 (by omega) (by omega) (by omega) h
  rw [if_neg e4] at h
  by_cases e5 : tK x N i = 213
  · rw [if_pos e5] at h; exact two 5 (by omega) (by omega) (by omega) h
  rw [if_neg e5] at h
  by_cases e6 : tK x N i = 214
  · rw [if_pos e6] at h
    cases h
    exact ⟨by omega, ps_1 (by omega), by omega, Or.inr ⟨by decide, by decide, 0, by omega, rfl⟩, fun q => absurd q (by decide), fun q => absurd q (by decide)⟩
  rw [if_neg e6] at h
  cases es : spS x N i with
  | inl k => rw [es] at h; cases h
  | inr q =>
    obtain ⟨v, j'⟩ := q
    rw [es] at h
    cases h
    obtain ⟨g1, g2, g3, g4⟩ := spS_ps es
    exact ⟨g1, g2, g4, Or.inl ⟨rfl, g3⟩, fun q => absurd (show (0 : Nat) = 2 from q) (by decide), fun q => absurd (show (0 : Nat) = 1 from q) (by decide)⟩
end
