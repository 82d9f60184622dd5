/-! table: the reference. -/
/-- a script's cells lie in half h -/
def Lo (C : AmC) (h : Nat) (S : Scr) : Prop := ∃ A V T, A ≤ 460 ∧ V ≤ 320 ∧ T ≤ 160 ∧ ScrL C h A V T S
theorem Lo.of {C C' : AmC} {h : Nat} {S : Scr} (g : Lo C h S) (e : ∀ b, 151 ≤ b → b ≤ 177 → cI C' b = cI C b) : Lo C' h S := by
  obtain ⟨A, V, T, g1, g2, g3, g4⟩ := g
  exact ⟨A, V, T, g1, g2, g3, g4.of e⟩
def WB (g b j : Nat) : Prop := WP4 g b j ∨ (b = 145 ∧ (j = 41 ∨ j = 43 ∨ j = 47))
section
variable {n h i j N A V T m r c g : Nat} {C C' : AmC} {x : Nat → Nat} {t : Tel} {B : Big} {S : Scr}
/-- the other half is written -/
theorem ScrL.oth (hh : h < 2) (hO : ScrOK S) (hA : A ≤ 460) (hV : V ≤ 320) (hT : T ≤ 160) (gS : ScrL C h A V T S) (F : FrZ (WB (1 - h)) C C') : ScrL C' h A V T S := by
  obtain ⟨g1, g2, g3, g4, g5, g6, g7, g8⟩ := gS
  have l3 := hO.2.2.1
  have l10 := hO.2.2.2.2.2.1
  have l8 := hO.2.2.2.2.2.2.2.1
  have c4 := hO.2.1
  refine ⟨?_, ?_, fun i hi => ⟨?_, ?_⟩, ?_, ?_, fun o ho c hc => ?_, ?_, fun i hi => ?_⟩
  · rw [F.2 159 _ (by unfold WB WP4 WP; omega)]; exact g1
  · rw [F.2 160 _ (by unfold WB WP4 WP; omega)]; exact g2
  · rw [F.2 167 _ (by unfold WB WP4 WP; omega)]; exact (g3 i hi).1
  · rw [F.2 168 _ (by unfold WB WP4 WP; omega)]; exact (g3 i hi).2
  · rw [F.2 161 _ (by unfold WB WP4 WP; omega)]; exact g4
  · rw [F.2 162 _ (by unfold WB WP4 WP; omega)]; exact g5
  · rw [F.2 169 _ (by unfold WB WP4 WP; omega)]; exact g6 o ho c hc
  · rw [F.2 163 _ (by unfold WB WP4 WP; omega)]; exact g7
  · exact (g8 i hi).keep (F.kp (fun b j z => by unfold WB WP4 WP; omega)) (fun b z1 z2 => F.2 b _ (by unfold WB WP4 WP; omega)) (fun b c z1 z2 => F.2 b _ (by unfold WB WP4 WP; omega)) (fun b j z1 z2 z3 z4 => F.2 b j (by unfold WB WP4 WP; omega)) (Nat.le_refl _) (Nat.le_refl _) (Nat.le_refl _)
def clr (C : AmC) (g : Nat) : AmC := uI (uI (uI (uI (uI (uI (uI (uI C 159 g 3) 166 g 0) 165 g 0) 164 g 0) 163 g 0) 162 g 0) 161 g 0) 160 g 0
theorem m160 (hP : PInv C) (hg : g < 2) : f_160 n 145 (nI g) C = some ((), clr C g) := by
  unfold f_160
  rw [if_pos k_145, bd1 (w_145_21 hP), if_pos k_159, l_159, if_pos ((x_in (by omega)).mpr hg), x_cl (by omega)]
  rw [bd1 (show cP (uI C 159 g 3) 145 22 = some 160 by rw [p_I]; exact w_145_22 hP), bd1 (show cP (uI C 159 g 3) 145 23 = some 161 by rw [p_I]; exact w_145_23 hP), bd1 (show cP (uI C 159 g 3) 145 24 = some 162 by rw [p_I]; exact w_145_24 hP), bd1 (show cP (uI C 159 g 3) 145 25 = some 163 by rw [p_I]; exact w_145_25 hP), bd1 (show cP (uI C 159 g 3) 145 26 = some 164 by rw [p_I]; exact w_145_26 hP), bd1 (show cP (uI C 159 g 3) 145 27 = some 165 by rw [p_I]; exact w_145_27 hP), bd1 (show cP (uI C 159 g 3) 145 28 = some 166 by rw [p_I]; exact w_145_28 hP)]
  rw [if_pos k_166, l_166, if_pos ((x_in (by omega)).mpr hg), if_pos k_165, l_165, if_pos ((x_in (by omega)).mpr hg), if_pos k_164, l_164, if_pos ((x_in (by omega)).mpr hg), if_pos k_163, l_163, if_pos ((x_in (by omega)).mpr hg), if_pos k_162, l_162, if_pos ((x_in (by omega)).mpr hg), if_pos k_161, l_161, if_pos ((x_in (by omega)).mpr hg), if_pos k_160, l_160, if_pos ((x_in (by omega)).mpr hg)]
  rfl
theorem clr_p : cP (clr C g) = cP C := by
  unfold clr
  rw [p_I, p_I, p_I, p_I, p_I, p_I, p_I, p_I]
theorem clr_fr : FrZ (fun b j => 159 ≤ b ∧ b ≤ 166 ∧ j = g) C (clr C g) := by
  unfold clr
  exact (((((((((FrZ.refl C).u (by omega)).u (by omega)).u (by omega)).u (by omega)).u (by omega)).u (by omega)).u (by omega)).u (by omega))
theorem clr_v : cI (clr C g) 159 g = 3 ∧ ∀ b, 160 ≤ b → b ≤ 166 → cI (clr C g) b g = 0 := by
  unfold clr
  refine ⟨?_, fun b h1 h2 => ?_⟩
  · rw [r_In (by omega), r_In (by omega), r_In (by omega), r_In (by omega), r_In (by omega), r_In (by omega), r_In (by omega), r_I, if_pos ⟨rfl, rfl⟩]
  · have : b = 160 ∨ b = 161 ∨ b = 162 ∨ b = 163 ∨ b = 164 ∨ b = 165 ∨ b = 166 := by omega
    rcases this with rfl | rfl | rfl | rfl | rfl | rfl | rfl
    · rw [r_I, if_pos ⟨rfl, rfl⟩]
    · rw [r_In (by omega), r_I, if_pos ⟨rfl, rfl⟩]
    · rw [r_In (by omega), r_In (by omega), r_I, if_pos ⟨rfl, rfl⟩]
    · rw [r_In (by omega), r_In (by omega), r_In (by omega), r_I, if_pos ⟨rfl, rfl⟩]
    · rw [r_In (by omega), r_In (by omega), r_In (by omega), r_In (by omega), r_I, if_pos ⟨rfl, rfl⟩]
    · rw [r_In (by omega), r_In (by omega), r_In (by omega), r_In (by omega), r_In (by omega), r_I, if_pos ⟨rfl, rfl⟩]
    · rw [r_In (by omega), r_In (by omega), r_In (by omega), r_In (by omega), r_In (by omega), r_In (by omega), r_I, if_pos ⟨rfl, rfl⟩]
theorem m189_z : ∀ k j n C, j + k = 150 → k < n → PInv C → Rt (lp_189_45 n 145 (nI j) C) (fun z C' => z = 145 ∧ FrZ (fun b _ => b = 179) C C' ∧ ∀ q, q < 150 → cI C' 179 q = if j ≤ q then 0 else cI C 179 q) := by
  intro k
  induction k with
  | zero =>
    intro j n C h1 h2 P
    obtain ⟨n, rfl⟩ : ∃ m, n = m + 1 := ⟨n - 1, by omega⟩
    rw [lp_189_45, n_150, if_pos ((x_le (by omega) (by omega)).mpr (by omega))]
    exact rt_ret ⟨rfl, FrZ.refl C, fun q hq => by rw [if_neg (by omega)]⟩
  | succ k ih =>
    intro j n C h1 h2 P
    obtain ⟨n, rfl⟩ : ∃ m, n = m + 1 := ⟨n - 1, by omega⟩
    rw [lp_189_45, n_150, if_neg (by rw [x_le (by omega) (by omega)]; omega), if_pos k_145, bd1 (w_145_52 P), if_pos k_179, l_179, if_pos ((x_in (by omega)).mpr (by omega)), x_cl (by omega), x_a1]
    refine rt_mono (ih (j + 1) n _ (by omega) (by omega) (P.of rfl)) (fun z D H => ⟨H.1, (FrZ.u (W := fun b _ => b = 179) (FrZ.refl C) rfl).trans H.2.1, fun q hq => ?_⟩)
    rw [H.2.2 q hq, r_I]
    by_cases e : q = j
    · rw [if_neg (by omega), if_pos ⟨rfl, e⟩, if_pos (by omega)]
    · by_cases l : j + 1 ≤ q
      · rw [if_pos l, if_pos (by omega)]
      · rw [if_neg l, if_neg (fun z => e z.2), if_neg (by omega)]
theorem m189_c : ∀ k j n C, j + k = 150 → k < n → PInv C → Rt (lp_189_104 n 145 (nI j) C) (fun z C' => z = 145 ∧ FrZ (fun b q => b = 146 ∧ q < 150) C C' ∧ ∀ q, q < 150 → cI C' 146 q = if j ≤ q then cI C 179 q else cI C 146 q) := by
  intro k
  induction k with
  | zero =>
    intro j n C h1 h2 P
    obtain ⟨n, rfl⟩ : ∃ m, n = m + 1 := ⟨n - 1, by omega⟩
    rw [lp_189_104, n_150, if_pos ((x_le (by omega) (by omega)).mpr (by omega))]
    exact rt_ret ⟨rfl, FrZ.refl C, fun q hq => by rw [if_neg (by omega)]⟩
  | succ k ih =>
    intro j n C h1 h2 P
    obtain ⟨n, rfl⟩ : ∃ m, n = m + 1 := ⟨n - 1, by omega⟩
    rw [lp_189_104, n_150, if_neg (by rw [x_le (by omega) (by omega)]; omega), if_pos k_145, bd1 (w_145_0 P), bd1 (w_145_52 P), if_pos k_179, l_179, if_pos ((x_in (by omega)).mpr (by omega)), if_pos k_146, l_146, if_pos ((x_in (by omega)).mpr (by omega)), x_cl (by omega), x_a1]
    refine rt_mono (ih (j + 1) n _ (by omega) (by omega) (P.of rfl)) (fun z D H => ⟨H.1, (FrZ.u (W := fun b q => b = 146 ∧ q < 150) (FrZ.refl C) ⟨rfl, by omega⟩).trans H.2.1, fun q hq => ?_⟩)
    rw [H.2.2 q hq, r_In (by omega), r_I]
    by_cases e : q = j
    · rw [if_neg (by omega), if_pos ⟨rfl, e⟩, if_pos (by omega), e]
    · by_cases l : j + 1 ≤ q
      · rw [if_pos l, if_pos (by omega)]
      · rw [if_neg l, if_neg (fun z => e z.2), if_neg (by omega)]
theorem m189_l0 (N9 : N ≤ 900) (hn : 5100 ≤ n) (hP : PSm 0 C h x N 0 tel0 0 0 0) (h54 : cI C 145 54 = 0) : Rt (lp_189_63 n 145 C) (E89 h x N C (spAll x N)) := by
  have G : ∀ f, f = 902 → Rt (lp_189_63 n 145 C) (E89 h x N C (spL x N f 0 tel0 0)) := fun f hf => m189_lp N9 f 0 tel0 0 C n 0 0 0 (by omega) (Nat.le_refl _) (fun j hj => absurd hj (Nat.not_lt_zero j)) (by omega) hP tel0_ok (fun _ => rfl) h54
  exact G 902 rfl
def AnT (C' : AmC) (z : Int32) (A : Int32 ⊕ Nat) : Prop := match A with
  | .inl v => cI C' 145 5 = 0 ∧ z = v
  | .inr _ => cI C' 145 5 = 1
def t189 (n : Nat) (D : AmC) : Option (Int32 × AmC) := (if (cI D 145 51) = 0 then (lp_189_104 n 145 (0 : Int32) (uI D 145 40 (cI D 145 41))).bind (fun q => match q with | (u116, C115) => if isK u116 10 = true then some ((0 : Int32), uI (uI (uI (uI C115 u116 12 (0 : Int32)) u116 8 (0 : Int32)) u116 7 (0 : Int32)) u116 6 (0 : Int32)) else none) else (cP D 145 4).bind (fun r118 => if isK r118 12 = true then if amIn (0 : Int32) (aLen r118) = true then if amIn (0 : Int32) (aLen r118) = true then some ((cI (uI D r118 (Int32.toNatClampNeg (0 : Int32)) ((cI D r118 (Int32.toNatClampNeg (0 : Int32))) + (1 : Int32))) 145 51), uI D r118 (Int32.toNatClampNeg (0 : Int32)) ((cI D r118 (Int32.toNatClampNeg (0 : Int32))) + (1 : Int32))) else none else none else none))
def R189 (B : Big) (r : (Int32 ⊕ Nat) × Big) (C : AmC) (z : Int32) (C' : AmC) : Prop := AnT C' z r.1 ∧ (∃ h', MI C' h' r.2 ∧ Lo C' h' (bS r.2)) ∧ cP C' = cP C ∧ ∀ b, b < 145 → cI C' b = cI C b
/-- behind the text -/
theorem m189_e {D : AmC} (hM : MI C h B) (hL : Lo C h (bS B)) (hB : BigOK B) (hn : 200 ≤ n) (h5 : cI C 145 5 = 0) (F : FrZ (WB (1 - h)) C D) (e43 : cI D 145 43 = 0) (e41 : cI D 145 41 = nI (1 - h)) (H : (∃ k j, spAll (txX B) m = .inl (k, j) ∧ FltM D (txX B) m k j) ∨ ∃ t j, spAll (txX B) m = .inr (t, j) ∧ TelOK t ∧ ∃ A V T, PSm 0 D (1 - h) (txX B) m j t A V T) : Rt (t189 n D) (R189 B (sTb B m (spAll (txX B) m)) C) := by
  obtain ⟨h1, h2, h3, h4, h5', h6, h7⟩ := hM
  have hh := h1.2.2.1.1
  have P := h1.1
  have PD : PInv D := P.of F.1
  have oD : ∀ b, (b < 145 ∨ (146 ≤ b ∧ b ≤ 150)) → cI D b = cI C b := fun b hb => F.c (fun j => by unfold WB WP4 WP; omega)
  have o45 : ∀ f, f ≤ 40 → cI D 145 f = cI C 145 f := fun f hf => F.2 145 f (by unfold WB WP4 WP; omega)
  have c4 := hB.1.2.1
  unfold t189
  rcases H with ⟨k, j, er, f1, f2, f3, f4⟩ | ⟨t, j, er, tok, A, V, T, hP⟩
  · rw [er, if_neg (by rw [f3, x_eq0 (by omega)]; omega), bd1 (w_145_4 PD), if_pos k_150, l_150, if_pos (by decide), if_pos (by decide), x_cl0]
    obtain ⟨A, V, T, A4, V3, T1, sl⟩ := hL
    have sl2 := sl.oth hh hB.1 A4 V3 T1 F
    have M6 : MI D h (bS B, (0, bT B, nI (ps (txX B) m j)), bZ B, bI B) := by
      refine ⟨⟨PD, by rw [o45 40 (by omega)]; exact h1.2.1, sl2.mm hh A4 V3 T1, h1.2.2.2⟩, e43, fun k hk => absurd hk (Nat.not_lt_zero k), f4, ?_, by rw [o45 12 (by omega)]; exact h6, fun y hy => ?_⟩
      · exact h5'.of c4 (fun j _ _ => by rw [oD 146 (by omega)]) (fun j _ _ => by rw [oD 146 (by omega)]) (fun j _ _ => o45 j (by omega)) ⟨oD 147 (by omega), oD 148 (by omega), oD 149 (by omega), oD 150 (by omega)⟩
      · exact (h7 y hy).of c4 (fun j _ _ => by rw [oD 146 (by omega)]) (fun j _ _ => by rw [oD 146 (by omega)]) (fun j _ _ => o45 j (by omega)) ⟨oD 147 (by omega), oD 148 (by omega), oD 149 (by omega), oD 150 (by omega)⟩
    have B6 : BigOK (bS B, (0, bT B, nI (ps (txX B) m j)), bZ B, bI B) := ⟨hB.1, Nat.zero_le _, fun k hk => absurd hk (Nat.not_lt_zero k), hB.2.2.2.1, hB.2.2.2.2⟩
    have q51 : cI (uI D 150 0 (cI D 150 0 + 1)) 145 51 = nI k := by rw [r_In (by omega)]; exact f3
    refine rt_ret ⟨⟨?_, q51⟩, ⟨h, M6.ref B6 rfl (by omega), A, V, T, A4, V3, T1, sl2.of (fun b z1 z2 => r_In (by omega))⟩, ?_, fun b hb => ?_⟩
    · rw [r_In (by omega), o45 5 (by omega)]; exact h5
    · rw [p_I]; exact F.1
    · rw [r_In (by omega)]; exact oD b (Or.inl hb)
  · obtain ⟨hp, hS, hTd, hA, hT, ⟨b1, b2, b3⟩, h53⟩ := hP
    have pj := ps_le (x := txX B) (N := m) j
    have N9 := hp.2.2.2.1.1
    have C4 := tok.1.2.1
    rw [er, if_pos hp.2.2.2.2.2.1, e41]
    have L := m189_c 150 0 n (uI D 145 40 (nI (1 - h))) rfl (by omega) (PD.of rfl)
    rw [x_0] at L
    refine rt_bind (rt_mono L (fun z E H => ?_))
    obtain ⟨rfl, FE, cE⟩ := H
    dsimp only
    rw [if_pos k_145]
    have oE : ∀ b, b ≠ 145 → b ≠ 146 → cI E b = cI D b := fun b z1 z2 => by rw [FE.c (fun j z => z2 z.1), r_In z1]
    have oF : ∀ b, b ≠ 145 → b ≠ 146 → cI (uI (uI (uI (uI E 145 12 0) 145 8 0) 145 7 0) 145 6 0) b = cI D b := fun b z1 z2 => by rw [r_In z1, r_In z1, r_In z1, r_In z1, oE b z1 z2]
    have oF6 : cI (uI (uI (uI (uI E 145 12 0) 145 8 0) 145 7 0) 145 6 0) 146 = cI E 146 := by rw [r_In (by omega), r_In (by omega), r_In (by omega), r_In (by omega)]
    have F45 : ∀ f, cI (uI (uI (uI (uI E 145 12 0) 145 8 0) 145 7 0) 145 6 0) 145 f = if f = 6 then 0 else if f = 7 then 0 else if f = 8 then 0 else if f = 12 then 0 else if f = 40 then nI (1 - h) else cI D 145 f := fun f => by
      rw [r_I, r_I, r_I, r_I, FE.2 145 f (by omega), r_I]
      simp
    have pF : cP (uI (uI (uI (uI E 145 12 0) 145 8 0) 145 7 0) 145 6 0) = cP D := by rw [p_I, p_I, p_I, p_I, FE.1, p_I]
    generalize uI (uI (uI (uI E 145 12 0) 145 8 0) 145 7 0) 145 6 0 = X at oF oF6 F45 pF
    have SX : ScrL X (1 - h) A V T t.1 := hS.of (fun b z1 z2 => oF b (by omega) (by omega))
    have td := hTd.t tok.2.2 C4
    have cX : ∀ q, q < 150 → cI X 146 q = cI D 179 q := fun q hq => by rw [oF6, cE q hq, if_pos (Nat.zero_le _), r_In (by omega)]
    refine rt_ret ⟨⟨?_, rfl⟩, ⟨1 - h, ⟨⟨PD.of pF, ?_, SX.mm (by omega) (by omega) (by omega) (by omega), tok.1⟩, ?_, fun k hk => absurd hk (Nat.not_lt_zero k), ?_, ⟨⟨⟨fun p hp => ?_, fun p hp tp c hc => ?_⟩, fun p hp tp c z1 z2 => ?_⟩, ⟨0, by omega, ?_, ?_, fun k hk => absurd hk (Nat.not_lt_zero k)⟩, ?_, fun k hk => absurd hk (Nat.not_lt_zero k), fun k hk => ?_⟩, ?_, fun y hy => by cases hy⟩, A, V, T, by omega, by omega, by omega, SX⟩, ?_, fun b hb => ?_⟩
    · rw [F45]; exact (o45 5 (by omega)).trans h5
    · rw [F45]; rfl
    · rw [F45]; exact e43
    · rw [F45]; exact hp.2.2.2.2.2.2
    · rw [cX _ (by omega)]; exact td.1.1 p hp
    · have hc : c < sCols t.1 := hc
      rw [cX _ (by omega)]; exact td.1.2 p hp tp c hc
    · rw [cX _ (by omega)]; exact td.2 p hp tp c z1 z2
    · rw [F45]; rfl
    · rw [F45]; rfl
    · rw [F45]; rfl
    · rw [oF 150 (by omega) (by omega), oD 150 (by omega)]; exact h5'.2.2.2.2 k hk
    · rw [F45]; rfl
    · rw [pF]; exact F.1
    · rw [oF b (by omega) (by omega)]; exact oD b (Or.inl hb)
theorem q189 (hM : MI C h B) (hL : Lo C h (bS B)) (hB : BigOK B) (hn : 5200 ≤ n) (a : Int32) : Rt (f_189 n 145 a C) (R189 B (sTab B a) C) := by
  have N9 := hB.2.1
  obtain ⟨M0, t0, F0⟩ := hM.t0 hB
  generalize hC0 : uI C 145 5 0 = C0 at M0 t0 F0
  have hh := M0.1.2.2.1.1
  have L0 : Lo C0 h (bS B) := hL.of (fun b z1 z2 => F0.o b (Or.inr ⟨z1, z2⟩))
  have P0 := M0.1.1
  have w43 := M0.2.1
  unfold f_189 sTab
  rw [if_pos k_145, hC0, w43]
  have thr : Rt ((f_162 n 145 (0 : Int32) (1 : Int32) C0)) (fun z D => z = 0 ∧ D = uI C0 145 5 1) := by
    have := m162 (n := n) (w := 1) false t0 (by decide)
    rw [show f_162 n 145 0 1 C0 = some (0, uI C0 145 5 1) from this]
    exact rt_ret ⟨rfl, rfl⟩
  have bad : R189 B (.inr 1, B) C 0 (uI C0 145 5 1) := by
    have F2 : FrR C (uI C0 145 5 1) := F0.uF (Or.inl rfl)
    exact ⟨by show cI _ 145 5 = 1; rw [r_I, if_pos ⟨rfl, rfl⟩], ⟨h, hM.frR hB F2, hL.of (fun b z1 z2 => F2.o b (Or.inr ⟨z1, z2⟩))⟩, F2.1, fun b hb => F2.o b (Or.inl hb)⟩
  rcases i_cs a with a0 | ⟨m, hm, rfl⟩
  · rw [if_pos a0, if_pos (Or.inl a0)]
    refine rt_bind (rt_mono thr (fun z D H => ?_))
    obtain ⟨rfl, rfl⟩ := H
    dsimp only
    rw [if_neg (fun z => z rfl)]
    exact rt_ret bad
  · have m0 : ¬ nI m < 0 := by rw [x_lt0 hm]; exact id
    rw [if_neg m0]
    by_cases mN : m ≤ bN B
    · have c2 : ¬ (nI m < 0 ∨ nI (bN B) < nI m) := by
        rw [x_lt (by omega) hm]
        rintro (z | z)
        · exact m0 z
        · omega
      have w162 : f_162 n 145 1 1 C0 = some (1, C0) := m162 (n := n) (w := 1) true t0 (by decide)
      rw [if_neg (by rw [x_lt (by omega) hm]; omega), if_neg c2, x_cl hm, bd1 w162]
      dsimp only
      rw [if_pos (by decide)]
      have e40 : cI (uI (uI (uI (uI (uI C0 145 43 0) 145 47 (nI m)) 145 45 0) 145 51 0) 145 44 (-1)) 145 40 = nI h := by
        rw [r_I, if_neg (by omega), r_I, if_neg (by omega), r_I, if_neg (by omega), r_I, if_neg (by omega), r_I, if_neg (by omega)]
        exact M0.1.2.1
      rw [e40, x_1s (by omega)]
      have f41 : cI (uI (uI (uI (uI (uI (uI C0 145 43 0) 145 47 (nI m)) 145 45 0) 145 51 0) 145 44 (-1)) 145 41 (nI (1 - h))) 145 41 = nI (1 - h) := by rw [r_I, if_pos ⟨rfl, rfl⟩]
      rw [f41]
      have F1 : FrZ (WB (1 - h)) C0 (uI (uI (uI (uI (uI (uI C0 145 43 0) 145 47 (nI m)) 145 45 0) 145 51 0) 145 44 (-1)) 145 41 (nI (1 - h))) := ((((((FrZ.refl C0).u (by unfold WB; omega)).u (by unfold WB; omega)).u (by unfold WB WP4 WP; omega)).u (by unfold WB WP4 WP; omega)).u (by unfold WB WP4 WP; omega)).u (by unfold WB; omega)
      have fF : ∀ f, cI (uI (uI (uI (uI (uI (uI C0 145 43 0) 145 47 (nI m)) 145 45 0) 145 51 0) 145 44 (-1)) 145 41 (nI (1 - h))) 145 f = if f = 41 then nI (1 - h) else if f = 44 then -1 else if f = 51 then 0 else if f = 45 then 0 else if f = 47 then nI m else if f = 43 then 0 else cI C0 145 f := fun f => by
        rw [r_I, r_I, r_I, r_I, r_I, r_I]
        simp
      generalize uI (uI (uI (uI (uI (uI C0 145 43 0) 145 47 (nI m)) 145 45 0) 145 51 0) 145 44 (-1)) 145 41 (nI (1 - h)) = C1 at F1 fF f41
      have P1 : PInv C1 := P0.of F1.1
      have o1 : ∀ b, b ≠ 145 → b < 151 ∨ b = 178 → cI C1 b = cI C0 b := fun b z1 z2 => F1.c (fun j => by unfold WB WP4 WP; omega)
      rw [bd1 (m160 (n := n) P1 (show 1 - h < 2 by omega))]
      dsimp only
      have F2 := clr_fr (C := C1) (g := 1 - h)
      have V2 := clr_v (C := C1) (g := 1 - h)
      generalize clr C1 (1 - h) = C2 at F2 V2
      have P2 : PInv C2 := P1.of F2.1
      have L3 := m189_z 150 0 n C2 rfl (by omega) P2
      rw [x_0] at L3
      refine rt_bind (rt_mono L3 (fun z C3 H => ?_))
      obtain ⟨rfl, F3, z3⟩ := H
      dsimp only
      rw [if_pos k_145]
      have o3 : ∀ b, b ≠ 179 → cI C3 b = cI C2 b := fun b hb => F3.c (fun j z => hb z)
      have o2 : ∀ b, ¬ (159 ≤ b ∧ b ≤ 166) → cI C2 b = cI C1 b := fun b hb => F2.c (fun j z => hb ⟨z.1, z.2.1⟩)
      have F4 : FrZ (WB (1 - h)) C0 (uI (uI C3 145 54 0) 145 53 0) := (((F1.trans (F2.mono (W' := WB (1 - h)) (fun b j z => by unfold WB WP4 WP; omega))).trans (F3.mono (W' := WB (1 - h)) (fun b j z => by unfold WB WP4 WP; omega))).u (by unfold WB WP4; omega)).u (by unfold WB WP4 WP; omega)
      have e4 : ∀ f, cI (uI (uI C3 145 54 0) 145 53 0) 145 f = if f = 53 then 0 else if f = 54 then 0 else cI C1 145 f := fun f => by
        rw [r_I, r_I, o3 145 (by omega), o2 145 (by omega)]
        simp
      have b4 : ∀ b, b ≠ 145 → cI (uI (uI C3 145 54 0) 145 53 0) b = cI C3 b := fun b z => by rw [r_In z, r_In z]
      generalize uI (uI C3 145 54 0) 145 53 0 = C4 at F4 e4 b4
      have P4 : PInv C4 := P0.of F4.1
      have tp4 : TpM C4 (txX B) m := ⟨by omega, by rw [e4, fF]; rfl, fun k hk => by
        obtain ⟨t1, t2⟩ := tx_ok hB (k := k) (by omega)
        refine ⟨t1, ?_⟩
        rw [b4 178 (by omega), o3 178 (by omega), o2 178 (by omega), o1 178 (by omega) (Or.inr rfl), ← t2]
        exact M0.2.2.1 k (by omega)⟩
      refine rt_bind (rt_mono (m169 (n := n) (p := 0) P4 tp4 (Nat.zero_le _) (by rw [e4, fF]; rfl) (by omega)) (fun _ C5 H => ?_))
      obtain ⟨at5, G5⟩ := H
      have F5 := G5.w
      have F5' : FrZ (WB (1 - h)) C0 C5 := F4.trans (F5.mono (fun _ _ z => Or.inl (Or.inl (W0.p z))))
      have b5 : ∀ b, b ≠ 145 → cI C5 b = cI C4 b := fun b z => F5.c (fun j q => z q.1)
      have pm5 : Pm C5 (1 - h) (txX B) m 0 := ⟨P0.of F5'.1, by omega, by rw [G5.2.2 41 (by omega), e4, fF]; rfl, tp4.fr G5, at5, by rw [G5.2.2 51 (by omega), e4, fF]; rfl, by rw [G5.2.2 44 (by omega), e4, fF]; rfl⟩
      have c5 : ∀ b, 160 ≤ b → b ≤ 166 → cI C5 b (1 - h) = 0 := fun b z1 z2 => by rw [b5 b (by omega), b4 b (by omega), o3 b (by omega)]; exact V2.2 b z1 z2
      have ps5 : PSm 0 C5 (1 - h) (txX B) m 0 tel0 0 0 0 := by
        refine ⟨pm5, ⟨?_, c5 160 (by omega) (by omega), fun q hq => absurd hq (Nat.not_lt_zero q), c5 161 (by omega) (by omega), c5 162 (by omega) (by omega), fun q hq => absurd hq (Nat.not_lt_zero q), c5 163 (by omega) (by omega), fun q hq => absurd hq (Nat.not_lt_zero q)⟩, ⟨fun p hp => ?_, fun p c hp hc => ?_⟩, ⟨c5 164 (by omega) (by omega), c5 165 (by omega) (by omega)⟩, c5 166 (by omega) (by omega), ⟨by omega, by omega, by omega⟩, ?_⟩
        · rw [b5 159 (by omega), b4 159 (by omega), o3 159 (by omega)]; exact V2.1
        · rw [b5 179 (by omega), b4 179 (by omega), z3 p (by omega), if_pos (Nat.zero_le _), if_neg (show ¬ p < tel0.2.1 from Nat.not_lt_zero p)]
        · rw [b5 179 (by omega), b4 179 (by omega), z3 _ (by omega), if_pos (Nat.zero_le _), if_neg (show ¬ (p < tel0.2.1 ∧ c < sCols tel0.1) from fun z => absurd z.1 (Nat.not_lt_zero p))]
        · rw [G5.2.2 53 (by omega), e4]; rfl
      dsimp only
      refine rt_bind (rt_mono (m189_l0 (by omega) (by omega) ps5 (by rw [G5.2.2 54 (by omega), e4]; rfl)) (fun z C6 H => ?_))
      obtain ⟨rfl, F6, H⟩ := H
      have F6' : FrZ (WB (1 - h)) C0 C6 := F5'.trans (F6.mono (fun _ _ z => Or.inl z))
      dsimp only
      rw [if_pos k_145]
      refine rt_mono (m189_e M0 L0 hB (by omega) t0 F6' ?_ ?_ H) (fun z D H => ⟨H.1, H.2.1, H.2.2.1.trans F0.1, fun b hb => (H.2.2.2 b hb).trans (F0.o b (Or.inl hb))⟩)
      · rw [F6.2 145 43 (by unfold WP4 WP; omega), G5.2.2 43 (by omega), e4, fF]; rfl
      · rw [F6.2 145 41 (by unfold WP4 WP; omega), G5.2.2 41 (by omega), e4, fF]; rfl
    · rw [if_pos ((x_lt (by omega) hm).mpr (by omega)), if_pos (Or.inr ((x_lt (by omega) hm).mpr (by omega)))]
      refine rt_bind (rt_mono thr (fun z D H => ?_))
      obtain ⟨rfl, rfl⟩ := H
      dsimp only
      rw [if_neg (fun z => z rfl)]
      exact rt_ret bad
end
