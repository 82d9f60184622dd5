/-! table: the class. -/
def txX (B : Big) (k : Nat) : Nat := (bT B k).toNatClampNeg
theorem tx_ok {B : Big} (hB : BigOK B) {k : Nat} (hk : k < bN B) : txX B k < 256 ∧ bT B k = nI (txX B k) := by
  obtain ⟨v, hv, e⟩ := hB.2.2.1 k hk
  have : txX B k = v := by unfold txX; rw [e, x_cl (by omega)]
  rw [this]
  exact ⟨hv, e⟩
def bBad (B : Big) (v : Int32) : Big := (bS B, (0, bT B, v), zRef (bZ B) 0, bI B)
def bNew (B : Big) (t : Tel) : Big := (t.1, (0, bT B, -1), (tlT t.2.1 t.2.2, [], [], zR (bZ B)), none)
def sTb (B : Big) (m : Nat) (r : PE Tel) : (Int32 ⊕ Nat) × Big := match r with
  | .inl (k, j) => (.inl (nI k), bBad B (nI (ps (txX B) m j)))
  | .inr (t, _) => (.inl 0, bNew B t)
def sTab (B : Big) (a : Int32) : (Int32 ⊕ Nat) × Big := if a < 0 ∨ nI (bN B) < a then (.inr 1, B) else sTb B a.toNatClampNeg (spAll (txX B) a.toNatClampNeg)
theorem scr_44 {s : Nat} (hs : s ∈ scrL) : 44 - s ∈ scrL ∧ 44 - (44 - s) = s ∧ (s = 2 ∨ s = 42) := by
  rcases List.mem_cons.mp hs with rfl | hs
  · exact ⟨by decide, rfl, Or.inl rfl⟩
  · rcases List.mem_cons.mp hs with rfl | hs
    · exact ⟨by decide, rfl, Or.inr rfl⟩
    · cases hs
section
variable {n s : Nat} {C C' : AmC} {x : Nat → Nat} {B : Big}
def c86C (C : AmC) (s : Nat) : AmC := uI (uI (uI (uI (uI (uI (uI (uI (uI C s 0 3) (s + 1) 1 0) s 2 0) s 5 0) s 6 0) s 8 0) s 11 0) s 15 0) s 17 0
theorem c86 (hP : PInv C) (hs : s ∈ scrL) : f_86 n s C = some ((), c86C C s) := by
  have sk := sc_of hP hs
  have rk := rw_of hP sk.told
  unfold f_86 f_71
  rw [if_pos sk.1, bd1 (show cP (uI C s 0 3) s 1 = some (s + 1) from sk.2.1), if_pos rk.1, if_pos rk.1]
  rfl
theorem c86_o {b : Nat} (h1 : b ≠ s) (h2 : b ≠ s + 1) : cI (c86C C s) b = cI C b := by
  unfold c86C
  rw [r_In h1, r_In h1, r_In h1, r_In h1, r_In h1, r_In h1, r_In h1, r_In h2, r_In h1]
theorem c86_s : cI (c86C C s) s 0 = 3 ∧ cI (c86C C s) s 2 = 0 ∧ cI (c86C C s) s 5 = 0 ∧ cI (c86C C s) s 6 = 0 ∧ cI (c86C C s) s 8 = 0 ∧ cI (c86C C s) s 11 = 0 ∧ cI (c86C C s) s 15 = 0 ∧ cI (c86C C s) s 17 = 0 ∧ cI (c86C C s) (s + 1) 1 = 0 := by
  unfold c86C
  refine ⟨?_, ?_, ?_, ?_, ?_, ?_, ?_, ?_, ?_⟩ <;> simp [r_I]
theorem c86_fr : Fr (fun b => s ≤ b ∧ b < s + 40) C (c86C C s) := by
  unfold c86C
  refine Fr.uI (Fr.uI (Fr.uI (Fr.uI (Fr.uI (Fr.uI (Fr.uI (Fr.uI (Fr.uI (Fr.refl _ C) ?_) ?_) ?_) ?_) ?_) ?_) ?_) ?_) ?_ <;> omega
set_option maxRecDepth 20000 in
theorem ref5 : ∀ z ∈ refL, ¬ (z.1 = 109 ∧ z.2.1 = 5) ∧ ¬ (z.1 = 0 ∧ z.2.1 = 4) ∧ ¬ (z.1 = 0 ∧ z.2.1 = 5) := by decide +kernel
theorem ps0 {m M : Nat} {C3 : AmC} (P3 : PInv C3) (hs : s ∈ scrL) (p5 : cP C3 109 5 = some s) (t1 : M ≤ 900) (t2 : cI C3 109 3 = nI (M + 1)) (t3 : ps x m M = m) (t4 : ∀ i, i < M → ps x m i < m) (t5 : ∀ i, i ≤ M → cI C3 110 i = nI (tK x m i) ∧ cI C3 111 i = nI (ps x m i) ∧ cI C3 112 i = nI (tN x m i)) (m9 : m ≤ 900) (S3 : cI C3 s 0 = 3 ∧ cI C3 s 2 = 0 ∧ cI C3 s 5 = 0 ∧ cI C3 s 6 = 0 ∧ cI C3 s 8 = 0 ∧ cI C3 s 11 = 0 ∧ cI C3 s 15 = 0 ∧ cI C3 s 17 = 0 ∧ cI C3 (s + 1) 1 = 0) : PS (uI (uI (uI C3 109 4 0) 109 6 0) 109 7 (-1)) s x m 0 tel0 0 0 0 := by
  obtain ⟨s1, s2, s3, s4, s5, s6, s7, s8, s9⟩ := S3
  have sl := scr_lt hs
  have od : ∀ b, b ≠ 109 → cI (uI (uI (uI C3 109 4 0) 109 6 0) 109 7 (-1)) b = cI C3 b := fun b z => by rw [r_In z, r_In z, r_In z]
  refine ⟨⟨P3.of rfl, hs, p5, ⟨M, t1, ?_, t3, t4, ?_⟩, ?_, ?_, ?_, ?_, m9⟩, ⟨?_, ?_, ?_, ?_, ?_, ?_, ?_, ?_⟩, ⟨?_, ?_, ?_⟩, ⟨?_, ?_, Or.inl ⟨rfl, rfl⟩⟩, ?_, ⟨by omega, by omega, by omega⟩, ?_, by decide, by decide, by decide, by decide, by decide, by decide⟩
  · rw [r_I, if_neg (by omega), r_I, if_neg (by omega), r_I, if_neg (by omega)]; exact t2
  · rw [od 110 (by omega), od 111 (by omega), od 112 (by omega)]; exact t5
  · rw [r_I, if_neg (by omega), r_I, if_neg (by omega), r_I, if_pos ⟨rfl, rfl⟩]; rfl
  · intro j hj; omega
  · rw [r_I, if_neg (by omega), r_I, if_pos ⟨rfl, rfl⟩]
  · rw [r_I, if_pos ⟨rfl, rfl⟩]
  · rw [od s (by omega)]; exact s1
  · rw [od s (by omega)]; exact s2
  · intro i hi; exact absurd hi (Nat.not_lt_zero i)
  · rw [od s (by omega)]; exact s3
  · rw [od s (by omega)]; exact s4
  · intro i hi; exact absurd hi (Nat.not_lt_zero i)
  · rw [od s (by omega)]; exact s5
  · intro i hi; exact absurd hi (Nat.not_lt_zero i)
  · intro p hp; rw [od (s + 1) (by omega), s9, b_0]; rfl
  · intro p hp; rw [od (s + 1) (by omega), s9, b_0]
  · intro p hp tp; cases tp
  · rw [od s (by omega)]; exact s6
  · rw [od s (by omega)]; exact s7
  · rw [od s (by omega)]; exact s8
  · intro i hi; exact absurd hi (Nat.not_lt_zero i)
theorem c14_l1 {m f : Nat} {D : AmC} (hn : f + 3000 < n) (hs : s ∈ scrL) (m9 : m ≤ 900) (hf : f = 902) (D0 : PS D s x m 0 tel0 0 0 0) : Rt (lp_14_26 n 109 1 0 D) (E14 s x m D (spL x m f 0 tel0 0)) := c14_lp (x := x) hs m9 f 0 tel0 0 D n 0 0 0 (by omega) (Nat.le_refl _) hn D0 tel0_ok (fun _ => rfl)
theorem c14_l0 {m : Nat} {D : AmC} (hn : 5000 ≤ n) (hs : s ∈ scrL) (m9 : m ≤ 900) (D0 : PS D s x m 0 tel0 0 0 0) : Rt (lp_14_26 n 109 1 0 D) (E14 s x m D (spAll x m)) := c14_l1 (f := 902) (by omega) hs m9 rfl D0
theorem c14 {m : Nat} (hn : 5000 ≤ n) (hP : PInv C) (hs : s ∈ scrL) (hx : TpC C x m) : Rt (f_14 n 109 1 (nI m) s C) (fun z C' => PInv C' ∧ cP C' 0 = cP C 0 ∧ (∀ b, ¬ (109 ≤ b ∧ b ≤ 112) → ¬ (s ≤ b ∧ b < s + 40) → cI C' b = cI C b) ∧ ((∃ k j, spAll x m = .inl (k, j) ∧ 1 ≤ k ∧ k ≤ 4 ∧ z = nI k ∧ cI C' 109 7 = nI (ps x m j)) ∨ ∃ t j, spAll x m = .inr (t, j) ∧ z = 0 ∧ cI C' 109 7 = -1 ∧ TelOK t ∧ ScrC C' s t.1 ∧ TabC (sCols t.1) C' (s + 1) (tlT t.2.1 t.2.2))) := by
  have m9 := hx.1
  have sl := scr_lt hs
  unfold f_14
  rw [if_pos k_1, if_pos k_109, l_1, x_ofNat, if_neg (by rw [x_lt (by omega) (by omega)]; omega)]
  refine rt_bind (rt_mono (c15 (n := n) hP hx (by omega)) (fun _ C1 H => ?_))
  obtain ⟨⟨M, t1, t2, t3, t4, t5⟩, F1⟩ := H
  have P1 := hP.of F1.1
  have P2 : PInv (uP C1 109 5 s) := P1.uP (fun z hz => (ref5 z hz).1)
  have e2 : cP (uP C1 109 5 s) 109 5 = some s := by rw [p_P, if_pos ⟨rfl, rfl⟩]
  have p0 : cP (uP C1 109 5 s) 0 = cP C 0 := by
    funext k
    rw [p_P, if_neg (by omega), F1.1]
  have sk := sc_of P2 hs
  dsimp only
  rw [bd1 e2, if_pos sk.1, bd1 (c86 (n := n) P2 hs)]
  dsimp only
  have F3 := c86_fr (C := uP C1 109 5 s) (s := s)
  have S3 := c86_s (C := uP C1 109 5 s) (s := s)
  generalize c86C (uP C1 109 5 s) s = C3 at F3 S3
  have o3 : ∀ b, ¬ (s ≤ b ∧ b < s + 40) → cI C3 b = cI C1 b := fun b z => by rw [F3.2.1 b z, r_P]
  have p5 : cP C3 109 5 = some s := by rw [F3.1]; exact e2
  have D0 := ps0 (x := x) (m := m) (M := M) (P2.of F3.1) hs p5 t1 (by rw [o3 109 (by omega)]; exact t2) t3 t4 (by rw [o3 110 (by omega), o3 111 (by omega), o3 112 (by omega)]; exact t5) m9 S3
  have LP := c14_l0 hn hs m9 D0
  refine rt_bind (rt_mono LP (fun z C4 H => ?_))
  obtain ⟨rfl, F4, H⟩ := H
  have p4 : cP C4 = cP (uP C1 109 5 s) := by rw [F4.1, p_I, p_I, p_I, F3.1]
  dsimp only
  rw [if_pos k_109]
  refine rt_ret ⟨P2.of p4, by rw [p4]; exact p0, fun b z1 z2 => ?_, ?_⟩
  · rw [F4.2.1 b (by omega), r_In (by omega), r_In (by omega), r_In (by omega), o3 b z2, F1.2.1 b z1]
  · rcases H with ⟨k, j, er, f1, f2, f3, f4⟩ | ⟨t, j, er, ok, A, V, F, hS⟩
    · exact Or.inl ⟨k, j, er, f1, f2, f3, f4⟩
    · exact Or.inr ⟨t, j, er, hS.1.2.2.2.2.2.2.1, hS.1.2.2.2.2.2.2.2.1, ok, hS.2.1, hS.2.2.1⟩
theorem c109 {r : Nat} (hP : PInv C) (hr : RwK C r) : f_109 n 82 r C = some ((), uI (uI (uI (cpR C 83 r) 85 2 0) 85 3 0) 82 5 0) := by
  have P2 : PInv (cpR C 83 r) := hP.of (cpR_fr C 83 r).1
  unfold f_109 f_9
  rw [if_pos k_82, bd1 (w_82_0 hP), if_pos k_83, bd1 (c72 (n := n) (rw_of hP (show 83 ∈ rowsL by decide)) hr)]
  dsimp only
  rw [bd1 (w_82_1 P2), if_pos k_85, if_pos k_85]
  rfl
theorem tl_G0 {S : Scr} {T : Tab} (h : TabG S T) {R : Nat → Int32} : StaOK S (T, [], [], R) := ⟨h, Nat.zero_le _, fun _ hT => (List.not_mem_nil hT).elim, Nat.zero_le _, fun _ hq => (List.not_mem_nil hq).elim⟩
theorem q119 (hC : CI C s B) (hB : BigOK B) (hn : 5000 ≤ n) (a : Int32) : Rt (f_119 n 0 a C) (fun z C' => z = (sTab B a).1 ∧ (∃ s', CI C' s' (sTab B a).2) ∧ BigOK (sTab B a).2 ∧ ∀ b, 145 ≤ b → cI C' b = cI C b) := by
  have N9 := hB.2.1
  have hC0 := hC
  obtain ⟨h1, h2, h3, h4, h5, h6, h7, h8, h9, h10, h11⟩ := hC
  obtain ⟨g1, g2, g3⟩ := scr_44 h2
  have z44 : ¬ (44 - s ≤ 0 ∧ 0 < 44 - s + 40) := by omega
  unfold f_119 sTab
  rcases i_cs a with a0 | ⟨m, hm, rfl⟩
  · rw [if_pos a0, if_pos (Or.inl a0)]
    exact rt_ret ⟨rfl, ⟨s, hC0⟩, hB, fun _ _ => rfl⟩
  · have m0 : ¬ nI m < 0 := by rw [x_lt0 hm]; exact id
    rw [if_neg m0, if_pos k_0, h6]
    by_cases mN : m ≤ bN B
    · have c2 : ¬ (nI m < 0 ∨ nI (bN B) < nI m) := by
        rw [x_lt (by omega) hm]
        rintro (z | z)
        · exact m0 z
        · omega
      rw [if_pos ((x_le hm (by omega)).mpr mN), if_neg c2, x_cl hm]
      have q3 : cP (uI C 0 1 0) 0 3 = some 109 := w_0_3 h1
      have q0 : cP (uI C 0 1 0) 0 0 = some 1 := w_0_0 h1
      have q5 : cP (uI C 0 1 0) 0 5 = some (44 - s) := h4
      have hx : TpC (uI C 0 1 0) (txX B) m := ⟨by omega, fun k hk => by
        obtain ⟨t1, t2⟩ := tx_ok hB (k := k) (by omega)
        refine ⟨t1, ?_⟩
        rw [r_In (by decide), h7 k (by omega), t2]
        rfl⟩
      rw [bd1 q3, bd1 q0, bd1 q5, if_pos k_109]
      refine rt_bind (rt_mono (c14 (n := n) hn (h1.of rfl) g1 hx) (fun z C2 H => ?_))
      obtain ⟨P2, p2, o2, H⟩ := H
      have o2' : ∀ b, b ≠ 0 → ¬ (109 ≤ b ∧ b ≤ 112) → ¬ (44 - s ≤ b ∧ b < 44 - s + 40) → cI C2 b = cI C b := fun b z0 z1 z2 => by rw [o2 b z1 z2, r_In z0]
      have o0 : cI C2 0 = cI (uI C 0 1 0) 0 := by
        rw [o2 0 (by decide) z44]
      have p2 : cP C2 0 = cP C 0 := p2
      have w3 : cP C2 0 3 = some 109 := w_0_3 P2
      dsimp only
      rw [bd1 w3, if_pos k_109]
      rcases H with ⟨k, j, er, k1, k4, rfl, e7⟩ | ⟨t, j, er, rfl, e7, tok, sc, tb⟩
      · rw [er, if_neg (by rw [x_eq0 (by omega)]; omega), bd1 (show cP (uI C2 0 2 (cI C2 109 7)) 0 6 = some 82 from w_0_6 P2), if_pos k_82, bd1 (show cP (uI C2 0 2 (cI C2 109 7)) 82 6 = some 91 from w_82_6 P2), if_pos k_91, l_91, if_pos (by decide), if_pos (by decide), x_cl0, e7]
        refine rt_ret ⟨rfl, ⟨s, ?_⟩, ?_, fun b hb => ?_⟩
        · have od : ∀ b, b ≠ 0 → b ≠ 91 → ¬ (109 ≤ b ∧ b ≤ 112) → ¬ (44 - s ≤ b ∧ b < 44 - s + 40) → cI (uI (uI C2 0 2 (nI (ps (txX B) m j))) 91 0 ((cI (uI C2 0 2 (nI (ps (txX B) m j))) 91 0) + 1)) b = cI C b := fun b z0 z9 z1 z2 => by rw [r_In z9, r_In z0, o2' b z0 z1 z2]
          have oz : ∀ f, cI (uI (uI C2 0 2 (nI (ps (txX B) m j))) 91 0 ((cI (uI C2 0 2 (nI (ps (txX B) m j))) 91 0) + 1)) 0 f = if f = 2 then nI (ps (txX B) m j) else if f = 1 then 0 else cI C 0 f := fun f => by
            rw [r_In (by decide), r_I, o0, r_I]
            simp
          refine ⟨P2.of rfl, h2, by show cP C2 0 4 = _; rw [p2]; exact h3, by show cP C2 0 5 = _; rw [p2]; exact h4, h5.of hB.1.2.2.2.2.2.2.2.1 (fun b z1 z2 => od b (by omega) (by omega) (by omega) (by omega)), by rw [oz]; rfl, fun k hk => absurd hk (Nat.not_lt_zero k), by rw [oz]; rfl, ?_, by rw [oz]; exact h10, fun y hy => (h11 y hy).fr (fun b z1 z2 => od b (by omega) (by omega) (by omega) (by omega))⟩
          have z82 : StaC (sCols (bS B)) (uI C2 0 2 (nI (ps (txX B) m j))) 82 (bZ B) := h9.fr (fun b z1 z2 => by rw [r_In (by omega), o2' b (by omega) (by omega) (by omega)])
          exact z82.ref rfl (by omega)
        · exact ⟨hB.1, Nat.zero_le _, fun k hk => absurd hk (Nat.not_lt_zero k), hB.2.2.2.1.ref, hB.2.2.2.2⟩
        · rw [r_In (by omega), r_In (by omega), o2' b (by omega) (by omega) (by omega)]
      · rw [er, if_pos rfl, bd1 (show cP (uI C2 0 2 (cI C2 109 7)) 0 4 = some s by show cP C2 0 4 = _; rw [p2]; exact h3), bd1 (show cP (uI C2 0 2 (cI C2 109 7)) 0 5 = some (44 - s) by show cP C2 0 5 = _; rw [p2]; exact h4), e7]
        have PA : PInv (uP (uI C2 0 2 (-1)) 0 4 (44 - s)) := (P2.of rfl : PInv (uI C2 0 2 (-1))).uP (fun z hz => (ref5 z hz).2.1)
        have PB : PInv (uP (uP (uI C2 0 2 (-1)) 0 4 (44 - s)) 0 5 s) := PA.uP (fun z hz => (ref5 z hz).2.2)
        have b4 : cP (uP (uP (uI C2 0 2 (-1)) 0 4 (44 - s)) 0 5 s) 0 4 = some (44 - s) := by rw [p_P, if_neg (by omega), p_P, if_pos ⟨rfl, rfl⟩]
        have b5 : cP (uP (uP (uI C2 0 2 (-1)) 0 4 (44 - s)) 0 5 s) 0 5 = some s := by rw [p_P, if_pos ⟨rfl, rfl⟩]
        have iB : cI (uP (uP (uI C2 0 2 (-1)) 0 4 (44 - s)) 0 5 s) = cI (uI C2 0 2 (-1)) := rfl
        generalize uP (uP (uI C2 0 2 (-1)) 0 4 (44 - s)) 0 5 s = C3 at PB b4 b5 iB
        have sk := sc_of PB g1
        rw [bd1 (w_0_6 PB), bd1 b4, if_pos sk.1, bd1 sk.2.1, if_pos k_82, bd1 (c109 (n := n) PB (rw_of PB sk.told))]
        have F4 := cpR_fr C3 83 (44 - s + 1)
        have T4 : TabC (sCols t.1) (cpR C3 83 (44 - s + 1)) 83 (tlT t.2.1 t.2.2) := cpR_T tok.1.2.1 (tb.of (by rw [iB, r_In (by omega)]) (by rw [iB, r_In (by omega)]))
        generalize cpR C3 83 (44 - s + 1) = C4 at F4 T4
        have o4 : ∀ b, b ≠ 83 → b ≠ 84 → b ≠ 0 → cI C4 b = cI C2 b := fun b z1 z2 z3 => by rw [F4.2.1 b (by omega), iB, r_In z3]
        have o40 : cI C4 0 = cI (uI C2 0 2 (-1)) 0 := by rw [F4.2.1 0 (by omega), iB]
        dsimp only
        have od : ∀ b, b ≠ 0 → b ≠ 82 → b ≠ 83 → b ≠ 84 → b ≠ 85 → cI (uI (uI (uI (uI C4 85 2 0) 85 3 0) 82 5 0) 0 8 0) b = cI C2 b := fun b z0 z1 z2 z3 z4 => by rw [r_In z0, r_In z1, r_In z4, r_In z4, o4 b z2 z3 z0]
        have oz : ∀ f, cI (uI (uI (uI (uI C4 85 2 0) 85 3 0) 82 5 0) 0 8 0) 0 f = if f = 8 then 0 else if f = 2 then -1 else if f = 1 then 0 else cI C 0 f := fun f => by
          rw [r_I, r_In (by decide), r_In (by decide), r_In (by decide), o40, r_I, o0, r_I]
          simp
        refine rt_ret ⟨rfl, ⟨44 - s, ?_⟩, ?_, fun b hb => ?_⟩
        · refine ⟨PB.of F4.1, g1, by show cP C4 0 4 = _; rw [F4.1]; exact b4, by show cP C4 0 5 = _; rw [F4.1, g2]; exact b5, sc.of tok.1.2.2.2.2.2.2.2.1 (fun b z1 z2 => od b (by omega) (by omega) (by omega) (by omega) (by omega)), by rw [oz]; rfl, fun k hk => absurd hk (Nat.not_lt_zero k), by rw [oz]; rfl, ⟨?_, ⟨0, by omega, ?_, ?_, fun k hk => absurd hk (Nat.not_lt_zero k)⟩, ?_, fun k hk => absurd hk (Nat.not_lt_zero k), fun k hk => ?_⟩, by rw [oz]; rfl, fun y hy => by cases hy⟩
          · exact T4.of (by rw [r_In (by omega), r_In (by omega), r_In (by omega), r_In (by omega)]) (by rw [r_In (by omega), r_In (by omega), r_In (by omega), r_In (by omega)])
          · rw [r_In (by omega), r_In (by omega), r_I, if_neg (by omega), r_I, if_pos ⟨rfl, rfl⟩]; rfl
          · rw [r_In (by omega), r_In (by omega), r_I, if_pos ⟨rfl, rfl⟩]; rfl
          · rw [r_In (by omega), r_I, if_pos ⟨rfl, rfl⟩]; rfl
          · rw [od 91 (by omega) (by omega) (by omega) (by omega) (by omega), o2' 91 (by omega) (by omega) (by omega)]
            exact h9.2.2.2.2 k hk
        · exact ⟨tok.1, Nat.zero_le _, fun k hk => absurd hk (Nat.not_lt_zero k), tl_G0 tok.2.1, fun y hy => by cases hy⟩
        · rw [od b (by omega) (by omega) (by omega) (by omega) (by omega), o2' b (by omega) (by omega) (by omega)]
    · rw [if_neg (by rw [x_le hm (by omega)]; exact mN), if_pos (Or.inr ((x_lt (by omega) hm).mpr (by omega)))]
      exact rt_ret ⟨rfl, ⟨s, hC0⟩, hB, fun _ _ => rfl⟩
end
