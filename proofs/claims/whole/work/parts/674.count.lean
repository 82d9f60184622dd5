/-! count, cell, fault. -/
theorem nix_ne {N k : Nat} {a : Int32} (hN : N < 2147483648) (h : Nix N a) (hk : k < N) : ¬ a = nI k := by
  intro e
  subst e
  rcases h with h | h
  · rw [x_lt0 (by omega)] at h; exact h
  · exact h.2 ((x_lt (by omega) hN).mpr hk)
def cntW (B : Big) (w : Nat) : Int32 := if w = 0 then nI (sCols (bS B)) else if w = 1 then nI (sSize (zT (bZ B))) else if w = 2 then nI (sIdx (bS B)).length else if w = 3 then sKeys (bS B) else if w = 4 then nI (sOth (bS B)).length else if w = 5 then nI (sStm (bS B)).length else if w = 6 then nI (1 + 2 * (sIdx (bS B)).length) else if w = 7 then nI (zH (bZ B)).length else if w = 8 then nI (zS (bZ B)).length else if w = 9 then nI (bN B) else zR (bZ B) (w - 10)
def sCnt (B : Big) (a : Int32) : Int32 ⊕ Nat := match ixO 13 a with
  | none => .inr 0
  | some w => .inl (cntW B w)
def sCel (B : Big) (p c : Int32) : Int32 ⊕ Nat := match ixO 30 p with
  | none => .inr 0
  | some i => match ixO (sCols (bS B)) c with
    | none => .inr 0
    | some j => .inl (tg (zT (bZ B)) i j)
section
variable {n : Nat} {C : AmC} {s h : Nat} {B : Big} {S : Scr}
theorem q121 (hC : CI C s B) (a : Int32) : Rt (f_121 n 0 a C) (fun z C' => z = sCnt B a ∧ C' = C) := by
  have hP := hC.1
  have ks := sc_of hC.1 hC.2.1
  have hS := hC.2.2.2.2.1
  have hZ := hC.2.2.2.2.2.2.2.2.1
  obtain ⟨x, _, _, hx, _⟩ := hZ.2.1
  have hR := hZ.2.2.2.2
  unfold f_121 sCnt
  rcases ix_c (N := 13) (by omega) a with ⟨na, ea⟩ | ⟨w, hw, rfl, ea⟩
  · rw [ea]
    have c0 : ¬ a = (0 : Int32) := nix_ne (N := 13) (k := 0) (by omega) na (by omega)
    have c1 : ¬ a = (1 : Int32) := nix_ne (N := 13) (k := 1) (by omega) na (by omega)
    have c2 : ¬ a = (2 : Int32) := nix_ne (N := 13) (k := 2) (by omega) na (by omega)
    have c3 : ¬ a = (3 : Int32) := nix_ne (N := 13) (k := 3) (by omega) na (by omega)
    have c4 : ¬ a = (4 : Int32) := nix_ne (N := 13) (k := 4) (by omega) na (by omega)
    have c5 : ¬ a = (5 : Int32) := nix_ne (N := 13) (k := 5) (by omega) na (by omega)
    have c6 : ¬ a = (6 : Int32) := nix_ne (N := 13) (k := 6) (by omega) na (by omega)
    have c7 : ¬ a = (7 : Int32) := nix_ne (N := 13) (k := 7) (by omega) na (by omega)
    have c8 : ¬ a = (8 : Int32) := nix_ne (N := 13) (k := 8) (by omega) na (by omega)
    have c9 : ¬ a = (9 : Int32) := nix_ne (N := 13) (k := 9) (by omega) na (by omega)
    have c10 : ¬ a = (10 : Int32) := nix_ne (N := 13) (k := 10) (by omega) na (by omega)
    have c11 : ¬ a = (11 : Int32) := nix_ne (N := 13) (k := 11) (by omega) na (by omega)
    have c12 : ¬ a = (12 : Int32) := nix_ne (N := 13) (k := 12) (by omega) na (by omega)
    rw [if_neg c0, if_neg c1, if_neg c2, if_neg c3, if_neg c4, if_neg c5, if_neg c6, if_neg c7, if_neg c8, if_neg c9, if_neg c10, if_neg c11, if_neg c12]
    exact rt_ret ⟨rfl, rfl⟩
  · rw [ea]
    match w, hw with
    | 0, _ =>
      rw [if_pos (show nI 0 = (0 : Int32) from rfl)]
      simp only [↓reduceIte, k_0, if_true, ↓bd1 hC.2.2.1, ks.k, hS.1]
      exact rt_ret ⟨rfl, rfl⟩
    | 1, _ =>
      rw [if_neg (show ¬ nI 1 = (0 : Int32) by decide), if_pos (show nI 1 = (1 : Int32) from rfl)]
      simp only [↓reduceIte, k_0, if_true, ↓bd1 (w_0_6 hP), k_82, ↓bd1 (w_82_0 hP), k_83, ↓bd1 (c81 (n := n) (rw_of hP (show 83 ∈ rowsL by decide)) hZ.1)]
      exact rt_ret ⟨rfl, rfl⟩
    | 2, _ =>
      rw [if_neg (show ¬ nI 2 = (0 : Int32) by decide), if_neg (show ¬ nI 2 = (1 : Int32) by decide), if_pos (show nI 2 = (2 : Int32) from rfl)]
      simp only [↓reduceIte, k_0, if_true, ↓bd1 hC.2.2.1, ks.k, hS.2.1]
      exact rt_ret ⟨rfl, rfl⟩
    | 3, _ =>
      rw [if_neg (show ¬ nI 3 = (0 : Int32) by decide), if_neg (show ¬ nI 3 = (1 : Int32) by decide), if_neg (show ¬ nI 3 = (2 : Int32) by decide), if_pos (show nI 3 = (3 : Int32) from rfl)]
      simp only [↓reduceIte, k_0, if_true, ↓bd1 hC.2.2.1, ks.k, hS.2.2.2.1]
      exact rt_ret ⟨rfl, rfl⟩
    | 4, _ =>
      rw [if_neg (show ¬ nI 4 = (0 : Int32) by decide), if_neg (show ¬ nI 4 = (1 : Int32) by decide), if_neg (show ¬ nI 4 = (2 : Int32) by decide), if_neg (show ¬ nI 4 = (3 : Int32) by decide), if_pos (show nI 4 = (4 : Int32) from rfl)]
      simp only [↓reduceIte, k_0, if_true, ↓bd1 hC.2.2.1, ks.k, hS.2.2.2.2.1]
      exact rt_ret ⟨rfl, rfl⟩
    | 5, _ =>
      rw [if_neg (show ¬ nI 5 = (0 : Int32) by decide), if_neg (show ¬ nI 5 = (1 : Int32) by decide), if_neg (show ¬ nI 5 = (2 : Int32) by decide), if_neg (show ¬ nI 5 = (3 : Int32) by decide), if_neg (show ¬ nI 5 = (4 : Int32) by decide), if_pos (show nI 5 = (5 : Int32) from rfl)]
      simp only [↓reduceIte, k_0, if_true, ↓bd1 hC.2.2.1, ks.k, hS.2.2.2.2.2.2.1]
      exact rt_ret ⟨rfl, rfl⟩
    | 6, _ =>
      rw [if_neg (show ¬ nI 6 = (0 : Int32) by decide), if_neg (show ¬ nI 6 = (1 : Int32) by decide), if_neg (show ¬ nI 6 = (2 : Int32) by decide), if_neg (show ¬ nI 6 = (3 : Int32) by decide), if_neg (show ¬ nI 6 = (4 : Int32) by decide), if_neg (show ¬ nI 6 = (5 : Int32) by decide), if_pos (show nI 6 = (6 : Int32) from rfl)]
      simp only [↓reduceIte, k_0, if_true, ↓bd1 hC.2.2.1, ks.k, ↓bd1 (c87 (n := n) ks hS)]
      exact rt_ret ⟨rfl, rfl⟩
    | 7, _ =>
      rw [if_neg (show ¬ nI 7 = (0 : Int32) by decide), if_neg (show ¬ nI 7 = (1 : Int32) by decide), if_neg (show ¬ nI 7 = (2 : Int32) by decide), if_neg (show ¬ nI 7 = (3 : Int32) by decide), if_neg (show ¬ nI 7 = (4 : Int32) by decide), if_neg (show ¬ nI 7 = (5 : Int32) by decide), if_neg (show ¬ nI 7 = (6 : Int32) by decide), if_pos (show nI 7 = (7 : Int32) from rfl)]
      simp only [↓reduceIte, k_0, if_true, ↓bd1 (w_0_6 hP), k_82, ↓bd1 (w_82_1 hP), k_85, hx]
      exact rt_ret ⟨rfl, rfl⟩
    | 8, _ =>
      rw [if_neg (show ¬ nI 8 = (0 : Int32) by decide), if_neg (show ¬ nI 8 = (1 : Int32) by decide), if_neg (show ¬ nI 8 = (2 : Int32) by decide), if_neg (show ¬ nI 8 = (3 : Int32) by decide), if_neg (show ¬ nI 8 = (4 : Int32) by decide), if_neg (show ¬ nI 8 = (5 : Int32) by decide), if_neg (show ¬ nI 8 = (6 : Int32) by decide), if_neg (show ¬ nI 8 = (7 : Int32) by decide), if_pos (show nI 8 = (8 : Int32) from rfl)]
      simp only [↓reduceIte, k_0, if_true, ↓bd1 (w_0_6 hP), k_82, hZ.2.2.1]
      exact rt_ret ⟨rfl, rfl⟩
    | 9, _ =>
      rw [if_neg (show ¬ nI 9 = (0 : Int32) by decide), if_neg (show ¬ nI 9 = (1 : Int32) by decide), if_neg (show ¬ nI 9 = (2 : Int32) by decide), if_neg (show ¬ nI 9 = (3 : Int32) by decide), if_neg (show ¬ nI 9 = (4 : Int32) by decide), if_neg (show ¬ nI 9 = (5 : Int32) by decide), if_neg (show ¬ nI 9 = (6 : Int32) by decide), if_neg (show ¬ nI 9 = (7 : Int32) by decide), if_neg (show ¬ nI 9 = (8 : Int32) by decide), if_pos (show nI 9 = (9 : Int32) from rfl)]
      simp only [↓reduceIte, k_0, if_true, hC.2.2.2.2.2.1]
      exact rt_ret ⟨rfl, rfl⟩
    | 10, _ =>
      rw [if_neg (show ¬ nI 10 = (0 : Int32) by decide), if_neg (show ¬ nI 10 = (1 : Int32) by decide), if_neg (show ¬ nI 10 = (2 : Int32) by decide), if_neg (show ¬ nI 10 = (3 : Int32) by decide), if_neg (show ¬ nI 10 = (4 : Int32) by decide), if_neg (show ¬ nI 10 = (5 : Int32) by decide), if_neg (show ¬ nI 10 = (6 : Int32) by decide), if_neg (show ¬ nI 10 = (7 : Int32) by decide), if_neg (show ¬ nI 10 = (8 : Int32) by decide), if_neg (show ¬ nI 10 = (9 : Int32) by decide), if_pos (show nI 10 = (10 : Int32) from rfl)]
      simp only [↓reduceIte, k_0, if_true, ↓bd1 (w_0_6 hP), k_82, ↓bd1 (w_82_6 hP), k_91, l_91, x_in0, x_cl0, hR 0 (by omega), show 0 < 3 from by decide]
      exact rt_ret ⟨rfl, rfl⟩
    | 11, _ =>
      rw [if_neg (show ¬ nI 11 = (0 : Int32) by decide), if_neg (show ¬ nI 11 = (1 : Int32) by decide), if_neg (show ¬ nI 11 = (2 : Int32) by decide), if_neg (show ¬ nI 11 = (3 : Int32) by decide), if_neg (show ¬ nI 11 = (4 : Int32) by decide), if_neg (show ¬ nI 11 = (5 : Int32) by decide), if_neg (show ¬ nI 11 = (6 : Int32) by decide), if_neg (show ¬ nI 11 = (7 : Int32) by decide), if_neg (show ¬ nI 11 = (8 : Int32) by decide), if_neg (show ¬ nI 11 = (9 : Int32) by decide), if_neg (show ¬ nI 11 = (10 : Int32) by decide), if_pos (show nI 11 = (11 : Int32) from rfl)]
      simp only [↓reduceIte, k_0, if_true, ↓bd1 (w_0_6 hP), k_82, ↓bd1 (w_82_6 hP), k_91, l_91, x_in1, x_cl1, hR 1 (by omega), show 1 < 3 from by decide]
      exact rt_ret ⟨rfl, rfl⟩
    | 12, _ =>
      rw [if_neg (show ¬ nI 12 = (0 : Int32) by decide), if_neg (show ¬ nI 12 = (1 : Int32) by decide), if_neg (show ¬ nI 12 = (2 : Int32) by decide), if_neg (show ¬ nI 12 = (3 : Int32) by decide), if_neg (show ¬ nI 12 = (4 : Int32) by decide), if_neg (show ¬ nI 12 = (5 : Int32) by decide), if_neg (show ¬ nI 12 = (6 : Int32) by decide), if_neg (show ¬ nI 12 = (7 : Int32) by decide), if_neg (show ¬ nI 12 = (8 : Int32) by decide), if_neg (show ¬ nI 12 = (9 : Int32) by decide), if_neg (show ¬ nI 12 = (10 : Int32) by decide), if_neg (show ¬ nI 12 = (11 : Int32) by decide), if_pos (show nI 12 = (12 : Int32) from rfl)]
      simp only [↓reduceIte, k_0, if_true, ↓bd1 (w_0_6 hP), k_82, ↓bd1 (w_82_6 hP), k_91, l_91, show amIn (2 : Int32) 3 = true from by decide, show Int32.toNatClampNeg (2 : Int32) = 2 from by decide, hR 2 (by omega)]
      exact rt_ret ⟨rfl, rfl⟩
theorem q245 (hM : MI C h B) (hB : BigOK B) (hn : 50 ≤ n) (a : Int32) : Rt (f_245 n 145 a C) (fun z C' => An C' z (sCnt B a) ∧ FrR C C') := by
  have l3 := hB.1.2.2.1
  obtain ⟨M0, t0, F0⟩ := hM.t0 hB
  generalize hC0 : uI C 145 5 0 = C0 at M0 t0 F0
  have hP := M0.1.1
  have eh := M0.1.2.1
  have hh := M0.1.2.2.1.1
  have hS := M0.1.2.2.1
  have hZ := M0.2.2.2.2.1
  obtain ⟨x, _, hx, _⟩ := hZ.2.1
  have hR := hZ.2.2.2.2
  unfold f_245 sCnt
  rw [hC0]
  rcases ix_c (N := 13) (by omega) a with ⟨na, ea⟩ | ⟨w, hw, rfl, ea⟩
  · rw [ea]
    have w1 : f_163 n a 0 (12 : Int32) C0 = some (0, C0) := m163_f (N := 13) (by omega) na
    simp only [↓reduceIte, k_145, if_true, if_false, ↓bd1 w1, ↓bd1 (m162_f (n := n) (w := 1) t0 (by decide)), not_true]
    exact rt_ret (An_f F0)
  · rw [ea]
    have w1 : f_163 n (nI w) 0 (12 : Int32) C0 = some (1, C0) := m163_t (N := 13) (by omega) hw
    simp only [↓reduceIte, k_145, if_true, if_false, ↓bd1 w1, ↓bd1 (m162_t (n := n) (w := 1) t0), n10f, not_false_iff]
    have w44 := m244 (n := n) (f := 0) hP (by omega) hZ.1.1 (by omega)
    rw [x_0] at w44
    match w, hw with
    | 0, _ =>
      rw [if_pos (show nI 0 = (0 : Int32) from rfl)]
      simp (disch := omega) only [↓reduceIte, if_true, if_false, Option.bind_some, k_145, ↓bd1 (w_145_21 hP), k_159, l_159, eh, x_in, x_cl, hh, hS.2.1]
      exact rt_ret ⟨⟨t0, rfl⟩, F0⟩
    | 1, _ =>
      rw [if_neg (show ¬ nI 1 = (0 : Int32) by decide), if_pos (show nI 1 = (1 : Int32) from rfl)]
      simp (disch := omega) only [↓reduceIte, if_true, if_false, Option.bind_some, k_145, ↓bd1 w44]
      exact rt_ret ⟨⟨t0, rfl⟩, F0⟩
    | 2, _ =>
      rw [if_neg (show ¬ nI 2 = (0 : Int32) by decide), if_neg (show ¬ nI 2 = (1 : Int32) by decide), if_pos (show nI 2 = (2 : Int32) from rfl)]
      simp (disch := omega) only [↓reduceIte, if_true, if_false, Option.bind_some, k_145, ↓bd1 (w_145_22 hP), k_160, l_160, eh, x_in, x_cl, hh, hS.2.2.1]
      exact rt_ret ⟨⟨t0, rfl⟩, F0⟩
    | 3, _ =>
      rw [if_neg (show ¬ nI 3 = (0 : Int32) by decide), if_neg (show ¬ nI 3 = (1 : Int32) by decide), if_neg (show ¬ nI 3 = (2 : Int32) by decide), if_pos (show nI 3 = (3 : Int32) from rfl)]
      simp (disch := omega) only [↓reduceIte, if_true, if_false, Option.bind_some, k_145, ↓bd1 (w_145_23 hP), k_161, l_161, eh, x_in, x_cl, hh, hS.2.2.2.2.1]
      exact rt_ret ⟨⟨t0, rfl⟩, F0⟩
    | 4, _ =>
      rw [if_neg (show ¬ nI 4 = (0 : Int32) by decide), if_neg (show ¬ nI 4 = (1 : Int32) by decide), if_neg (show ¬ nI 4 = (2 : Int32) by decide), if_neg (show ¬ nI 4 = (3 : Int32) by decide), if_pos (show nI 4 = (4 : Int32) from rfl)]
      simp (disch := omega) only [↓reduceIte, if_true, if_false, Option.bind_some, k_145, ↓bd1 (w_145_24 hP), k_162, l_162, eh, x_in, x_cl, hh, hS.2.2.2.2.2.1]
      exact rt_ret ⟨⟨t0, rfl⟩, F0⟩
    | 5, _ =>
      rw [if_neg (show ¬ nI 5 = (0 : Int32) by decide), if_neg (show ¬ nI 5 = (1 : Int32) by decide), if_neg (show ¬ nI 5 = (2 : Int32) by decide), if_neg (show ¬ nI 5 = (3 : Int32) by decide), if_neg (show ¬ nI 5 = (4 : Int32) by decide), if_pos (show nI 5 = (5 : Int32) from rfl)]
      simp (disch := omega) only [↓reduceIte, if_true, if_false, Option.bind_some, k_145, ↓bd1 (w_145_25 hP), k_163, l_163, eh, x_in, x_cl, hh, hS.2.2.2.2.2.2.2.1]
      exact rt_ret ⟨⟨t0, rfl⟩, F0⟩
    | 6, _ =>
      rw [if_neg (show ¬ nI 6 = (0 : Int32) by decide), if_neg (show ¬ nI 6 = (1 : Int32) by decide), if_neg (show ¬ nI 6 = (2 : Int32) by decide), if_neg (show ¬ nI 6 = (3 : Int32) by decide), if_neg (show ¬ nI 6 = (4 : Int32) by decide), if_neg (show ¬ nI 6 = (5 : Int32) by decide), if_pos (show nI 6 = (6 : Int32) from rfl)]
      simp (disch := omega) only [↓reduceIte, if_true, if_false, Option.bind_some, k_145, ↓bd1 (m243 (n := n) M0.1)]
      exact rt_ret ⟨⟨t0, rfl⟩, F0⟩
    | 7, _ =>
      rw [if_neg (show ¬ nI 7 = (0 : Int32) by decide), if_neg (show ¬ nI 7 = (1 : Int32) by decide), if_neg (show ¬ nI 7 = (2 : Int32) by decide), if_neg (show ¬ nI 7 = (3 : Int32) by decide), if_neg (show ¬ nI 7 = (4 : Int32) by decide), if_neg (show ¬ nI 7 = (5 : Int32) by decide), if_neg (show ¬ nI 7 = (6 : Int32) by decide), if_pos (show nI 7 = (7 : Int32) from rfl)]
      exact rt_ret ⟨⟨t0, hx⟩, F0⟩
    | 8, _ =>
      rw [if_neg (show ¬ nI 8 = (0 : Int32) by decide), if_neg (show ¬ nI 8 = (1 : Int32) by decide), if_neg (show ¬ nI 8 = (2 : Int32) by decide), if_neg (show ¬ nI 8 = (3 : Int32) by decide), if_neg (show ¬ nI 8 = (4 : Int32) by decide), if_neg (show ¬ nI 8 = (5 : Int32) by decide), if_neg (show ¬ nI 8 = (6 : Int32) by decide), if_neg (show ¬ nI 8 = (7 : Int32) by decide), if_pos (show nI 8 = (8 : Int32) from rfl)]
      exact rt_ret ⟨⟨t0, hZ.2.2.1⟩, F0⟩
    | 9, _ =>
      rw [if_neg (show ¬ nI 9 = (0 : Int32) by decide), if_neg (show ¬ nI 9 = (1 : Int32) by decide), if_neg (show ¬ nI 9 = (2 : Int32) by decide), if_neg (show ¬ nI 9 = (3 : Int32) by decide), if_neg (show ¬ nI 9 = (4 : Int32) by decide), if_neg (show ¬ nI 9 = (5 : Int32) by decide), if_neg (show ¬ nI 9 = (6 : Int32) by decide), if_neg (show ¬ nI 9 = (7 : Int32) by decide), if_neg (show ¬ nI 9 = (8 : Int32) by decide), if_pos (show nI 9 = (9 : Int32) from rfl)]
      exact rt_ret ⟨⟨t0, M0.2.1⟩, F0⟩
    | 10, _ =>
      rw [if_neg (show ¬ nI 10 = (0 : Int32) by decide), if_neg (show ¬ nI 10 = (1 : Int32) by decide), if_neg (show ¬ nI 10 = (2 : Int32) by decide), if_neg (show ¬ nI 10 = (3 : Int32) by decide), if_neg (show ¬ nI 10 = (4 : Int32) by decide), if_neg (show ¬ nI 10 = (5 : Int32) by decide), if_neg (show ¬ nI 10 = (6 : Int32) by decide), if_neg (show ¬ nI 10 = (7 : Int32) by decide), if_neg (show ¬ nI 10 = (8 : Int32) by decide), if_neg (show ¬ nI 10 = (9 : Int32) by decide)]
      have e := hR 0 (by omega)
      have q1 : nI 10 - (10 : Int32) = (0 : Int32) := by decide
      have q2 : amIn (0 : Int32) (aLen 150) = true := by decide
      have q3 : Int32.toNatClampNeg (0 : Int32) = 0 + 0 := by decide
      simp only [↓reduceIte, if_true, if_false, Option.bind_some, k_145, ↓bd1 (w_145_4 hP), k_150, q1, q2, q3, e]
      exact rt_ret ⟨⟨t0, rfl⟩, F0⟩
    | 11, _ =>
      rw [if_neg (show ¬ nI 11 = (0 : Int32) by decide), if_neg (show ¬ nI 11 = (1 : Int32) by decide), if_neg (show ¬ nI 11 = (2 : Int32) by decide), if_neg (show ¬ nI 11 = (3 : Int32) by decide), if_neg (show ¬ nI 11 = (4 : Int32) by decide), if_neg (show ¬ nI 11 = (5 : Int32) by decide), if_neg (show ¬ nI 11 = (6 : Int32) by decide), if_neg (show ¬ nI 11 = (7 : Int32) by decide), if_neg (show ¬ nI 11 = (8 : Int32) by decide), if_neg (show ¬ nI 11 = (9 : Int32) by decide)]
      have e := hR 1 (by omega)
      have q1 : nI 11 - (10 : Int32) = (1 : Int32) := by decide
      have q2 : amIn (1 : Int32) (aLen 150) = true := by decide
      have q3 : Int32.toNatClampNeg (1 : Int32) = 0 + 1 := by decide
      simp only [↓reduceIte, if_true, if_false, Option.bind_some, k_145, ↓bd1 (w_145_4 hP), k_150, q1, q2, q3, e]
      exact rt_ret ⟨⟨t0, rfl⟩, F0⟩
    | 12, _ =>
      rw [if_neg (show ¬ nI 12 = (0 : Int32) by decide), if_neg (show ¬ nI 12 = (1 : Int32) by decide), if_neg (show ¬ nI 12 = (2 : Int32) by decide), if_neg (show ¬ nI 12 = (3 : Int32) by decide), if_neg (show ¬ nI 12 = (4 : Int32) by decide), if_neg (show ¬ nI 12 = (5 : Int32) by decide), if_neg (show ¬ nI 12 = (6 : Int32) by decide), if_neg (show ¬ nI 12 = (7 : Int32) by decide), if_neg (show ¬ nI 12 = (8 : Int32) by decide), if_neg (show ¬ nI 12 = (9 : Int32) by decide)]
      have e := hR 2 (by omega)
      have q1 : nI 12 - (10 : Int32) = (2 : Int32) := by decide
      have q2 : amIn (2 : Int32) (aLen 150) = true := by decide
      have q3 : Int32.toNatClampNeg (2 : Int32) = 0 + 2 := by decide
      simp only [↓reduceIte, if_true, if_false, Option.bind_some, k_145, ↓bd1 (w_145_4 hP), k_150, q1, q2, q3, e]
      exact rt_ret ⟨⟨t0, rfl⟩, F0⟩
theorem q120 (hC : CI C s B) : f_120 n 0 C = some (bF B, C) := by
  unfold f_120
  rw [if_pos k_0, hC.2.2.2.2.2.2.2.1]
theorem q190 (hM : MI C h B) (hB : BigOK B) : Rt (f_190 n 145 C) (fun z C' => z = bF B ∧ FrR C C') := by
  obtain ⟨M0, t0, F0⟩ := hM.t0 hB
  unfold f_190
  rw [if_pos k_145]
  exact rt_ret ⟨M0.2.2.2.1, F0⟩
theorem q122 (hC : CI C s B) (hB : BigOK B) (p c : Int32) : f_122 n 0 p c C = some (sCel B p c, C) := by
  have c4 := hB.1.2.1
  unfold f_122 sCel
  rcases ix_c (N := 30) (by omega) p with ⟨np, ep⟩ | ⟨i, hi, rfl, ep⟩
  · rw [ep]
    simp only [↓reduceIte, k_0, if_true, ↓bd1 (c146_f (n := n) (b := c) hC hB (Or.inl np))]
  · rw [ep]
    rcases ix_c (N := sCols (bS B)) (by omega) c with ⟨nc, ec⟩ | ⟨j, hj, rfl, ec⟩
    · rw [ec]
      simp only [↓reduceIte, k_0, if_true, ↓bd1 (c146_f (n := n) hC hB (Or.inr ⟨⟨i, hi, rfl⟩, nc⟩))]
    · rw [ec]
      have w := rg_eq (n := n) (rw_of hC.1 (show 83 ∈ rowsL by decide)) hC.2.2.2.2.2.2.2.2.1.1 hi hj c4
      simp only [↓reduceIte, k_0, if_true, ↓bd1 (c146_t (n := n) hC hB hi hj), ↓bd1 (w_0_6 hC.1), k_82, ↓bd1 (w_82_0 hC.1), k_83, ↓bd1 w]
theorem m246_t (hM : MC C h S) {i j : Nat} (hi : i < 30) (hj : j < sCols S) (h0 : cI C 145 5 = 0) : f_246 n 145 (nI i) (nI j) C = some (1, C) := by
  have hP := hM.1
  have hh := hM.2.2.1.1
  have e := hM.2.2.1.2.1
  have c4 := hM.2.2.2.2.1
  have w0 : f_163 n (nI i) 0 (29 : Int32) C = some (1, C) := m163_t (N := 30) (by omega) hi
  have w1 := m163_t (n := n) (C := C) (by omega) hj
  unfold f_246
  simp (disch := omega) only [↓reduceIte, if_true, if_false, Option.bind_some, k_145, ↓bd1 w0, n10f, ↓bd1 (w_145_21 hP), k_159, l_159, hM.2.1, x_in, x_cl, hh, e]
  simp only [↓reduceIte, ↓bd1 w1, n10f, if_false, ↓bd1 (m162_t (n := n) (w := 1) h0), or_true, if_true]
theorem m246_f (hM : MC C h S) {a b : Int32} (hb : Nix 30 a ∨ (∃ i, i < 30 ∧ a = nI i) ∧ Nix (sCols S) b) (h0 : cI C 145 5 = 0) : f_246 n 145 a b C = some (0, uI C 145 5 1) := by
  have hP := hM.1
  have hh := hM.2.2.1.1
  have e := hM.2.2.1.2.1
  have c4 := hM.2.2.2.2.1
  unfold f_246
  rcases hb with hb | ⟨⟨i, hi, rfl⟩, hb⟩
  · have w0 : f_163 n a 0 (29 : Int32) C = some (0, C) := m163_f (N := 30) (by omega) hb
    simp only [↓reduceIte, ↓bd1 w0, if_true, k_145, ↓bd1 (m162_f (n := n) (w := 1) h0 (by decide)), true_or]
  · have w0 : f_163 n (nI i) 0 (29 : Int32) C = some (1, C) := m163_t (N := 30) (by omega) hi
    have w1 := m163_f (n := n) (C := C) (by omega) hb
    simp (disch := omega) only [↓reduceIte, if_true, if_false, Option.bind_some, k_145, ↓bd1 w0, n10f, ↓bd1 (w_145_21 hP), k_159, l_159, hM.2.1, x_in, x_cl, hh, e]
    simp only [↓reduceIte, ↓bd1 w1, if_true, ↓bd1 (m162_f (n := n) (w := 1) h0 (by decide)), true_or]
theorem q247 (hM : MI C h B) (hB : BigOK B) (p c : Int32) : Rt (f_247 n 145 p c C) (fun z C' => An C' z (sCel B p c) ∧ FrR C C') := by
  have c4 := hB.1.2.1
  obtain ⟨M0, t0, F0⟩ := hM.t0 hB
  generalize hC0 : uI C 145 5 0 = C0 at M0 t0 F0
  have hT := M0.2.2.2.2.1.1.1
  unfold f_247 sCel
  rw [hC0]
  rcases ix_c (N := 30) (by omega) p with ⟨np, ep⟩ | ⟨i, hi, rfl, ep⟩
  · rw [ep]
    simp only [↓reduceIte, k_145, if_true, if_false, not_true, ↓bd1 (m246_f (n := n) (b := c) M0.1 (Or.inl np) t0)]
    exact rt_ret (An_f F0)
  · rw [ep]
    rcases ix_c (N := sCols (bS B)) (by omega) c with ⟨nc, ec⟩ | ⟨j, hj, rfl, ec⟩
    · rw [ec]
      simp only [↓reduceIte, k_145, if_true, if_false, not_true, ↓bd1 (m246_f (n := n) M0.1 (Or.inr ⟨⟨i, hi, rfl⟩, nc⟩) t0)]
      exact rt_ret (An_f F0)
    · rw [ec]
      have i1 : i < 12500 := by omega
      have i2 : 30 + 4 * i + j < 12500 := by omega
      have e1 := hT.1 i hi
      rw [Nat.zero_add] at e1
      rcases bcs ((zT (bZ B)).1 i) with d | d
      · rw [d] at e1
        have e1 : cI C0 146 i = 0 := e1
        simp (disch := omega) only [↓reduceIte, k_145, if_true, if_false, n10f, not_false_iff, ↓bd1 (m246_t (n := n) M0.1 hi hj t0), ↓bd1 (w_145_0 M0.1.1), k_146, l_146, x_in, x_cl, i1, e1, not_true]
        exact rt_ret ⟨⟨t0, by unfold tg; rw [d]; rfl⟩, F0⟩
      · rw [d] at e1
        have e1 : cI C0 146 i = 1 := e1
        have e2 := hT.2 i hi d j hj
        rw [Nat.zero_add] at e2
        simp (disch := omega) only [k_145, if_true, if_false, n10f, not_false_iff, ↓bd1 (m246_t (n := n) M0.1 hi hj t0), ↓bd1 (w_145_0 M0.1.1), k_146, l_146, ↓reduceIte, n_2, n_3, n_4, n_5, n_6, n_7, n_8, n_10, n_12, n_20, n_30, n_40, n_100, n_120, n_150, n_200, n_230, n_320, n_450, n_900, x_le, x_lt, x_eq, x_lt0, x_le0, x_0le, x_0lt, x_eq0, x_eq1, x_1lt, x_le1, x_lt1, x_1le, x_eqm, x_add, x_a1, x_1a, x_a0, x_0a, x_mul, x_sub, x_s1, x_1s, x_div, x_cl, x_cl0, x_cl1, x_in, x_in0, x_in1, x_ofNat, i1, i2, e1, e2]
        exact rt_ret ⟨⟨t0, by unfold tg; rw [d]; rfl⟩, F0⟩
end
