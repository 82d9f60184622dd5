/-! image, restore. -/
theorem cpy0 {f g : Nat → Int32} {l m : Nat} (hm : m < l) : va_cpy f g 0 0 l m = f m := by
  have := cpy_in (f := f) (g := g) (s := 0) (d := 0) hm
  rw [Nat.zero_add] at this
  exact this
/-- the State at a has become that at b -/
def CpS (a b : Nat) (C C' : AmC) : Prop := cP C' = cP C ∧ (∀ q, ¬ (a ≤ q ∧ q ≤ a + 9) → cI C' q = cI C q) ∧ cI C' (a + 1) 1 = cI C (b + 1) 1 ∧ (∀ m, m < 120 → cI C' (a + 1 + 1) m = cI C (b + 1 + 1) m) ∧ cI C' (a + 3) 2 = cI C (b + 3) 2 ∧ cI C' (a + 3) 3 = cI C (b + 3) 3 ∧ (∀ m, m < 4800 → cI C' (a + 3 + 1) m = cI C (b + 3 + 1) m) ∧ (∀ m, m < 40 → cI C' (a + 3 + 2) m = cI C (b + 3 + 2) m) ∧ cI C' a 5 = cI C b 5 ∧ (∀ m, m < 8 → cI C' (a + 6) m = cI C (b + 6) m) ∧ (∀ m, m < 8 → cI C' (a + 7) m = cI C (b + 7) m) ∧ (∀ m, m < 8 → cI C' (a + 8) m = cI C (b + 8) m) ∧ ∀ m, m < 3 → cI C' (a + 9) m = cI C (b + 9) m
theorem CpS.sta {a b cols : Nat} {C C' : AmC} {z : Sta} (h4 : cols ≤ 4) (hL : (zH z).length ≤ 40) (hS : (zS z).length ≤ 8) (K : CpS a b C C') (hz : StaC cols C b z) : StaC cols C' a z := by
  obtain ⟨_, _, k1, k2, k3, k4, k5, k6, k7, k8, k9, k10, k11⟩ := K
  obtain ⟨h1, ⟨x, hx, h2, h3, h5⟩, h6, h7, h8⟩ := hz
  refine ⟨TabW.c (TabW.of h4 h1.w k1 k2), ⟨x, hx, by rw [k3]; exact h2, by rw [k4]; exact h3, fun k hk => TabW.of h4 (h5 k hk) (k6 _ (by omega)) (fun m hm => k5 _ (by omega))⟩, by rw [k7]; exact h6, fun i hi => ?_, fun k hk => by rw [k11 k hk]; exact h8 k hk⟩
  rw [k8 i (by omega), k9 i (by omega), k10 i (by omega)]
  exact h7 i hi
def c10C_92 (C : AmC) : AmC := uI (uI (uA (uA C 96 (va_cpy (cI C 86) (cI C 96) 0 0 4800)) 97 (va_cpy (cI C 87) (cI C 97) 0 0 40)) 95 2 (cI C 85 2)) 95 3 (cI C 85 3)
theorem c10_92 {n : Nat} {C : AmC} (hP : PInv C) : f_10 n 95 85 C = some ((), c10C_92 C) := by
  have q1 : Int32.toNatClampNeg (Int32.ofNat 4800) = 4800 := by decide
  have q2 : Int32.toNatClampNeg (Int32.ofNat 40) = 40 := by decide
  have c0 : Int32.toNatClampNeg (0 : Int32) = 0 := by decide
  have n0 : ¬ (0 : Int32) < 0 := by decide
  have n1 : ¬ (Int32.ofNat 4800) < 0 := by decide
  have n2 : ¬ (Int32.ofNat 40) < 0 := by decide
  have n3 : 0 + 4800 ≤ 4800 := by decide
  have n4 : 0 + 40 ≤ 40 := by decide
  unfold f_10 c10C_92
  simp (disch := decide) only [↓reduceIte, k_95, k_85, if_true, ↓bp_A, ↓bd1 (w_95_0 hP), ↓bd1 (w_85_0 hP), ↓bd1 (w_95_1 hP), ↓bd1 (w_85_1 hP), k_96, k_86, k_97, k_87, l_96, l_86, l_97, l_87, q1, q2, c0, n0, n1, n2, n3, n4, not_false_iff, and_self, r_An, r_In]
def c110C_92 (D : AmC) : AmC := uA (uI (uA (uA (uA D 98 (va_cpy (cI D 88) (cI D 98) 0 0 8)) 99 (va_cpy (cI D 89) (cI D 99) 0 0 8)) 100 (va_cpy (cI D 90) (cI D 100) 0 0 8)) 92 5 (cI D 82 5)) 101 (va_cpy (cI D 91) (cI D 101) 0 0 3)
theorem c110_92 {n : Nat} {C : AmC} (hP : PInv C) : f_110 n 92 82 C = some ((), c110C_92 (c10C_92 (cpR C 93 83))) := by
  have q1 : Int32.toNatClampNeg (8 : Int32) = 8 := by decide
  have q2 : Int32.toNatClampNeg (Int32.ofNat 3) = 3 := by decide
  have c0 : Int32.toNatClampNeg (0 : Int32) = 0 := by decide
  have n0 : ¬ (0 : Int32) < 0 := by decide
  have n1 : ¬ (8 : Int32) < 0 := by decide
  have n2 : ¬ (Int32.ofNat 3) < 0 := by decide
  have n3 : 0 + 8 ≤ 8 := by decide
  have n4 : 0 + 3 ≤ 3 := by decide
  have w72 := c72 (n := n) (rw_of hP (show 93 ∈ rowsL by decide)) (rw_of hP (show 83 ∈ rowsL by decide))
  have P1 : PInv (cpR C 93 83) := hP.of (cpR_fr C 93 83).1
  have w10 := c10_92 (n := n) P1
  have P2 : PInv (c10C_92 (cpR C 93 83)) := P1.of rfl
  generalize hD : c10C_92 (cpR C 93 83) = D at w10 P2
  unfold f_110 c110C_92
  simp (disch := decide) only [↓reduceIte, k_92, k_82, if_true, ↓bp_A, ↓bp_I, ↓bd1 (w_92_0 hP), ↓bd1 (w_82_0 hP), k_93, ↓bd1 w72, ↓bd1 (w_92_1 P1), ↓bd1 (w_82_1 P1), k_95, ↓bd1 w10, ↓bd1 (w_92_2 P2), ↓bd1 (w_92_3 P2), ↓bd1 (w_92_4 P2), ↓bd1 (w_92_6 P2), ↓bd1 (w_82_2 P2), ↓bd1 (w_82_3 P2), ↓bd1 (w_82_4 P2), ↓bd1 (w_82_6 P2), k_98, l_98, k_99, l_99, k_100, l_100, k_101, l_101, k_88, l_88, k_89, l_89, k_90, l_90, k_91, l_91, q1, q2, c0, n0, n1, n2, n3, n4, not_false_iff, and_self, r_An, r_In]
theorem c110s_92 {C : AmC} : CpS 92 82 C (c110C_92 (c10C_92 (cpR C 93 83))) := by
  have F1 := cpR_fr C 93 83
  have e1 : cI (cpR C 93 83) 93 1 = cI C 83 1 := by unfold cpR; rw [r_I, if_pos ⟨rfl, rfl⟩]
  have e2 : cI (cpR C 93 83) (93 + 1) = va_cpy (cI C (83 + 1)) (cI C (93 + 1)) 0 0 120 := by unfold cpR; rw [r_In (by decide), r_Ae]
  have eo : ∀ q, ¬ (q = 93 ∨ q = 93 + 1) → cI (cpR C 93 83) q = cI C q := fun q hq => F1.2.1 q hq
  have P : cP (cpR C 93 83) = cP C := F1.1
  generalize cpR C 93 83 = D at e1 e2 eo P
  have F2 : Fr (fun q => q = 95 ∨ q = 96 ∨ q = 97) D (c10C_92 D) := ((((Fr.refl _ D).uA (by omega)).uA (by omega)).uI (by omega)).uI (by omega)
  have g2 : cI (c10C_92 D) 95 2 = cI D 85 2 := by unfold c10C_92; rw [r_I, if_neg (by omega), r_I, if_pos ⟨rfl, rfl⟩]
  have g3 : cI (c10C_92 D) 95 3 = cI D 85 3 := by unfold c10C_92; rw [r_I, if_pos ⟨rfl, rfl⟩]
  have g4 : cI (c10C_92 D) 96 = va_cpy (cI D 86) (cI D 96) 0 0 4800 := by unfold c10C_92; rw [r_In (by decide), r_In (by decide), r_An (by decide), r_Ae]
  have g5 : cI (c10C_92 D) 97 = va_cpy (cI D 87) (cI D 97) 0 0 40 := by unfold c10C_92; rw [r_In (by decide), r_In (by decide), r_Ae]
  have go := F2.2.1
  have gP := F2.1
  generalize c10C_92 D = E at go gP g2 g3 g4 g5
  have F3 : Fr (fun q => q = 92 ∨ q = 98 ∨ q = 99 ∨ q = 100 ∨ q = 101) E (c110C_92 E) := (((((Fr.refl _ E).uA (by omega)).uA (by omega)).uA (by omega)).uI (by omega)).uA (by omega)
  have h5 : cI (c110C_92 E) 92 5 = cI E 82 5 := by unfold c110C_92; rw [r_An (by decide), r_I, if_pos ⟨rfl, rfl⟩]
  have h6 : cI (c110C_92 E) 98 = va_cpy (cI E 88) (cI E 98) 0 0 8 := by unfold c110C_92; rw [r_An (by decide), r_In (by decide), r_An (by decide), r_An (by decide), r_Ae]
  have h7 : cI (c110C_92 E) 99 = va_cpy (cI E 89) (cI E 99) 0 0 8 := by unfold c110C_92; rw [r_An (by decide), r_In (by decide), r_An (by decide), r_Ae]
  have h8 : cI (c110C_92 E) 100 = va_cpy (cI E 90) (cI E 100) 0 0 8 := by unfold c110C_92; rw [r_An (by decide), r_In (by decide), r_Ae]
  have h9 : cI (c110C_92 E) 101 = va_cpy (cI E 91) (cI E 101) 0 0 3 := by unfold c110C_92; rw [r_Ae]
  have ho := F3.2.1
  have hP := F3.1
  generalize c110C_92 E = G at ho hP h5 h6 h7 h8 h9
  have all : ∀ q, ¬ (92 ≤ q ∧ q ≤ 101) → cI G q = cI C q := fun q hq => by rw [ho q (by omega), go q (by omega), eo q (by omega)]
  refine ⟨by rw [hP, gP, P], all, ?_, fun m hm => ?_, ?_, ?_, fun m hm => ?_, fun m hm => ?_, ?_, fun m hm => ?_, fun m hm => ?_, fun m hm => ?_, fun m hm => ?_⟩
  · rw [ho _ (by omega), go _ (by omega)]; exact e1
  · rw [ho _ (by omega), go _ (by omega), e2, cpy0 hm]
  · rw [ho _ (by omega), show 92 + 3 = 95 from rfl, g2, eo _ (by omega)]
  · rw [ho _ (by omega), show 92 + 3 = 95 from rfl, g3, eo _ (by omega)]
  · rw [ho _ (by omega), show 92 + 3 + 1 = 96 from rfl, g4, cpy0 hm, eo _ (by omega)]
  · rw [ho _ (by omega), show 92 + 3 + 2 = 97 from rfl, g5, cpy0 hm, eo _ (by omega)]
  · rw [h5, go _ (by omega), eo _ (by omega)]
  · rw [show 92 + 6 = 98 from rfl, h6, cpy0 hm, go _ (by omega), eo _ (by omega)]
  · rw [show 92 + 7 = 99 from rfl, h7, cpy0 hm, go _ (by omega), eo _ (by omega)]
  · rw [show 92 + 8 = 100 from rfl, h8, cpy0 hm, go _ (by omega), eo _ (by omega)]
  · rw [show 92 + 9 = 101 from rfl, h9, cpy0 hm, go _ (by omega), eo _ (by omega)]
def c10C_82 (C : AmC) : AmC := uI (uI (uA (uA C 86 (va_cpy (cI C 96) (cI C 86) 0 0 4800)) 87 (va_cpy (cI C 97) (cI C 87) 0 0 40)) 85 2 (cI C 95 2)) 85 3 (cI C 95 3)
theorem c10_82 {n : Nat} {C : AmC} (hP : PInv C) : f_10 n 85 95 C = some ((), c10C_82 C) := by
  have q1 : Int32.toNatClampNeg (Int32.ofNat 4800) = 4800 := by decide
  have q2 : Int32.toNatClampNeg (Int32.ofNat 40) = 40 := by decide
  have c0 : Int32.toNatClampNeg (0 : Int32) = 0 := by decide
  have n0 : ¬ (0 : Int32) < 0 := by decide
  have n1 : ¬ (Int32.ofNat 4800) < 0 := by decide
  have n2 : ¬ (Int32.ofNat 40) < 0 := by decide
  have n3 : 0 + 4800 ≤ 4800 := by decide
  have n4 : 0 + 40 ≤ 40 := by decide
  unfold f_10 c10C_82
  simp (disch := decide) only [↓reduceIte, k_85, k_95, if_true, ↓bp_A, ↓bd1 (w_85_0 hP), ↓bd1 (w_95_0 hP), ↓bd1 (w_85_1 hP), ↓bd1 (w_95_1 hP), k_86, k_96, k_87, k_97, l_86, l_96, l_87, l_97, q1, q2, c0, n0, n1, n2, n3, n4, not_false_iff, and_self, r_An, r_In]
def c110C_82 (D : AmC) : AmC := uA (uI (uA (uA (uA D 88 (va_cpy (cI D 98) (cI D 88) 0 0 8)) 89 (va_cpy (cI D 99) (cI D 89) 0 0 8)) 90 (va_cpy (cI D 100) (cI D 90) 0 0 8)) 82 5 (cI D 92 5)) 91 (va_cpy (cI D 101) (cI D 91) 0 0 3)
theorem c110_82 {n : Nat} {C : AmC} (hP : PInv C) : f_110 n 82 92 C = some ((), c110C_82 (c10C_82 (cpR C 83 93))) := by
  have q1 : Int32.toNatClampNeg (8 : Int32) = 8 := by decide
  have q2 : Int32.toNatClampNeg (Int32.ofNat 3) = 3 := by decide
  have c0 : Int32.toNatClampNeg (0 : Int32) = 0 := by decide
  have n0 : ¬ (0 : Int32) < 0 := by decide
  have n1 : ¬ (8 : Int32) < 0 := by decide
  have n2 : ¬ (Int32.ofNat 3) < 0 := by decide
  have n3 : 0 + 8 ≤ 8 := by decide
  have n4 : 0 + 3 ≤ 3 := by decide
  have w72 := c72 (n := n) (rw_of hP (show 83 ∈ rowsL by decide)) (rw_of hP (show 93 ∈ rowsL by decide))
  have P1 : PInv (cpR C 83 93) := hP.of (cpR_fr C 83 93).1
  have w10 := c10_82 (n := n) P1
  have P2 : PInv (c10C_82 (cpR C 83 93)) := P1.of rfl
  generalize hD : c10C_82 (cpR C 83 93) = D at w10 P2
  unfold f_110 c110C_82
  simp (disch := decide) only [↓reduceIte, k_82, k_92, if_true, ↓bp_A, ↓bp_I, ↓bd1 (w_82_0 hP), ↓bd1 (w_92_0 hP), k_83, ↓bd1 w72, ↓bd1 (w_82_1 P1), ↓bd1 (w_92_1 P1), k_85, ↓bd1 w10, ↓bd1 (w_82_2 P2), ↓bd1 (w_82_3 P2), ↓bd1 (w_82_4 P2), ↓bd1 (w_82_6 P2), ↓bd1 (w_92_2 P2), ↓bd1 (w_92_3 P2), ↓bd1 (w_92_4 P2), ↓bd1 (w_92_6 P2), k_88, l_88, k_89, l_89, k_90, l_90, k_91, l_91, k_98, l_98, k_99, l_99, k_100, l_100, k_101, l_101, q1, q2, c0, n0, n1, n2, n3, n4, not_false_iff, and_self, r_An, r_In]
theorem c110s_82 {C : AmC} : CpS 82 92 C (c110C_82 (c10C_82 (cpR C 83 93))) := by
  have F1 := cpR_fr C 83 93
  have e1 : cI (cpR C 83 93) 83 1 = cI C 93 1 := by unfold cpR; rw [r_I, if_pos ⟨rfl, rfl⟩]
  have e2 : cI (cpR C 83 93) (83 + 1) = va_cpy (cI C (93 + 1)) (cI C (83 + 1)) 0 0 120 := by unfold cpR; rw [r_In (by decide), r_Ae]
  have eo : ∀ q, ¬ (q = 83 ∨ q = 83 + 1) → cI (cpR C 83 93) q = cI C q := fun q hq => F1.2.1 q hq
  have P : cP (cpR C 83 93) = cP C := F1.1
  generalize cpR C 83 93 = D at e1 e2 eo P
  have F2 : Fr (fun q => q = 85 ∨ q = 86 ∨ q = 87) D (c10C_82 D) := ((((Fr.refl _ D).uA (by omega)).uA (by omega)).uI (by omega)).uI (by omega)
  have g2 : cI (c10C_82 D) 85 2 = cI D 95 2 := by unfold c10C_82; rw [r_I, if_neg (by omega), r_I, if_pos ⟨rfl, rfl⟩]
  have g3 : cI (c10C_82 D) 85 3 = cI D 95 3 := by unfold c10C_82; rw [r_I, if_pos ⟨rfl, rfl⟩]
  have g4 : cI (c10C_82 D) 86 = va_cpy (cI D 96) (cI D 86) 0 0 4800 := by unfold c10C_82; rw [r_In (by decide), r_In (by decide), r_An (by decide), r_Ae]
  have g5 : cI (c10C_82 D) 87 = va_cpy (cI D 97) (cI D 87) 0 0 40 := by unfold c10C_82; rw [r_In (by decide), r_In (by decide), r_Ae]
  have go := F2.2.1
  have gP := F2.1
  generalize c10C_82 D = E at go gP g2 g3 g4 g5
  have F3 : Fr (fun q => q = 82 ∨ q = 88 ∨ q = 89 ∨ q = 90 ∨ q = 91) E (c110C_82 E) := (((((Fr.refl _ E).uA (by omega)).uA (by omega)).uA (by omega)).uI (by omega)).uA (by omega)
  have h5 : cI (c110C_82 E) 82 5 = cI E 92 5 := by unfold c110C_82; rw [r_An (by decide), r_I, if_pos ⟨rfl, rfl⟩]
  have h6 : cI (c110C_82 E) 88 = va_cpy (cI E 98) (cI E 88) 0 0 8 := by unfold c110C_82; rw [r_An (by decide), r_In (by decide), r_An (by decide), r_An (by decide), r_Ae]
  have h7 : cI (c110C_82 E) 89 = va_cpy (cI E 99) (cI E 89) 0 0 8 := by unfold c110C_82; rw [r_An (by decide), r_In (by decide), r_An (by decide), r_Ae]
  have h8 : cI (c110C_82 E) 90 = va_cpy (cI E 100) (cI E 90) 0 0 8 := by unfold c110C_82; rw [r_An (by decide), r_In (by decide), r_Ae]
  have h9 : cI (c110C_82 E) 91 = va_cpy (cI E 101) (cI E 91) 0 0 3 := by unfold c110C_82; rw [r_Ae]
  have ho := F3.2.1
  have hP := F3.1
  generalize c110C_82 E = G at ho hP h5 h6 h7 h8 h9
  have all : ∀ q, ¬ (82 ≤ q ∧ q ≤ 91) → cI G q = cI C q := fun q hq => by rw [ho q (by omega), go q (by omega), eo q (by omega)]
  refine ⟨by rw [hP, gP, P], all, ?_, fun m hm => ?_, ?_, ?_, fun m hm => ?_, fun m hm => ?_, ?_, fun m hm => ?_, fun m hm => ?_, fun m hm => ?_, fun m hm => ?_⟩
  · rw [ho _ (by omega), go _ (by omega)]; exact e1
  · rw [ho _ (by omega), go _ (by omega), e2, cpy0 hm]
  · rw [ho _ (by omega), show 82 + 3 = 85 from rfl, g2, eo _ (by omega)]
  · rw [ho _ (by omega), show 82 + 3 = 85 from rfl, g3, eo _ (by omega)]
  · rw [ho _ (by omega), show 82 + 3 + 1 = 86 from rfl, g4, cpy0 hm, eo _ (by omega)]
  · rw [ho _ (by omega), show 82 + 3 + 2 = 87 from rfl, g5, cpy0 hm, eo _ (by omega)]
  · rw [h5, go _ (by omega), eo _ (by omega)]
  · rw [show 82 + 6 = 88 from rfl, h6, cpy0 hm, go _ (by omega), eo _ (by omega)]
  · rw [show 82 + 7 = 89 from rfl, h7, cpy0 hm, go _ (by omega), eo _ (by omega)]
  · rw [show 82 + 8 = 90 from rfl, h8, cpy0 hm, go _ (by omega), eo _ (by omega)]
  · rw [show 82 + 9 = 91 from rfl, h9, cpy0 hm, go _ (by omega), eo _ (by omega)]
def bImg (B : Big) : Big := (bS B, (bN B, bT B, bF B), bZ B, some (bZ B))
def bRes (B : Big) : Big := match bI B with
  | none => B
  | some y => (bS B, (bN B, bT B, bF B), y, some y)
theorem bImg_ok {B : Big} (hB : BigOK B) : BigOK (bImg B) := ⟨hB.1, hB.2.1, hB.2.2.1, hB.2.2.2.1, fun y hy => by cases hy; exact hB.2.2.2.1⟩
theorem bRes_ok {B : Big} (hB : BigOK B) : BigOK (bRes B) := by
  unfold bRes
  cases h : bI B with
  | none => exact hB
  | some y => exact ⟨hB.1, hB.2.1, hB.2.2.1, hB.2.2.2.2 y h, fun z hz => by cases hz; exact hB.2.2.2.2 y h⟩
section
variable {n : Nat} {C C' : AmC} {s h : Nat} {B : Big} {S : Scr}
theorem q141 (hC : CI C s B) (hB : BigOK B) : Rt (f_141 n 0 C) (fun z C' => z = (if (bI B).isSome = true then 1 else 0) ∧ CI C' s (bRes B) ∧ (∀ b, 145 ≤ b → cI C' b = cI C b)) := by
  have P := hC.1
  have e8 := hC.2.2.2.2.2.2.2.2.2.1
  unfold f_141 bRes
  cases hI : bI B with
  | none =>
    rw [hI] at e8
    have e8 : cI C 0 8 = 0 := e8
    simp only [↓reduceIte, k_0, if_true, e8, true_or]
    exact rt_ret ⟨by simp, hC, fun _ _ => rfl⟩
  | some y =>
    rw [hI] at e8
    have e8 : cI C 0 8 = 1 := e8
    have K := c110s_82 (C := C)
    have w := c110_82 (n := n) P
    generalize c110C_82 (c10C_82 (cpR C 83 93)) = D at K w
    have e0 : cI D 0 = cI C 0 := K.2.1 0 (by omega)
    have d8 : cI D 0 8 = 1 := by rw [e0]; exact e8
    simp only [↓reduceIte, k_0, if_true, if_false, e8, n10f, ↓bd1 (w_0_7 P), ↓bd1 (w_0_6 P), k_82, ↓bd1 w, d8, or_true]
    have zy := hC.2.2.2.2.2.2.2.2.2.2 y hI
    have yo := hB.2.2.2.2 y hI
    refine rt_ret ⟨by simp, ?_, fun b hb => K.2.1 b (by omega)⟩
    obtain ⟨h1, h2, h3, h4, h5, h6, h7, h8, h9, h10, h11⟩ := hC
    have l := scr_lt h2
    have p : cP D = cP C := K.1
    have e : ∀ q, ¬ (82 ≤ q ∧ q ≤ 82 + 9) → cI D q = cI C q := K.2.1
    exact ⟨h1.of p, h2, by rw [p]; exact h3, by rw [p]; exact h4, h5.of hB.1.2.2.2.2.2.2.2.1 (fun a z1 z2 => e a (by omega)), by rw [e 0 (by omega)]; exact h6, by rw [e 1 (by omega)]; exact h7, by rw [e 0 (by omega)]; exact h8, K.sta hB.1.2.1 yo.2.1 yo.2.2.2.1 zy, by rw [e 0 (by omega), e8]; rfl, fun v hv => by cases hv; exact zy.fr (fun b z1 z2 => e b (by omega))⟩
/-! the reference -/
theorem m286_27 : ∀ k j n C, j + k = 8 → k < n → PInv C → Rt (lp_286_27 n 145 (nI j) C) (fun z C' => z = 145 ∧ cP C' = cP C ∧ (∀ b, ¬ (b = 147 ∨ b = 148 ∨ b = 149) → cI C' b = cI C b) ∧ ∀ b, b = 147 ∨ b = 148 ∨ b = 149 → ∀ m, cI C' b m = if 8 + j ≤ m ∧ m < 8 + 8 then cI C b (m - 8) else cI C b m) := by
  intro k
  induction k with
  | zero =>
    intro j n C h1 hn hP
    obtain ⟨n, rfl⟩ : ∃ m, n = m + 1 := ⟨n - 1, by omega⟩
    have b1 : 8 ≤ j := by omega
    simp (disch := omega) only [↓reduceIte, lp_286_27, n_8, x_le, b1, if_true]
    exact rt_ret ⟨rfl, rfl, fun _ _ => rfl, fun b _ m => by rw [if_neg (by omega)]⟩
  | succ k ih =>
    intro j n C h1 hn hP
    obtain ⟨n, rfl⟩ : ∃ m, n = m + 1 := ⟨n - 1, by omega⟩
    have b1 : ¬ 8 ≤ j := by omega
    have i1 : j < 16 := by omega
    have i2 : 8 + j < 16 := by omega
    have s1 : cI (uI C 147 (8 + j) (cI C 147 (j))) 148 = cI C 148 := r_In (by decide)
    have s2 : ∀ v, cI (uI (uI C 147 (8 + j) (cI C 147 (j))) 148 (8 + j) v) 149 = cI C 149 := fun v => by rw [r_In (by decide), r_In (by decide)]
    have I := ih (j + 1) n (uI (uI (uI C 147 (8 + j) (cI C 147 (j))) 148 (8 + j) (cI C 148 (j))) 149 (8 + j) (cI C 149 (j))) (by omega) (by omega) (hP.of rfl)
    simp (disch := omega) only [↓reduceIte, lp_286_27, n_8, x_le, b1, if_true, if_false, Option.bind_some, k_145, ↓bp_I, ↓bd1 (w_145_1 hP), k_147, l_147, ↓bd1 (w_145_2 hP), k_148, l_148, ↓bd1 (w_145_3 hP), k_149, l_149, x_add, x_in, x_cl, i1, i2, s1, s2, x_a1]
    refine rt_mono I (fun _ C' H => ⟨H.1, H.2.1, fun b hb => ?_, fun b hb m => ?_⟩)
    · rw [H.2.2.1 b hb, r_In (by omega), r_In (by omega), r_In (by omega)]
    · rw [H.2.2.2 b hb m]
      have rd : ∀ q, cI (uI (uI (uI C 147 (8 + j) (cI C 147 (j))) 148 (8 + j) (cI C 148 (j))) 149 (8 + j) (cI C 149 (j))) b q = if q = 8 + j then cI C b (j) else cI C b q := by
        intro q
        rcases hb with rfl | rfl | rfl
        · rw [r_In (by decide), r_In (by decide), r_I]; simp
        · rw [r_In (by decide), r_I, r_In (by decide)]; simp
        · rw [r_I, r_In (by decide), r_In (by decide)]; simp
      rw [rd, rd]
      by_cases e : m = 8 + j
      · subst e
        rw [if_neg (by omega), if_pos rfl, if_pos (by omega)]
        congr 1
        all_goals omega
      · by_cases g : 8 + (j + 1) ≤ m ∧ m < 8 + 8
        · rw [if_pos g, if_neg (by omega), if_pos (by omega)]
        · rw [if_neg g, if_neg e, if_neg (by omega)]
theorem m287_32 : ∀ k j n C, j + k = 8 → k < n → PInv C → Rt (lp_287_32 n 145 (nI j) C) (fun z C' => z = 145 ∧ cP C' = cP C ∧ (∀ b, ¬ (b = 147 ∨ b = 148 ∨ b = 149) → cI C' b = cI C b) ∧ ∀ b, b = 147 ∨ b = 148 ∨ b = 149 → ∀ m, cI C' b m = if 0 + j ≤ m ∧ m < 0 + 8 then cI C b (m + 8) else cI C b m) := by
  intro k
  induction k with
  | zero =>
    intro j n C h1 hn hP
    obtain ⟨n, rfl⟩ : ∃ m, n = m + 1 := ⟨n - 1, by omega⟩
    have b1 : 8 ≤ j := by omega
    simp (disch := omega) only [↓reduceIte, lp_287_32, n_8, x_le, b1, if_true]
    exact rt_ret ⟨rfl, rfl, fun _ _ => rfl, fun b _ m => by rw [if_neg (by omega)]⟩
  | succ k ih =>
    intro j n C h1 hn hP
    obtain ⟨n, rfl⟩ : ∃ m, n = m + 1 := ⟨n - 1, by omega⟩
    have b1 : ¬ 8 ≤ j := by omega
    have i1 : j < 16 := by omega
    have i2 : 8 + j < 16 := by omega
    have s1 : cI (uI C 147 (j) (cI C 147 (8 + j))) 148 = cI C 148 := r_In (by decide)
    have s2 : ∀ v, cI (uI (uI C 147 (j) (cI C 147 (8 + j))) 148 (j) v) 149 = cI C 149 := fun v => by rw [r_In (by decide), r_In (by decide)]
    have I := ih (j + 1) n (uI (uI (uI C 147 (j) (cI C 147 (8 + j))) 148 (j) (cI C 148 (8 + j))) 149 (j) (cI C 149 (8 + j))) (by omega) (by omega) (hP.of rfl)
    simp (disch := omega) only [↓reduceIte, lp_287_32, n_8, x_le, b1, if_true, if_false, Option.bind_some, k_145, ↓bp_I, ↓bd1 (w_145_1 hP), k_147, l_147, ↓bd1 (w_145_2 hP), k_148, l_148, ↓bd1 (w_145_3 hP), k_149, l_149, x_add, x_in, x_cl, i1, i2, s1, s2, x_a1]
    refine rt_mono I (fun _ C' H => ⟨H.1, H.2.1, fun b hb => ?_, fun b hb m => ?_⟩)
    · rw [H.2.2.1 b hb, r_In (by omega), r_In (by omega), r_In (by omega)]
    · rw [H.2.2.2 b hb m]
      have rd : ∀ q, cI (uI (uI (uI C 147 (j) (cI C 147 (8 + j))) 148 (j) (cI C 148 (8 + j))) 149 (j) (cI C 149 (8 + j))) b q = if q = j then cI C b (8 + j) else cI C b q := by
        intro q
        rcases hb with rfl | rfl | rfl
        · rw [r_In (by decide), r_In (by decide), r_I]; simp
        · rw [r_In (by decide), r_I, r_In (by decide)]; simp
        · rw [r_I, r_In (by decide), r_In (by decide)]; simp
      rw [rd, rd]
      by_cases e : m = j
      · subst e
        rw [if_neg (by omega), if_pos rfl, if_pos (by omega)]
        congr 1
        all_goals omega
      · by_cases g : 0 + (j + 1) ≤ m ∧ m < 0 + 8
        · rw [if_pos g, if_neg (by omega), if_pos (by omega)]
        · rw [if_neg g, if_neg e, if_neg (by omega)]
theorem m286_64 : ∀ k j n C, j + k = 3 → k < n → PInv C → Rt (lp_286_64 n 145 (nI j) C) (fun z C' => z = 145 ∧ cP C' = cP C ∧ (∀ b, ¬ b = 150 → cI C' b = cI C b) ∧ ∀ m, cI C' 150 m = if 3 + j ≤ m ∧ m < 3 + 3 then cI C 150 (m - 3) else cI C 150 m) := by
  intro k
  induction k with
  | zero =>
    intro j n C h1 hn hP
    obtain ⟨n, rfl⟩ : ∃ m, n = m + 1 := ⟨n - 1, by omega⟩
    have b1 : 3 ≤ j := by omega
    simp (disch := omega) only [↓reduceIte, lp_286_64, n_3, x_le, b1, if_true]
    exact rt_ret ⟨rfl, rfl, fun _ _ => rfl, fun m => by rw [if_neg (by omega)]⟩
  | succ k ih =>
    intro j n C h1 hn hP
    obtain ⟨n, rfl⟩ : ∃ m, n = m + 1 := ⟨n - 1, by omega⟩
    have b1 : ¬ 3 ≤ j := by omega
    have i1 : j < 6 := by omega
    have i2 : 3 + j < 6 := by omega
    have I := ih (j + 1) n (uI C 150 (3 + j) (cI C 150 (j))) (by omega) (by omega) (hP.of rfl)
    simp (disch := omega) only [↓reduceIte, lp_286_64, n_3, x_le, b1, if_true, if_false, Option.bind_some, k_145, ↓bd1 (w_145_4 hP), k_150, l_150, x_add, x_in, x_cl, i1, i2, x_a1]
    refine rt_mono I (fun _ C' H => ⟨H.1, H.2.1, fun b hb => by rw [H.2.2.1 b hb, r_In hb], fun m => ?_⟩)
    rw [H.2.2.2 m]
    by_cases e : m = 3 + j
    · subst e
      rw [if_neg (by omega), r_I, if_pos ⟨rfl, rfl⟩, if_pos (by omega)]
      congr 1
      all_goals omega
    · by_cases g : 3 + (j + 1) ≤ m ∧ m < 3 + 3
      · rw [if_pos g, if_pos (by omega), r_I, if_neg (by omega)]
      · rw [if_neg g, if_neg (by omega), r_I, if_neg (by omega)]
theorem m287_69 : ∀ k j n C, j + k = 3 → k < n → PInv C → Rt (lp_287_69 n 145 (nI j) C) (fun _ C' => cP C' = cP C ∧ (∀ b, ¬ b = 150 → cI C' b = cI C b) ∧ ∀ m, cI C' 150 m = if 0 + j ≤ m ∧ m < 0 + 3 then cI C 150 (m + 3) else cI C 150 m) := by
  intro k
  induction k with
  | zero =>
    intro j n C h1 hn hP
    obtain ⟨n, rfl⟩ : ∃ m, n = m + 1 := ⟨n - 1, by omega⟩
    have b1 : 3 ≤ j := by omega
    simp (disch := omega) only [↓reduceIte, lp_287_69, n_3, x_le, b1, if_true]
    exact rt_ret ⟨rfl, fun _ _ => rfl, fun m => by rw [if_neg (by omega)]⟩
  | succ k ih =>
    intro j n C h1 hn hP
    obtain ⟨n, rfl⟩ : ∃ m, n = m + 1 := ⟨n - 1, by omega⟩
    have b1 : ¬ 3 ≤ j := by omega
    have i1 : j < 6 := by omega
    have i2 : 3 + j < 6 := by omega
    have I := ih (j + 1) n (uI C 150 (j) (cI C 150 (3 + j))) (by omega) (by omega) (hP.of rfl)
    simp (disch := omega) only [↓reduceIte, lp_287_69, n_3, x_le, b1, if_true, if_false, Option.bind_some, k_145, ↓bd1 (w_145_4 hP), k_150, l_150, x_add, x_in, x_cl, i1, i2, x_a1]
    refine rt_mono I (fun _ C' H => ⟨H.1, fun b hb => by rw [H.2.1 b hb, r_In hb], fun m => ?_⟩)
    rw [H.2.2 m]
    by_cases e : m = j
    · subst e
      rw [if_neg (by omega), r_I, if_pos ⟨rfl, rfl⟩, if_pos (by omega)]
      congr 1
      all_goals omega
    · by_cases g : 0 + (j + 1) ≤ m ∧ m < 0 + 3
      · rw [if_pos g, if_pos (by omega), r_I, if_neg (by omega)]
      · rw [if_neg g, if_neg (by omega), r_I, if_neg (by omega)]
theorem q286 (hM : MI C h B) (hB : BigOK B) (hn : 6100 ≤ n) : Rt (f_286 n 145 C) (fun _ C' => MI C' h (bImg B) ∧ cP C' = cP C ∧ ∀ b, b < 145 ∨ (151 ≤ b ∧ b ≤ 177) → cI C' b = cI C b) := by
  have c4 := hB.1.2.1
  obtain ⟨M0, t0, F0⟩ := hM.t0 hB
  generalize hC0 : uI C 145 5 0 = C0 at M0 t0 F0
  have Z := M0.2.2.2.2.1
  have W1 := m164 (n := n) (f := 0) (t := 6300) (N := 150) M0.1.1 (by omega) (by omega) (by omega) (by omega)
  rw [x_0, ← n_6300, ← n_150] at W1
  unfold f_286
  rw [hC0, if_pos k_145]
  refine rt_bind (rt_mono W1 (fun _ C1 H => ?_))
  obtain ⟨p1, _, o1, a1⟩ := H
  have W2 := m164 (n := n) (C := C1) (f := 300) (t := 6450) (N := 6000) (M0.1.1.of p1) (by omega) (by omega) (by omega) (by omega)
  rw [← n_300, ← n_6450, ← n_6000] at W2
  refine rt_bind (rt_mono W2 (fun _ C2 H => ?_))
  obtain ⟨p2, _, o2, a2⟩ := H
  have f2 : cI C2 145 = cI C0 145 := by rw [o2 145 (by omega), o1 145 (by omega)]
  have u7 : ∀ v, cI (uI C2 145 9 v) 145 7 = cI C0 145 7 := fun v => by rw [r_I, if_neg (by omega), f2]
  have u8 : ∀ v w, cI (uI (uI C2 145 9 v) 145 10 w) 145 8 = cI C0 145 8 := fun v w => by rw [r_I, if_neg (by omega), r_I, if_neg (by omega), f2]
  dsimp only
  rw [f2, u7, u8]
  have F3 : Fr (fun q => q = 145) C2 (uI (uI (uI C2 145 9 (cI C0 145 6)) 145 10 (cI C0 145 7)) 145 11 (cI C0 145 8)) := (((Fr.refl (fun q => q = 145) C2).uI (a := 145) rfl).uI (a := 145) rfl).uI (a := 145) rfl
  have g : ∀ f, ¬ (9 ≤ f ∧ f ≤ 11) → cI (uI (uI (uI C2 145 9 (cI C0 145 6)) 145 10 (cI C0 145 7)) 145 11 (cI C0 145 8)) 145 f = cI C0 145 f := fun f hf => by rw [r_I, if_neg (by omega), r_I, if_neg (by omega), r_I, if_neg (by omega), f2]
  have g9 : cI (uI (uI (uI C2 145 9 (cI C0 145 6)) 145 10 (cI C0 145 7)) 145 11 (cI C0 145 8)) 145 9 = cI C0 145 6 := by rw [r_I, if_neg (by omega), r_I, if_neg (by omega), r_I, if_pos ⟨rfl, rfl⟩]
  have g10 : cI (uI (uI (uI C2 145 9 (cI C0 145 6)) 145 10 (cI C0 145 7)) 145 11 (cI C0 145 8)) 145 10 = cI C0 145 7 := by rw [r_I, if_neg (by omega), r_I, if_pos ⟨rfl, rfl⟩]
  have g11 : cI (uI (uI (uI C2 145 9 (cI C0 145 6)) 145 10 (cI C0 145 7)) 145 11 (cI C0 145 8)) 145 11 = cI C0 145 8 := by rw [r_I, if_pos ⟨rfl, rfl⟩]
  have p3 := F3.1
  have o3 := F3.2.1
  generalize uI (uI (uI C2 145 9 (cI C0 145 6)) 145 10 (cI C0 145 7)) 145 11 (cI C0 145 8) = C3 at p3 o3 g g9 g10 g11
  have P3 : PInv C3 := M0.1.1.of (by rw [p3, p2, p1])
  have L1 := m286_27 8 0 n C3 rfl (by omega) P3
  rw [x_0] at L1
  refine rt_bind (rt_mono L1 (fun _ C4 H => ?_))
  obtain ⟨rfl, p4, o4, a4⟩ := H
  have L2 := m286_64 3 0 n C4 rfl (by omega) (P3.of p4)
  rw [x_0] at L2
  refine rt_bind (rt_mono L2 (fun _ C5 H => ?_))
  obtain ⟨rfl, p5, o5, a5⟩ := H
  dsimp only
  rw [if_pos k_145]
  have pp : cP (uI C5 145 12 1) = cP C0 := by show cP C5 = _; rw [p5, p4, p3, p2, p1]
  have e145 : ∀ f, ¬ (9 ≤ f ∧ f ≤ 12) → cI (uI C5 145 12 1) 145 f = cI C0 145 f := fun f hf => by rw [r_I, if_neg (by omega), o5 145 (by omega), o4 145 (by omega), g f (by omega)]
  have e9 : ∀ f, 9 ≤ f → f ≤ 11 → cI (uI C5 145 12 1) 145 f = cI C3 145 f := fun f h1 h2 => by rw [r_I, if_neg (by omega), o5 145 (by omega), o4 145 (by omega)]
  have e146 : cI (uI C5 145 12 1) 146 = cI C2 146 := by rw [r_In (by decide), o5 146 (by omega), o4 146 (by omega), o3 146 (by omega)]
  have eo : ∀ b, ¬ (145 ≤ b ∧ b ≤ 150) → cI (uI C5 145 12 1) b = cI C0 b := fun b hb => by rw [r_In (by omega), o5 b (by omega), o4 b (by omega), o3 b (by omega), o2 b (by omega), o1 b (by omega)]
  have eS : ∀ b, b = 147 ∨ b = 148 ∨ b = 149 → ∀ m, cI (uI C5 145 12 1) b m = if 8 ≤ m ∧ m < 16 then cI C0 b (m - 8) else cI C0 b m := fun b hb m => by
    rw [r_In (by omega), o5 b (by omega), a4 b hb m]
    have : cI C3 b = cI C0 b := by rw [o3 b (by omega), o2 b (by omega), o1 b (by omega)]
    rw [this]
  have eR : ∀ m, cI (uI C5 145 12 1) 150 m = if 3 ≤ m ∧ m < 6 then cI C0 150 (m - 3) else cI C0 150 m := fun m => by
    rw [r_In (by decide), a5 m]
    have : cI C4 150 = cI C0 150 := by rw [o4 150 (by omega), o3 150 (by omega), o2 150 (by omega), o1 150 (by omega)]
    rw [this]
  have lo : ∀ m, m < 6300 → cI C2 146 m = cI C0 146 m := fun m hm => by rw [a2, if_neg (by omega), a1, if_neg (by omega)]
  obtain ⟨k1, k2, k3, k4, k5, k6, k7⟩ := M0
  have l8 := hB.2.2.2.1.2.2.2.1
  refine rt_ret ⟨⟨k1.of pp (e145 40 (by omega)) (fun a z1 z2 => eo a (by omega)), by show cI _ 145 43 = nI (bN B); rw [e145 43 (by omega)]; exact k2, fun k hk => by show cI _ 178 k = bT B k; rw [eo 178 (by omega)]; exact k3 k hk, by show cI _ 145 44 = bF B; rw [e145 44 (by omega)]; exact k4, ?_, by rw [r_I, if_pos ⟨rfl, rfl⟩]; rfl, fun y hy => ?_⟩, by rw [pp]; exact F0.1, fun b hb => by rw [eo b (by omega)]; exact F0.o b hb⟩
  · obtain ⟨z1, ⟨x, z2, z3, z4, z5⟩, z6, z7, z8⟩ := k5
    refine ⟨z1.of c4 (fun j _ _ => by rw [e146, lo j (by omega)]), ⟨x, z2, by rw [e145 6 (by omega)]; exact z3, by rw [e145 (6 + 1) (by omega)]; exact z4, fun k hk => (z5 k hk).of c4 (fun j _ _ => by rw [e146, lo j (by omega)])⟩, by rw [e145 (6 + 2) (by omega)]; exact z6, fun i hi => ?_, fun k hk => ?_⟩
    · have hi : i < (zS (bZ B)).length := hi
      rw [eS 147 (by omega), eS 148 (by omega), eS 149 (by omega), if_neg (by omega), if_neg (by omega), if_neg (by omega)]
      exact z7 i hi
    · rw [eR, if_neg (by omega)]; exact z8 k hk
  · cases hy
    obtain ⟨z1, ⟨x, z2, z3, z4, z5⟩, z6, z7, z8⟩ := k5
    refine ⟨z1.cp c4 (fun m hm => ?_), ⟨x, z2, by rw [e9 9 (by omega) (by omega), g9]; exact z3, by rw [e9 10 (by omega) (by omega), g10]; exact z4, fun k hk => (z5 k hk).cp c4 (fun m hm => ?_)⟩, by rw [e9 11 (by omega) (by omega), g11]; exact z6, fun i hi => ?_, fun k hk => ?_⟩
    · rw [e146, a2, if_neg (by omega), a1, if_pos (by omega)]
      exact congrArg (cI C0 146) (by omega)
    · rw [e146, a2, if_pos (by omega), a1, if_neg (by omega)]
      exact congrArg (cI C0 146) (by omega)
    · have z7 := z7 i hi
      have hi : i < (zS (bZ B)).length := hi
      rw [eS 147 (by omega), eS 148 (by omega), eS 149 (by omega), if_pos (by omega), if_pos (by omega), if_pos (by omega), show 8 + i - 8 = 0 + i by omega]
      exact z7
    · rw [eR, if_pos (by omega), show 3 + k - 3 = 0 + k by omega]; exact z8 k hk
theorem q287 (hM : MI C h B) (hB : BigOK B) (hn : 6100 ≤ n) : Rt (f_287 n 145 C) (fun z C' => z = (if (bI B).isSome = true then 1 else 0) ∧ MI C' h (bRes B) ∧ cP C' = cP C ∧ ∀ b, b < 145 ∨ (151 ≤ b ∧ b ≤ 177) → cI C' b = cI C b) := by
  have c4 := hB.1.2.1
  obtain ⟨M0, t0, F0⟩ := hM.t0 hB
  generalize hC0 : uI C 145 5 0 = C0 at M0 t0 F0
  have e12 := M0.2.2.2.2.2.1
  unfold f_287 bRes
  rw [hC0, if_pos k_145]
  cases hI : bI B with
  | none =>
    rw [hI] at e12
    have e12 : cI C0 145 12 = 0 := e12
    rw [if_neg (fun z => z e12)]
    exact rt_ret ⟨by simp, M0, F0.1, F0.o⟩
  | some y =>
    rw [hI] at e12
    have e12 : cI C0 145 12 = 1 := e12
    have n12 : ¬ cI C0 145 12 = 0 := by rw [e12]; decide
    have yo := hB.2.2.2.2 y hI
    rw [if_pos n12]
    have W1 := m164 (n := n) (f := 6300) (t := 0) (N := 150) M0.1.1 (by omega) (by omega) (by omega) (by omega)
    rw [x_0, ← n_6300, ← n_150] at W1
    refine rt_bind (rt_mono W1 (fun _ C1 H => ?_))
    obtain ⟨p1, _, o1, a1⟩ := H
    have W2 := m164 (n := n) (C := C1) (f := 6450) (t := 300) (N := 6000) (M0.1.1.of p1) (by omega) (by omega) (by omega) (by omega)
    rw [← n_300, ← n_6450, ← n_6000] at W2
    refine rt_bind (rt_mono W2 (fun _ C2 H => ?_))
    obtain ⟨p2, _, o2, a2⟩ := H
    have f2 : cI C2 145 = cI C0 145 := by rw [o2 145 (by omega), o1 145 (by omega)]
    have u7 : ∀ v, cI (uI C2 145 6 v) 145 10 = cI C0 145 10 := fun v => by rw [r_I, if_neg (by omega), f2]
    have u8 : ∀ v w, cI (uI (uI C2 145 6 v) 145 7 w) 145 11 = cI C0 145 11 := fun v w => by rw [r_I, if_neg (by omega), r_I, if_neg (by omega), f2]
    dsimp only
    rw [f2, u7, u8]
    have F3 : Fr (fun q => q = 145) C2 (uI (uI (uI C2 145 6 (cI C0 145 9)) 145 7 (cI C0 145 10)) 145 8 (cI C0 145 11)) := (((Fr.refl (fun q => q = 145) C2).uI (a := 145) rfl).uI (a := 145) rfl).uI (a := 145) rfl
    have g : ∀ f, ¬ (6 ≤ f ∧ f ≤ 8) → cI (uI (uI (uI C2 145 6 (cI C0 145 9)) 145 7 (cI C0 145 10)) 145 8 (cI C0 145 11)) 145 f = cI C0 145 f := fun f hf => by rw [r_I, if_neg (by omega), r_I, if_neg (by omega), r_I, if_neg (by omega), f2]
    have g6 : cI (uI (uI (uI C2 145 6 (cI C0 145 9)) 145 7 (cI C0 145 10)) 145 8 (cI C0 145 11)) 145 6 = cI C0 145 9 := by rw [r_I, if_neg (by omega), r_I, if_neg (by omega), r_I, if_pos ⟨rfl, rfl⟩]
    have g7 : cI (uI (uI (uI C2 145 6 (cI C0 145 9)) 145 7 (cI C0 145 10)) 145 8 (cI C0 145 11)) 145 7 = cI C0 145 10 := by rw [r_I, if_neg (by omega), r_I, if_pos ⟨rfl, rfl⟩]
    have g8 : cI (uI (uI (uI C2 145 6 (cI C0 145 9)) 145 7 (cI C0 145 10)) 145 8 (cI C0 145 11)) 145 8 = cI C0 145 11 := by rw [r_I, if_pos ⟨rfl, rfl⟩]
    have p3 := F3.1
    have o3 := F3.2.1
    generalize uI (uI (uI C2 145 6 (cI C0 145 9)) 145 7 (cI C0 145 10)) 145 8 (cI C0 145 11) = C3 at p3 o3 g g6 g7 g8
    have P3 : PInv C3 := M0.1.1.of (by rw [p3, p2, p1])
    have L1 := m287_32 8 0 n C3 rfl (by omega) P3
    rw [x_0] at L1
    refine rt_bind (rt_mono L1 (fun _ C4 H => ?_))
    obtain ⟨rfl, p4, o4, a4⟩ := H
    have L2 := m287_69 3 0 n C4 rfl (by omega) (P3.of p4)
    rw [x_0] at L2
    refine rt_bind (rt_mono L2 (fun _ C5 H => ?_))
    obtain ⟨p5, o5, a5⟩ := H
    have pp : cP C5 = cP C0 := by rw [p5, p4, p3, p2, p1]
    have e145 : ∀ f, ¬ (6 ≤ f ∧ f ≤ 8) → cI C5 145 f = cI C0 145 f := fun f hf => by rw [o5 145 (by omega), o4 145 (by omega), g f (by omega)]
    have e3 : cI C5 145 = cI C3 145 := by rw [o5 145 (by omega), o4 145 (by omega)]
    have e146 : cI C5 146 = cI C2 146 := by rw [o5 146 (by omega), o4 146 (by omega), o3 146 (by omega)]
    have eo : ∀ b, ¬ (145 ≤ b ∧ b ≤ 150) → cI C5 b = cI C0 b := fun b hb => by rw [o5 b (by omega), o4 b (by omega), o3 b (by omega), o2 b (by omega), o1 b (by omega)]
    have eS : ∀ b, b = 147 ∨ b = 148 ∨ b = 149 → ∀ m, cI C5 b m = if m < 8 then cI C0 b (m + 8) else cI C0 b m := fun b hb m => by
      rw [o5 b (by omega), a4 b hb m]
      have : cI C3 b = cI C0 b := by rw [o3 b (by omega), o2 b (by omega), o1 b (by omega)]
      rw [this]
      simp
    have eR : ∀ m, cI C5 150 m = if m < 3 then cI C0 150 (m + 3) else cI C0 150 m := fun m => by
      rw [a5 m]
      have : cI C4 150 = cI C0 150 := by rw [o4 150 (by omega), o3 150 (by omega), o2 150 (by omega), o1 150 (by omega)]
      rw [this]
      simp
    have hi' : ∀ m, 6300 ≤ m → cI C2 146 m = cI C0 146 m := fun m hm => by rw [a2, if_neg (by omega), a1, if_neg (by omega)]
    obtain ⟨k1, k2, k3, k4, k5, k6, k7⟩ := M0
    have ky := k7 y hI
    refine rt_ret ⟨by simp, ⟨k1.of pp (e145 40 (by omega)) (fun a z1 z2 => eo a (by omega)), by show cI _ 145 43 = nI (bN B); rw [e145 43 (by omega)]; exact k2, fun k hk => by show cI _ 178 k = bT B k; rw [eo 178 (by omega)]; exact k3 k hk, by show cI _ 145 44 = bF B; rw [e145 44 (by omega)]; exact k4, ?_, by rw [e145 12 (by omega), e12]; rfl, fun v hv => ?_⟩, by rw [pp]; exact F0.1, fun b hb => by rw [eo b (by omega)]; exact F0.o b hb⟩
    · obtain ⟨z1, ⟨x, z2, z3, z4, z5⟩, z6, z7, z8⟩ := ky
      refine ⟨z1.cp c4 (fun m hm => ?_), ⟨x, z2, by rw [e3, g6]; exact z3, by rw [e3, g7]; exact z4, fun k hk => (z5 k hk).cp c4 (fun m hm => ?_)⟩, by rw [e3, g8]; exact z6, fun i hi => ?_, fun k hk => ?_⟩
      · rw [e146, a2, if_neg (by omega), a1, if_pos (by omega)]
        exact congrArg (cI C0 146) (by omega)
      · rw [e146, a2, if_pos (by omega), a1, if_neg (by omega)]
        exact congrArg (cI C0 146) (by omega)
      · have z7 := z7 i hi
        have hi : i < (zS y).length := hi
        have l8 := yo.2.2.2.1
        rw [eS 147 (by omega), eS 148 (by omega), eS 149 (by omega), if_pos (by omega), if_pos (by omega), if_pos (by omega), show 0 + i + 8 = 8 + i by omega]
        exact z7
      · rw [eR, if_pos (by omega), show 0 + k + 3 = 3 + k by omega]; exact z8 k hk
    · cases hv
      obtain ⟨z1, ⟨x, z2, z3, z4, z5⟩, z6, z7, z8⟩ := ky
      refine ⟨z1.of c4 (fun j _ _ => by rw [e146, hi' j (by omega)]), ⟨x, z2, by rw [e145 9 (by omega)]; exact z3, by rw [e145 (9 + 1) (by omega)]; exact z4, fun k hk => (z5 k hk).of c4 (fun j _ _ => by rw [e146, hi' j (by omega)])⟩, by rw [e145 (9 + 2) (by omega)]; exact z6, fun i hi => ?_, fun k hk => ?_⟩
      · rw [eS 147 (by omega), eS 148 (by omega), eS 149 (by omega), if_neg (by omega), if_neg (by omega), if_neg (by omega)]
        exact z7 i hi
      · rw [eR, if_neg (by omega)]; exact z8 k hk
end
