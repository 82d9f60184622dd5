def lp_103_13 : Nat → Nat → Nat → Int32 → Int32 → Int32 → AmC → Option (((Unit) ⊕ (Unit)) × AmC)
  | 0, _, _, _, _, _, _ => none
  | n + 1, p0, p2, p3, p4, p5, C => (if p4 ≤ p5 then some ((.inr ()), C) else if isK p0 6 = true then (cP C p0 19).bind (fun r4 => if isK r4 12 = true then if amIn p5 (aLen r4) = true then (f_102 n p0 (cI C r4 (Int32.toNatClampNeg p5)) p2 p3 (-1 : Int32) C).bind (fun z => match z with | (q8, C9) => (cP C9 p0 19).bind (fun r11 => if isK r11 12 = true then if amIn p5 (aLen r11) = true then (f_102 n p0 ((cI C9 r11 (Int32.toNatClampNeg p5)) + (1 : Int32)) p2 p3 (-1 : Int32) C9).bind (fun z => match z with | (q15, C16) => (cP C16 p0 18).bind (fun r18 => if isK r18 12 = true then if amIn p5 (aLen r18) = true then (if ¬ (cI C16 r18 (Int32.toNatClampNeg p5)) = (60 : Int32) then (cP C16 p0 18).bind (fun r23 => if isK r23 12 = true then if amIn p5 (aLen r23) = true then (if ¬ (cI C16 r23 (Int32.toNatClampNeg p5)) = (62 : Int32) then (if ¬ q8 = q15 then some ((.inl ()), C16) else lp_103_13 n p0 p2 p3 p4 (p5 + (1 : Int32)) C16) else (if q8 ≤ q15 then some ((.inl ()), C16) else lp_103_13 n p0 p2 p3 p4 (p5 + (1 : Int32)) C16)) else none else none) else (if q15 ≤ q8 then some ((.inl ()), C16) else lp_103_13 n p0 p2 p3 p4 (p5 + (1 : Int32)) C16)) else none else none)) else none else none)) else none else none) else none)
set_option maxRecDepth 20000 in
set_option maxHeartbeats 4000000 in
theorem lt_103_13 : ∀ (n : Nat) (p0 : Nat) (p2 : Nat) (p3 : Int32) (p4 : Int32) (p5 : Int32) (C : AmC) (r : ((Unit) ⊕ (Unit)) × AmC), lp_103_13 n p0 p2 p3 p4 p5 C = some r → ∀ (o : AmO) (M' : AmM), (match r with
        | ((.inl _), C') => En false 103 73 [] [] (mkM C') o M'
        | ((.inr _), C') => En false 103 77 [] [] (mkM C') o M') → En false 103 13 [(0, .ref p0), (2, .ref p2), (3, .int p3), (4, .int p4), (5, .int p5)] [] (mkM C) o M' := by
  intro n
  induction n with
  | zero => intro p0 p2 p3 p4 p5 C r h; cases h
  | succ n ih =>
    intro p0 p2 p3 p4 p5 C r h o M' hk
    unfold lp_103_13 at h
    refine en_iload rfl rfl ?_
    refine en_iload rfl rfl ?_
    rcases gi h with ⟨c2, h⟩ | ⟨c2, h⟩
    · refine en_icmp_ge_t c2 rfl ?_
      cases h
      exact en_sub [] rfl rfl hk
    · refine en_icmp_ge_f c2 rfl ?_
      refine en_aload rfl rfl ?_
      refine en_aload rfl rfl ?_
      obtain ⟨g3, h⟩ := gd h
      obtain ⟨r4, e5, h⟩ := gb h
      refine ec_getP (ci := 6) (j := 19) ⟨rfl, rfl, rfl⟩ g3 e5 rfl ?_
      refine en_iload rfl rfl ?_
      obtain ⟨g6, h⟩ := gd h
      obtain ⟨g7, h⟩ := gd h
      refine ec_iaload g6 g7 rfl ?_
      refine en_aload rfl rfl ?_
      refine en_iload rfl rfl ?_
      refine ec_iconst cst_m1 rfl ?_
      obtain ⟨⟨q8, C9⟩, e10, h⟩ := gb h
      dsimp only at h
      refine ec_callV1 (k' := 102) (n := 5) (rc := 6) (a := p0) (as := [.int (cI C r4 (Int32.toNatClampNeg p5)), .ref p2, .int p3, .int (-1 : Int32)]) ⟨rfl, rfl⟩ rfl rfl (Nat.le_of_ble_eq_true rfl) (Nat.le_of_ble_eq_true rfl) (Nat.le_of_ble_eq_true rfl) g3 rfl (t_102 e10) ?_
      refine en_istore (l' := [(6, .int q8), (0, .ref p0), (2, .ref p2), (3, .int p3), (4, .int p4), (5, .int p5)]) rfl rfl ?_
      refine en_aload rfl rfl ?_
      refine en_aload rfl rfl ?_
      obtain ⟨r11, e12, h⟩ := gb h
      refine ec_getP (ci := 6) (j := 19) ⟨rfl, rfl, rfl⟩ g3 e12 rfl ?_
      refine en_iload rfl rfl ?_
      obtain ⟨g13, h⟩ := gd h
      obtain ⟨g14, h⟩ := gd h
      refine ec_iaload g13 g14 rfl ?_
      refine ec_iconst cst_1 rfl ?_
      refine en_iadd rfl ?_
      refine en_aload rfl rfl ?_
      refine en_iload rfl rfl ?_
      refine ec_iconst cst_m1 rfl ?_
      obtain ⟨⟨q15, C16⟩, e17, h⟩ := gb h
      dsimp only at h
      refine ec_callV1 (k' := 102) (n := 5) (rc := 6) (a := p0) (as := [.int ((cI C9 r11 (Int32.toNatClampNeg p5)) + (1 : Int32)), .ref p2, .int p3, .int (-1 : Int32)]) ⟨rfl, rfl⟩ rfl rfl (Nat.le_of_ble_eq_true rfl) (Nat.le_of_ble_eq_true rfl) (Nat.le_of_ble_eq_true rfl) g3 rfl (t_102 e17) ?_
      refine en_istore (l' := [(7, .int q15), (6, .int q8), (0, .ref p0), (2, .ref p2), (3, .int p3), (4, .int p4), (5, .int p5)]) rfl rfl ?_
      refine en_aload rfl rfl ?_
      obtain ⟨r18, e19, h⟩ := gb h
      refine ec_getP (ci := 6) (j := 18) ⟨rfl, rfl, rfl⟩ g3 e19 rfl ?_
      refine en_iload rfl rfl ?_
      obtain ⟨g20, h⟩ := gd h
      obtain ⟨g21, h⟩ := gd h
      refine ec_iaload g20 g21 rfl ?_
      refine ec_iconst cst_60 rfl ?_
      rcases gi h with ⟨c22, h⟩ | ⟨c22, h⟩
      · refine en_icmp_ne_t c22 rfl ?_
        refine en_aload rfl rfl ?_
        obtain ⟨r23, e24, h⟩ := gb h
        refine ec_getP (ci := 6) (j := 18) ⟨rfl, rfl, rfl⟩ g3 e24 rfl ?_
        refine en_iload rfl rfl ?_
        obtain ⟨g25, h⟩ := gd h
        obtain ⟨g26, h⟩ := gd h
        refine ec_iaload g25 g26 rfl ?_
        refine ec_iconst cst_62 rfl ?_
        rcases gi h with ⟨c27, h⟩ | ⟨c27, h⟩
        · refine en_icmp_ne_t c27 rfl ?_
          refine en_iload rfl rfl ?_
          refine en_iload rfl rfl ?_
          rcases gi h with ⟨c28, h⟩ | ⟨c28, h⟩
          · refine en_icmp_ne_t c28 rfl ?_
            refine ec_iconst cst_0 rfl ?_
            refine en_istore (l' := [(8, .int (0 : Int32)), (7, .int q15), (6, .int q8), (0, .ref p0), (2, .ref p2), (3, .int p3), (4, .int p4), (5, .int p5)]) rfl rfl ?_
            refine en_iload rfl rfl ?_
            refine en_if_ne_f (by decide) rfl ?_
            cases h
            exact en_sub [] rfl rfl hk
          · refine en_icmp_ne_f c28 rfl ?_
            refine ec_iconst cst_1 rfl ?_
            refine en_goto rfl ?_
            refine en_istore (l' := [(8, .int (1 : Int32)), (7, .int q15), (6, .int q8), (0, .ref p0), (2, .ref p2), (3, .int p3), (4, .int p4), (5, .int p5)]) rfl rfl ?_
            refine en_iload rfl rfl ?_
            refine en_if_ne_t (by decide) rfl ?_
            refine ec_iinc (l' := [(5, .int (p5 + (1 : Int32))), (8, .int (1 : Int32)), (7, .int q15), (6, .int q8), (0, .ref p0), (2, .ref p2), (3, .int p3), (4, .int p4)]) rfl cst_1 rfl rfl ?_
            refine en_goto rfl ?_
            refine en_sub [4, 5, 6, 7, 0] rfl rfl ?_
            exact ih _ _ _ _ _ _ _ h o M' hk
        · refine en_icmp_ne_f c27 rfl ?_
          refine en_iload rfl rfl ?_
          refine en_iload rfl rfl ?_
          rcases gi h with ⟨c29, h⟩ | ⟨c29, h⟩
          · refine en_icmp_le_t c29 rfl ?_
            refine ec_iconst cst_0 rfl ?_
            refine en_goto rfl ?_
            refine en_istore (l' := [(8, .int (0 : Int32)), (7, .int q15), (6, .int q8), (0, .ref p0), (2, .ref p2), (3, .int p3), (4, .int p4), (5, .int p5)]) rfl rfl ?_
            refine en_iload rfl rfl ?_
            refine en_if_ne_f (by decide) rfl ?_
            cases h
            exact en_sub [] rfl rfl hk
          · refine en_icmp_le_f c29 rfl ?_
            refine ec_iconst cst_1 rfl ?_
            refine en_goto rfl ?_
            refine en_istore (l' := [(8, .int (1 : Int32)), (7, .int q15), (6, .int q8), (0, .ref p0), (2, .ref p2), (3, .int p3), (4, .int p4), (5, .int p5)]) rfl rfl ?_
            refine en_iload rfl rfl ?_
            refine en_if_ne_t (by decide) rfl ?_
            refine ec_iinc (l' := [(5, .int (p5 + (1 : Int32))), (8, .int (1 : Int32)), (7, .int q15), (6, .int q8), (0, .ref p0), (2, .ref p2), (3, .int p3), (4, .int p4)]) rfl cst_1 rfl rfl ?_
            refine en_goto rfl ?_
            refine en_sub [4, 5, 6, 7, 0] rfl rfl ?_
            exact ih _ _ _ _ _ _ _ h o M' hk
      · refine en_icmp_ne_f c22 rfl ?_
        refine en_iload rfl rfl ?_
        refine en_iload rfl rfl ?_
        rcases gi h with ⟨c30, h⟩ | ⟨c30, h⟩
        · refine en_icmp_ge_t c30 rfl ?_
          refine ec_iconst cst_0 rfl ?_
          refine en_goto rfl ?_
          refine en_istore (l' := [(8, .int (0 : Int32)), (7, .int q15), (6, .int q8), (0, .ref p0), (2, .ref p2), (3, .int p3), (4, .int p4), (5, .int p5)]) rfl rfl ?_
          refine en_iload rfl rfl ?_
          refine en_if_ne_f (by decide) rfl ?_
          cases h
          exact en_sub [] rfl rfl hk
        · refine en_icmp_ge_f c30 rfl ?_
          refine ec_iconst cst_1 rfl ?_
          refine en_goto rfl ?_
          refine en_istore (l' := [(8, .int (1 : Int32)), (7, .int q15), (6, .int q8), (0, .ref p0), (2, .ref p2), (3, .int p3), (4, .int p4), (5, .int p5)]) rfl rfl ?_
          refine en_iload rfl rfl ?_
          refine en_if_ne_t (by decide) rfl ?_
          refine ec_iinc (l' := [(5, .int (p5 + (1 : Int32))), (8, .int (1 : Int32)), (7, .int q15), (6, .int q8), (0, .ref p0), (2, .ref p2), (3, .int p3), (4, .int p4)]) rfl cst_1 rfl rfl ?_
          refine en_goto rfl ?_
          refine en_sub [4, 5, 6, 7, 0] rfl rfl ?_
          exact ih _ _ _ _ _ _ _ h o M' hk
/-- BulkWriter$Script.holds(LBulkWriter$Statement;LBulkWriter$Rows;I)Z -/
def f_103 (n : Nat) (a0 : Nat) (a1 : Nat) (a2 : Nat) (a3 : Int32) (C : AmC) : Option (Int32 × AmC) := if isK a1 8 = true then (lp_103_13 n a0 a2 a3 (if (450 : Int32) < ((cI C a1 7) + (cI C a1 8)) then (450 : Int32) else ((cI C a1 7) + (cI C a1 8))) (if (cI C a1 7) < (0 : Int32) then (0 : Int32) else (cI C a1 7)) C).bind (fun q => match q with | ((.inl _), C33) => some ((0 : Int32), C33) | ((.inr _), C33) => some ((1 : Int32), C33)) else none
set_option maxRecDepth 20000 in
set_option maxHeartbeats 4000000 in
theorem t_103 {n : Nat} {a0 : Nat} {a1 : Nat} {a2 : Nat} {a3 : Int32} {C : AmC} {r : Int32} {C' : AmC} (h : f_103 n a0 a1 a2 a3 C = some (r, C')) : En false 103 0 [(0, .ref a0), (1, .ref a1), (2, .ref a2), (3, .int a3)] [] (mkM C) (.inl (some (.int r))) (mkM C') := by
  unfold f_103 at h
  refine en_aload rfl rfl ?_
  obtain ⟨g1, h⟩ := gd h
  refine ec_getI (ci := 8) (j := 7) ⟨rfl, rfl, rfl⟩ g1 rfl ?_
  refine en_aload rfl rfl ?_
  refine ec_getI (ci := 8) (j := 8) ⟨rfl, rfl, rfl⟩ g1 rfl ?_
  refine en_iadd rfl ?_
  refine ec_iconst cst_450 rfl ?_
  refine en_min (Nat.le_of_ble_eq_true rfl) rfl ?_
  refine en_istore (l' := [(4, .int (if (450 : Int32) < ((cI C a1 7) + (cI C a1 8)) then (450 : Int32) else ((cI C a1 7) + (cI C a1 8)))), (0, .ref a0), (1, .ref a1), (2, .ref a2), (3, .int a3)]) rfl rfl ?_
  refine en_aload rfl rfl ?_
  refine ec_getI (ci := 8) (j := 7) ⟨rfl, rfl, rfl⟩ g1 rfl ?_
  refine ec_iconst cst_0 rfl ?_
  refine en_max (Nat.le_of_ble_eq_true rfl) rfl ?_
  refine en_istore (l' := [(5, .int (if (cI C a1 7) < (0 : Int32) then (0 : Int32) else (cI C a1 7))), (4, .int (if (450 : Int32) < ((cI C a1 7) + (cI C a1 8)) then (450 : Int32) else ((cI C a1 7) + (cI C a1 8)))), (0, .ref a0), (1, .ref a1), (2, .ref a2), (3, .int a3)]) rfl rfl ?_
  obtain ⟨⟨q31, C33⟩, e32, h⟩ := gb h
  refine en_sub [2, 4, 5, 1, 0] rfl rfl (lt_103_13 n _ _ _ _ _ _ _ e32 _ _ ?_)
  rcases q31 with ⟨⟩ | ⟨⟩
  · dsimp only at h ⊢
    refine ec_iconst cst_0 rfl ?_
    cases h
    exact en_zret (Or.inl rfl) rfl
  · dsimp only at h ⊢
    refine ec_iconst cst_1 rfl ?_
    cases h
    exact en_zret (Or.inr rfl) rfl
/-- BulkWriter$Pass.laysNewRow(I)Z -/
def f_55 (n : Nat) (a0 : Nat) (a1 : Int32) (C : AmC) : Option (Int32 × AmC) := if isK a0 3 = true then (cP C a0 7).bind (fun r2 => if isK r2 8 = true then (if (cI C r2 2) = (3 : Int32) then some ((1 : Int32), C) else (if a1 < 0 then some ((0 : Int32), C) else (if (40 : Int32) ≤ a1 then some ((0 : Int32), C) else (cP C a0 2).bind (fun r8 => if isK r8 12 = true then if amIn a1 (aLen r8) = true then (if ¬ (cI C r8 (Int32.toNatClampNeg a1)) = (-1 : Int32) then some ((0 : Int32), C) else some ((1 : Int32), C)) else none else none)))) else none) else none
set_option maxRecDepth 20000 in
set_option maxHeartbeats 4000000 in
theorem t_55 {n : Nat} {a0 : Nat} {a1 : Int32} {C : AmC} {r : Int32} {C' : AmC} (h : f_55 n a0 a1 C = some (r, C')) : En false 55 0 [(0, .ref a0), (1, .int a1)] [] (mkM C) (.inl (some (.int r))) (mkM C') := by
  unfold f_55 at h
  refine en_aload rfl rfl ?_
  obtain ⟨g1, h⟩ := gd h
  obtain ⟨r2, e3, h⟩ := gb h
  refine ec_getP (ci := 3) (j := 7) ⟨rfl, rfl, rfl⟩ g1 e3 rfl ?_
  obtain ⟨g4, h⟩ := gd h
  refine ec_getI (ci := 8) (j := 2) ⟨rfl, rfl, rfl⟩ g4 rfl ?_
  refine ec_iconst cst_3 rfl ?_
  rcases gi h with ⟨c5, h⟩ | ⟨c5, h⟩
  · refine en_icmp_eq_t c5 rfl ?_
    refine ec_iconst cst_1 rfl ?_
    refine en_goto rfl ?_
    cases h
    exact en_zret (Or.inr rfl) rfl
  · refine en_icmp_eq_f c5 rfl ?_
    refine en_iload rfl rfl ?_
    rcases gi h with ⟨c6, h⟩ | ⟨c6, h⟩
    · refine en_if_lt_t c6 rfl ?_
      refine ec_iconst cst_0 rfl ?_
      cases h
      exact en_zret (Or.inl rfl) rfl
    · refine en_if_lt_f c6 rfl ?_
      refine en_iload rfl rfl ?_
      refine ec_iconst cst_40 rfl ?_
      rcases gi h with ⟨c7, h⟩ | ⟨c7, h⟩
      · refine en_icmp_ge_t c7 rfl ?_
        refine ec_iconst cst_0 rfl ?_
        cases h
        exact en_zret (Or.inl rfl) rfl
      · refine en_icmp_ge_f c7 rfl ?_
        refine en_aload rfl rfl ?_
        obtain ⟨r8, e9, h⟩ := gb h
        refine ec_getP (ci := 3) (j := 2) ⟨rfl, rfl, rfl⟩ g1 e9 rfl ?_
        refine en_iload rfl rfl ?_
        obtain ⟨g10, h⟩ := gd h
        obtain ⟨g11, h⟩ := gd h
        refine ec_iaload g10 g11 rfl ?_
        refine ec_iconst cst_m1 rfl ?_
        rcases gi h with ⟨c12, h⟩ | ⟨c12, h⟩
        · refine en_icmp_ne_t c12 rfl ?_
          refine ec_iconst cst_0 rfl ?_
          cases h
          exact en_zret (Or.inl rfl) rfl
        · refine en_icmp_ne_f c12 rfl ?_
          refine ec_iconst cst_1 rfl ?_
          refine en_goto rfl ?_
          cases h
          exact en_zret (Or.inr rfl) rfl
def lp_56_12 : Nat → Nat → Int32 → Int32 → Int32 → AmC → Option (((Unit)) × AmC)
  | 0, _, _, _, _, _ => none
  | n + 1, p0, p1, p2, p3, C => if isK p0 3 = true then (cP C p0 6).bind (fun r8 => if isK r8 6 = true then (if (cI C r8 0) ≤ p3 then some ((), C) else (if (4 : Int32) ≤ p3 then some ((), C) else (if ¬ (cI C p0 11) = 0 then some ((), C) else (if p2 = 0 then (cP C p0 7).bind (fun r15 => if isK r15 8 = true then (cP C r15 5).bind (fun r18 => if isK r18 12 = true then if amIn p3 (aLen r18) = true then (if ¬ (cI C r18 (Int32.toNatClampNeg p3)) = (-1 : Int32) then (cP C p0 6).bind (fun r23 => (cP C p0 0).bind (fun r25 => (cP C p0 2).bind (fun r27 => if isK r27 12 = true then if amIn p1 (aLen r27) = true then (cP C p0 3).bind (fun r31 => if isK r31 12 = true then if amIn p1 (aLen r31) = true then if isK r23 6 = true then (f_102 n r23 (cI C r18 (Int32.toNatClampNeg p3)) r25 (cI C r27 (Int32.toNatClampNeg p1)) (cI C r31 (Int32.toNatClampNeg p1)) C).bind (fun z => match z with | (q36, C37) => (cP C37 p0 4).bind (fun r39 => if isK r39 12 = true then if amIn ((p1 * (4 : Int32)) + p3) (aLen r39) = true then (if q36 < (-9999 : Int32) then (cP (uI C37 r39 (Int32.toNatClampNeg ((p1 * (4 : Int32)) + p3)) q36) p0 2).bind (fun r44 => if isK r44 12 = true then if amIn p1 (aLen r44) = true then (f_48 n p0 (2 : Int32) (cI (uI C37 r39 (Int32.toNatClampNeg ((p1 * (4 : Int32)) + p3)) q36) r44 (Int32.toNatClampNeg p1)) p3 (uI C37 r39 (Int32.toNatClampNeg ((p1 * (4 : Int32)) + p3)) q36)).bind (fun z => match z with | (_, C49) => lp_56_12 n p0 p1 p2 (p3 + (1 : Int32)) C49) else none else none) else (if q36 ≤ (9999 : Int32) then lp_56_12 n p0 p1 p2 (p3 + (1 : Int32)) (uI C37 r39 (Int32.toNatClampNeg ((p1 * (4 : Int32)) + p3)) q36) else (cP (uI C37 r39 (Int32.toNatClampNeg ((p1 * (4 : Int32)) + p3)) q36) p0 2).bind (fun r52 => if isK r52 12 = true then if amIn p1 (aLen r52) = true then (f_48 n p0 (2 : Int32) (cI (uI C37 r39 (Int32.toNatClampNeg ((p1 * (4 : Int32)) + p3)) q36) r52 (Int32.toNatClampNeg p1)) p3 (uI C37 r39 (Int32.toNatClampNeg ((p1 * (4 : Int32)) + p3)) q36)).bind (fun z => match z with | (_, C57) => lp_56_12 n p0 p1 p2 (p3 + (1 : Int32)) C57) else none else none))) else none else none)) else none else none else none) else none else none))) else lp_56_12 n p0 p1 p2 (p3 + (1 : Int32)) C) else none else none) else none) else (cP C p0 7).bind (fun r59 => if isK r59 8 = true then (cP C r59 6).bind (fun r62 => if isK r62 12 = true then if amIn p3 (aLen r62) = true then (if ¬ (cI C r62 (Int32.toNatClampNeg p3)) = (-1 : Int32) then (cP C p0 6).bind (fun r67 => (cP C p0 0).bind (fun r69 => (cP C p0 2).bind (fun r71 => if isK r71 12 = true then if amIn p1 (aLen r71) = true then (cP C p0 3).bind (fun r75 => if isK r75 12 = true then if amIn p1 (aLen r75) = true then if isK r67 6 = true then (f_102 n r67 (cI C r62 (Int32.toNatClampNeg p3)) r69 (cI C r71 (Int32.toNatClampNeg p1)) (cI C r75 (Int32.toNatClampNeg p1)) C).bind (fun z => match z with | (q80, C81) => (cP C81 p0 4).bind (fun r83 => if isK r83 12 = true then if amIn ((p1 * (4 : Int32)) + p3) (aLen r83) = true then (if q80 < (-9999 : Int32) then (cP (uI C81 r83 (Int32.toNatClampNeg ((p1 * (4 : Int32)) + p3)) q80) p0 2).bind (fun r88 => if isK r88 12 = true then if amIn p1 (aLen r88) = true then (f_48 n p0 (2 : Int32) (cI (uI C81 r83 (Int32.toNatClampNeg ((p1 * (4 : Int32)) + p3)) q80) r88 (Int32.toNatClampNeg p1)) p3 (uI C81 r83 (Int32.toNatClampNeg ((p1 * (4 : Int32)) + p3)) q80)).bind (fun z => match z with | (_, C93) => lp_56_12 n p0 p1 p2 (p3 + (1 : Int32)) C93) else none else none) else (if q80 ≤ (9999 : Int32) then lp_56_12 n p0 p1 p2 (p3 + (1 : Int32)) (uI C81 r83 (Int32.toNatClampNeg ((p1 * (4 : Int32)) + p3)) q80) else (cP (uI C81 r83 (Int32.toNatClampNeg ((p1 * (4 : Int32)) + p3)) q80) p0 2).bind (fun r96 => if isK r96 12 = true then if amIn p1 (aLen r96) = true then (f_48 n p0 (2 : Int32) (cI (uI C81 r83 (Int32.toNatClampNeg ((p1 * (4 : Int32)) + p3)) q80) r96 (Int32.toNatClampNeg p1)) p3 (uI C81 r83 (Int32.toNatClampNeg ((p1 * (4 : Int32)) + p3)) q80)).bind (fun z => match z with | (_, C101) => lp_56_12 n p0 p1 p2 (p3 + (1 : Int32)) C101) else none else none))) else none else none)) else none else none else none) else none else none))) else lp_56_12 n p0 p1 p2 (p3 + (1 : Int32)) C) else none else none) else none))))) else none) else none
set_option maxRecDepth 20000 in
set_option maxHeartbeats 4000000 in
theorem lt_56_12 : ∀ (n : Nat) (p0 : Nat) (p1 : Int32) (p2 : Int32) (p3 : Int32) (C : AmC) (r : ((Unit)) × AmC), lp_56_12 n p0 p1 p2 p3 C = some r → ∀ (o : AmO) (M' : AmM), (match r with
        | (_, C') => En false 56 81 [] [] (mkM C') o M') → En false 56 12 [(0, .ref p0), (1, .int p1), (2, .int p2), (3, .int p3)] [] (mkM C) o M' := by
  intro n
  induction n with
  | zero => intro p0 p1 p2 p3 C r h; cases h
  | succ n ih =>
    intro p0 p1 p2 p3 C r h o M' hk
    unfold lp_56_12 at h
    refine en_iload rfl rfl ?_
    refine en_aload rfl rfl ?_
    obtain ⟨g7, h⟩ := gd h
    obtain ⟨r8, e9, h⟩ := gb h
    refine ec_getP (ci := 3) (j := 6) ⟨rfl, rfl, rfl⟩ g7 e9 rfl ?_
    obtain ⟨g10, h⟩ := gd h
    refine ec_getI (ci := 6) (j := 0) ⟨rfl, rfl, rfl⟩ g10 rfl ?_
    rcases gi h with ⟨c11, h⟩ | ⟨c11, h⟩
    · refine en_icmp_ge_t c11 rfl ?_
      cases h
      exact en_sub [] rfl rfl hk
    · refine en_icmp_ge_f c11 rfl ?_
      refine en_iload rfl rfl ?_
      refine ec_iconst cst_4 rfl ?_
      rcases gi h with ⟨c12, h⟩ | ⟨c12, h⟩
      · refine en_icmp_ge_t c12 rfl ?_
        cases h
        exact en_sub [] rfl rfl hk
      · refine en_icmp_ge_f c12 rfl ?_
        refine en_aload rfl rfl ?_
        refine ec_getI (ci := 3) (j := 11) ⟨rfl, rfl, rfl⟩ g7 rfl ?_
        rcases gi h with ⟨c13, h⟩ | ⟨c13, h⟩
        · refine en_if_ne_t c13 rfl ?_
          cases h
          exact en_sub [] rfl rfl hk
        · refine en_if_ne_f c13 rfl ?_
          refine en_iload rfl rfl ?_
          rcases gi h with ⟨c14, h⟩ | ⟨c14, h⟩
          · refine en_if_eq_t c14 rfl ?_
            refine en_aload rfl rfl ?_
            obtain ⟨r15, e16, h⟩ := gb h
            refine ec_getP (ci := 3) (j := 7) ⟨rfl, rfl, rfl⟩ g7 e16 rfl ?_
            obtain ⟨g17, h⟩ := gd h
            obtain ⟨r18, e19, h⟩ := gb h
            refine ec_getP (ci := 8) (j := 5) ⟨rfl, rfl, rfl⟩ g17 e19 rfl ?_
            refine en_iload rfl rfl ?_
            obtain ⟨g20, h⟩ := gd h
            obtain ⟨g21, h⟩ := gd h
            refine ec_iaload g20 g21 rfl ?_
            refine en_istore (l' := [(4, .int (cI C r18 (Int32.toNatClampNeg p3))), (0, .ref p0), (1, .int p1), (2, .int p2), (3, .int p3)]) rfl rfl ?_
            refine en_iload rfl rfl ?_
            refine ec_iconst cst_m1 rfl ?_
            rcases gi h with ⟨c22, h⟩ | ⟨c22, h⟩
            · refine en_icmp_ne_t c22 rfl ?_
              refine en_aload rfl rfl ?_
              obtain ⟨r23, e24, h⟩ := gb h
              refine ec_getP (ci := 3) (j := 6) ⟨rfl, rfl, rfl⟩ g7 e24 rfl ?_
              refine en_iload rfl rfl ?_
              refine en_aload rfl rfl ?_
              obtain ⟨r25, e26, h⟩ := gb h
              refine ec_getP (ci := 3) (j := 0) ⟨rfl, rfl, rfl⟩ g7 e26 rfl ?_
              refine en_aload rfl rfl ?_
              obtain ⟨r27, e28, h⟩ := gb h
              refine ec_getP (ci := 3) (j := 2) ⟨rfl, rfl, rfl⟩ g7 e28 rfl ?_
              refine en_iload rfl rfl ?_
              obtain ⟨g29, h⟩ := gd h
              obtain ⟨g30, h⟩ := gd h
              refine ec_iaload g29 g30 rfl ?_
              refine en_aload rfl rfl ?_
              obtain ⟨r31, e32, h⟩ := gb h
              refine ec_getP (ci := 3) (j := 3) ⟨rfl, rfl, rfl⟩ g7 e32 rfl ?_
              refine en_iload rfl rfl ?_
              obtain ⟨g33, h⟩ := gd h
              obtain ⟨g34, h⟩ := gd h
              refine ec_iaload g33 g34 rfl ?_
              obtain ⟨g35, h⟩ := gd h
              obtain ⟨⟨q36, C37⟩, e38, h⟩ := gb h
              dsimp only at h
              refine ec_callV1 (k' := 102) (n := 5) (rc := 6) (a := r23) (as := [.int (cI C r18 (Int32.toNatClampNeg p3)), .ref r25, .int (cI C r27 (Int32.toNatClampNeg p1)), .int (cI C r31 (Int32.toNatClampNeg p1))]) ⟨rfl, rfl⟩ rfl rfl (Nat.le_of_ble_eq_true rfl) (Nat.le_of_ble_eq_true rfl) (Nat.le_of_ble_eq_true rfl) g35 rfl (t_102 e38) ?_
              refine en_istore (l' := [(5, .int q36), (4, .int (cI C r18 (Int32.toNatClampNeg p3))), (0, .ref p0), (1, .int p1), (2, .int p2), (3, .int p3)]) rfl rfl ?_
              refine en_aload rfl rfl ?_
              obtain ⟨r39, e40, h⟩ := gb h
              refine ec_getP (ci := 3) (j := 4) ⟨rfl, rfl, rfl⟩ g7 e40 rfl ?_
              refine en_iload rfl rfl ?_
              refine ec_iconst cst_4 rfl ?_
              refine en_imul rfl ?_
              refine en_iload rfl rfl ?_
              refine en_iadd rfl ?_
              refine en_iload rfl rfl ?_
              obtain ⟨g41, h⟩ := gd h
              obtain ⟨g42, h⟩ := gd h
              refine ec_iastore g41 g42 rfl ?_
              refine en_iload rfl rfl ?_
              refine ec_iconst cst_m9999 rfl ?_
              rcases gi h with ⟨c43, h⟩ | ⟨c43, h⟩
              · refine en_icmp_lt_t c43 rfl ?_
                refine en_aload rfl rfl ?_
                refine ec_iconst cst_2 rfl ?_
                refine en_aload rfl rfl ?_
                obtain ⟨r44, e45, h⟩ := gb h
                refine ec_getP (ci := 3) (j := 2) ⟨rfl, rfl, rfl⟩ g7 e45 rfl ?_
                refine en_iload rfl rfl ?_
                obtain ⟨g46, h⟩ := gd h
                obtain ⟨g47, h⟩ := gd h
                refine ec_iaload g46 g47 rfl ?_
                refine en_iload rfl rfl ?_
                obtain ⟨⟨q48, C49⟩, e50, h⟩ := gb h
                dsimp only at h
                refine ec_callV0 (k' := 48) (n := 4) (rc := 3) (a := p0) (as := [.int (2 : Int32), .int (cI (uI C37 r39 (Int32.toNatClampNeg ((p1 * (4 : Int32)) + p3)) q36) r44 (Int32.toNatClampNeg p1)), .int p3]) ⟨rfl, rfl⟩ rfl rfl (Nat.le_of_ble_eq_true rfl) (Nat.le_of_ble_eq_true rfl) (Nat.le_of_ble_eq_true rfl) g7 rfl (t_48 e50) ?_
                refine ec_iinc (l' := [(3, .int (p3 + (1 : Int32))), (5, .int q36), (4, .int (cI C r18 (Int32.toNatClampNeg p3))), (0, .ref p0), (1, .int p1), (2, .int p2)]) rfl cst_1 rfl rfl ?_
                refine en_goto rfl ?_
                refine en_sub [3, 4, 5, 0] rfl rfl ?_
                exact ih _ _ _ _ _ _ h o M' hk
              · refine en_icmp_lt_f c43 rfl ?_
                refine en_iload rfl rfl ?_
                refine ec_iconst cst_9999 rfl ?_
                rcases gi h with ⟨c51, h⟩ | ⟨c51, h⟩
                · refine en_icmp_le_t c51 rfl ?_
                  refine ec_iinc (l' := [(3, .int (p3 + (1 : Int32))), (5, .int q36), (4, .int (cI C r18 (Int32.toNatClampNeg p3))), (0, .ref p0), (1, .int p1), (2, .int p2)]) rfl cst_1 rfl rfl ?_
                  refine en_goto rfl ?_
                  refine en_sub [3, 4, 5, 0] rfl rfl ?_
                  exact ih _ _ _ _ _ _ h o M' hk
                · refine en_icmp_le_f c51 rfl ?_
                  refine en_aload rfl rfl ?_
                  refine ec_iconst cst_2 rfl ?_
                  refine en_aload rfl rfl ?_
                  obtain ⟨r52, e53, h⟩ := gb h
                  refine ec_getP (ci := 3) (j := 2) ⟨rfl, rfl, rfl⟩ g7 e53 rfl ?_
                  refine en_iload rfl rfl ?_
                  obtain ⟨g54, h⟩ := gd h
                  obtain ⟨g55, h⟩ := gd h
                  refine ec_iaload g54 g55 rfl ?_
                  refine en_iload rfl rfl ?_
                  obtain ⟨⟨q56, C57⟩, e58, h⟩ := gb h
                  dsimp only at h
                  refine ec_callV0 (k' := 48) (n := 4) (rc := 3) (a := p0) (as := [.int (2 : Int32), .int (cI (uI C37 r39 (Int32.toNatClampNeg ((p1 * (4 : Int32)) + p3)) q36) r52 (Int32.toNatClampNeg p1)), .int p3]) ⟨rfl, rfl⟩ rfl rfl (Nat.le_of_ble_eq_true rfl) (Nat.le_of_ble_eq_true rfl) (Nat.le_of_ble_eq_true rfl) g7 rfl (t_48 e58) ?_
                  refine ec_iinc (l' := [(3, .int (p3 + (1 : Int32))), (5, .int q36), (4, .int (cI C r18 (Int32.toNatClampNeg p3))), (0, .ref p0), (1, .int p1), (2, .int p2)]) rfl cst_1 rfl rfl ?_
                  refine en_goto rfl ?_
                  refine en_sub [3, 4, 5, 0] rfl rfl ?_
                  exact ih _ _ _ _ _ _ h o M' hk
            · refine en_icmp_ne_f c22 rfl ?_
              refine en_goto rfl ?_
              refine ec_iinc (l' := [(3, .int (p3 + (1 : Int32))), (4, .int (cI C r18 (Int32.toNatClampNeg p3))), (0, .ref p0), (1, .int p1), (2, .int p2)]) rfl cst_1 rfl rfl ?_
              refine en_goto rfl ?_
              refine en_sub [2, 3, 4, 0] rfl rfl ?_
              exact ih _ _ _ _ _ _ h o M' hk
          · refine en_if_eq_f c14 rfl ?_
            refine en_aload rfl rfl ?_
            obtain ⟨r59, e60, h⟩ := gb h
            refine ec_getP (ci := 3) (j := 7) ⟨rfl, rfl, rfl⟩ g7 e60 rfl ?_
            obtain ⟨g61, h⟩ := gd h
            obtain ⟨r62, e63, h⟩ := gb h
            refine ec_getP (ci := 8) (j := 6) ⟨rfl, rfl, rfl⟩ g61 e63 rfl ?_
            refine en_iload rfl rfl ?_
            obtain ⟨g64, h⟩ := gd h
            obtain ⟨g65, h⟩ := gd h
            refine ec_iaload g64 g65 rfl ?_
            refine en_goto rfl ?_
            refine en_istore (l' := [(4, .int (cI C r62 (Int32.toNatClampNeg p3))), (0, .ref p0), (1, .int p1), (2, .int p2), (3, .int p3)]) rfl rfl ?_
            refine en_iload rfl rfl ?_
            refine ec_iconst cst_m1 rfl ?_
            rcases gi h with ⟨c66, h⟩ | ⟨c66, h⟩
            · refine en_icmp_ne_t c66 rfl ?_
              refine en_aload rfl rfl ?_
              obtain ⟨r67, e68, h⟩ := gb h
              refine ec_getP (ci := 3) (j := 6) ⟨rfl, rfl, rfl⟩ g7 e68 rfl ?_
              refine en_iload rfl rfl ?_
              refine en_aload rfl rfl ?_
              obtain ⟨r69, e70, h⟩ := gb h
              refine ec_getP (ci := 3) (j := 0) ⟨rfl, rfl, rfl⟩ g7 e70 rfl ?_
              refine en_aload rfl rfl ?_
              obtain ⟨r71, e72, h⟩ := gb h
              refine ec_getP (ci := 3) (j := 2) ⟨rfl, rfl, rfl⟩ g7 e72 rfl ?_
              refine en_iload rfl rfl ?_
              obtain ⟨g73, h⟩ := gd h
              obtain ⟨g74, h⟩ := gd h
              refine ec_iaload g73 g74 rfl ?_
              refine en_aload rfl rfl ?_
              obtain ⟨r75, e76, h⟩ := gb h
              refine ec_getP (ci := 3) (j := 3) ⟨rfl, rfl, rfl⟩ g7 e76 rfl ?_
              refine en_iload rfl rfl ?_
              obtain ⟨g77, h⟩ := gd h
              obtain ⟨g78, h⟩ := gd h
              refine ec_iaload g77 g78 rfl ?_
              obtain ⟨g79, h⟩ := gd h
              obtain ⟨⟨q80, C81⟩, e82, h⟩ := gb h
              dsimp only at h
              refine ec_callV1 (k' := 102) (n := 5) (rc := 6) (a := r67) (as := [.int (cI C r62 (Int32.toNatClampNeg p3)), .ref r69, .int (cI C r71 (Int32.toNatClampNeg p1)), .int (cI C r75 (Int32.toNatClampNeg p1))]) ⟨rfl, rfl⟩ rfl rfl (Nat.le_of_ble_eq_true rfl) (Nat.le_of_ble_eq_true rfl) (Nat.le_of_ble_eq_true rfl) g79 rfl (t_102 e82) ?_
              refine en_istore (l' := [(5, .int q80), (4, .int (cI C r62 (Int32.toNatClampNeg p3))), (0, .ref p0), (1, .int p1), (2, .int p2), (3, .int p3)]) rfl rfl ?_
              refine en_aload rfl rfl ?_
              obtain ⟨r83, e84, h⟩ := gb h
              refine ec_getP (ci := 3) (j := 4) ⟨rfl, rfl, rfl⟩ g7 e84 rfl ?_
              refine en_iload rfl rfl ?_
              refine ec_iconst cst_4 rfl ?_
              refine en_imul rfl ?_
              refine en_iload rfl rfl ?_
              refine en_iadd rfl ?_
              refine en_iload rfl rfl ?_
              obtain ⟨g85, h⟩ := gd h
              obtain ⟨g86, h⟩ := gd h
              refine ec_iastore g85 g86 rfl ?_
              refine en_iload rfl rfl ?_
              refine ec_iconst cst_m9999 rfl ?_
              rcases gi h with ⟨c87, h⟩ | ⟨c87, h⟩
              · refine en_icmp_lt_t c87 rfl ?_
                refine en_aload rfl rfl ?_
                refine ec_iconst cst_2 rfl ?_
                refine en_aload rfl rfl ?_
                obtain ⟨r88, e89, h⟩ := gb h
                refine ec_getP (ci := 3) (j := 2) ⟨rfl, rfl, rfl⟩ g7 e89 rfl ?_
                refine en_iload rfl rfl ?_
                obtain ⟨g90, h⟩ := gd h
                obtain ⟨g91, h⟩ := gd h
                refine ec_iaload g90 g91 rfl ?_
                refine en_iload rfl rfl ?_
                obtain ⟨⟨q92, C93⟩, e94, h⟩ := gb h
                dsimp only at h
                refine ec_callV0 (k' := 48) (n := 4) (rc := 3) (a := p0) (as := [.int (2 : Int32), .int (cI (uI C81 r83 (Int32.toNatClampNeg ((p1 * (4 : Int32)) + p3)) q80) r88 (Int32.toNatClampNeg p1)), .int p3]) ⟨rfl, rfl⟩ rfl rfl (Nat.le_of_ble_eq_true rfl) (Nat.le_of_ble_eq_true rfl) (Nat.le_of_ble_eq_true rfl) g7 rfl (t_48 e94) ?_
                refine ec_iinc (l' := [(3, .int (p3 + (1 : Int32))), (5, .int q80), (4, .int (cI C r62 (Int32.toNatClampNeg p3))), (0, .ref p0), (1, .int p1), (2, .int p2)]) rfl cst_1 rfl rfl ?_
                refine en_goto rfl ?_
                refine en_sub [3, 4, 5, 0] rfl rfl ?_
                exact ih _ _ _ _ _ _ h o M' hk
              · refine en_icmp_lt_f c87 rfl ?_
                refine en_iload rfl rfl ?_
                refine ec_iconst cst_9999 rfl ?_
                rcases gi h with ⟨c95, h⟩ | ⟨c95, h⟩
                · refine en_icmp_le_t c95 rfl ?_
                  refine ec_iinc (l' := [(3, .int (p3 + (1 : Int32))), (5, .int q80), (4, .int (cI C r62 (Int32.toNatClampNeg p3))), (0, .ref p0), (1, .int p1), (2, .int p2)]) rfl cst_1 rfl rfl ?_
                  refine en_goto rfl ?_
                  refine en_sub [3, 4, 5, 0] rfl rfl ?_
                  exact ih _ _ _ _ _ _ h o M' hk
                · refine en_icmp_le_f c95 rfl ?_
                  refine en_aload rfl rfl ?_
                  refine ec_iconst cst_2 rfl ?_
                  refine en_aload rfl rfl ?_
                  obtain ⟨r96, e97, h⟩ := gb h
                  refine ec_getP (ci := 3) (j := 2) ⟨rfl, rfl, rfl⟩ g7 e97 rfl ?_
                  refine en_iload rfl rfl ?_
                  obtain ⟨g98, h⟩ := gd h
                  obtain ⟨g99, h⟩ := gd h
                  refine ec_iaload g98 g99 rfl ?_
                  refine en_iload rfl rfl ?_
                  obtain ⟨⟨q100, C101⟩, e102, h⟩ := gb h
                  dsimp only at h
                  refine ec_callV0 (k' := 48) (n := 4) (rc := 3) (a := p0) (as := [.int (2 : Int32), .int (cI (uI C81 r83 (Int32.toNatClampNeg ((p1 * (4 : Int32)) + p3)) q80) r96 (Int32.toNatClampNeg p1)), .int p3]) ⟨rfl, rfl⟩ rfl rfl (Nat.le_of_ble_eq_true rfl) (Nat.le_of_ble_eq_true rfl) (Nat.le_of_ble_eq_true rfl) g7 rfl (t_48 e102) ?_
                  refine ec_iinc (l' := [(3, .int (p3 + (1 : Int32))), (5, .int q80), (4, .int (cI C r62 (Int32.toNatClampNeg p3))), (0, .ref p0), (1, .int p1), (2, .int p2)]) rfl cst_1 rfl rfl ?_
                  refine en_goto rfl ?_
                  refine en_sub [3, 4, 5, 0] rfl rfl ?_
                  exact ih _ _ _ _ _ _ h o M' hk
            · refine en_icmp_ne_f c66 rfl ?_
              refine en_goto rfl ?_
              refine ec_iinc (l' := [(3, .int (p3 + (1 : Int32))), (4, .int (cI C r62 (Int32.toNatClampNeg p3))), (0, .ref p0), (1, .int p1), (2, .int p2)]) rfl cst_1 rfl rfl ?_
              refine en_goto rfl ?_
              refine en_sub [2, 3, 4, 0] rfl rfl ?_
              exact ih _ _ _ _ _ _ h o M' hk
/-- BulkWriter$Pass.make(I)V -/
def f_56 (n : Nat) (a0 : Nat) (a1 : Int32) (C : AmC) : Option (Unit × AmC) := (if a1 < 0 then some ((), C) else (if a1 < (40 : Int32) then if isK a0 3 = true then (f_55 n a0 a1 C).bind (fun z => match z with | (q4, C5) => (lp_56_12 n a0 a1 q4 (0 : Int32) C5).bind (fun q => match q with | (_, C105) => some ((), C105))) else none else some ((), C)))
set_option maxRecDepth 20000 in
set_option maxHeartbeats 4000000 in
theorem t_56 {n : Nat} {a0 : Nat} {a1 : Int32} {C : AmC} {r : Unit} {C' : AmC} (h : f_56 n a0 a1 C = some (r, C')) : En false 56 0 [(0, .ref a0), (1, .int a1)] [] (mkM C) (.inl none) (mkM C') := by
  unfold f_56 at h
  refine en_iload rfl rfl ?_
  rcases gi h with ⟨c1, h⟩ | ⟨c1, h⟩
  · refine en_if_lt_t c1 rfl ?_
    cases h
    exact en_vret rfl
  · refine en_if_lt_f c1 rfl ?_
    refine en_iload rfl rfl ?_
    refine ec_iconst cst_40 rfl ?_
    rcases gi h with ⟨c2, h⟩ | ⟨c2, h⟩
    · refine en_icmp_lt_t c2 rfl ?_
      refine en_aload rfl rfl ?_
      refine en_iload rfl rfl ?_
      obtain ⟨g3, h⟩ := gd h
      obtain ⟨⟨q4, C5⟩, e6, h⟩ := gb h
      dsimp only at h
      refine ec_callV1 (k' := 55) (n := 2) (rc := 3) (a := a0) (as := [.int a1]) ⟨rfl, rfl⟩ rfl rfl (Nat.le_of_ble_eq_true rfl) (Nat.le_of_ble_eq_true rfl) (Nat.le_of_ble_eq_true rfl) g3 rfl (t_55 e6) ?_
      refine en_istore (l' := [(2, .int q4), (0, .ref a0), (1, .int a1)]) rfl rfl ?_
      refine ec_iconst cst_0 rfl ?_
      refine en_istore (l' := [(3, .int (0 : Int32)), (2, .int q4), (0, .ref a0), (1, .int a1)]) rfl rfl ?_
      obtain ⟨⟨q103, C105⟩, e104, h⟩ := gb h
      refine en_sub [2, 3, 1, 0] rfl rfl (lt_56_12 n _ _ _ _ _ _ e104 _ _ ?_)
      dsimp only at h ⊢
      cases h
      exact en_vret rfl
    · refine en_icmp_lt_f c2 rfl ?_
      cases h
      exact en_vret rfl
/-- BulkWriter$Rows.drop(I)V -/
def f_79 (n : Nat) (a0 : Nat) (a1 : Int32) (C : AmC) : Option (Unit × AmC) := (if a1 < 0 then some ((), C) else (if (30 : Int32) ≤ a1 then some ((), C) else if isK a0 5 = true then some ((), uI C a0 1 ((cI C a0 1) &&& (((1 : Int32) <<< (a1 &&& 31)) ^^^ (-1 : Int32)))) else none))
set_option maxRecDepth 20000 in
set_option maxHeartbeats 4000000 in
theorem t_79 {n : Nat} {a0 : Nat} {a1 : Int32} {C : AmC} {r : Unit} {C' : AmC} (h : f_79 n a0 a1 C = some (r, C')) : En false 79 0 [(0, .ref a0), (1, .int a1)] [] (mkM C) (.inl none) (mkM C') := by
  unfold f_79 at h
  refine en_iload rfl rfl ?_
  rcases gi h with ⟨c1, h⟩ | ⟨c1, h⟩
  · refine en_if_lt_t c1 rfl ?_
    cases h
    exact en_vret rfl
  · refine en_if_lt_f c1 rfl ?_
    refine en_iload rfl rfl ?_
    refine ec_iconst cst_30 rfl ?_
    rcases gi h with ⟨c2, h⟩ | ⟨c2, h⟩
    · refine en_icmp_ge_t c2 rfl ?_
      cases h
      exact en_vret rfl
    · refine en_icmp_ge_f c2 rfl ?_
      refine en_aload rfl rfl ?_
      refine en_dup rfl rfl ?_
      obtain ⟨g3, h⟩ := gd h
      refine ec_getI (ci := 5) (j := 1) ⟨rfl, rfl, rfl⟩ g3 rfl ?_
      refine ec_iconst cst_1 rfl ?_
      refine en_iload rfl rfl ?_
      refine en_ishl rfl ?_
      refine ec_iconst cst_m1 rfl ?_
      refine en_ixor rfl ?_
      refine en_iand rfl ?_
      refine ec_putI (ci := 5) (j := 1) ⟨rfl, rfl, rfl⟩ g3 rfl ?_
      cases h
      exact en_vret rfl
def lp_58_40 : Nat → Nat → Nat → Int32 → Int32 → Int32 → Int32 → AmC → Option (((Nat × Int32)) × AmC)
  | 0, _, _, _, _, _, _, _ => none
  | n + 1, p0, p1, p2, p3, p4, p5, C => if isK p0 3 = true then (cP C p0 6).bind (fun r15 => if isK r15 6 = true then (if (cI C r15 0) ≤ p5 then some ((p1, p4), C) else (if (4 : Int32) ≤ p5 then some ((p1, p4), C) else (if ¬ p3 = 0 then (cP C p0 4).bind (fun r21 => if isK r21 12 = true then if amIn ((p2 * (4 : Int32)) + p5) (aLen r21) = true then if isK p1 5 = true then (f_77 n p1 p4 p5 (cI C r21 (Int32.toNatClampNeg ((p2 * (4 : Int32)) + p5))) C).bind (fun z => match z with | (_, C27) => lp_58_40 n p0 p1 p2 p3 p4 (p5 + (1 : Int32)) C27) else none else none else none) else (cP C p0 7).bind (fun r29 => if isK r29 8 = true then (cP C r29 5).bind (fun r32 => if isK r32 12 = true then if amIn p5 (aLen r32) = true then (if (cI C r32 (Int32.toNatClampNeg p5)) = (-1 : Int32) then lp_58_40 n p0 p1 p2 p3 p4 (p5 + (1 : Int32)) C else (cP C p0 4).bind (fun r37 => if isK r37 12 = true then if amIn ((p2 * (4 : Int32)) + p5) (aLen r37) = true then if isK p1 5 = true then (f_77 n p1 p4 p5 (cI C r37 (Int32.toNatClampNeg ((p2 * (4 : Int32)) + p5))) C).bind (fun z => match z with | (_, C43) => lp_58_40 n p0 p1 p2 p3 p4 (p5 + (1 : Int32)) C43) else none else none else none)) else none else none) else none)))) else none) else none
set_option maxRecDepth 20000 in
set_option maxHeartbeats 4000000 in
theorem lt_58_40 : ∀ (n : Nat) (p0 : Nat) (p1 : Nat) (p2 : Int32) (p3 : Int32) (p4 : Int32) (p5 : Int32) (C : AmC) (r : ((Nat × Int32)) × AmC), lp_58_40 n p0 p1 p2 p3 p4 p5 C = some r → ∀ (o : AmO) (M' : AmM), (match r with
        | ((w1, w4), C') => En false 58 71 [(1, .ref w1), (4, .int w4)] [] (mkM C') o M') → En false 58 40 [(0, .ref p0), (1, .ref p1), (2, .int p2), (3, .int p3), (4, .int p4), (5, .int p5)] [] (mkM C) o M' := by
  intro n
  induction n with
  | zero => intro p0 p1 p2 p3 p4 p5 C r h; cases h
  | succ n ih =>
    intro p0 p1 p2 p3 p4 p5 C r h o M' hk
    unfold lp_58_40 at h
    refine en_iload rfl rfl ?_
    refine en_aload rfl rfl ?_
    obtain ⟨g14, h⟩ := gd h
    obtain ⟨r15, e16, h⟩ := gb h
    refine ec_getP (ci := 3) (j := 6) ⟨rfl, rfl, rfl⟩ g14 e16 rfl ?_
    obtain ⟨g17, h⟩ := gd h
    refine ec_getI (ci := 6) (j := 0) ⟨rfl, rfl, rfl⟩ g17 rfl ?_
    rcases gi h with ⟨c18, h⟩ | ⟨c18, h⟩
    · refine en_icmp_ge_t c18 rfl ?_
      cases h
      exact en_sub [1, 4] rfl rfl hk
    · refine en_icmp_ge_f c18 rfl ?_
      refine en_iload rfl rfl ?_
      refine ec_iconst cst_4 rfl ?_
      rcases gi h with ⟨c19, h⟩ | ⟨c19, h⟩
      · refine en_icmp_ge_t c19 rfl ?_
        cases h
        exact en_sub [1, 4] rfl rfl hk
      · refine en_icmp_ge_f c19 rfl ?_
        refine en_iload rfl rfl ?_
        rcases gi h with ⟨c20, h⟩ | ⟨c20, h⟩
        · refine en_if_ne_t c20 rfl ?_
          refine en_aload rfl rfl ?_
          refine en_iload rfl rfl ?_
          refine en_iload rfl rfl ?_
          refine en_aload rfl rfl ?_
          obtain ⟨r21, e22, h⟩ := gb h
          refine ec_getP (ci := 3) (j := 4) ⟨rfl, rfl, rfl⟩ g14 e22 rfl ?_
          refine en_iload rfl rfl ?_
          refine ec_iconst cst_4 rfl ?_
          refine en_imul rfl ?_
          refine en_iload rfl rfl ?_
          refine en_iadd rfl ?_
          obtain ⟨g23, h⟩ := gd h
          obtain ⟨g24, h⟩ := gd h
          refine ec_iaload g23 g24 rfl ?_
          obtain ⟨g25, h⟩ := gd h
          obtain ⟨⟨q26, C27⟩, e28, h⟩ := gb h
          dsimp only at h
          refine ec_callV0 (k' := 77) (n := 4) (rc := 5) (a := p1) (as := [.int p4, .int p5, .int (cI C r21 (Int32.toNatClampNeg ((p2 * (4 : Int32)) + p5)))]) ⟨rfl, rfl⟩ rfl rfl (Nat.le_of_ble_eq_true rfl) (Nat.le_of_ble_eq_true rfl) (Nat.le_of_ble_eq_true rfl) g25 rfl (t_77 e28) ?_
          refine ec_iinc (l' := [(5, .int (p5 + (1 : Int32))), (0, .ref p0), (1, .ref p1), (2, .int p2), (3, .int p3), (4, .int p4)]) rfl cst_1 rfl rfl ?_
          refine en_goto rfl ?_
          refine en_sub [1, 2, 3, 4, 5, 0] rfl rfl ?_
          exact ih _ _ _ _ _ _ _ _ h o M' hk
        · refine en_if_ne_f c20 rfl ?_
          refine en_aload rfl rfl ?_
          obtain ⟨r29, e30, h⟩ := gb h
          refine ec_getP (ci := 3) (j := 7) ⟨rfl, rfl, rfl⟩ g14 e30 rfl ?_
          obtain ⟨g31, h⟩ := gd h
          obtain ⟨r32, e33, h⟩ := gb h
          refine ec_getP (ci := 8) (j := 5) ⟨rfl, rfl, rfl⟩ g31 e33 rfl ?_
          refine en_iload rfl rfl ?_
          obtain ⟨g34, h⟩ := gd h
          obtain ⟨g35, h⟩ := gd h
          refine ec_iaload g34 g35 rfl ?_
          refine ec_iconst cst_m1 rfl ?_
          rcases gi h with ⟨c36, h⟩ | ⟨c36, h⟩
          · refine en_icmp_eq_t c36 rfl ?_
            refine ec_iinc (l' := [(5, .int (p5 + (1 : Int32))), (0, .ref p0), (1, .ref p1), (2, .int p2), (3, .int p3), (4, .int p4)]) rfl cst_1 rfl rfl ?_
            refine en_goto rfl ?_
            refine en_sub [1, 2, 3, 4, 5, 0] rfl rfl ?_
            exact ih _ _ _ _ _ _ _ _ h o M' hk
          · refine en_icmp_eq_f c36 rfl ?_
            refine en_aload rfl rfl ?_
            refine en_iload rfl rfl ?_
            refine en_iload rfl rfl ?_
            refine en_aload rfl rfl ?_
            obtain ⟨r37, e38, h⟩ := gb h
            refine ec_getP (ci := 3) (j := 4) ⟨rfl, rfl, rfl⟩ g14 e38 rfl ?_
            refine en_iload rfl rfl ?_
            refine ec_iconst cst_4 rfl ?_
            refine en_imul rfl ?_
            refine en_iload rfl rfl ?_
            refine en_iadd rfl ?_
            obtain ⟨g39, h⟩ := gd h
            obtain ⟨g40, h⟩ := gd h
            refine ec_iaload g39 g40 rfl ?_
            obtain ⟨g41, h⟩ := gd h
            obtain ⟨⟨q42, C43⟩, e44, h⟩ := gb h
            dsimp only at h
            refine ec_callV0 (k' := 77) (n := 4) (rc := 5) (a := p1) (as := [.int p4, .int p5, .int (cI C r37 (Int32.toNatClampNeg ((p2 * (4 : Int32)) + p5)))]) ⟨rfl, rfl⟩ rfl rfl (Nat.le_of_ble_eq_true rfl) (Nat.le_of_ble_eq_true rfl) (Nat.le_of_ble_eq_true rfl) g41 rfl (t_77 e44) ?_
            refine ec_iinc (l' := [(5, .int (p5 + (1 : Int32))), (0, .ref p0), (1, .ref p1), (2, .int p2), (3, .int p3), (4, .int p4)]) rfl cst_1 rfl rfl ?_
            refine en_goto rfl ?_
            refine en_sub [1, 2, 3, 4, 5, 0] rfl rfl ?_
            exact ih _ _ _ _ _ _ _ _ h o M' hk
/-- BulkWriter$Pass.applyTo(LBulkWriter$Rows;I)I -/
def f_58 (n : Nat) (a0 : Nat) (a1 : Nat) (a2 : Int32) (C : AmC) : Option (Int32 × AmC) := (if a2 < 0 then some ((-1 : Int32), C) else (if a2 < (40 : Int32) then if isK a0 3 = true then (f_55 n a0 a2 C).bind (fun z => match z with | (q4, C5) => (if q4 = 0 then (cP C5 a0 2).bind (fun r8 => if isK r8 12 = true then if amIn a2 (aLen r8) = true then (if ¬ (cI C5 r8 (Int32.toNatClampNeg a2)) = (-1 : Int32) then (if ¬ q4 = 0 then (lp_58_40 n a0 a1 a2 q4 (cI C5 r8 (Int32.toNatClampNeg a2)) (0 : Int32) C5).bind (fun q => match q with | ((u48, u49), C47) => if isK u48 5 = true then (f_78 n u48 u49 C47).bind (fun z => match z with | (_, C52) => some (u49, C52)) else none) else (cP C5 a0 7).bind (fun r54 => if isK r54 8 = true then (if ¬ (cI C5 r54 2) = (1 : Int32) then (lp_58_40 n a0 a1 a2 q4 (cI C5 r8 (Int32.toNatClampNeg a2)) (0 : Int32) C5).bind (fun q => match q with | ((u61, u62), C60) => if isK u61 5 = true then (f_78 n u61 u62 C60).bind (fun z => match z with | (_, C65) => some (u62, C65)) else none) else if isK a1 5 = true then (f_79 n a1 (cI C5 r8 (Int32.toNatClampNeg a2)) C5).bind (fun z => match z with | (_, C69) => some ((cI C5 r8 (Int32.toNatClampNeg a2)), C69)) else none) else none)) else some ((-1 : Int32), C5)) else none else none) else if isK a1 5 = true then (f_80 n a1 C5).bind (fun z => match z with | (q72, C73) => (if ¬ q72 = (-1 : Int32) then (if ¬ q4 = 0 then (lp_58_40 n a0 a1 a2 q4 q72 (0 : Int32) C73).bind (fun q => match q with | ((u80, u81), C79) => if isK u80 5 = true then (f_78 n u80 u81 C79).bind (fun z => match z with | (_, C84) => some (u81, C84)) else none) else (cP C73 a0 7).bind (fun r86 => if isK r86 8 = true then (if ¬ (cI C73 r86 2) = (1 : Int32) then (lp_58_40 n a0 a1 a2 q4 q72 (0 : Int32) C73).bind (fun q => match q with | ((u93, u94), C92) => if isK u93 5 = true then (f_78 n u93 u94 C92).bind (fun z => match z with | (_, C97) => some (u94, C97)) else none) else (f_79 n a1 q72 C73).bind (fun z => match z with | (_, C100) => some (q72, C100))) else none)) else some ((-1 : Int32), C73))) else none)) else none else some ((-1 : Int32), C)))
set_option maxRecDepth 20000 in
set_option maxHeartbeats 4000000 in
theorem t_58 {n : Nat} {a0 : Nat} {a1 : Nat} {a2 : Int32} {C : AmC} {r : Int32} {C' : AmC} (h : f_58 n a0 a1 a2 C = some (r, C')) : En false 58 0 [(0, .ref a0), (1, .ref a1), (2, .int a2)] [] (mkM C) (.inl (some (.int r))) (mkM C') := by
  unfold f_58 at h
  refine en_iload rfl rfl ?_
  rcases gi h with ⟨c1, h⟩ | ⟨c1, h⟩
  · refine en_if_lt_t c1 rfl ?_
    refine ec_iconst cst_m1 rfl ?_
    cases h
    exact en_iret rfl
  · refine en_if_lt_f c1 rfl ?_
    refine en_iload rfl rfl ?_
    refine ec_iconst cst_40 rfl ?_
    rcases gi h with ⟨c2, h⟩ | ⟨c2, h⟩
    · refine en_icmp_lt_t c2 rfl ?_
      refine en_aload rfl rfl ?_
      refine en_iload rfl rfl ?_
      obtain ⟨g3, h⟩ := gd h
      obtain ⟨⟨q4, C5⟩, e6, h⟩ := gb h
      dsimp only at h
      refine ec_callV1 (k' := 55) (n := 2) (rc := 3) (a := a0) (as := [.int a2]) ⟨rfl, rfl⟩ rfl rfl (Nat.le_of_ble_eq_true rfl) (Nat.le_of_ble_eq_true rfl) (Nat.le_of_ble_eq_true rfl) g3 rfl (t_55 e6) ?_
      refine en_istore (l' := [(3, .int q4), (0, .ref a0), (1, .ref a1), (2, .int a2)]) rfl rfl ?_
      refine en_iload rfl rfl ?_
      rcases gi h with ⟨c7, h⟩ | ⟨c7, h⟩
      · refine en_if_eq_t c7 rfl ?_
        refine en_aload rfl rfl ?_
        obtain ⟨r8, e9, h⟩ := gb h
        refine ec_getP (ci := 3) (j := 2) ⟨rfl, rfl, rfl⟩ g3 e9 rfl ?_
        refine en_iload rfl rfl ?_
        obtain ⟨g10, h⟩ := gd h
        obtain ⟨g11, h⟩ := gd h
        refine ec_iaload g10 g11 rfl ?_
        refine en_istore (l' := [(4, .int (cI C5 r8 (Int32.toNatClampNeg a2))), (3, .int q4), (0, .ref a0), (1, .ref a1), (2, .int a2)]) rfl rfl ?_
        refine en_iload rfl rfl ?_
        refine ec_iconst cst_m1 rfl ?_
        rcases gi h with ⟨c12, h⟩ | ⟨c12, h⟩
        · refine en_icmp_ne_t c12 rfl ?_
          refine en_iload rfl rfl ?_
          rcases gi h with ⟨c13, h⟩ | ⟨c13, h⟩
          · refine en_if_ne_t c13 rfl ?_
            refine ec_iconst cst_0 rfl ?_
            refine en_istore (l' := [(5, .int (0 : Int32)), (4, .int (cI C5 r8 (Int32.toNatClampNeg a2))), (3, .int q4), (0, .ref a0), (1, .ref a1), (2, .int a2)]) rfl rfl ?_
            obtain ⟨⟨q45, C47⟩, e46, h⟩ := gb h
            refine en_sub [3, 4, 5, 2, 1, 0] rfl rfl (lt_58_40 n _ _ _ _ _ _ _ _ e46 _ _ ?_)
            obtain ⟨u48, u49⟩ := q45
            dsimp only at h ⊢
            refine en_aload rfl rfl ?_
            refine en_iload rfl rfl ?_
            obtain ⟨g50, h⟩ := gd h
            obtain ⟨⟨q51, C52⟩, e53, h⟩ := gb h
            dsimp only at h
            refine ec_callV0 (k' := 78) (n := 2) (rc := 5) (a := u48) (as := [.int u49]) ⟨rfl, rfl⟩ rfl rfl (Nat.le_of_ble_eq_true rfl) (Nat.le_of_ble_eq_true rfl) (Nat.le_of_ble_eq_true rfl) g50 rfl (t_78 e53) ?_
            refine en_iload rfl rfl ?_
            cases h
            exact en_iret rfl
          · refine en_if_ne_f c13 rfl ?_
            refine en_aload rfl rfl ?_
            obtain ⟨r54, e55, h⟩ := gb h
            refine ec_getP (ci := 3) (j := 7) ⟨rfl, rfl, rfl⟩ g3 e55 rfl ?_
            obtain ⟨g56, h⟩ := gd h
            refine ec_getI (ci := 8) (j := 2) ⟨rfl, rfl, rfl⟩ g56 rfl ?_
            refine ec_iconst cst_1 rfl ?_
            rcases gi h with ⟨c57, h⟩ | ⟨c57, h⟩
            · refine en_icmp_ne_t c57 rfl ?_
              refine ec_iconst cst_0 rfl ?_
              refine en_istore (l' := [(5, .int (0 : Int32)), (4, .int (cI C5 r8 (Int32.toNatClampNeg a2))), (3, .int q4), (0, .ref a0), (1, .ref a1), (2, .int a2)]) rfl rfl ?_
              obtain ⟨⟨q58, C60⟩, e59, h⟩ := gb h
              refine en_sub [3, 4, 5, 2, 1, 0] rfl rfl (lt_58_40 n _ _ _ _ _ _ _ _ e59 _ _ ?_)
              obtain ⟨u61, u62⟩ := q58
              dsimp only at h ⊢
              refine en_aload rfl rfl ?_
              refine en_iload rfl rfl ?_
              obtain ⟨g63, h⟩ := gd h
              obtain ⟨⟨q64, C65⟩, e66, h⟩ := gb h
              dsimp only at h
              refine ec_callV0 (k' := 78) (n := 2) (rc := 5) (a := u61) (as := [.int u62]) ⟨rfl, rfl⟩ rfl rfl (Nat.le_of_ble_eq_true rfl) (Nat.le_of_ble_eq_true rfl) (Nat.le_of_ble_eq_true rfl) g63 rfl (t_78 e66) ?_
              refine en_iload rfl rfl ?_
              cases h
              exact en_iret rfl
            · refine en_icmp_ne_f c57 rfl ?_
              refine en_aload rfl rfl ?_
              refine en_iload rfl rfl ?_
              obtain ⟨g67, h⟩ := gd h
              obtain ⟨⟨q68, C69⟩, e70, h⟩ := gb h
              dsimp only at h
              refine ec_callV0 (k' := 79) (n := 2) (rc := 5) (a := a1) (as := [.int (cI C5 r8 (Int32.toNatClampNeg a2))]) ⟨rfl, rfl⟩ rfl rfl (Nat.le_of_ble_eq_true rfl) (Nat.le_of_ble_eq_true rfl) (Nat.le_of_ble_eq_true rfl) g67 rfl (t_79 e70) ?_
              refine en_iload rfl rfl ?_
              cases h
              exact en_iret rfl
        · refine en_icmp_ne_f c12 rfl ?_
          refine ec_iconst cst_m1 rfl ?_
          cases h
          exact en_iret rfl
      · refine en_if_eq_f c7 rfl ?_
        refine en_aload rfl rfl ?_
        obtain ⟨g71, h⟩ := gd h
        obtain ⟨⟨q72, C73⟩, e74, h⟩ := gb h
        dsimp only at h
        refine ec_callV1 (k' := 80) (n := 1) (rc := 5) (a := a1) (as := []) ⟨rfl, rfl⟩ rfl rfl (Nat.le_of_ble_eq_true rfl) (Nat.le_of_ble_eq_true rfl) (Nat.le_of_ble_eq_true rfl) g71 rfl (t_80 e74) ?_
        refine en_goto rfl ?_
        refine en_istore (l' := [(4, .int q72), (3, .int q4), (0, .ref a0), (1, .ref a1), (2, .int a2)]) rfl rfl ?_
        refine en_iload rfl rfl ?_
        refine ec_iconst cst_m1 rfl ?_
        rcases gi h with ⟨c75, h⟩ | ⟨c75, h⟩
        · refine en_icmp_ne_t c75 rfl ?_
          refine en_iload rfl rfl ?_
          rcases gi h with ⟨c76, h⟩ | ⟨c76, h⟩
          · refine en_if_ne_t c76 rfl ?_
            refine ec_iconst cst_0 rfl ?_
            refine en_istore (l' := [(5, .int (0 : Int32)), (4, .int q72), (3, .int q4), (0, .ref a0), (1, .ref a1), (2, .int a2)]) rfl rfl ?_
            obtain ⟨⟨q77, C79⟩, e78, h⟩ := gb h
            refine en_sub [3, 4, 5, 2, 1, 0] rfl rfl (lt_58_40 n _ _ _ _ _ _ _ _ e78 _ _ ?_)
            obtain ⟨u80, u81⟩ := q77
            dsimp only at h ⊢
            refine en_aload rfl rfl ?_
            refine en_iload rfl rfl ?_
            obtain ⟨g82, h⟩ := gd h
            obtain ⟨⟨q83, C84⟩, e85, h⟩ := gb h
            dsimp only at h
            refine ec_callV0 (k' := 78) (n := 2) (rc := 5) (a := u80) (as := [.int u81]) ⟨rfl, rfl⟩ rfl rfl (Nat.le_of_ble_eq_true rfl) (Nat.le_of_ble_eq_true rfl) (Nat.le_of_ble_eq_true rfl) g82 rfl (t_78 e85) ?_
            refine en_iload rfl rfl ?_
            cases h
            exact en_iret rfl
          · refine en_if_ne_f c76 rfl ?_
            refine en_aload rfl rfl ?_
            obtain ⟨r86, e87, h⟩ := gb h
            refine ec_getP (ci := 3) (j := 7) ⟨rfl, rfl, rfl⟩ g3 e87 rfl ?_
            obtain ⟨g88, h⟩ := gd h
            refine ec_getI (ci := 8) (j := 2) ⟨rfl, rfl, rfl⟩ g88 rfl ?_
            refine ec_iconst cst_1 rfl ?_
            rcases gi h with ⟨c89, h⟩ | ⟨c89, h⟩
            · refine en_icmp_ne_t c89 rfl ?_
              refine ec_iconst cst_0 rfl ?_
              refine en_istore (l' := [(5, .int (0 : Int32)), (4, .int q72), (3, .int q4), (0, .ref a0), (1, .ref a1), (2, .int a2)]) rfl rfl ?_
              obtain ⟨⟨q90, C92⟩, e91, h⟩ := gb h
              refine en_sub [3, 4, 5, 2, 1, 0] rfl rfl (lt_58_40 n _ _ _ _ _ _ _ _ e91 _ _ ?_)
              obtain ⟨u93, u94⟩ := q90
              dsimp only at h ⊢
              refine en_aload rfl rfl ?_
              refine en_iload rfl rfl ?_
              obtain ⟨g95, h⟩ := gd h
              obtain ⟨⟨q96, C97⟩, e98, h⟩ := gb h
              dsimp only at h
              refine ec_callV0 (k' := 78) (n := 2) (rc := 5) (a := u93) (as := [.int u94]) ⟨rfl, rfl⟩ rfl rfl (Nat.le_of_ble_eq_true rfl) (Nat.le_of_ble_eq_true rfl) (Nat.le_of_ble_eq_true rfl) g95 rfl (t_78 e98) ?_
              refine en_iload rfl rfl ?_
              cases h
              exact en_iret rfl
            · refine en_icmp_ne_f c89 rfl ?_
              refine en_aload rfl rfl ?_
              refine en_iload rfl rfl ?_
              obtain ⟨⟨q99, C100⟩, e101, h⟩ := gb h
              dsimp only at h
              refine ec_callV0 (k' := 79) (n := 2) (rc := 5) (a := a1) (as := [.int q72]) ⟨rfl, rfl⟩ rfl rfl (Nat.le_of_ble_eq_true rfl) (Nat.le_of_ble_eq_true rfl) (Nat.le_of_ble_eq_true rfl) g71 rfl (t_79 e101) ?_
              refine en_iload rfl rfl ?_
              cases h
              exact en_iret rfl
        · refine en_icmp_ne_f c75 rfl ?_
          refine ec_iconst cst_m1 rfl ?_
          cases h
          exact en_iret rfl
    · refine en_icmp_lt_f c2 rfl ?_
      refine ec_iconst cst_m1 rfl ?_
      cases h
      exact en_iret rfl
/-- BulkWriter$Pass.write(I)V -/
def f_57 (n : Nat) (a0 : Nat) (a1 : Int32) (C : AmC) : Option (Unit × AmC) := if isK a0 3 = true then (f_55 n a0 a1 C).bind (fun z => match z with | (q2, C3) => (if q2 = 0 then (if (cI C3 a0 10) < (200 : Int32) then (cP C3 a0 0).bind (fun r7 => (f_58 n a0 r7 a1 C3).bind (fun z => match z with | (q9, C10) => (if q9 < 0 then some ((), uI C10 a0 10 ((cI C10 a0 10) + (1 : Int32))) else (if (30 : Int32) ≤ q9 then some ((), uI C10 a0 10 ((cI C10 a0 10) + (1 : Int32))) else (cP (uI C10 a0 10 ((cI C10 a0 10) + (1 : Int32))) a0 5).bind (fun r14 => if isK r14 12 = true then if amIn q9 (aLen r14) = true then if amIn q9 (aLen r14) = true then some ((), uI (uI C10 a0 10 ((cI C10 a0 10) + (1 : Int32))) r14 (Int32.toNatClampNeg q9) ((cI (uI C10 a0 10 ((cI C10 a0 10) + (1 : Int32))) r14 (Int32.toNatClampNeg q9)) + (1 : Int32))) else none else none else none))))) else (f_48 n a0 (4 : Int32) (-1 : Int32) (-1 : Int32) C3).bind (fun z => match z with | (_, C20) => some ((), C20))) else (cP C3 a0 0).bind (fun r22 => if isK r22 5 = true then (f_80 n r22 C3).bind (fun z => match z with | (q25, C26) => (if ¬ q25 = (-1 : Int32) then (if (cI C26 a0 10) < (200 : Int32) then (cP C26 a0 0).bind (fun r30 => (f_58 n a0 r30 a1 C26).bind (fun z => match z with | (q32, C33) => (if q32 < 0 then some ((), uI C33 a0 10 ((cI C33 a0 10) + (1 : Int32))) else (if (30 : Int32) ≤ q32 then some ((), uI C33 a0 10 ((cI C33 a0 10) + (1 : Int32))) else (cP (uI C33 a0 10 ((cI C33 a0 10) + (1 : Int32))) a0 5).bind (fun r37 => if isK r37 12 = true then if amIn q32 (aLen r37) = true then if amIn q32 (aLen r37) = true then some ((), uI (uI C33 a0 10 ((cI C33 a0 10) + (1 : Int32))) r37 (Int32.toNatClampNeg q32) ((cI (uI C33 a0 10 ((cI C33 a0 10) + (1 : Int32))) r37 (Int32.toNatClampNeg q32)) + (1 : Int32))) else none else none else none))))) else (f_48 n a0 (4 : Int32) (-1 : Int32) (-1 : Int32) C26).bind (fun z => match z with | (_, C43) => some ((), C43))) else (f_48 n a0 (3 : Int32) (-1 : Int32) (-1 : Int32) C26).bind (fun z => match z with | (_, C46) => some ((), C46)))) else none))) else none
set_option maxRecDepth 20000 in
set_option maxHeartbeats 4000000 in
theorem t_57 {n : Nat} {a0 : Nat} {a1 : Int32} {C : AmC} {r : Unit} {C' : AmC} (h : f_57 n a0 a1 C = some (r, C')) : En false 57 0 [(0, .ref a0), (1, .int a1)] [] (mkM C) (.inl none) (mkM C') := by
  unfold f_57 at h
  refine en_aload rfl rfl ?_
  refine en_iload rfl rfl ?_
  obtain ⟨g1, h⟩ := gd h
  obtain ⟨⟨q2, C3⟩, e4, h⟩ := gb h
  dsimp only at h
  refine ec_callV1 (k' := 55) (n := 2) (rc := 3) (a := a0) (as := [.int a1]) ⟨rfl, rfl⟩ rfl rfl (Nat.le_of_ble_eq_true rfl) (Nat.le_of_ble_eq_true rfl) (Nat.le_of_ble_eq_true rfl) g1 rfl (t_55 e4) ?_
  rcases gi h with ⟨c5, h⟩ | ⟨c5, h⟩
  · refine en_if_eq_t c5 rfl ?_
    refine en_aload rfl rfl ?_
    refine ec_getI (ci := 3) (j := 10) ⟨rfl, rfl, rfl⟩ g1 rfl ?_
    refine ec_iconst cst_200 rfl ?_
    rcases gi h with ⟨c6, h⟩ | ⟨c6, h⟩
    · refine en_icmp_lt_t c6 rfl ?_
      refine en_aload rfl rfl ?_
      refine en_aload rfl rfl ?_
      obtain ⟨r7, e8, h⟩ := gb h
      refine ec_getP (ci := 3) (j := 0) ⟨rfl, rfl, rfl⟩ g1 e8 rfl ?_
      refine en_iload rfl rfl ?_
      obtain ⟨⟨q9, C10⟩, e11, h⟩ := gb h
      dsimp only at h
      refine ec_callV1 (k' := 58) (n := 3) (rc := 3) (a := a0) (as := [.ref r7, .int a1]) ⟨rfl, rfl⟩ rfl rfl (Nat.le_of_ble_eq_true rfl) (Nat.le_of_ble_eq_true rfl) (Nat.le_of_ble_eq_true rfl) g1 rfl (t_58 e11) ?_
      refine en_istore (l' := [(2, .int q9), (0, .ref a0), (1, .int a1)]) rfl rfl ?_
      refine en_aload rfl rfl ?_
      refine en_dup rfl rfl ?_
      refine ec_getI (ci := 3) (j := 10) ⟨rfl, rfl, rfl⟩ g1 rfl ?_
      refine ec_iconst cst_1 rfl ?_
      refine en_iadd rfl ?_
      refine ec_putI (ci := 3) (j := 10) ⟨rfl, rfl, rfl⟩ g1 rfl ?_
      refine en_iload rfl rfl ?_
      rcases gi h with ⟨c12, h⟩ | ⟨c12, h⟩
      · refine en_if_lt_t c12 rfl ?_
        cases h
        exact en_vret rfl
      · refine en_if_lt_f c12 rfl ?_
        refine en_iload rfl rfl ?_
        refine ec_iconst cst_30 rfl ?_
        rcases gi h with ⟨c13, h⟩ | ⟨c13, h⟩
        · refine en_icmp_ge_t c13 rfl ?_
          cases h
          exact en_vret rfl
        · refine en_icmp_ge_f c13 rfl ?_
          refine en_aload rfl rfl ?_
          obtain ⟨r14, e15, h⟩ := gb h
          refine ec_getP (ci := 3) (j := 5) ⟨rfl, rfl, rfl⟩ g1 e15 rfl ?_
          refine en_iload rfl rfl ?_
          refine en_dup2 ⟨rfl, rfl⟩ rfl ?_
          obtain ⟨g16, h⟩ := gd h
          obtain ⟨g17, h⟩ := gd h
          refine ec_iaload g16 g17 rfl ?_
          refine ec_iconst cst_1 rfl ?_
          refine en_iadd rfl ?_
          obtain ⟨g18, h⟩ := gd h
          refine ec_iastore g16 g18 rfl ?_
          cases h
          exact en_vret rfl
    · refine en_icmp_lt_f c6 rfl ?_
      refine en_aload rfl rfl ?_
      refine ec_iconst cst_4 rfl ?_
      refine ec_iconst cst_m1 rfl ?_
      refine ec_iconst cst_m1 rfl ?_
      obtain ⟨⟨q19, C20⟩, e21, h⟩ := gb h
      dsimp only at h
      refine ec_callV0 (k' := 48) (n := 4) (rc := 3) (a := a0) (as := [.int (4 : Int32), .int (-1 : Int32), .int (-1 : Int32)]) ⟨rfl, rfl⟩ rfl rfl (Nat.le_of_ble_eq_true rfl) (Nat.le_of_ble_eq_true rfl) (Nat.le_of_ble_eq_true rfl) g1 rfl (t_48 e21) ?_
      cases h
      exact en_vret rfl
  · refine en_if_eq_f c5 rfl ?_
    refine en_aload rfl rfl ?_
    obtain ⟨r22, e23, h⟩ := gb h
    refine ec_getP (ci := 3) (j := 0) ⟨rfl, rfl, rfl⟩ g1 e23 rfl ?_
    obtain ⟨g24, h⟩ := gd h
    obtain ⟨⟨q25, C26⟩, e27, h⟩ := gb h
    dsimp only at h
    refine ec_callV1 (k' := 80) (n := 1) (rc := 5) (a := r22) (as := []) ⟨rfl, rfl⟩ rfl rfl (Nat.le_of_ble_eq_true rfl) (Nat.le_of_ble_eq_true rfl) (Nat.le_of_ble_eq_true rfl) g24 rfl (t_80 e27) ?_
    refine ec_iconst cst_m1 rfl ?_
    rcases gi h with ⟨c28, h⟩ | ⟨c28, h⟩
    · refine en_icmp_ne_t c28 rfl ?_
      refine en_aload rfl rfl ?_
      refine ec_getI (ci := 3) (j := 10) ⟨rfl, rfl, rfl⟩ g1 rfl ?_
      refine ec_iconst cst_200 rfl ?_
      rcases gi h with ⟨c29, h⟩ | ⟨c29, h⟩
      · refine en_icmp_lt_t c29 rfl ?_
        refine en_aload rfl rfl ?_
        refine en_aload rfl rfl ?_
        obtain ⟨r30, e31, h⟩ := gb h
        refine ec_getP (ci := 3) (j := 0) ⟨rfl, rfl, rfl⟩ g1 e31 rfl ?_
        refine en_iload rfl rfl ?_
        obtain ⟨⟨q32, C33⟩, e34, h⟩ := gb h
        dsimp only at h
        refine ec_callV1 (k' := 58) (n := 3) (rc := 3) (a := a0) (as := [.ref r30, .int a1]) ⟨rfl, rfl⟩ rfl rfl (Nat.le_of_ble_eq_true rfl) (Nat.le_of_ble_eq_true rfl) (Nat.le_of_ble_eq_true rfl) g1 rfl (t_58 e34) ?_
        refine en_istore (l' := [(2, .int q32), (0, .ref a0), (1, .int a1)]) rfl rfl ?_
        refine en_aload rfl rfl ?_
        refine en_dup rfl rfl ?_
        refine ec_getI (ci := 3) (j := 10) ⟨rfl, rfl, rfl⟩ g1 rfl ?_
        refine ec_iconst cst_1 rfl ?_
        refine en_iadd rfl ?_
        refine ec_putI (ci := 3) (j := 10) ⟨rfl, rfl, rfl⟩ g1 rfl ?_
        refine en_iload rfl rfl ?_
        rcases gi h with ⟨c35, h⟩ | ⟨c35, h⟩
        · refine en_if_lt_t c35 rfl ?_
          cases h
          exact en_vret rfl
        · refine en_if_lt_f c35 rfl ?_
          refine en_iload rfl rfl ?_
          refine ec_iconst cst_30 rfl ?_
          rcases gi h with ⟨c36, h⟩ | ⟨c36, h⟩
          · refine en_icmp_ge_t c36 rfl ?_
            cases h
            exact en_vret rfl
          · refine en_icmp_ge_f c36 rfl ?_
            refine en_aload rfl rfl ?_
            obtain ⟨r37, e38, h⟩ := gb h
            refine ec_getP (ci := 3) (j := 5) ⟨rfl, rfl, rfl⟩ g1 e38 rfl ?_
            refine en_iload rfl rfl ?_
            refine en_dup2 ⟨rfl, rfl⟩ rfl ?_
            obtain ⟨g39, h⟩ := gd h
            obtain ⟨g40, h⟩ := gd h
            refine ec_iaload g39 g40 rfl ?_
            refine ec_iconst cst_1 rfl ?_
            refine en_iadd rfl ?_
            obtain ⟨g41, h⟩ := gd h
            refine ec_iastore g39 g41 rfl ?_
            cases h
            exact en_vret rfl
      · refine en_icmp_lt_f c29 rfl ?_
        refine en_aload rfl rfl ?_
        refine ec_iconst cst_4 rfl ?_
        refine ec_iconst cst_m1 rfl ?_
        refine ec_iconst cst_m1 rfl ?_
        obtain ⟨⟨q42, C43⟩, e44, h⟩ := gb h
        dsimp only at h
        refine ec_callV0 (k' := 48) (n := 4) (rc := 3) (a := a0) (as := [.int (4 : Int32), .int (-1 : Int32), .int (-1 : Int32)]) ⟨rfl, rfl⟩ rfl rfl (Nat.le_of_ble_eq_true rfl) (Nat.le_of_ble_eq_true rfl) (Nat.le_of_ble_eq_true rfl) g1 rfl (t_48 e44) ?_
        cases h
        exact en_vret rfl
    · refine en_icmp_ne_f c28 rfl ?_
      refine en_aload rfl rfl ?_
      refine ec_iconst cst_3 rfl ?_
      refine ec_iconst cst_m1 rfl ?_
      refine ec_iconst cst_m1 rfl ?_
      obtain ⟨⟨q45, C46⟩, e47, h⟩ := gb h
      dsimp only at h
      refine ec_callV0 (k' := 48) (n := 4) (rc := 3) (a := a0) (as := [.int (3 : Int32), .int (-1 : Int32), .int (-1 : Int32)]) ⟨rfl, rfl⟩ rfl rfl (Nat.le_of_ble_eq_true rfl) (Nat.le_of_ble_eq_true rfl) (Nat.le_of_ble_eq_true rfl) g1 rfl (t_48 e47) ?_
      cases h
      exact en_vret rfl
/-- BulkWriter$Pass.meet(II)V -/
def f_53 (n : Nat) (a0 : Nat) (a1 : Int32) (a2 : Int32) (C : AmC) : Option (Unit × AmC) := if isK a0 3 = true then (if ¬ (cI C a0 8) = 0 then (if (cI C a0 9) < 0 then some ((), C) else (if (40 : Int32) ≤ (cI C a0 9) then some ((), C) else (if a1 = (-1 : Int32) then (cP C a0 2).bind (fun r6 => if isK r6 12 = true then if amIn (cI C a0 9) (aLen r6) = true then (cP (uI C r6 (Int32.toNatClampNeg (cI C a0 9)) a1) a0 3).bind (fun r10 => if isK r10 12 = true then if amIn (cI C a0 9) (aLen r10) = true then (if (cI (uI (uI C r6 (Int32.toNatClampNeg (cI C a0 9)) a1) r10 (Int32.toNatClampNeg (cI C a0 9)) a2) a0 8) = (1 : Int32) then (if (cI (uI (uI C r6 (Int32.toNatClampNeg (cI C a0 9)) a1) r10 (Int32.toNatClampNeg (cI C a0 9)) a2) a0 8) = 0 then (f_56 n a0 (cI C a0 9) (uI (uI C r6 (Int32.toNatClampNeg (cI C a0 9)) a1) r10 (Int32.toNatClampNeg (cI C a0 9)) a2)).bind (fun z => match z with | (_, C17) => (if (cI C17 a0 8) = 0 then (if ¬ (cI C17 a0 11) = 0 then some ((), C17) else (f_57 n a0 (cI C a0 9) C17).bind (fun z => match z with | (_, C22) => some ((), C22))) else some ((), uI C17 a0 9 ((cI C17 a0 9) + (1 : Int32))))) else (if ¬ (cI (uI (uI C r6 (Int32.toNatClampNeg (cI C a0 9)) a1) r10 (Int32.toNatClampNeg (cI C a0 9)) a2) a0 8) = (3 : Int32) then (if (cI (uI (uI C r6 (Int32.toNatClampNeg (cI C a0 9)) a1) r10 (Int32.toNatClampNeg (cI C a0 9)) a2) a0 8) = 0 then (if ¬ (cI (uI (uI C r6 (Int32.toNatClampNeg (cI C a0 9)) a1) r10 (Int32.toNatClampNeg (cI C a0 9)) a2) a0 11) = 0 then some ((), uI (uI C r6 (Int32.toNatClampNeg (cI C a0 9)) a1) r10 (Int32.toNatClampNeg (cI C a0 9)) a2) else (f_57 n a0 (cI C a0 9) (uI (uI C r6 (Int32.toNatClampNeg (cI C a0 9)) a1) r10 (Int32.toNatClampNeg (cI C a0 9)) a2)).bind (fun z => match z with | (_, C28) => some ((), C28))) else some ((), uI (uI (uI C r6 (Int32.toNatClampNeg (cI C a0 9)) a1) r10 (Int32.toNatClampNeg (cI C a0 9)) a2) a0 9 ((cI (uI (uI C r6 (Int32.toNatClampNeg (cI C a0 9)) a1) r10 (Int32.toNatClampNeg (cI C a0 9)) a2) a0 9) + (1 : Int32)))) else (f_56 n a0 (cI C a0 9) (uI (uI C r6 (Int32.toNatClampNeg (cI C a0 9)) a1) r10 (Int32.toNatClampNeg (cI C a0 9)) a2)).bind (fun z => match z with | (_, C31) => (if (cI C31 a0 8) = 0 then (if ¬ (cI C31 a0 11) = 0 then some ((), C31) else (f_57 n a0 (cI C a0 9) C31).bind (fun z => match z with | (_, C36) => some ((), C36))) else some ((), uI C31 a0 9 ((cI C31 a0 9) + (1 : Int32))))))) else (cP (uI (uI C r6 (Int32.toNatClampNeg (cI C a0 9)) a1) r10 (Int32.toNatClampNeg (cI C a0 9)) a2) a0 6).bind (fun r38 => (cP (uI (uI C r6 (Int32.toNatClampNeg (cI C a0 9)) a1) r10 (Int32.toNatClampNeg (cI C a0 9)) a2) a0 7).bind (fun r40 => (cP (uI (uI C r6 (Int32.toNatClampNeg (cI C a0 9)) a1) r10 (Int32.toNatClampNeg (cI C a0 9)) a2) a0 0).bind (fun r42 => if isK r38 6 = true then (f_103 n r38 r40 r42 a1 (uI (uI C r6 (Int32.toNatClampNeg (cI C a0 9)) a1) r10 (Int32.toNatClampNeg (cI C a0 9)) a2)).bind (fun z => match z with | (q45, C46) => (if ¬ q45 = 0 then (if (cI C46 a0 8) = 0 then (f_56 n a0 (cI C a0 9) C46).bind (fun z => match z with | (_, C51) => (if (cI C51 a0 8) = 0 then (if ¬ (cI C51 a0 11) = 0 then some ((), C51) else (f_57 n a0 (cI C a0 9) C51).bind (fun z => match z with | (_, C56) => some ((), C56))) else some ((), uI C51 a0 9 ((cI C51 a0 9) + (1 : Int32))))) else (if ¬ (cI C46 a0 8) = (3 : Int32) then (if (cI C46 a0 8) = 0 then (if ¬ (cI C46 a0 11) = 0 then some ((), C46) else (f_57 n a0 (cI C a0 9) C46).bind (fun z => match z with | (_, C62) => some ((), C62))) else some ((), uI C46 a0 9 ((cI C46 a0 9) + (1 : Int32)))) else (f_56 n a0 (cI C a0 9) C46).bind (fun z => match z with | (_, C65) => (if (cI C65 a0 8) = 0 then (if ¬ (cI C65 a0 11) = 0 then some ((), C65) else (f_57 n a0 (cI C a0 9) C65).bind (fun z => match z with | (_, C70) => some ((), C70))) else some ((), uI C65 a0 9 ((cI C65 a0 9) + (1 : Int32))))))) else some ((), C46))) else none)))) else none else none) else none else none) else (cP C a0 7).bind (fun r72 => if isK r72 8 = true then (if ¬ (cI C r72 2) = (2 : Int32) then (cP C a0 2).bind (fun r76 => if isK r76 12 = true then if amIn (cI C a0 9) (aLen r76) = true then (cP (uI C r76 (Int32.toNatClampNeg (cI C a0 9)) a1) a0 3).bind (fun r80 => if isK r80 12 = true then if amIn (cI C a0 9) (aLen r80) = true then (if (cI (uI (uI C r76 (Int32.toNatClampNeg (cI C a0 9)) a1) r80 (Int32.toNatClampNeg (cI C a0 9)) a2) a0 8) = (1 : Int32) then (if (cI (uI (uI C r76 (Int32.toNatClampNeg (cI C a0 9)) a1) r80 (Int32.toNatClampNeg (cI C a0 9)) a2) a0 8) = 0 then (f_56 n a0 (cI C a0 9) (uI (uI C r76 (Int32.toNatClampNeg (cI C a0 9)) a1) r80 (Int32.toNatClampNeg (cI C a0 9)) a2)).bind (fun z => match z with | (_, C87) => (if (cI C87 a0 8) = 0 then (if ¬ (cI C87 a0 11) = 0 then some ((), C87) else (f_57 n a0 (cI C a0 9) C87).bind (fun z => match z with | (_, C92) => some ((), C92))) else some ((), uI C87 a0 9 ((cI C87 a0 9) + (1 : Int32))))) else (if ¬ (cI (uI (uI C r76 (Int32.toNatClampNeg (cI C a0 9)) a1) r80 (Int32.toNatClampNeg (cI C a0 9)) a2) a0 8) = (3 : Int32) then (if (cI (uI (uI C r76 (Int32.toNatClampNeg (cI C a0 9)) a1) r80 (Int32.toNatClampNeg (cI C a0 9)) a2) a0 8) = 0 then (if ¬ (cI (uI (uI C r76 (Int32.toNatClampNeg (cI C a0 9)) a1) r80 (Int32.toNatClampNeg (cI C a0 9)) a2) a0 11) = 0 then some ((), uI (uI C r76 (Int32.toNatClampNeg (cI C a0 9)) a1) r80 (Int32.toNatClampNeg (cI C a0 9)) a2) else (f_57 n a0 (cI C a0 9) (uI (uI C r76 (Int32.toNatClampNeg (cI C a0 9)) a1) r80 (Int32.toNatClampNeg (cI C a0 9)) a2)).bind (fun z => match z with | (_, C98) => some ((), C98))) else some ((), uI (uI (uI C r76 (Int32.toNatClampNeg (cI C a0 9)) a1) r80 (Int32.toNatClampNeg (cI C a0 9)) a2) a0 9 ((cI (uI (uI C r76 (Int32.toNatClampNeg (cI C a0 9)) a1) r80 (Int32.toNatClampNeg (cI C a0 9)) a2) a0 9) + (1 : Int32)))) else (f_56 n a0 (cI C a0 9) (uI (uI C r76 (Int32.toNatClampNeg (cI C a0 9)) a1) r80 (Int32.toNatClampNeg (cI C a0 9)) a2)).bind (fun z => match z with | (_, C101) => (if (cI C101 a0 8) = 0 then (if ¬ (cI C101 a0 11) = 0 then some ((), C101) else (f_57 n a0 (cI C a0 9) C101).bind (fun z => match z with | (_, C106) => some ((), C106))) else some ((), uI C101 a0 9 ((cI C101 a0 9) + (1 : Int32))))))) else (cP (uI (uI C r76 (Int32.toNatClampNeg (cI C a0 9)) a1) r80 (Int32.toNatClampNeg (cI C a0 9)) a2) a0 6).bind (fun r108 => (cP (uI (uI C r76 (Int32.toNatClampNeg (cI C a0 9)) a1) r80 (Int32.toNatClampNeg (cI C a0 9)) a2) a0 7).bind (fun r110 => (cP (uI (uI C r76 (Int32.toNatClampNeg (cI C a0 9)) a1) r80 (Int32.toNatClampNeg (cI C a0 9)) a2) a0 0).bind (fun r112 => if isK r108 6 = true then (f_103 n r108 r110 r112 a1 (uI (uI C r76 (Int32.toNatClampNeg (cI C a0 9)) a1) r80 (Int32.toNatClampNeg (cI C a0 9)) a2)).bind (fun z => match z with | (q115, C116) => (if ¬ q115 = 0 then (if (cI C116 a0 8) = 0 then (f_56 n a0 (cI C a0 9) C116).bind (fun z => match z with | (_, C121) => (if (cI C121 a0 8) = 0 then (if ¬ (cI C121 a0 11) = 0 then some ((), C121) else (f_57 n a0 (cI C a0 9) C121).bind (fun z => match z with | (_, C126) => some ((), C126))) else some ((), uI C121 a0 9 ((cI C121 a0 9) + (1 : Int32))))) else (if ¬ (cI C116 a0 8) = (3 : Int32) then (if (cI C116 a0 8) = 0 then (if ¬ (cI C116 a0 11) = 0 then some ((), C116) else (f_57 n a0 (cI C a0 9) C116).bind (fun z => match z with | (_, C132) => some ((), C132))) else some ((), uI C116 a0 9 ((cI C116 a0 9) + (1 : Int32)))) else (f_56 n a0 (cI C a0 9) C116).bind (fun z => match z with | (_, C135) => (if (cI C135 a0 8) = 0 then (if ¬ (cI C135 a0 11) = 0 then some ((), C135) else (f_57 n a0 (cI C a0 9) C135).bind (fun z => match z with | (_, C140) => some ((), C140))) else some ((), uI C135 a0 9 ((cI C135 a0 9) + (1 : Int32))))))) else some ((), C116))) else none)))) else none else none) else none else none) else some ((), C)) else none)))) else (if a1 = (-1 : Int32) then (cP C a0 2).bind (fun r143 => if isK r143 12 = true then if amIn (0 : Int32) (aLen r143) = true then (cP (uI C r143 (Int32.toNatClampNeg (0 : Int32)) a1) a0 3).bind (fun r147 => if isK r147 12 = true then if amIn (0 : Int32) (aLen r147) = true then (if (cI (uI (uI C r143 (Int32.toNatClampNeg (0 : Int32)) a1) r147 (Int32.toNatClampNeg (0 : Int32)) a2) a0 8) = (1 : Int32) then (if (cI (uI (uI C r143 (Int32.toNatClampNeg (0 : Int32)) a1) r147 (Int32.toNatClampNeg (0 : Int32)) a2) a0 8) = 0 then (f_56 n a0 (0 : Int32) (uI (uI C r143 (Int32.toNatClampNeg (0 : Int32)) a1) r147 (Int32.toNatClampNeg (0 : Int32)) a2)).bind (fun z => match z with | (_, C154) => (if (cI C154 a0 8) = 0 then (if ¬ (cI C154 a0 11) = 0 then some ((), C154) else (f_57 n a0 (0 : Int32) C154).bind (fun z => match z with | (_, C159) => some ((), C159))) else some ((), uI C154 a0 9 ((cI C154 a0 9) + (1 : Int32))))) else (if ¬ (cI (uI (uI C r143 (Int32.toNatClampNeg (0 : Int32)) a1) r147 (Int32.toNatClampNeg (0 : Int32)) a2) a0 8) = (3 : Int32) then (if (cI (uI (uI C r143 (Int32.toNatClampNeg (0 : Int32)) a1) r147 (Int32.toNatClampNeg (0 : Int32)) a2) a0 8) = 0 then (if ¬ (cI (uI (uI C r143 (Int32.toNatClampNeg (0 : Int32)) a1) r147 (Int32.toNatClampNeg (0 : Int32)) a2) a0 11) = 0 then some ((), uI (uI C r143 (Int32.toNatClampNeg (0 : Int32)) a1) r147 (Int32.toNatClampNeg (0 : Int32)) a2) else (f_57 n a0 (0 : Int32) (uI (uI C r143 (Int32.toNatClampNeg (0 : Int32)) a1) r147 (Int32.toNatClampNeg (0 : Int32)) a2)).bind (fun z => match z with | (_, C165) => some ((), C165))) else some ((), uI (uI (uI C r143 (Int32.toNatClampNeg (0 : Int32)) a1) r147 (Int32.toNatClampNeg (0 : Int32)) a2) a0 9 ((cI (uI (uI C r143 (Int32.toNatClampNeg (0 : Int32)) a1) r147 (Int32.toNatClampNeg (0 : Int32)) a2) a0 9) + (1 : Int32)))) else (f_56 n a0 (0 : Int32) (uI (uI C r143 (Int32.toNatClampNeg (0 : Int32)) a1) r147 (Int32.toNatClampNeg (0 : Int32)) a2)).bind (fun z => match z with | (_, C168) => (if (cI C168 a0 8) = 0 then (if ¬ (cI C168 a0 11) = 0 then some ((), C168) else (f_57 n a0 (0 : Int32) C168).bind (fun z => match z with | (_, C173) => some ((), C173))) else some ((), uI C168 a0 9 ((cI C168 a0 9) + (1 : Int32))))))) else (cP (uI (uI C r143 (Int32.toNatClampNeg (0 : Int32)) a1) r147 (Int32.toNatClampNeg (0 : Int32)) a2) a0 6).bind (fun r175 => (cP (uI (uI C r143 (Int32.toNatClampNeg (0 : Int32)) a1) r147 (Int32.toNatClampNeg (0 : Int32)) a2) a0 7).bind (fun r177 => (cP (uI (uI C r143 (Int32.toNatClampNeg (0 : Int32)) a1) r147 (Int32.toNatClampNeg (0 : Int32)) a2) a0 0).bind (fun r179 => if isK r175 6 = true then (f_103 n r175 r177 r179 a1 (uI (uI C r143 (Int32.toNatClampNeg (0 : Int32)) a1) r147 (Int32.toNatClampNeg (0 : Int32)) a2)).bind (fun z => match z with | (q182, C183) => (if ¬ q182 = 0 then (if (cI C183 a0 8) = 0 then (f_56 n a0 (0 : Int32) C183).bind (fun z => match z with | (_, C188) => (if (cI C188 a0 8) = 0 then (if ¬ (cI C188 a0 11) = 0 then some ((), C188) else (f_57 n a0 (0 : Int32) C188).bind (fun z => match z with | (_, C193) => some ((), C193))) else some ((), uI C188 a0 9 ((cI C188 a0 9) + (1 : Int32))))) else (if ¬ (cI C183 a0 8) = (3 : Int32) then (if (cI C183 a0 8) = 0 then (if ¬ (cI C183 a0 11) = 0 then some ((), C183) else (f_57 n a0 (0 : Int32) C183).bind (fun z => match z with | (_, C199) => some ((), C199))) else some ((), uI C183 a0 9 ((cI C183 a0 9) + (1 : Int32)))) else (f_56 n a0 (0 : Int32) C183).bind (fun z => match z with | (_, C202) => (if (cI C202 a0 8) = 0 then (if ¬ (cI C202 a0 11) = 0 then some ((), C202) else (f_57 n a0 (0 : Int32) C202).bind (fun z => match z with | (_, C207) => some ((), C207))) else some ((), uI C202 a0 9 ((cI C202 a0 9) + (1 : Int32))))))) else some ((), C183))) else none)))) else none else none) else none else none) else (cP C a0 7).bind (fun r209 => if isK r209 8 = true then (if ¬ (cI C r209 2) = (2 : Int32) then (cP C a0 2).bind (fun r213 => if isK r213 12 = true then if amIn (0 : Int32) (aLen r213) = true then (cP (uI C r213 (Int32.toNatClampNeg (0 : Int32)) a1) a0 3).bind (fun r217 => if isK r217 12 = true then if amIn (0 : Int32) (aLen r217) = true then (if (cI (uI (uI C r213 (Int32.toNatClampNeg (0 : Int32)) a1) r217 (Int32.toNatClampNeg (0 : Int32)) a2) a0 8) = (1 : Int32) then (if (cI (uI (uI C r213 (Int32.toNatClampNeg (0 : Int32)) a1) r217 (Int32.toNatClampNeg (0 : Int32)) a2) a0 8) = 0 then (f_56 n a0 (0 : Int32) (uI (uI C r213 (Int32.toNatClampNeg (0 : Int32)) a1) r217 (Int32.toNatClampNeg (0 : Int32)) a2)).bind (fun z => match z with | (_, C224) => (if (cI C224 a0 8) = 0 then (if ¬ (cI C224 a0 11) = 0 then some ((), C224) else (f_57 n a0 (0 : Int32) C224).bind (fun z => match z with | (_, C229) => some ((), C229))) else some ((), uI C224 a0 9 ((cI C224 a0 9) + (1 : Int32))))) else (if ¬ (cI (uI (uI C r213 (Int32.toNatClampNeg (0 : Int32)) a1) r217 (Int32.toNatClampNeg (0 : Int32)) a2) a0 8) = (3 : Int32) then (if (cI (uI (uI C r213 (Int32.toNatClampNeg (0 : Int32)) a1) r217 (Int32.toNatClampNeg (0 : Int32)) a2) a0 8) = 0 then (if ¬ (cI (uI (uI C r213 (Int32.toNatClampNeg (0 : Int32)) a1) r217 (Int32.toNatClampNeg (0 : Int32)) a2) a0 11) = 0 then some ((), uI (uI C r213 (Int32.toNatClampNeg (0 : Int32)) a1) r217 (Int32.toNatClampNeg (0 : Int32)) a2) else (f_57 n a0 (0 : Int32) (uI (uI C r213 (Int32.toNatClampNeg (0 : Int32)) a1) r217 (Int32.toNatClampNeg (0 : Int32)) a2)).bind (fun z => match z with | (_, C235) => some ((), C235))) else some ((), uI (uI (uI C r213 (Int32.toNatClampNeg (0 : Int32)) a1) r217 (Int32.toNatClampNeg (0 : Int32)) a2) a0 9 ((cI (uI (uI C r213 (Int32.toNatClampNeg (0 : Int32)) a1) r217 (Int32.toNatClampNeg (0 : Int32)) a2) a0 9) + (1 : Int32)))) else (f_56 n a0 (0 : Int32) (uI (uI C r213 (Int32.toNatClampNeg (0 : Int32)) a1) r217 (Int32.toNatClampNeg (0 : Int32)) a2)).bind (fun z => match z with | (_, C238) => (if (cI C238 a0 8) = 0 then (if ¬ (cI C238 a0 11) = 0 then some ((), C238) else (f_57 n a0 (0 : Int32) C238).bind (fun z => match z with | (_, C243) => some ((), C243))) else some ((), uI C238 a0 9 ((cI C238 a0 9) + (1 : Int32))))))) else (cP (uI (uI C r213 (Int32.toNatClampNeg (0 : Int32)) a1) r217 (Int32.toNatClampNeg (0 : Int32)) a2) a0 6).bind (fun r245 => (cP (uI (uI C r213 (Int32.toNatClampNeg (0 : Int32)) a1) r217 (Int32.toNatClampNeg (0 : Int32)) a2) a0 7).bind (fun r247 => (cP (uI (uI C r213 (Int32.toNatClampNeg (0 : Int32)) a1) r217 (Int32.toNatClampNeg (0 : Int32)) a2) a0 0).bind (fun r249 => if isK r245 6 = true then (f_103 n r245 r247 r249 a1 (uI (uI C r213 (Int32.toNatClampNeg (0 : Int32)) a1) r217 (Int32.toNatClampNeg (0 : Int32)) a2)).bind (fun z => match z with | (q252, C253) => (if ¬ q252 = 0 then (if (cI C253 a0 8) = 0 then (f_56 n a0 (0 : Int32) C253).bind (fun z => match z with | (_, C258) => (if (cI C258 a0 8) = 0 then (if ¬ (cI C258 a0 11) = 0 then some ((), C258) else (f_57 n a0 (0 : Int32) C258).bind (fun z => match z with | (_, C263) => some ((), C263))) else some ((), uI C258 a0 9 ((cI C258 a0 9) + (1 : Int32))))) else (if ¬ (cI C253 a0 8) = (3 : Int32) then (if (cI C253 a0 8) = 0 then (if ¬ (cI C253 a0 11) = 0 then some ((), C253) else (f_57 n a0 (0 : Int32) C253).bind (fun z => match z with | (_, C269) => some ((), C269))) else some ((), uI C253 a0 9 ((cI C253 a0 9) + (1 : Int32)))) else (f_56 n a0 (0 : Int32) C253).bind (fun z => match z with | (_, C272) => (if (cI C272 a0 8) = 0 then (if ¬ (cI C272 a0 11) = 0 then some ((), C272) else (f_57 n a0 (0 : Int32) C272).bind (fun z => match z with | (_, C277) => some ((), C277))) else some ((), uI C272 a0 9 ((cI C272 a0 9) + (1 : Int32))))))) else some ((), C253))) else none)))) else none else none) else none else none) else some ((), C)) else none))) else none
set_option maxRecDepth 20000 in
set_option maxHeartbeats 4000000 in
theorem t_53 {n : Nat} {a0 : Nat} {a1 : Int32} {a2 : Int32} {C : AmC} {r : Unit} {C' : AmC} (h : f_53 n a0 a1 a2 C = some (r, C')) : En false 53 0 [(0, .ref a0), (1, .int a1), (2, .int a2)] [] (mkM C) (.inl none) (mkM C') := by
  unfold f_53 at h
  refine en_aload rfl rfl ?_
  obtain ⟨g1, h⟩ := gd h
  refine ec_getI (ci := 3) (j := 8) ⟨rfl, rfl, rfl⟩ g1 rfl ?_
  rcases gi h with ⟨c2, h⟩ | ⟨c2, h⟩
  · refine en_if_ne_t c2 rfl ?_
    refine en_aload rfl rfl ?_
    refine ec_getI (ci := 3) (j := 9) ⟨rfl, rfl, rfl⟩ g1 rfl ?_
    refine en_istore (l' := [(3, .int (cI C a0 9)), (0, .ref a0), (1, .int a1), (2, .int a2)]) rfl rfl ?_
    refine en_iload rfl rfl ?_
    rcases gi h with ⟨c3, h⟩ | ⟨c3, h⟩
    · refine en_if_lt_t c3 rfl ?_
      cases h
      exact en_vret rfl
    · refine en_if_lt_f c3 rfl ?_
      refine en_iload rfl rfl ?_
      refine ec_iconst cst_40 rfl ?_
      rcases gi h with ⟨c4, h⟩ | ⟨c4, h⟩
      · refine en_icmp_ge_t c4 rfl ?_
        cases h
        exact en_vret rfl
      · refine en_icmp_ge_f c4 rfl ?_
        refine en_iload rfl rfl ?_
        refine ec_iconst cst_m1 rfl ?_
        rcases gi h with ⟨c5, h⟩ | ⟨c5, h⟩
        · refine en_icmp_eq_t c5 rfl ?_
          refine en_aload rfl rfl ?_
          obtain ⟨r6, e7, h⟩ := gb h
          refine ec_getP (ci := 3) (j := 2) ⟨rfl, rfl, rfl⟩ g1 e7 rfl ?_
          refine en_iload rfl rfl ?_
          refine en_iload rfl rfl ?_
          obtain ⟨g8, h⟩ := gd h
          obtain ⟨g9, h⟩ := gd h
          refine ec_iastore g8 g9 rfl ?_
          refine en_aload rfl rfl ?_
          obtain ⟨r10, e11, h⟩ := gb h
          refine ec_getP (ci := 3) (j := 3) ⟨rfl, rfl, rfl⟩ g1 e11 rfl ?_
          refine en_iload rfl rfl ?_
          refine en_iload rfl rfl ?_
          obtain ⟨g12, h⟩ := gd h
          obtain ⟨g13, h⟩ := gd h
          refine ec_iastore g12 g13 rfl ?_
          refine en_aload rfl rfl ?_
          refine ec_getI (ci := 3) (j := 8) ⟨rfl, rfl, rfl⟩ g1 rfl ?_
          refine ec_iconst cst_1 rfl ?_
          rcases gi h with ⟨c14, h⟩ | ⟨c14, h⟩
          · refine en_icmp_eq_t c14 rfl ?_
            refine en_aload rfl rfl ?_
            refine ec_getI (ci := 3) (j := 8) ⟨rfl, rfl, rfl⟩ g1 rfl ?_
            rcases gi h with ⟨c15, h⟩ | ⟨c15, h⟩
            · refine en_if_eq_t c15 rfl ?_
              refine en_aload rfl rfl ?_
              refine en_iload rfl rfl ?_
              obtain ⟨⟨q16, C17⟩, e18, h⟩ := gb h
              dsimp only at h
              refine ec_callV0 (k' := 56) (n := 2) (rc := 3) (a := a0) (as := [.int (cI C a0 9)]) ⟨rfl, rfl⟩ rfl rfl (Nat.le_of_ble_eq_true rfl) (Nat.le_of_ble_eq_true rfl) (Nat.le_of_ble_eq_true rfl) g1 rfl (t_56 e18) ?_
              refine en_aload rfl rfl ?_
              refine ec_getI (ci := 3) (j := 8) ⟨rfl, rfl, rfl⟩ g1 rfl ?_
              rcases gi h with ⟨c19, h⟩ | ⟨c19, h⟩
              · refine en_if_eq_t c19 rfl ?_
                refine en_aload rfl rfl ?_
                refine ec_getI (ci := 3) (j := 11) ⟨rfl, rfl, rfl⟩ g1 rfl ?_
                rcases gi h with ⟨c20, h⟩ | ⟨c20, h⟩
                · refine en_if_ne_t c20 rfl ?_
                  cases h
                  exact en_vret rfl
                · refine en_if_ne_f c20 rfl ?_
                  refine en_aload rfl rfl ?_
                  refine en_iload rfl rfl ?_
                  obtain ⟨⟨q21, C22⟩, e23, h⟩ := gb h
                  dsimp only at h
                  refine ec_callV0 (k' := 57) (n := 2) (rc := 3) (a := a0) (as := [.int (cI C a0 9)]) ⟨rfl, rfl⟩ rfl rfl (Nat.le_of_ble_eq_true rfl) (Nat.le_of_ble_eq_true rfl) (Nat.le_of_ble_eq_true rfl) g1 rfl (t_57 e23) ?_
                  cases h
                  exact en_vret rfl
              · refine en_if_eq_f c19 rfl ?_
                refine en_aload rfl rfl ?_
                refine en_dup rfl rfl ?_
                refine ec_getI (ci := 3) (j := 9) ⟨rfl, rfl, rfl⟩ g1 rfl ?_
                refine ec_iconst cst_1 rfl ?_
                refine en_iadd rfl ?_
                refine ec_putI (ci := 3) (j := 9) ⟨rfl, rfl, rfl⟩ g1 rfl ?_
                refine en_goto rfl ?_
                cases h
                exact en_vret rfl
            · refine en_if_eq_f c15 rfl ?_
              refine en_aload rfl rfl ?_
              refine ec_getI (ci := 3) (j := 8) ⟨rfl, rfl, rfl⟩ g1 rfl ?_
              refine ec_iconst cst_3 rfl ?_
              rcases gi h with ⟨c24, h⟩ | ⟨c24, h⟩
              · refine en_icmp_ne_t c24 rfl ?_
                refine en_aload rfl rfl ?_
                refine ec_getI (ci := 3) (j := 8) ⟨rfl, rfl, rfl⟩ g1 rfl ?_
                rcases gi h with ⟨c25, h⟩ | ⟨c25, h⟩
                · refine en_if_eq_t c25 rfl ?_
                  refine en_aload rfl rfl ?_
                  refine ec_getI (ci := 3) (j := 11) ⟨rfl, rfl, rfl⟩ g1 rfl ?_
                  rcases gi h with ⟨c26, h⟩ | ⟨c26, h⟩
                  · refine en_if_ne_t c26 rfl ?_
                    cases h
                    exact en_vret rfl
                  · refine en_if_ne_f c26 rfl ?_
                    refine en_aload rfl rfl ?_
                    refine en_iload rfl rfl ?_
                    obtain ⟨⟨q27, C28⟩, e29, h⟩ := gb h
                    dsimp only at h
                    refine ec_callV0 (k' := 57) (n := 2) (rc := 3) (a := a0) (as := [.int (cI C a0 9)]) ⟨rfl, rfl⟩ rfl rfl (Nat.le_of_ble_eq_true rfl) (Nat.le_of_ble_eq_true rfl) (Nat.le_of_ble_eq_true rfl) g1 rfl (t_57 e29) ?_
                    cases h
                    exact en_vret rfl
                · refine en_if_eq_f c25 rfl ?_
                  refine en_aload rfl rfl ?_
                  refine en_dup rfl rfl ?_
                  refine ec_getI (ci := 3) (j := 9) ⟨rfl, rfl, rfl⟩ g1 rfl ?_
                  refine ec_iconst cst_1 rfl ?_
                  refine en_iadd rfl ?_
                  refine ec_putI (ci := 3) (j := 9) ⟨rfl, rfl, rfl⟩ g1 rfl ?_
                  refine en_goto rfl ?_
                  cases h
                  exact en_vret rfl
              · refine en_icmp_ne_f c24 rfl ?_
                refine en_aload rfl rfl ?_
                refine en_iload rfl rfl ?_
                obtain ⟨⟨q30, C31⟩, e32, h⟩ := gb h
                dsimp only at h
                refine ec_callV0 (k' := 56) (n := 2) (rc := 3) (a := a0) (as := [.int (cI C a0 9)]) ⟨rfl, rfl⟩ rfl rfl (Nat.le_of_ble_eq_true rfl) (Nat.le_of_ble_eq_true rfl) (Nat.le_of_ble_eq_true rfl) g1 rfl (t_56 e32) ?_
                refine en_aload rfl rfl ?_
                refine ec_getI (ci := 3) (j := 8) ⟨rfl, rfl, rfl⟩ g1 rfl ?_
                rcases gi h with ⟨c33, h⟩ | ⟨c33, h⟩
                · refine en_if_eq_t c33 rfl ?_
                  refine en_aload rfl rfl ?_
                  refine ec_getI (ci := 3) (j := 11) ⟨rfl, rfl, rfl⟩ g1 rfl ?_
                  rcases gi h with ⟨c34, h⟩ | ⟨c34, h⟩
                  · refine en_if_ne_t c34 rfl ?_
                    cases h
                    exact en_vret rfl
                  · refine en_if_ne_f c34 rfl ?_
                    refine en_aload rfl rfl ?_
                    refine en_iload rfl rfl ?_
                    obtain ⟨⟨q35, C36⟩, e37, h⟩ := gb h
                    dsimp only at h
                    refine ec_callV0 (k' := 57) (n := 2) (rc := 3) (a := a0) (as := [.int (cI C a0 9)]) ⟨rfl, rfl⟩ rfl rfl (Nat.le_of_ble_eq_true rfl) (Nat.le_of_ble_eq_true rfl) (Nat.le_of_ble_eq_true rfl) g1 rfl (t_57 e37) ?_
                    cases h
                    exact en_vret rfl
                · refine en_if_eq_f c33 rfl ?_
                  refine en_aload rfl rfl ?_
                  refine en_dup rfl rfl ?_
                  refine ec_getI (ci := 3) (j := 9) ⟨rfl, rfl, rfl⟩ g1 rfl ?_
                  refine ec_iconst cst_1 rfl ?_
                  refine en_iadd rfl ?_
                  refine ec_putI (ci := 3) (j := 9) ⟨rfl, rfl, rfl⟩ g1 rfl ?_
                  refine en_goto rfl ?_
                  cases h
                  exact en_vret rfl
          · refine en_icmp_eq_f c14 rfl ?_
            refine en_aload rfl rfl ?_
            obtain ⟨r38, e39, h⟩ := gb h
            refine ec_getP (ci := 3) (j := 6) ⟨rfl, rfl, rfl⟩ g1 e39 rfl ?_
            refine en_aload rfl rfl ?_
            obtain ⟨r40, e41, h⟩ := gb h
            refine ec_getP (ci := 3) (j := 7) ⟨rfl, rfl, rfl⟩ g1 e41 rfl ?_
            refine en_aload rfl rfl ?_
            obtain ⟨r42, e43, h⟩ := gb h
            refine ec_getP (ci := 3) (j := 0) ⟨rfl, rfl, rfl⟩ g1 e43 rfl ?_
            refine en_iload rfl rfl ?_
            obtain ⟨g44, h⟩ := gd h
            obtain ⟨⟨q45, C46⟩, e47, h⟩ := gb h
            dsimp only at h
            refine ec_callV1 (k' := 103) (n := 4) (rc := 6) (a := r38) (as := [.ref r40, .ref r42, .int a1]) ⟨rfl, rfl⟩ rfl rfl (Nat.le_of_ble_eq_true rfl) (Nat.le_of_ble_eq_true rfl) (Nat.le_of_ble_eq_true rfl) g44 rfl (t_103 e47) ?_
            rcases gi h with ⟨c48, h⟩ | ⟨c48, h⟩
            · refine en_if_ne_t c48 rfl ?_
              refine en_aload rfl rfl ?_
              refine ec_getI (ci := 3) (j := 8) ⟨rfl, rfl, rfl⟩ g1 rfl ?_
              rcases gi h with ⟨c49, h⟩ | ⟨c49, h⟩
              · refine en_if_eq_t c49 rfl ?_
                refine en_aload rfl rfl ?_
                refine en_iload rfl rfl ?_
                obtain ⟨⟨q50, C51⟩, e52, h⟩ := gb h
                dsimp only at h
                refine ec_callV0 (k' := 56) (n := 2) (rc := 3) (a := a0) (as := [.int (cI C a0 9)]) ⟨rfl, rfl⟩ rfl rfl (Nat.le_of_ble_eq_true rfl) (Nat.le_of_ble_eq_true rfl) (Nat.le_of_ble_eq_true rfl) g1 rfl (t_56 e52) ?_
                refine en_aload rfl rfl ?_
                refine ec_getI (ci := 3) (j := 8) ⟨rfl, rfl, rfl⟩ g1 rfl ?_
                rcases gi h with ⟨c53, h⟩ | ⟨c53, h⟩
                · refine en_if_eq_t c53 rfl ?_
                  refine en_aload rfl rfl ?_
                  refine ec_getI (ci := 3) (j := 11) ⟨rfl, rfl, rfl⟩ g1 rfl ?_
                  rcases gi h with ⟨c54, h⟩ | ⟨c54, h⟩
                  · refine en_if_ne_t c54 rfl ?_
                    cases h
                    exact en_vret rfl
                  · refine en_if_ne_f c54 rfl ?_
                    refine en_aload rfl rfl ?_
                    refine en_iload rfl rfl ?_
                    obtain ⟨⟨q55, C56⟩, e57, h⟩ := gb h
                    dsimp only at h
                    refine ec_callV0 (k' := 57) (n := 2) (rc := 3) (a := a0) (as := [.int (cI C a0 9)]) ⟨rfl, rfl⟩ rfl rfl (Nat.le_of_ble_eq_true rfl) (Nat.le_of_ble_eq_true rfl) (Nat.le_of_ble_eq_true rfl) g1 rfl (t_57 e57) ?_
                    cases h
                    exact en_vret rfl
                · refine en_if_eq_f c53 rfl ?_
                  refine en_aload rfl rfl ?_
                  refine en_dup rfl rfl ?_
                  refine ec_getI (ci := 3) (j := 9) ⟨rfl, rfl, rfl⟩ g1 rfl ?_
                  refine ec_iconst cst_1 rfl ?_
                  refine en_iadd rfl ?_
                  refine ec_putI (ci := 3) (j := 9) ⟨rfl, rfl, rfl⟩ g1 rfl ?_
                  refine en_goto rfl ?_
                  cases h
                  exact en_vret rfl
              · refine en_if_eq_f c49 rfl ?_
                refine en_aload rfl rfl ?_
                refine ec_getI (ci := 3) (j := 8) ⟨rfl, rfl, rfl⟩ g1 rfl ?_
                refine ec_iconst cst_3 rfl ?_
                rcases gi h with ⟨c58, h⟩ | ⟨c58, h⟩
                · refine en_icmp_ne_t c58 rfl ?_
                  refine en_aload rfl rfl ?_
                  refine ec_getI (ci := 3) (j := 8) ⟨rfl, rfl, rfl⟩ g1 rfl ?_
                  rcases gi h with ⟨c59, h⟩ | ⟨c59, h⟩
                  · refine en_if_eq_t c59 rfl ?_
                    refine en_aload rfl rfl ?_
                    refine ec_getI (ci := 3) (j := 11) ⟨rfl, rfl, rfl⟩ g1 rfl ?_
                    rcases gi h with ⟨c60, h⟩ | ⟨c60, h⟩
                    · refine en_if_ne_t c60 rfl ?_
                      cases h
                      exact en_vret rfl
                    · refine en_if_ne_f c60 rfl ?_
                      refine en_aload rfl rfl ?_
                      refine en_iload rfl rfl ?_
                      obtain ⟨⟨q61, C62⟩, e63, h⟩ := gb h
                      dsimp only at h
                      refine ec_callV0 (k' := 57) (n := 2) (rc := 3) (a := a0) (as := [.int (cI C a0 9)]) ⟨rfl, rfl⟩ rfl rfl (Nat.le_of_ble_eq_true rfl) (Nat.le_of_ble_eq_true rfl) (Nat.le_of_ble_eq_true rfl) g1 rfl (t_57 e63) ?_
                      cases h
                      exact en_vret rfl
                  · refine en_if_eq_f c59 rfl ?_
                    refine en_aload rfl rfl ?_
                    refine en_dup rfl rfl ?_
                    refine ec_getI (ci := 3) (j := 9) ⟨rfl, rfl, rfl⟩ g1 rfl ?_
                    refine ec_iconst cst_1 rfl ?_
                    refine en_iadd rfl ?_
                    refine ec_putI (ci := 3) (j := 9) ⟨rfl, rfl, rfl⟩ g1 rfl ?_
                    refine en_goto rfl ?_
                    cases h
                    exact en_vret rfl
                · refine en_icmp_ne_f c58 rfl ?_
                  refine en_aload rfl rfl ?_
                  refine en_iload rfl rfl ?_
                  obtain ⟨⟨q64, C65⟩, e66, h⟩ := gb h
                  dsimp only at h
                  refine ec_callV0 (k' := 56) (n := 2) (rc := 3) (a := a0) (as := [.int (cI C a0 9)]) ⟨rfl, rfl⟩ rfl rfl (Nat.le_of_ble_eq_true rfl) (Nat.le_of_ble_eq_true rfl) (Nat.le_of_ble_eq_true rfl) g1 rfl (t_56 e66) ?_
                  refine en_aload rfl rfl ?_
                  refine ec_getI (ci := 3) (j := 8) ⟨rfl, rfl, rfl⟩ g1 rfl ?_
                  rcases gi h with ⟨c67, h⟩ | ⟨c67, h⟩
                  · refine en_if_eq_t c67 rfl ?_
                    refine en_aload rfl rfl ?_
                    refine ec_getI (ci := 3) (j := 11) ⟨rfl, rfl, rfl⟩ g1 rfl ?_
                    rcases gi h with ⟨c68, h⟩ | ⟨c68, h⟩
                    · refine en_if_ne_t c68 rfl ?_
                      cases h
                      exact en_vret rfl
                    · refine en_if_ne_f c68 rfl ?_
                      refine en_aload rfl rfl ?_
                      refine en_iload rfl rfl ?_
                      obtain ⟨⟨q69, C70⟩, e71, h⟩ := gb h
                      dsimp only at h
                      refine ec_callV0 (k' := 57) (n := 2) (rc := 3) (a := a0) (as := [.int (cI C a0 9)]) ⟨rfl, rfl⟩ rfl rfl (Nat.le_of_ble_eq_true rfl) (Nat.le_of_ble_eq_true rfl) (Nat.le_of_ble_eq_true rfl) g1 rfl (t_57 e71) ?_
                      cases h
                      exact en_vret rfl
                  · refine en_if_eq_f c67 rfl ?_
                    refine en_aload rfl rfl ?_
                    refine en_dup rfl rfl ?_
                    refine ec_getI (ci := 3) (j := 9) ⟨rfl, rfl, rfl⟩ g1 rfl ?_
                    refine ec_iconst cst_1 rfl ?_
                    refine en_iadd rfl ?_
                    refine ec_putI (ci := 3) (j := 9) ⟨rfl, rfl, rfl⟩ g1 rfl ?_
                    refine en_goto rfl ?_
                    cases h
                    exact en_vret rfl
            · refine en_if_ne_f c48 rfl ?_
              cases h
              exact en_vret rfl
        · refine en_icmp_eq_f c5 rfl ?_
          refine en_aload rfl rfl ?_
          obtain ⟨r72, e73, h⟩ := gb h
          refine ec_getP (ci := 3) (j := 7) ⟨rfl, rfl, rfl⟩ g1 e73 rfl ?_
          obtain ⟨g74, h⟩ := gd h
          refine ec_getI (ci := 8) (j := 2) ⟨rfl, rfl, rfl⟩ g74 rfl ?_
          refine ec_iconst cst_2 rfl ?_
          rcases gi h with ⟨c75, h⟩ | ⟨c75, h⟩
          · refine en_icmp_ne_t c75 rfl ?_
            refine en_aload rfl rfl ?_
            obtain ⟨r76, e77, h⟩ := gb h
            refine ec_getP (ci := 3) (j := 2) ⟨rfl, rfl, rfl⟩ g1 e77 rfl ?_
            refine en_iload rfl rfl ?_
            refine en_iload rfl rfl ?_
            obtain ⟨g78, h⟩ := gd h
            obtain ⟨g79, h⟩ := gd h
            refine ec_iastore g78 g79 rfl ?_
            refine en_aload rfl rfl ?_
            obtain ⟨r80, e81, h⟩ := gb h
            refine ec_getP (ci := 3) (j := 3) ⟨rfl, rfl, rfl⟩ g1 e81 rfl ?_
            refine en_iload rfl rfl ?_
            refine en_iload rfl rfl ?_
            obtain ⟨g82, h⟩ := gd h
            obtain ⟨g83, h⟩ := gd h
            refine ec_iastore g82 g83 rfl ?_
            refine en_aload rfl rfl ?_
            refine ec_getI (ci := 3) (j := 8) ⟨rfl, rfl, rfl⟩ g1 rfl ?_
            refine ec_iconst cst_1 rfl ?_
            rcases gi h with ⟨c84, h⟩ | ⟨c84, h⟩
            · refine en_icmp_eq_t c84 rfl ?_
              refine en_aload rfl rfl ?_
              refine ec_getI (ci := 3) (j := 8) ⟨rfl, rfl, rfl⟩ g1 rfl ?_
              rcases gi h with ⟨c85, h⟩ | ⟨c85, h⟩
              · refine en_if_eq_t c85 rfl ?_
                refine en_aload rfl rfl ?_
                refine en_iload rfl rfl ?_
                obtain ⟨⟨q86, C87⟩, e88, h⟩ := gb h
                dsimp only at h
                refine ec_callV0 (k' := 56) (n := 2) (rc := 3) (a := a0) (as := [.int (cI C a0 9)]) ⟨rfl, rfl⟩ rfl rfl (Nat.le_of_ble_eq_true rfl) (Nat.le_of_ble_eq_true rfl) (Nat.le_of_ble_eq_true rfl) g1 rfl (t_56 e88) ?_
                refine en_aload rfl rfl ?_
                refine ec_getI (ci := 3) (j := 8) ⟨rfl, rfl, rfl⟩ g1 rfl ?_
                rcases gi h with ⟨c89, h⟩ | ⟨c89, h⟩
                · refine en_if_eq_t c89 rfl ?_
                  refine en_aload rfl rfl ?_
                  refine ec_getI (ci := 3) (j := 11) ⟨rfl, rfl, rfl⟩ g1 rfl ?_
                  rcases gi h with ⟨c90, h⟩ | ⟨c90, h⟩
                  · refine en_if_ne_t c90 rfl ?_
                    cases h
                    exact en_vret rfl
                  · refine en_if_ne_f c90 rfl ?_
                    refine en_aload rfl rfl ?_
                    refine en_iload rfl rfl ?_
                    obtain ⟨⟨q91, C92⟩, e93, h⟩ := gb h
                    dsimp only at h
                    refine ec_callV0 (k' := 57) (n := 2) (rc := 3) (a := a0) (as := [.int (cI C a0 9)]) ⟨rfl, rfl⟩ rfl rfl (Nat.le_of_ble_eq_true rfl) (Nat.le_of_ble_eq_true rfl) (Nat.le_of_ble_eq_true rfl) g1 rfl (t_57 e93) ?_
                    cases h
                    exact en_vret rfl
                · refine en_if_eq_f c89 rfl ?_
                  refine en_aload rfl rfl ?_
                  refine en_dup rfl rfl ?_
                  refine ec_getI (ci := 3) (j := 9) ⟨rfl, rfl, rfl⟩ g1 rfl ?_
                  refine ec_iconst cst_1 rfl ?_
                  refine en_iadd rfl ?_
                  refine ec_putI (ci := 3) (j := 9) ⟨rfl, rfl, rfl⟩ g1 rfl ?_
                  refine en_goto rfl ?_
                  cases h
                  exact en_vret rfl
              · refine en_if_eq_f c85 rfl ?_
                refine en_aload rfl rfl ?_
                refine ec_getI (ci := 3) (j := 8) ⟨rfl, rfl, rfl⟩ g1 rfl ?_
                refine ec_iconst cst_3 rfl ?_
                rcases gi h with ⟨c94, h⟩ | ⟨c94, h⟩
                · refine en_icmp_ne_t c94 rfl ?_
                  refine en_aload rfl rfl ?_
                  refine ec_getI (ci := 3) (j := 8) ⟨rfl, rfl, rfl⟩ g1 rfl ?_
                  rcases gi h with ⟨c95, h⟩ | ⟨c95, h⟩
                  · refine en_if_eq_t c95 rfl ?_
                    refine en_aload rfl rfl ?_
                    refine ec_getI (ci := 3) (j := 11) ⟨rfl, rfl, rfl⟩ g1 rfl ?_
                    rcases gi h with ⟨c96, h⟩ | ⟨c96, h⟩
                    · refine en_if_ne_t c96 rfl ?_
                      cases h
                      exact en_vret rfl
                    · refine en_if_ne_f c96 rfl ?_
                      refine en_aload rfl rfl ?_
                      refine en_iload rfl rfl ?_
                      obtain ⟨⟨q97, C98⟩, e99, h⟩ := gb h
                      dsimp only at h
                      refine ec_callV0 (k' := 57) (n := 2) (rc := 3) (a := a0) (as := [.int (cI C a0 9)]) ⟨rfl, rfl⟩ rfl rfl (Nat.le_of_ble_eq_true rfl) (Nat.le_of_ble_eq_true rfl) (Nat.le_of_ble_eq_true rfl) g1 rfl (t_57 e99) ?_
                      cases h
                      exact en_vret rfl
                  · refine en_if_eq_f c95 rfl ?_
                    refine en_aload rfl rfl ?_
                    refine en_dup rfl rfl ?_
                    refine ec_getI (ci := 3) (j := 9) ⟨rfl, rfl, rfl⟩ g1 rfl ?_
                    refine ec_iconst cst_1 rfl ?_
                    refine en_iadd rfl ?_
                    refine ec_putI (ci := 3) (j := 9) ⟨rfl, rfl, rfl⟩ g1 rfl ?_
                    refine en_goto rfl ?_
                    cases h
                    exact en_vret rfl
                · refine en_icmp_ne_f c94 rfl ?_
                  refine en_aload rfl rfl ?_
                  refine en_iload rfl rfl ?_
                  obtain ⟨⟨q100, C101⟩, e102, h⟩ := gb h
                  dsimp only at h
                  refine ec_callV0 (k' := 56) (n := 2) (rc := 3) (a := a0) (as := [.int (cI C a0 9)]) ⟨rfl, rfl⟩ rfl rfl (Nat.le_of_ble_eq_true rfl) (Nat.le_of_ble_eq_true rfl) (Nat.le_of_ble_eq_true rfl) g1 rfl (t_56 e102) ?_
                  refine en_aload rfl rfl ?_
                  refine ec_getI (ci := 3) (j := 8) ⟨rfl, rfl, rfl⟩ g1 rfl ?_
                  rcases gi h with ⟨c103, h⟩ | ⟨c103, h⟩
                  · refine en_if_eq_t c103 rfl ?_
                    refine en_aload rfl rfl ?_
                    refine ec_getI (ci := 3) (j := 11) ⟨rfl, rfl, rfl⟩ g1 rfl ?_
                    rcases gi h with ⟨c104, h⟩ | ⟨c104, h⟩
                    · refine en_if_ne_t c104 rfl ?_
                      cases h
                      exact en_vret rfl
                    · refine en_if_ne_f c104 rfl ?_
                      refine en_aload rfl rfl ?_
                      refine en_iload rfl rfl ?_
                      obtain ⟨⟨q105, C106⟩, e107, h⟩ := gb h
                      dsimp only at h
                      refine ec_callV0 (k' := 57) (n := 2) (rc := 3) (a := a0) (as := [.int (cI C a0 9)]) ⟨rfl, rfl⟩ rfl rfl (Nat.le_of_ble_eq_true rfl) (Nat.le_of_ble_eq_true rfl) (Nat.le_of_ble_eq_true rfl) g1 rfl (t_57 e107) ?_
                      cases h
                      exact en_vret rfl
                  · refine en_if_eq_f c103 rfl ?_
                    refine en_aload rfl rfl ?_
                    refine en_dup rfl rfl ?_
                    refine ec_getI (ci := 3) (j := 9) ⟨rfl, rfl, rfl⟩ g1 rfl ?_
                    refine ec_iconst cst_1 rfl ?_
                    refine en_iadd rfl ?_
                    refine ec_putI (ci := 3) (j := 9) ⟨rfl, rfl, rfl⟩ g1 rfl ?_
                    refine en_goto rfl ?_
                    cases h
                    exact en_vret rfl
            · refine en_icmp_eq_f c84 rfl ?_
              refine en_aload rfl rfl ?_
              obtain ⟨r108, e109, h⟩ := gb h
              refine ec_getP (ci := 3) (j := 6) ⟨rfl, rfl, rfl⟩ g1 e109 rfl ?_
              refine en_aload rfl rfl ?_
              obtain ⟨r110, e111, h⟩ := gb h
              refine ec_getP (ci := 3) (j := 7) ⟨rfl, rfl, rfl⟩ g1 e111 rfl ?_
              refine en_aload rfl rfl ?_
              obtain ⟨r112, e113, h⟩ := gb h
              refine ec_getP (ci := 3) (j := 0) ⟨rfl, rfl, rfl⟩ g1 e113 rfl ?_
              refine en_iload rfl rfl ?_
              obtain ⟨g114, h⟩ := gd h
              obtain ⟨⟨q115, C116⟩, e117, h⟩ := gb h
              dsimp only at h
              refine ec_callV1 (k' := 103) (n := 4) (rc := 6) (a := r108) (as := [.ref r110, .ref r112, .int a1]) ⟨rfl, rfl⟩ rfl rfl (Nat.le_of_ble_eq_true rfl) (Nat.le_of_ble_eq_true rfl) (Nat.le_of_ble_eq_true rfl) g114 rfl (t_103 e117) ?_
              rcases gi h with ⟨c118, h⟩ | ⟨c118, h⟩
              · refine en_if_ne_t c118 rfl ?_
                refine en_aload rfl rfl ?_
                refine ec_getI (ci := 3) (j := 8) ⟨rfl, rfl, rfl⟩ g1 rfl ?_
                rcases gi h with ⟨c119, h⟩ | ⟨c119, h⟩
                · refine en_if_eq_t c119 rfl ?_
                  refine en_aload rfl rfl ?_
                  refine en_iload rfl rfl ?_
                  obtain ⟨⟨q120, C121⟩, e122, h⟩ := gb h
                  dsimp only at h
                  refine ec_callV0 (k' := 56) (n := 2) (rc := 3) (a := a0) (as := [.int (cI C a0 9)]) ⟨rfl, rfl⟩ rfl rfl (Nat.le_of_ble_eq_true rfl) (Nat.le_of_ble_eq_true rfl) (Nat.le_of_ble_eq_true rfl) g1 rfl (t_56 e122) ?_
                  refine en_aload rfl rfl ?_
                  refine ec_getI (ci := 3) (j := 8) ⟨rfl, rfl, rfl⟩ g1 rfl ?_
                  rcases gi h with ⟨c123, h⟩ | ⟨c123, h⟩
                  · refine en_if_eq_t c123 rfl ?_
                    refine en_aload rfl rfl ?_
                    refine ec_getI (ci := 3) (j := 11) ⟨rfl, rfl, rfl⟩ g1 rfl ?_
                    rcases gi h with ⟨c124, h⟩ | ⟨c124, h⟩
                    · refine en_if_ne_t c124 rfl ?_
                      cases h
                      exact en_vret rfl
                    · refine en_if_ne_f c124 rfl ?_
                      refine en_aload rfl rfl ?_
                      refine en_iload rfl rfl ?_
                      obtain ⟨⟨q125, C126⟩, e127, h⟩ := gb h
                      dsimp only at h
                      refine ec_callV0 (k' := 57) (n := 2) (rc := 3) (a := a0) (as := [.int (cI C a0 9)]) ⟨rfl, rfl⟩ rfl rfl (Nat.le_of_ble_eq_true rfl) (Nat.le_of_ble_eq_true rfl) (Nat.le_of_ble_eq_true rfl) g1 rfl (t_57 e127) ?_
                      cases h
                      exact en_vret rfl
                  · refine en_if_eq_f c123 rfl ?_
                    refine en_aload rfl rfl ?_
                    refine en_dup rfl rfl ?_
                    refine ec_getI (ci := 3) (j := 9) ⟨rfl, rfl, rfl⟩ g1 rfl ?_
                    refine ec_iconst cst_1 rfl ?_
                    refine en_iadd rfl ?_
                    refine ec_putI (ci := 3) (j := 9) ⟨rfl, rfl, rfl⟩ g1 rfl ?_
                    refine en_goto rfl ?_
                    cases h
                    exact en_vret rfl
                · refine en_if_eq_f c119 rfl ?_
                  refine en_aload rfl rfl ?_
                  refine ec_getI (ci := 3) (j := 8) ⟨rfl, rfl, rfl⟩ g1 rfl ?_
                  refine ec_iconst cst_3 rfl ?_
                  rcases gi h with ⟨c128, h⟩ | ⟨c128, h⟩
                  · refine en_icmp_ne_t c128 rfl ?_
                    refine en_aload rfl rfl ?_
                    refine ec_getI (ci := 3) (j := 8) ⟨rfl, rfl, rfl⟩ g1 rfl ?_
                    rcases gi h with ⟨c129, h⟩ | ⟨c129, h⟩
                    · refine en_if_eq_t c129 rfl ?_
                      refine en_aload rfl rfl ?_
                      refine ec_getI (ci := 3) (j := 11) ⟨rfl, rfl, rfl⟩ g1 rfl ?_
                      rcases gi h with ⟨c130, h⟩ | ⟨c130, h⟩
                      · refine en_if_ne_t c130 rfl ?_
                        cases h
                        exact en_vret rfl
                      · refine en_if_ne_f c130 rfl ?_
                        refine en_aload rfl rfl ?_
                        refine en_iload rfl rfl ?_
                        obtain ⟨⟨q131, C132⟩, e133, h⟩ := gb h
                        dsimp only at h
                        refine ec_callV0 (k' := 57) (n := 2) (rc := 3) (a := a0) (as := [.int (cI C a0 9)]) ⟨rfl, rfl⟩ rfl rfl (Nat.le_of_ble_eq_true rfl) (Nat.le_of_ble_eq_true rfl) (Nat.le_of_ble_eq_true rfl) g1 rfl (t_57 e133) ?_
                        cases h
                        exact en_vret rfl
                    · refine en_if_eq_f c129 rfl ?_
                      refine en_aload rfl rfl ?_
                      refine en_dup rfl rfl ?_
                      refine ec_getI (ci := 3) (j := 9) ⟨rfl, rfl, rfl⟩ g1 rfl ?_
                      refine ec_iconst cst_1 rfl ?_
                      refine en_iadd rfl ?_
                      refine ec_putI (ci := 3) (j := 9) ⟨rfl, rfl, rfl⟩ g1 rfl ?_
                      refine en_goto rfl ?_
                      cases h
                      exact en_vret rfl
                  · refine en_icmp_ne_f c128 rfl ?_
                    refine en_aload rfl rfl ?_
                    refine en_iload rfl rfl ?_
                    obtain ⟨⟨q134, C135⟩, e136, h⟩ := gb h
                    dsimp only at h
                    refine ec_callV0 (k' := 56) (n := 2) (rc := 3) (a := a0) (as := [.int (cI C a0 9)]) ⟨rfl, rfl⟩ rfl rfl (Nat.le_of_ble_eq_true rfl) (Nat.le_of_ble_eq_true rfl) (Nat.le_of_ble_eq_true rfl) g1 rfl (t_56 e136) ?_
                    refine en_aload rfl rfl ?_
                    refine ec_getI (ci := 3) (j := 8) ⟨rfl, rfl, rfl⟩ g1 rfl ?_
                    rcases gi h with ⟨c137, h⟩ | ⟨c137, h⟩
                    · refine en_if_eq_t c137 rfl ?_
                      refine en_aload rfl rfl ?_
                      refine ec_getI (ci := 3) (j := 11) ⟨rfl, rfl, rfl⟩ g1 rfl ?_
                      rcases gi h with ⟨c138, h⟩ | ⟨c138, h⟩
                      · refine en_if_ne_t c138 rfl ?_
                        cases h
                        exact en_vret rfl
                      · refine en_if_ne_f c138 rfl ?_
                        refine en_aload rfl rfl ?_
                        refine en_iload rfl rfl ?_
                        obtain ⟨⟨q139, C140⟩, e141, h⟩ := gb h
                        dsimp only at h
                        refine ec_callV0 (k' := 57) (n := 2) (rc := 3) (a := a0) (as := [.int (cI C a0 9)]) ⟨rfl, rfl⟩ rfl rfl (Nat.le_of_ble_eq_true rfl) (Nat.le_of_ble_eq_true rfl) (Nat.le_of_ble_eq_true rfl) g1 rfl (t_57 e141) ?_
                        cases h
                        exact en_vret rfl
                    · refine en_if_eq_f c137 rfl ?_
                      refine en_aload rfl rfl ?_
                      refine en_dup rfl rfl ?_
                      refine ec_getI (ci := 3) (j := 9) ⟨rfl, rfl, rfl⟩ g1 rfl ?_
                      refine ec_iconst cst_1 rfl ?_
                      refine en_iadd rfl ?_
                      refine ec_putI (ci := 3) (j := 9) ⟨rfl, rfl, rfl⟩ g1 rfl ?_
                      refine en_goto rfl ?_
                      cases h
                      exact en_vret rfl
              · refine en_if_ne_f c118 rfl ?_
                cases h
                exact en_vret rfl
          · refine en_icmp_ne_f c75 rfl ?_
            cases h
            exact en_vret rfl
  · refine en_if_ne_f c2 rfl ?_
    refine ec_iconst cst_0 rfl ?_
    refine en_goto rfl ?_
    refine en_istore (l' := [(3, .int (0 : Int32)), (0, .ref a0), (1, .int a1), (2, .int a2)]) rfl rfl ?_
    refine en_iload rfl rfl ?_
    refine en_if_lt_f (by decide) rfl ?_
    refine en_iload rfl rfl ?_
    refine ec_iconst cst_40 rfl ?_
    refine en_icmp_ge_f (by decide) rfl ?_
    refine en_iload rfl rfl ?_
    refine ec_iconst cst_m1 rfl ?_
    rcases gi h with ⟨c142, h⟩ | ⟨c142, h⟩
    · refine en_icmp_eq_t c142 rfl ?_
      refine en_aload rfl rfl ?_
      obtain ⟨r143, e144, h⟩ := gb h
      refine ec_getP (ci := 3) (j := 2) ⟨rfl, rfl, rfl⟩ g1 e144 rfl ?_
      refine en_iload rfl rfl ?_
      refine en_iload rfl rfl ?_
      obtain ⟨g145, h⟩ := gd h
      obtain ⟨g146, h⟩ := gd h
      refine ec_iastore g145 g146 rfl ?_
      refine en_aload rfl rfl ?_
      obtain ⟨r147, e148, h⟩ := gb h
      refine ec_getP (ci := 3) (j := 3) ⟨rfl, rfl, rfl⟩ g1 e148 rfl ?_
      refine en_iload rfl rfl ?_
      refine en_iload rfl rfl ?_
      obtain ⟨g149, h⟩ := gd h
      obtain ⟨g150, h⟩ := gd h
      refine ec_iastore g149 g150 rfl ?_
      refine en_aload rfl rfl ?_
      refine ec_getI (ci := 3) (j := 8) ⟨rfl, rfl, rfl⟩ g1 rfl ?_
      refine ec_iconst cst_1 rfl ?_
      rcases gi h with ⟨c151, h⟩ | ⟨c151, h⟩
      · refine en_icmp_eq_t c151 rfl ?_
        refine en_aload rfl rfl ?_
        refine ec_getI (ci := 3) (j := 8) ⟨rfl, rfl, rfl⟩ g1 rfl ?_
        rcases gi h with ⟨c152, h⟩ | ⟨c152, h⟩
        · refine en_if_eq_t c152 rfl ?_
          refine en_aload rfl rfl ?_
          refine en_iload rfl rfl ?_
          obtain ⟨⟨q153, C154⟩, e155, h⟩ := gb h
          dsimp only at h
          refine ec_callV0 (k' := 56) (n := 2) (rc := 3) (a := a0) (as := [.int (0 : Int32)]) ⟨rfl, rfl⟩ rfl rfl (Nat.le_of_ble_eq_true rfl) (Nat.le_of_ble_eq_true rfl) (Nat.le_of_ble_eq_true rfl) g1 rfl (t_56 e155) ?_
          refine en_aload rfl rfl ?_
          refine ec_getI (ci := 3) (j := 8) ⟨rfl, rfl, rfl⟩ g1 rfl ?_
          rcases gi h with ⟨c156, h⟩ | ⟨c156, h⟩
          · refine en_if_eq_t c156 rfl ?_
            refine en_aload rfl rfl ?_
            refine ec_getI (ci := 3) (j := 11) ⟨rfl, rfl, rfl⟩ g1 rfl ?_
            rcases gi h with ⟨c157, h⟩ | ⟨c157, h⟩
            · refine en_if_ne_t c157 rfl ?_
              cases h
              exact en_vret rfl
            · refine en_if_ne_f c157 rfl ?_
              refine en_aload rfl rfl ?_
              refine en_iload rfl rfl ?_
              obtain ⟨⟨q158, C159⟩, e160, h⟩ := gb h
              dsimp only at h
              refine ec_callV0 (k' := 57) (n := 2) (rc := 3) (a := a0) (as := [.int (0 : Int32)]) ⟨rfl, rfl⟩ rfl rfl (Nat.le_of_ble_eq_true rfl) (Nat.le_of_ble_eq_true rfl) (Nat.le_of_ble_eq_true rfl) g1 rfl (t_57 e160) ?_
              cases h
              exact en_vret rfl
          · refine en_if_eq_f c156 rfl ?_
            refine en_aload rfl rfl ?_
            refine en_dup rfl rfl ?_
            refine ec_getI (ci := 3) (j := 9) ⟨rfl, rfl, rfl⟩ g1 rfl ?_
            refine ec_iconst cst_1 rfl ?_
            refine en_iadd rfl ?_
            refine ec_putI (ci := 3) (j := 9) ⟨rfl, rfl, rfl⟩ g1 rfl ?_
            refine en_goto rfl ?_
            cases h
            exact en_vret rfl
        · refine en_if_eq_f c152 rfl ?_
          refine en_aload rfl rfl ?_
          refine ec_getI (ci := 3) (j := 8) ⟨rfl, rfl, rfl⟩ g1 rfl ?_
          refine ec_iconst cst_3 rfl ?_
          rcases gi h with ⟨c161, h⟩ | ⟨c161, h⟩
          · refine en_icmp_ne_t c161 rfl ?_
            refine en_aload rfl rfl ?_
            refine ec_getI (ci := 3) (j := 8) ⟨rfl, rfl, rfl⟩ g1 rfl ?_
            rcases gi h with ⟨c162, h⟩ | ⟨c162, h⟩
            · refine en_if_eq_t c162 rfl ?_
              refine en_aload rfl rfl ?_
              refine ec_getI (ci := 3) (j := 11) ⟨rfl, rfl, rfl⟩ g1 rfl ?_
              rcases gi h with ⟨c163, h⟩ | ⟨c163, h⟩
              · refine en_if_ne_t c163 rfl ?_
                cases h
                exact en_vret rfl
              · refine en_if_ne_f c163 rfl ?_
                refine en_aload rfl rfl ?_
                refine en_iload rfl rfl ?_
                obtain ⟨⟨q164, C165⟩, e166, h⟩ := gb h
                dsimp only at h
                refine ec_callV0 (k' := 57) (n := 2) (rc := 3) (a := a0) (as := [.int (0 : Int32)]) ⟨rfl, rfl⟩ rfl rfl (Nat.le_of_ble_eq_true rfl) (Nat.le_of_ble_eq_true rfl) (Nat.le_of_ble_eq_true rfl) g1 rfl (t_57 e166) ?_
                cases h
                exact en_vret rfl
            · refine en_if_eq_f c162 rfl ?_
              refine en_aload rfl rfl ?_
              refine en_dup rfl rfl ?_
              refine ec_getI (ci := 3) (j := 9) ⟨rfl, rfl, rfl⟩ g1 rfl ?_
              refine ec_iconst cst_1 rfl ?_
              refine en_iadd rfl ?_
              refine ec_putI (ci := 3) (j := 9) ⟨rfl, rfl, rfl⟩ g1 rfl ?_
              refine en_goto rfl ?_
              cases h
              exact en_vret rfl
          · refine en_icmp_ne_f c161 rfl ?_
            refine en_aload rfl rfl ?_
            refine en_iload rfl rfl ?_
            obtain ⟨⟨q167, C168⟩, e169, h⟩ := gb h
            dsimp only at h
            refine ec_callV0 (k' := 56) (n := 2) (rc := 3) (a := a0) (as := [.int (0 : Int32)]) ⟨rfl, rfl⟩ rfl rfl (Nat.le_of_ble_eq_true rfl) (Nat.le_of_ble_eq_true rfl) (Nat.le_of_ble_eq_true rfl) g1 rfl (t_56 e169) ?_
            refine en_aload rfl rfl ?_
            refine ec_getI (ci := 3) (j := 8) ⟨rfl, rfl, rfl⟩ g1 rfl ?_
            rcases gi h with ⟨c170, h⟩ | ⟨c170, h⟩
            · refine en_if_eq_t c170 rfl ?_
              refine en_aload rfl rfl ?_
              refine ec_getI (ci := 3) (j := 11) ⟨rfl, rfl, rfl⟩ g1 rfl ?_
              rcases gi h with ⟨c171, h⟩ | ⟨c171, h⟩
              · refine en_if_ne_t c171 rfl ?_
                cases h
                exact en_vret rfl
              · refine en_if_ne_f c171 rfl ?_
                refine en_aload rfl rfl ?_
                refine en_iload rfl rfl ?_
                obtain ⟨⟨q172, C173⟩, e174, h⟩ := gb h
                dsimp only at h
                refine ec_callV0 (k' := 57) (n := 2) (rc := 3) (a := a0) (as := [.int (0 : Int32)]) ⟨rfl, rfl⟩ rfl rfl (Nat.le_of_ble_eq_true rfl) (Nat.le_of_ble_eq_true rfl) (Nat.le_of_ble_eq_true rfl) g1 rfl (t_57 e174) ?_
                cases h
                exact en_vret rfl
            · refine en_if_eq_f c170 rfl ?_
              refine en_aload rfl rfl ?_
              refine en_dup rfl rfl ?_
              refine ec_getI (ci := 3) (j := 9) ⟨rfl, rfl, rfl⟩ g1 rfl ?_
              refine ec_iconst cst_1 rfl ?_
              refine en_iadd rfl ?_
              refine ec_putI (ci := 3) (j := 9) ⟨rfl, rfl, rfl⟩ g1 rfl ?_
              refine en_goto rfl ?_
              cases h
              exact en_vret rfl
      · refine en_icmp_eq_f c151 rfl ?_
        refine en_aload rfl rfl ?_
        obtain ⟨r175, e176, h⟩ := gb h
        refine ec_getP (ci := 3) (j := 6) ⟨rfl, rfl, rfl⟩ g1 e176 rfl ?_
        refine en_aload rfl rfl ?_
        obtain ⟨r177, e178, h⟩ := gb h
        refine ec_getP (ci := 3) (j := 7) ⟨rfl, rfl, rfl⟩ g1 e178 rfl ?_
        refine en_aload rfl rfl ?_
        obtain ⟨r179, e180, h⟩ := gb h
        refine ec_getP (ci := 3) (j := 0) ⟨rfl, rfl, rfl⟩ g1 e180 rfl ?_
        refine en_iload rfl rfl ?_
        obtain ⟨g181, h⟩ := gd h
        obtain ⟨⟨q182, C183⟩, e184, h⟩ := gb h
        dsimp only at h
        refine ec_callV1 (k' := 103) (n := 4) (rc := 6) (a := r175) (as := [.ref r177, .ref r179, .int a1]) ⟨rfl, rfl⟩ rfl rfl (Nat.le_of_ble_eq_true rfl) (Nat.le_of_ble_eq_true rfl) (Nat.le_of_ble_eq_true rfl) g181 rfl (t_103 e184) ?_
        rcases gi h with ⟨c185, h⟩ | ⟨c185, h⟩
        · refine en_if_ne_t c185 rfl ?_
          refine en_aload rfl rfl ?_
          refine ec_getI (ci := 3) (j := 8) ⟨rfl, rfl, rfl⟩ g1 rfl ?_
          rcases gi h with ⟨c186, h⟩ | ⟨c186, h⟩
          · refine en_if_eq_t c186 rfl ?_
            refine en_aload rfl rfl ?_
            refine en_iload rfl rfl ?_
            obtain ⟨⟨q187, C188⟩, e189, h⟩ := gb h
            dsimp only at h
            refine ec_callV0 (k' := 56) (n := 2) (rc := 3) (a := a0) (as := [.int (0 : Int32)]) ⟨rfl, rfl⟩ rfl rfl (Nat.le_of_ble_eq_true rfl) (Nat.le_of_ble_eq_true rfl) (Nat.le_of_ble_eq_true rfl) g1 rfl (t_56 e189) ?_
            refine en_aload rfl rfl ?_
            refine ec_getI (ci := 3) (j := 8) ⟨rfl, rfl, rfl⟩ g1 rfl ?_
            rcases gi h with ⟨c190, h⟩ | ⟨c190, h⟩
            · refine en_if_eq_t c190 rfl ?_
              refine en_aload rfl rfl ?_
              refine ec_getI (ci := 3) (j := 11) ⟨rfl, rfl, rfl⟩ g1 rfl ?_
              rcases gi h with ⟨c191, h⟩ | ⟨c191, h⟩
              · refine en_if_ne_t c191 rfl ?_
                cases h
                exact en_vret rfl
              · refine en_if_ne_f c191 rfl ?_
                refine en_aload rfl rfl ?_
                refine en_iload rfl rfl ?_
                obtain ⟨⟨q192, C193⟩, e194, h⟩ := gb h
                dsimp only at h
                refine ec_callV0 (k' := 57) (n := 2) (rc := 3) (a := a0) (as := [.int (0 : Int32)]) ⟨rfl, rfl⟩ rfl rfl (Nat.le_of_ble_eq_true rfl) (Nat.le_of_ble_eq_true rfl) (Nat.le_of_ble_eq_true rfl) g1 rfl (t_57 e194) ?_
                cases h
                exact en_vret rfl
            · refine en_if_eq_f c190 rfl ?_
              refine en_aload rfl rfl ?_
              refine en_dup rfl rfl ?_
              refine ec_getI (ci := 3) (j := 9) ⟨rfl, rfl, rfl⟩ g1 rfl ?_
              refine ec_iconst cst_1 rfl ?_
              refine en_iadd rfl ?_
              refine ec_putI (ci := 3) (j := 9) ⟨rfl, rfl, rfl⟩ g1 rfl ?_
              refine en_goto rfl ?_
              cases h
              exact en_vret rfl
          · refine en_if_eq_f c186 rfl ?_
            refine en_aload rfl rfl ?_
            refine ec_getI (ci := 3) (j := 8) ⟨rfl, rfl, rfl⟩ g1 rfl ?_
            refine ec_iconst cst_3 rfl ?_
            rcases gi h with ⟨c195, h⟩ | ⟨c195, h⟩
            · refine en_icmp_ne_t c195 rfl ?_
              refine en_aload rfl rfl ?_
              refine ec_getI (ci := 3) (j := 8) ⟨rfl, rfl, rfl⟩ g1 rfl ?_
              rcases gi h with ⟨c196, h⟩ | ⟨c196, h⟩
              · refine en_if_eq_t c196 rfl ?_
                refine en_aload rfl rfl ?_
                refine ec_getI (ci := 3) (j := 11) ⟨rfl, rfl, rfl⟩ g1 rfl ?_
                rcases gi h with ⟨c197, h⟩ | ⟨c197, h⟩
                · refine en_if_ne_t c197 rfl ?_
                  cases h
                  exact en_vret rfl
                · refine en_if_ne_f c197 rfl ?_
                  refine en_aload rfl rfl ?_
                  refine en_iload rfl rfl ?_
                  obtain ⟨⟨q198, C199⟩, e200, h⟩ := gb h
                  dsimp only at h
                  refine ec_callV0 (k' := 57) (n := 2) (rc := 3) (a := a0) (as := [.int (0 : Int32)]) ⟨rfl, rfl⟩ rfl rfl (Nat.le_of_ble_eq_true rfl) (Nat.le_of_ble_eq_true rfl) (Nat.le_of_ble_eq_true rfl) g1 rfl (t_57 e200) ?_
                  cases h
                  exact en_vret rfl
              · refine en_if_eq_f c196 rfl ?_
                refine en_aload rfl rfl ?_
                refine en_dup rfl rfl ?_
                refine ec_getI (ci := 3) (j := 9) ⟨rfl, rfl, rfl⟩ g1 rfl ?_
                refine ec_iconst cst_1 rfl ?_
                refine en_iadd rfl ?_
                refine ec_putI (ci := 3) (j := 9) ⟨rfl, rfl, rfl⟩ g1 rfl ?_
                refine en_goto rfl ?_
                cases h
                exact en_vret rfl
            · refine en_icmp_ne_f c195 rfl ?_
              refine en_aload rfl rfl ?_
              refine en_iload rfl rfl ?_
              obtain ⟨⟨q201, C202⟩, e203, h⟩ := gb h
              dsimp only at h
              refine ec_callV0 (k' := 56) (n := 2) (rc := 3) (a := a0) (as := [.int (0 : Int32)]) ⟨rfl, rfl⟩ rfl rfl (Nat.le_of_ble_eq_true rfl) (Nat.le_of_ble_eq_true rfl) (Nat.le_of_ble_eq_true rfl) g1 rfl (t_56 e203) ?_
              refine en_aload rfl rfl ?_
              refine ec_getI (ci := 3) (j := 8) ⟨rfl, rfl, rfl⟩ g1 rfl ?_
              rcases gi h with ⟨c204, h⟩ | ⟨c204, h⟩
              · refine en_if_eq_t c204 rfl ?_
                refine en_aload rfl rfl ?_
                refine ec_getI (ci := 3) (j := 11) ⟨rfl, rfl, rfl⟩ g1 rfl ?_
                rcases gi h with ⟨c205, h⟩ | ⟨c205, h⟩
                · refine en_if_ne_t c205 rfl ?_
                  cases h
                  exact en_vret rfl
                · refine en_if_ne_f c205 rfl ?_
                  refine en_aload rfl rfl ?_
                  refine en_iload rfl rfl ?_
                  obtain ⟨⟨q206, C207⟩, e208, h⟩ := gb h
                  dsimp only at h
                  refine ec_callV0 (k' := 57) (n := 2) (rc := 3) (a := a0) (as := [.int (0 : Int32)]) ⟨rfl, rfl⟩ rfl rfl (Nat.le_of_ble_eq_true rfl) (Nat.le_of_ble_eq_true rfl) (Nat.le_of_ble_eq_true rfl) g1 rfl (t_57 e208) ?_
                  cases h
                  exact en_vret rfl
              · refine en_if_eq_f c204 rfl ?_
                refine en_aload rfl rfl ?_
                refine en_dup rfl rfl ?_
                refine ec_getI (ci := 3) (j := 9) ⟨rfl, rfl, rfl⟩ g1 rfl ?_
                refine ec_iconst cst_1 rfl ?_
                refine en_iadd rfl ?_
                refine ec_putI (ci := 3) (j := 9) ⟨rfl, rfl, rfl⟩ g1 rfl ?_
                refine en_goto rfl ?_
                cases h
                exact en_vret rfl
        · refine en_if_ne_f c185 rfl ?_
          cases h
          exact en_vret rfl
    · refine en_icmp_eq_f c142 rfl ?_
      refine en_aload rfl rfl ?_
      obtain ⟨r209, e210, h⟩ := gb h
      refine ec_getP (ci := 3) (j := 7) ⟨rfl, rfl, rfl⟩ g1 e210 rfl ?_
      obtain ⟨g211, h⟩ := gd h
      refine ec_getI (ci := 8) (j := 2) ⟨rfl, rfl, rfl⟩ g211 rfl ?_
      refine ec_iconst cst_2 rfl ?_
      rcases gi h with ⟨c212, h⟩ | ⟨c212, h⟩
      · refine en_icmp_ne_t c212 rfl ?_
        refine en_aload rfl rfl ?_
        obtain ⟨r213, e214, h⟩ := gb h
        refine ec_getP (ci := 3) (j := 2) ⟨rfl, rfl, rfl⟩ g1 e214 rfl ?_
        refine en_iload rfl rfl ?_
        refine en_iload rfl rfl ?_
        obtain ⟨g215, h⟩ := gd h
        obtain ⟨g216, h⟩ := gd h
        refine ec_iastore g215 g216 rfl ?_
        refine en_aload rfl rfl ?_
        obtain ⟨r217, e218, h⟩ := gb h
        refine ec_getP (ci := 3) (j := 3) ⟨rfl, rfl, rfl⟩ g1 e218 rfl ?_
        refine en_iload rfl rfl ?_
        refine en_iload rfl rfl ?_
        obtain ⟨g219, h⟩ := gd h
        obtain ⟨g220, h⟩ := gd h
        refine ec_iastore g219 g220 rfl ?_
        refine en_aload rfl rfl ?_
        refine ec_getI (ci := 3) (j := 8) ⟨rfl, rfl, rfl⟩ g1 rfl ?_
        refine ec_iconst cst_1 rfl ?_
        rcases gi h with ⟨c221, h⟩ | ⟨c221, h⟩
        · refine en_icmp_eq_t c221 rfl ?_
          refine en_aload rfl rfl ?_
          refine ec_getI (ci := 3) (j := 8) ⟨rfl, rfl, rfl⟩ g1 rfl ?_
          rcases gi h with ⟨c222, h⟩ | ⟨c222, h⟩
          · refine en_if_eq_t c222 rfl ?_
            refine en_aload rfl rfl ?_
            refine en_iload rfl rfl ?_
            obtain ⟨⟨q223, C224⟩, e225, h⟩ := gb h
            dsimp only at h
            refine ec_callV0 (k' := 56) (n := 2) (rc := 3) (a := a0) (as := [.int (0 : Int32)]) ⟨rfl, rfl⟩ rfl rfl (Nat.le_of_ble_eq_true rfl) (Nat.le_of_ble_eq_true rfl) (Nat.le_of_ble_eq_true rfl) g1 rfl (t_56 e225) ?_
            refine en_aload rfl rfl ?_
            refine ec_getI (ci := 3) (j := 8) ⟨rfl, rfl, rfl⟩ g1 rfl ?_
            rcases gi h with ⟨c226, h⟩ | ⟨c226, h⟩
            · refine en_if_eq_t c226 rfl ?_
              refine en_aload rfl rfl ?_
              refine ec_getI (ci := 3) (j := 11) ⟨rfl, rfl, rfl⟩ g1 rfl ?_
              rcases gi h with ⟨c227, h⟩ | ⟨c227, h⟩
              · refine en_if_ne_t c227 rfl ?_
                cases h
                exact en_vret rfl
              · refine en_if_ne_f c227 rfl ?_
                refine en_aload rfl rfl ?_
                refine en_iload rfl rfl ?_
                obtain ⟨⟨q228, C229⟩, e230, h⟩ := gb h
                dsimp only at h
                refine ec_callV0 (k' := 57) (n := 2) (rc := 3) (a := a0) (as := [.int (0 : Int32)]) ⟨rfl, rfl⟩ rfl rfl (Nat.le_of_ble_eq_true rfl) (Nat.le_of_ble_eq_true rfl) (Nat.le_of_ble_eq_true rfl) g1 rfl (t_57 e230) ?_
                cases h
                exact en_vret rfl
            · refine en_if_eq_f c226 rfl ?_
              refine en_aload rfl rfl ?_
              refine en_dup rfl rfl ?_
              refine ec_getI (ci := 3) (j := 9) ⟨rfl, rfl, rfl⟩ g1 rfl ?_
              refine ec_iconst cst_1 rfl ?_
              refine en_iadd rfl ?_
              refine ec_putI (ci := 3) (j := 9) ⟨rfl, rfl, rfl⟩ g1 rfl ?_
              refine en_goto rfl ?_
              cases h
              exact en_vret rfl
          · refine en_if_eq_f c222 rfl ?_
            refine en_aload rfl rfl ?_
            refine ec_getI (ci := 3) (j := 8) ⟨rfl, rfl, rfl⟩ g1 rfl ?_
            refine ec_iconst cst_3 rfl ?_
            rcases gi h with ⟨c231, h⟩ | ⟨c231, h⟩
            · refine en_icmp_ne_t c231 rfl ?_
              refine en_aload rfl rfl ?_
              refine ec_getI (ci := 3) (j := 8) ⟨rfl, rfl, rfl⟩ g1 rfl ?_
              rcases gi h with ⟨c232, h⟩ | ⟨c232, h⟩
              · refine en_if_eq_t c232 rfl ?_
                refine en_aload rfl rfl ?_
                refine ec_getI (ci := 3) (j := 11) ⟨rfl, rfl, rfl⟩ g1 rfl ?_
                rcases gi h with ⟨c233, h⟩ | ⟨c233, h⟩
                · refine en_if_ne_t c233 rfl ?_
                  cases h
                  exact en_vret rfl
                · refine en_if_ne_f c233 rfl ?_
                  refine en_aload rfl rfl ?_
                  refine en_iload rfl rfl ?_
                  obtain ⟨⟨q234, C235⟩, e236, h⟩ := gb h
                  dsimp only at h
                  refine ec_callV0 (k' := 57) (n := 2) (rc := 3) (a := a0) (as := [.int (0 : Int32)]) ⟨rfl, rfl⟩ rfl rfl (Nat.le_of_ble_eq_true rfl) (Nat.le_of_ble_eq_true rfl) (Nat.le_of_ble_eq_true rfl) g1 rfl (t_57 e236) ?_
                  cases h
                  exact en_vret rfl
              · refine en_if_eq_f c232 rfl ?_
                refine en_aload rfl rfl ?_
                refine en_dup rfl rfl ?_
                refine ec_getI (ci := 3) (j := 9) ⟨rfl, rfl, rfl⟩ g1 rfl ?_
                refine ec_iconst cst_1 rfl ?_
                refine en_iadd rfl ?_
                refine ec_putI (ci := 3) (j := 9) ⟨rfl, rfl, rfl⟩ g1 rfl ?_
                refine en_goto rfl ?_
                cases h
                exact en_vret rfl
            · refine en_icmp_ne_f c231 rfl ?_
              refine en_aload rfl rfl ?_
              refine en_iload rfl rfl ?_
              obtain ⟨⟨q237, C238⟩, e239, h⟩ := gb h
              dsimp only at h
              refine ec_callV0 (k' := 56) (n := 2) (rc := 3) (a := a0) (as := [.int (0 : Int32)]) ⟨rfl, rfl⟩ rfl rfl (Nat.le_of_ble_eq_true rfl) (Nat.le_of_ble_eq_true rfl) (Nat.le_of_ble_eq_true rfl) g1 rfl (t_56 e239) ?_
              refine en_aload rfl rfl ?_
              refine ec_getI (ci := 3) (j := 8) ⟨rfl, rfl, rfl⟩ g1 rfl ?_
              rcases gi h with ⟨c240, h⟩ | ⟨c240, h⟩
              · refine en_if_eq_t c240 rfl ?_
                refine en_aload rfl rfl ?_
                refine ec_getI (ci := 3) (j := 11) ⟨rfl, rfl, rfl⟩ g1 rfl ?_
                rcases gi h with ⟨c241, h⟩ | ⟨c241, h⟩
                · refine en_if_ne_t c241 rfl ?_
                  cases h
                  exact en_vret rfl
                · refine en_if_ne_f c241 rfl ?_
                  refine en_aload rfl rfl ?_
                  refine en_iload rfl rfl ?_
                  obtain ⟨⟨q242, C243⟩, e244, h⟩ := gb h
                  dsimp only at h
                  refine ec_callV0 (k' := 57) (n := 2) (rc := 3) (a := a0) (as := [.int (0 : Int32)]) ⟨rfl, rfl⟩ rfl rfl (Nat.le_of_ble_eq_true rfl) (Nat.le_of_ble_eq_true rfl) (Nat.le_of_ble_eq_true rfl) g1 rfl (t_57 e244) ?_
                  cases h
                  exact en_vret rfl
              · refine en_if_eq_f c240 rfl ?_
                refine en_aload rfl rfl ?_
                refine en_dup rfl rfl ?_
                refine ec_getI (ci := 3) (j := 9) ⟨rfl, rfl, rfl⟩ g1 rfl ?_
                refine ec_iconst cst_1 rfl ?_
                refine en_iadd rfl ?_
                refine ec_putI (ci := 3) (j := 9) ⟨rfl, rfl, rfl⟩ g1 rfl ?_
                refine en_goto rfl ?_
                cases h
                exact en_vret rfl
        · refine en_icmp_eq_f c221 rfl ?_
          refine en_aload rfl rfl ?_
          obtain ⟨r245, e246, h⟩ := gb h
          refine ec_getP (ci := 3) (j := 6) ⟨rfl, rfl, rfl⟩ g1 e246 rfl ?_
          refine en_aload rfl rfl ?_
          obtain ⟨r247, e248, h⟩ := gb h
          refine ec_getP (ci := 3) (j := 7) ⟨rfl, rfl, rfl⟩ g1 e248 rfl ?_
          refine en_aload rfl rfl ?_
          obtain ⟨r249, e250, h⟩ := gb h
          refine ec_getP (ci := 3) (j := 0) ⟨rfl, rfl, rfl⟩ g1 e250 rfl ?_
          refine en_iload rfl rfl ?_
          obtain ⟨g251, h⟩ := gd h
          obtain ⟨⟨q252, C253⟩, e254, h⟩ := gb h
          dsimp only at h
          refine ec_callV1 (k' := 103) (n := 4) (rc := 6) (a := r245) (as := [.ref r247, .ref r249, .int a1]) ⟨rfl, rfl⟩ rfl rfl (Nat.le_of_ble_eq_true rfl) (Nat.le_of_ble_eq_true rfl) (Nat.le_of_ble_eq_true rfl) g251 rfl (t_103 e254) ?_
          rcases gi h with ⟨c255, h⟩ | ⟨c255, h⟩
          · refine en_if_ne_t c255 rfl ?_
            refine en_aload rfl rfl ?_
            refine ec_getI (ci := 3) (j := 8) ⟨rfl, rfl, rfl⟩ g1 rfl ?_
            rcases gi h with ⟨c256, h⟩ | ⟨c256, h⟩
            · refine en_if_eq_t c256 rfl ?_
              refine en_aload rfl rfl ?_
              refine en_iload rfl rfl ?_
              obtain ⟨⟨q257, C258⟩, e259, h⟩ := gb h
              dsimp only at h
              refine ec_callV0 (k' := 56) (n := 2) (rc := 3) (a := a0) (as := [.int (0 : Int32)]) ⟨rfl, rfl⟩ rfl rfl (Nat.le_of_ble_eq_true rfl) (Nat.le_of_ble_eq_true rfl) (Nat.le_of_ble_eq_true rfl) g1 rfl (t_56 e259) ?_
              refine en_aload rfl rfl ?_
              refine ec_getI (ci := 3) (j := 8) ⟨rfl, rfl, rfl⟩ g1 rfl ?_
              rcases gi h with ⟨c260, h⟩ | ⟨c260, h⟩
              · refine en_if_eq_t c260 rfl ?_
                refine en_aload rfl rfl ?_
                refine ec_getI (ci := 3) (j := 11) ⟨rfl, rfl, rfl⟩ g1 rfl ?_
                rcases gi h with ⟨c261, h⟩ | ⟨c261, h⟩
                · refine en_if_ne_t c261 rfl ?_
                  cases h
                  exact en_vret rfl
                · refine en_if_ne_f c261 rfl ?_
                  refine en_aload rfl rfl ?_
                  refine en_iload rfl rfl ?_
                  obtain ⟨⟨q262, C263⟩, e264, h⟩ := gb h
                  dsimp only at h
                  refine ec_callV0 (k' := 57) (n := 2) (rc := 3) (a := a0) (as := [.int (0 : Int32)]) ⟨rfl, rfl⟩ rfl rfl (Nat.le_of_ble_eq_true rfl) (Nat.le_of_ble_eq_true rfl) (Nat.le_of_ble_eq_true rfl) g1 rfl (t_57 e264) ?_
                  cases h
                  exact en_vret rfl
              · refine en_if_eq_f c260 rfl ?_
                refine en_aload rfl rfl ?_
                refine en_dup rfl rfl ?_
                refine ec_getI (ci := 3) (j := 9) ⟨rfl, rfl, rfl⟩ g1 rfl ?_
                refine ec_iconst cst_1 rfl ?_
                refine en_iadd rfl ?_
                refine ec_putI (ci := 3) (j := 9) ⟨rfl, rfl, rfl⟩ g1 rfl ?_
                refine en_goto rfl ?_
                cases h
                exact en_vret rfl
            · refine en_if_eq_f c256 rfl ?_
              refine en_aload rfl rfl ?_
              refine ec_getI (ci := 3) (j := 8) ⟨rfl, rfl, rfl⟩ g1 rfl ?_
              refine ec_iconst cst_3 rfl ?_
              rcases gi h with ⟨c265, h⟩ | ⟨c265, h⟩
              · refine en_icmp_ne_t c265 rfl ?_
                refine en_aload rfl rfl ?_
                refine ec_getI (ci := 3) (j := 8) ⟨rfl, rfl, rfl⟩ g1 rfl ?_
                rcases gi h with ⟨c266, h⟩ | ⟨c266, h⟩
                · refine en_if_eq_t c266 rfl ?_
                  refine en_aload rfl rfl ?_
                  refine ec_getI (ci := 3) (j := 11) ⟨rfl, rfl, rfl⟩ g1 rfl ?_
                  rcases gi h with ⟨c267, h⟩ | ⟨c267, h⟩
                  · refine en_if_ne_t c267 rfl ?_
                    cases h
                    exact en_vret rfl
                  · refine en_if_ne_f c267 rfl ?_
                    refine en_aload rfl rfl ?_
                    refine en_iload rfl rfl ?_
                    obtain ⟨⟨q268, C269⟩, e270, h⟩ := gb h
                    dsimp only at h
                    refine ec_callV0 (k' := 57) (n := 2) (rc := 3) (a := a0) (as := [.int (0 : Int32)]) ⟨rfl, rfl⟩ rfl rfl (Nat.le_of_ble_eq_true rfl) (Nat.le_of_ble_eq_true rfl) (Nat.le_of_ble_eq_true rfl) g1 rfl (t_57 e270) ?_
                    cases h
                    exact en_vret rfl
                · refine en_if_eq_f c266 rfl ?_
                  refine en_aload rfl rfl ?_
                  refine en_dup rfl rfl ?_
                  refine ec_getI (ci := 3) (j := 9) ⟨rfl, rfl, rfl⟩ g1 rfl ?_
                  refine ec_iconst cst_1 rfl ?_
                  refine en_iadd rfl ?_
                  refine ec_putI (ci := 3) (j := 9) ⟨rfl, rfl, rfl⟩ g1 rfl ?_
                  refine en_goto rfl ?_
                  cases h
                  exact en_vret rfl
              · refine en_icmp_ne_f c265 rfl ?_
                refine en_aload rfl rfl ?_
                refine en_iload rfl rfl ?_
                obtain ⟨⟨q271, C272⟩, e273, h⟩ := gb h
                dsimp only at h
                refine ec_callV0 (k' := 56) (n := 2) (rc := 3) (a := a0) (as := [.int (0 : Int32)]) ⟨rfl, rfl⟩ rfl rfl (Nat.le_of_ble_eq_true rfl) (Nat.le_of_ble_eq_true rfl) (Nat.le_of_ble_eq_true rfl) g1 rfl (t_56 e273) ?_
                refine en_aload rfl rfl ?_
                refine ec_getI (ci := 3) (j := 8) ⟨rfl, rfl, rfl⟩ g1 rfl ?_
                rcases gi h with ⟨c274, h⟩ | ⟨c274, h⟩
                · refine en_if_eq_t c274 rfl ?_
                  refine en_aload rfl rfl ?_
                  refine ec_getI (ci := 3) (j := 11) ⟨rfl, rfl, rfl⟩ g1 rfl ?_
                  rcases gi h with ⟨c275, h⟩ | ⟨c275, h⟩
                  · refine en_if_ne_t c275 rfl ?_
                    cases h
                    exact en_vret rfl
                  · refine en_if_ne_f c275 rfl ?_
                    refine en_aload rfl rfl ?_
                    refine en_iload rfl rfl ?_
                    obtain ⟨⟨q276, C277⟩, e278, h⟩ := gb h
                    dsimp only at h
                    refine ec_callV0 (k' := 57) (n := 2) (rc := 3) (a := a0) (as := [.int (0 : Int32)]) ⟨rfl, rfl⟩ rfl rfl (Nat.le_of_ble_eq_true rfl) (Nat.le_of_ble_eq_true rfl) (Nat.le_of_ble_eq_true rfl) g1 rfl (t_57 e278) ?_
                    cases h
                    exact en_vret rfl
                · refine en_if_eq_f c274 rfl ?_
                  refine en_aload rfl rfl ?_
                  refine en_dup rfl rfl ?_
                  refine ec_getI (ci := 3) (j := 9) ⟨rfl, rfl, rfl⟩ g1 rfl ?_
                  refine ec_iconst cst_1 rfl ?_
                  refine en_iadd rfl ?_
                  refine ec_putI (ci := 3) (j := 9) ⟨rfl, rfl, rfl⟩ g1 rfl ?_
                  refine en_goto rfl ?_
                  cases h
                  exact en_vret rfl
          · refine en_if_ne_f c255 rfl ?_
            cases h
            exact en_vret rfl
      · refine en_icmp_ne_f c212 rfl ?_
        cases h
        exact en_vret rfl
def lp_52_37 : Nat → Nat → Int32 → Int32 → Int32 → Int32 → Int32 → Int32 → AmC → Option (((Nat × Int32 × Int32 × Int32)) × AmC)
  | 0, _, _, _, _, _, _, _, _ => none
  | n + 1, p0, p1, p2, p3, p4, p5, p6, C => (if (100000 : Int32) ≤ p6 then some ((p0, p1, p2, p4), C) else if isK p0 3 = true then (if ¬ (cI C p0 11) = 0 then some ((p0, p1, p2, p4), C) else (if p5 = (-1 : Int32) then some ((p0, p1, p2, p4), C) else (cP C p0 0).bind (fun r38 => (cP C p0 7).bind (fun r40 => if isK r40 8 = true then if isK r38 5 = true then (f_76 n r38 p5 (cI C r40 3) C).bind (fun z => match z with | (q44, C45) => (if ¬ q44 = p3 then (cP C45 p0 1).bind (fun r48 => (cP C45 p0 0).bind (fun r50 => if isK r48 0 = true then (f_5 n r48 r50 C45).bind (fun z => match z with | (q53, C54) => lp_52_37 n p0 p1 p2 p3 p4 q53 (p6 + (1 : Int32)) C54) else none)) else (f_53 n p0 p5 p2 C45).bind (fun z => match z with | (_, C57) => (cP C57 p0 1).bind (fun r59 => (cP C57 p0 0).bind (fun r61 => if isK r59 0 = true then (f_5 n r59 r61 C57).bind (fun z => match z with | (q64, C65) => lp_52_37 n p0 p1 p2 p3 (1 : Int32) q64 (p6 + (1 : Int32)) C65) else none))))) else none else none)))) else none)
set_option maxRecDepth 20000 in
set_option maxHeartbeats 4000000 in
theorem lt_52_37 : ∀ (n : Nat) (p0 : Nat) (p1 : Int32) (p2 : Int32) (p3 : Int32) (p4 : Int32) (p5 : Int32) (p6 : Int32) (C : AmC) (r : ((Nat × Int32 × Int32 × Int32)) × AmC), lp_52_37 n p0 p1 p2 p3 p4 p5 p6 C = some r → ∀ (o : AmO) (M' : AmM), (match r with
        | ((w0, w1, w2, w4), C') => En false 52 69 [(0, .ref w0), (1, .int w1), (2, .int w2), (4, .int w4)] [] (mkM C') o M') → En false 52 37 [(0, .ref p0), (1, .int p1), (2, .int p2), (3, .int p3), (4, .int p4), (5, .int p5), (6, .int p6)] [] (mkM C) o M' := by
  intro n
  induction n with
  | zero => intro p0 p1 p2 p3 p4 p5 p6 C r h; cases h
  | succ n ih =>
    intro p0 p1 p2 p3 p4 p5 p6 C r h o M' hk
    unfold lp_52_37 at h
    refine en_iload rfl rfl ?_
    refine ec_iconst cst_100000 rfl ?_
    rcases gi h with ⟨c34, h⟩ | ⟨c34, h⟩
    · refine en_icmp_ge_t c34 rfl ?_
      cases h
      exact en_sub [0, 1, 2, 4] rfl rfl hk
    · refine en_icmp_ge_f c34 rfl ?_
      refine en_aload rfl rfl ?_
      obtain ⟨g35, h⟩ := gd h
      refine ec_getI (ci := 3) (j := 11) ⟨rfl, rfl, rfl⟩ g35 rfl ?_
      rcases gi h with ⟨c36, h⟩ | ⟨c36, h⟩
      · refine en_if_ne_t c36 rfl ?_
        cases h
        exact en_sub [0, 1, 2, 4] rfl rfl hk
      · refine en_if_ne_f c36 rfl ?_
        refine en_iload rfl rfl ?_
        refine ec_iconst cst_m1 rfl ?_
        rcases gi h with ⟨c37, h⟩ | ⟨c37, h⟩
        · refine en_icmp_eq_t c37 rfl ?_
          cases h
          exact en_sub [0, 1, 2, 4] rfl rfl hk
        · refine en_icmp_eq_f c37 rfl ?_
          refine en_aload rfl rfl ?_
          obtain ⟨r38, e39, h⟩ := gb h
          refine ec_getP (ci := 3) (j := 0) ⟨rfl, rfl, rfl⟩ g35 e39 rfl ?_
          refine en_iload rfl rfl ?_
          refine en_aload rfl rfl ?_
          obtain ⟨r40, e41, h⟩ := gb h
          refine ec_getP (ci := 3) (j := 7) ⟨rfl, rfl, rfl⟩ g35 e41 rfl ?_
          obtain ⟨g42, h⟩ := gd h
          refine ec_getI (ci := 8) (j := 3) ⟨rfl, rfl, rfl⟩ g42 rfl ?_
          obtain ⟨g43, h⟩ := gd h
          obtain ⟨⟨q44, C45⟩, e46, h⟩ := gb h
          dsimp only at h
          refine ec_callV1 (k' := 76) (n := 3) (rc := 5) (a := r38) (as := [.int p5, .int (cI C r40 3)]) ⟨rfl, rfl⟩ rfl rfl (Nat.le_of_ble_eq_true rfl) (Nat.le_of_ble_eq_true rfl) (Nat.le_of_ble_eq_true rfl) g43 rfl (t_76 e46) ?_
          refine en_iload rfl rfl ?_
          rcases gi h with ⟨c47, h⟩ | ⟨c47, h⟩
          · refine en_icmp_ne_t c47 rfl ?_
            refine en_aload rfl rfl ?_
            obtain ⟨r48, e49, h⟩ := gb h
            refine ec_getP (ci := 3) (j := 1) ⟨rfl, rfl, rfl⟩ g35 e49 rfl ?_
            refine en_aload rfl rfl ?_
            obtain ⟨r50, e51, h⟩ := gb h
            refine ec_getP (ci := 3) (j := 0) ⟨rfl, rfl, rfl⟩ g35 e51 rfl ?_
            obtain ⟨g52, h⟩ := gd h
            obtain ⟨⟨q53, C54⟩, e55, h⟩ := gb h
            dsimp only at h
            refine ec_callV1 (k' := 5) (n := 2) (rc := 0) (a := r48) (as := [.ref r50]) ⟨rfl, rfl⟩ rfl rfl (Nat.le_of_ble_eq_true rfl) (Nat.le_of_ble_eq_true rfl) (Nat.le_of_ble_eq_true rfl) g52 rfl (t_5 e55) ?_
            refine en_istore (l' := [(5, .int q53), (0, .ref p0), (1, .int p1), (2, .int p2), (3, .int p3), (4, .int p4), (6, .int p6)]) rfl rfl ?_
            refine ec_iinc (l' := [(6, .int (p6 + (1 : Int32))), (5, .int q53), (0, .ref p0), (1, .int p1), (2, .int p2), (3, .int p3), (4, .int p4)]) rfl cst_1 rfl rfl ?_
            refine en_goto rfl ?_
            refine en_sub [2, 3, 4, 5, 6, 1, 0] rfl rfl ?_
            exact ih _ _ _ _ _ _ _ _ _ h o M' hk
          · refine en_icmp_ne_f c47 rfl ?_
            refine ec_iconst cst_1 rfl ?_
            refine en_istore (l' := [(4, .int (1 : Int32)), (0, .ref p0), (1, .int p1), (2, .int p2), (3, .int p3), (5, .int p5), (6, .int p6)]) rfl rfl ?_
            refine en_aload rfl rfl ?_
            refine en_iload rfl rfl ?_
            refine en_iload rfl rfl ?_
            obtain ⟨⟨q56, C57⟩, e58, h⟩ := gb h
            dsimp only at h
            refine ec_callV0 (k' := 53) (n := 3) (rc := 3) (a := p0) (as := [.int p5, .int p2]) ⟨rfl, rfl⟩ rfl rfl (Nat.le_of_ble_eq_true rfl) (Nat.le_of_ble_eq_true rfl) (Nat.le_of_ble_eq_true rfl) g35 rfl (t_53 e58) ?_
            refine en_aload rfl rfl ?_
            obtain ⟨r59, e60, h⟩ := gb h
            refine ec_getP (ci := 3) (j := 1) ⟨rfl, rfl, rfl⟩ g35 e60 rfl ?_
            refine en_aload rfl rfl ?_
            obtain ⟨r61, e62, h⟩ := gb h
            refine ec_getP (ci := 3) (j := 0) ⟨rfl, rfl, rfl⟩ g35 e62 rfl ?_
            obtain ⟨g63, h⟩ := gd h
            obtain ⟨⟨q64, C65⟩, e66, h⟩ := gb h
            dsimp only at h
            refine ec_callV1 (k' := 5) (n := 2) (rc := 0) (a := r59) (as := [.ref r61]) ⟨rfl, rfl⟩ rfl rfl (Nat.le_of_ble_eq_true rfl) (Nat.le_of_ble_eq_true rfl) (Nat.le_of_ble_eq_true rfl) g63 rfl (t_5 e66) ?_
            refine en_istore (l' := [(5, .int q64), (4, .int (1 : Int32)), (0, .ref p0), (1, .int p1), (2, .int p2), (3, .int p3), (6, .int p6)]) rfl rfl ?_
            refine ec_iinc (l' := [(6, .int (p6 + (1 : Int32))), (5, .int q64), (4, .int (1 : Int32)), (0, .ref p0), (1, .int p1), (2, .int p2), (3, .int p3)]) rfl cst_1 rfl rfl ?_
            refine en_goto rfl ?_
            refine en_sub [3, 4, 5, 6, 2, 1, 0] rfl rfl ?_
            exact ih _ _ _ _ _ _ _ _ _ h o M' hk
def lp_52_2 : Nat → Nat → Int32 → Int32 → AmC → Option (((Unit)) × AmC)
  | 0, _, _, _, _ => none
  | n + 1, p0, p1, p2, C => if isK p0 3 = true then (cP C p0 6).bind (fun r2 => if isK r2 6 = true then (if (cI C r2 6) ≤ p2 then some ((), C) else (if ¬ (cI C p0 11) = 0 then some ((), C) else (cP C p0 6).bind (fun r7 => (cP C p0 7).bind (fun r9 => if isK r9 8 = true then if isK r7 6 = true then (f_95 n r7 p2 (cI C r9 4) C).bind (fun z => match z with | (q13, C14) => (cP C14 p0 1).bind (fun r16 => (cP C14 p0 6).bind (fun r18 => (cP C14 p0 7).bind (fun r20 => if isK r16 0 = true then (f_4 n r16 r18 r20 p1 q13 C14).bind (fun z => match z with | (_, C24) => (cP C24 p0 1).bind (fun r26 => (cP C24 p0 0).bind (fun r28 => if isK r26 0 = true then (f_5 n r26 r28 C24).bind (fun z => match z with | (q31, C32) => (lp_52_37 n p0 p1 p2 q13 (0 : Int32) q31 (0 : Int32) C32).bind (fun q => match q with | ((u70, u71, u72, u73), C69) => (if ¬ u73 = 0 then lp_52_2 n u70 u71 (u72 + (1 : Int32)) C69 else if isK u70 3 = true then (cP C69 u70 7).bind (fun r76 => if isK r76 8 = true then (if (cI C69 r76 1) = 0 then lp_52_2 n u70 u71 (u72 + (1 : Int32)) C69 else (if ¬ (cI C69 u70 11) = 0 then lp_52_2 n u70 u71 (u72 + (1 : Int32)) C69 else (f_53 n u70 (-1 : Int32) u72 C69).bind (fun z => match z with | (_, C82) => lp_52_2 n u70 u71 (u72 + (1 : Int32)) C82))) else none) else none))) else none))) else none)))) else none else none)))) else none) else none
set_option maxRecDepth 20000 in
set_option maxHeartbeats 4000000 in
theorem lt_52_2 : ∀ (n : Nat) (p0 : Nat) (p1 : Int32) (p2 : Int32) (C : AmC) (r : ((Unit)) × AmC), lp_52_2 n p0 p1 p2 C = some r → ∀ (o : AmO) (M' : AmM), (match r with
        | (_, C') => En false 52 84 [] [] (mkM C') o M') → En false 52 2 [(0, .ref p0), (1, .int p1), (2, .int p2)] [] (mkM C) o M' := by
  intro n
  induction n with
  | zero => intro p0 p1 p2 C r h; cases h
  | succ n ih =>
    intro p0 p1 p2 C r h o M' hk
    unfold lp_52_2 at h
    refine en_iload rfl rfl ?_
    refine en_aload rfl rfl ?_
    obtain ⟨g1, h⟩ := gd h
    obtain ⟨r2, e3, h⟩ := gb h
    refine ec_getP (ci := 3) (j := 6) ⟨rfl, rfl, rfl⟩ g1 e3 rfl ?_
    obtain ⟨g4, h⟩ := gd h
    refine ec_getI (ci := 6) (j := 6) ⟨rfl, rfl, rfl⟩ g4 rfl ?_
    rcases gi h with ⟨c5, h⟩ | ⟨c5, h⟩
    · refine en_icmp_ge_t c5 rfl ?_
      cases h
      exact en_sub [] rfl rfl hk
    · refine en_icmp_ge_f c5 rfl ?_
      refine en_aload rfl rfl ?_
      refine ec_getI (ci := 3) (j := 11) ⟨rfl, rfl, rfl⟩ g1 rfl ?_
      rcases gi h with ⟨c6, h⟩ | ⟨c6, h⟩
      · refine en_if_ne_t c6 rfl ?_
        cases h
        exact en_sub [] rfl rfl hk
      · refine en_if_ne_f c6 rfl ?_
        refine en_aload rfl rfl ?_
        obtain ⟨r7, e8, h⟩ := gb h
        refine ec_getP (ci := 3) (j := 6) ⟨rfl, rfl, rfl⟩ g1 e8 rfl ?_
        refine en_iload rfl rfl ?_
        refine en_aload rfl rfl ?_
        obtain ⟨r9, e10, h⟩ := gb h
        refine ec_getP (ci := 3) (j := 7) ⟨rfl, rfl, rfl⟩ g1 e10 rfl ?_
        obtain ⟨g11, h⟩ := gd h
        refine ec_getI (ci := 8) (j := 4) ⟨rfl, rfl, rfl⟩ g11 rfl ?_
        obtain ⟨g12, h⟩ := gd h
        obtain ⟨⟨q13, C14⟩, e15, h⟩ := gb h
        dsimp only at h
        refine ec_callV1 (k' := 95) (n := 3) (rc := 6) (a := r7) (as := [.int p2, .int (cI C r9 4)]) ⟨rfl, rfl⟩ rfl rfl (Nat.le_of_ble_eq_true rfl) (Nat.le_of_ble_eq_true rfl) (Nat.le_of_ble_eq_true rfl) g12 rfl (t_95 e15) ?_
        refine en_istore (l' := [(3, .int q13), (0, .ref p0), (1, .int p1), (2, .int p2)]) rfl rfl ?_
        refine ec_iconst cst_0 rfl ?_
        refine en_istore (l' := [(4, .int (0 : Int32)), (3, .int q13), (0, .ref p0), (1, .int p1), (2, .int p2)]) rfl rfl ?_
        refine en_aload rfl rfl ?_
        obtain ⟨r16, e17, h⟩ := gb h
        refine ec_getP (ci := 3) (j := 1) ⟨rfl, rfl, rfl⟩ g1 e17 rfl ?_
        refine en_aload rfl rfl ?_
        obtain ⟨r18, e19, h⟩ := gb h
        refine ec_getP (ci := 3) (j := 6) ⟨rfl, rfl, rfl⟩ g1 e19 rfl ?_
        refine en_aload rfl rfl ?_
        obtain ⟨r20, e21, h⟩ := gb h
        refine ec_getP (ci := 3) (j := 7) ⟨rfl, rfl, rfl⟩ g1 e21 rfl ?_
        refine en_iload rfl rfl ?_
        refine en_iload rfl rfl ?_
        obtain ⟨g22, h⟩ := gd h
        obtain ⟨⟨q23, C24⟩, e25, h⟩ := gb h
        dsimp only at h
        refine ec_callV0 (k' := 4) (n := 5) (rc := 0) (a := r16) (as := [.ref r18, .ref r20, .int p1, .int q13]) ⟨rfl, rfl⟩ rfl rfl (Nat.le_of_ble_eq_true rfl) (Nat.le_of_ble_eq_true rfl) (Nat.le_of_ble_eq_true rfl) g22 rfl (t_4 e25) ?_
        refine en_aload rfl rfl ?_
        obtain ⟨r26, e27, h⟩ := gb h
        refine ec_getP (ci := 3) (j := 1) ⟨rfl, rfl, rfl⟩ g1 e27 rfl ?_
        refine en_aload rfl rfl ?_
        obtain ⟨r28, e29, h⟩ := gb h
        refine ec_getP (ci := 3) (j := 0) ⟨rfl, rfl, rfl⟩ g1 e29 rfl ?_
        obtain ⟨g30, h⟩ := gd h
        obtain ⟨⟨q31, C32⟩, e33, h⟩ := gb h
        dsimp only at h
        refine ec_callV1 (k' := 5) (n := 2) (rc := 0) (a := r26) (as := [.ref r28]) ⟨rfl, rfl⟩ rfl rfl (Nat.le_of_ble_eq_true rfl) (Nat.le_of_ble_eq_true rfl) (Nat.le_of_ble_eq_true rfl) g30 rfl (t_5 e33) ?_
        refine en_istore (l' := [(5, .int q31), (4, .int (0 : Int32)), (3, .int q13), (0, .ref p0), (1, .int p1), (2, .int p2)]) rfl rfl ?_
        refine ec_iconst cst_0 rfl ?_
        refine en_istore (l' := [(6, .int (0 : Int32)), (5, .int q31), (4, .int (0 : Int32)), (3, .int q13), (0, .ref p0), (1, .int p1), (2, .int p2)]) rfl rfl ?_
        obtain ⟨⟨q67, C69⟩, e68, h⟩ := gb h
        refine en_sub [4, 5, 6, 3, 2, 1, 0] rfl rfl (lt_52_37 n _ _ _ _ _ _ _ _ _ e68 o M' ?_)
        obtain ⟨u70, u71, u72, u73⟩ := q67
        dsimp only at h ⊢
        refine en_iload rfl rfl ?_
        rcases gi h with ⟨c74, h⟩ | ⟨c74, h⟩
        · refine en_if_ne_t c74 rfl ?_
          refine ec_iinc (l' := [(2, .int (u72 + (1 : Int32))), (0, .ref u70), (1, .int u71), (4, .int u73)]) rfl cst_1 rfl rfl ?_
          refine en_goto rfl ?_
          refine en_sub [1, 2, 0] rfl rfl ?_
          exact ih _ _ _ _ _ h o M' hk
        · refine en_if_ne_f c74 rfl ?_
          refine en_aload rfl rfl ?_
          obtain ⟨g75, h⟩ := gd h
          obtain ⟨r76, e77, h⟩ := gb h
          refine ec_getP (ci := 3) (j := 7) ⟨rfl, rfl, rfl⟩ g75 e77 rfl ?_
          obtain ⟨g78, h⟩ := gd h
          refine ec_getI (ci := 8) (j := 1) ⟨rfl, rfl, rfl⟩ g78 rfl ?_
          rcases gi h with ⟨c79, h⟩ | ⟨c79, h⟩
          · refine en_if_eq_t c79 rfl ?_
            refine ec_iinc (l' := [(2, .int (u72 + (1 : Int32))), (0, .ref u70), (1, .int u71), (4, .int u73)]) rfl cst_1 rfl rfl ?_
            refine en_goto rfl ?_
            refine en_sub [1, 2, 0] rfl rfl ?_
            exact ih _ _ _ _ _ h o M' hk
          · refine en_if_eq_f c79 rfl ?_
            refine en_aload rfl rfl ?_
            refine ec_getI (ci := 3) (j := 11) ⟨rfl, rfl, rfl⟩ g75 rfl ?_
            rcases gi h with ⟨c80, h⟩ | ⟨c80, h⟩
            · refine en_if_ne_t c80 rfl ?_
              refine ec_iinc (l' := [(2, .int (u72 + (1 : Int32))), (0, .ref u70), (1, .int u71), (4, .int u73)]) rfl cst_1 rfl rfl ?_
              refine en_goto rfl ?_
              refine en_sub [1, 2, 0] rfl rfl ?_
              exact ih _ _ _ _ _ h o M' hk
            · refine en_if_ne_f c80 rfl ?_
              refine en_aload rfl rfl ?_
              refine ec_iconst cst_m1 rfl ?_
              refine en_iload rfl rfl ?_
              obtain ⟨⟨q81, C82⟩, e83, h⟩ := gb h
              dsimp only at h
              refine ec_callV0 (k' := 53) (n := 3) (rc := 3) (a := u70) (as := [.int (-1 : Int32), .int u72]) ⟨rfl, rfl⟩ rfl rfl (Nat.le_of_ble_eq_true rfl) (Nat.le_of_ble_eq_true rfl) (Nat.le_of_ble_eq_true rfl) g75 rfl (t_53 e83) ?_
              refine ec_iinc (l' := [(2, .int (u72 + (1 : Int32))), (0, .ref u70), (1, .int u71), (4, .int u73)]) rfl cst_1 rfl rfl ?_
              refine en_goto rfl ?_
              refine en_sub [1, 2, 0] rfl rfl ?_
              exact ih _ _ _ _ _ h o M' hk
/-- BulkWriter$Pass.readForOthers(I)V -/
def f_52 (n : Nat) (a0 : Nat) (a1 : Int32) (C : AmC) : Option (Unit × AmC) := (lp_52_2 n a0 a1 (0 : Int32) C).bind (fun q => match q with | (_, C86) => some ((), C86))
set_option maxRecDepth 20000 in
set_option maxHeartbeats 4000000 in
theorem t_52 {n : Nat} {a0 : Nat} {a1 : Int32} {C : AmC} {r : Unit} {C' : AmC} (h : f_52 n a0 a1 C = some (r, C')) : En false 52 0 [(0, .ref a0), (1, .int a1)] [] (mkM C) (.inl none) (mkM C') := by
  unfold f_52 at h
  refine ec_iconst cst_0 rfl ?_
  refine en_istore (l' := [(2, .int (0 : Int32)), (0, .ref a0), (1, .int a1)]) rfl rfl ?_
  obtain ⟨⟨q84, C86⟩, e85, h⟩ := gb h
  refine en_sub [1, 2, 0] rfl rfl (lt_52_2 n _ _ _ _ _ e85 _ _ ?_)
  dsimp only at h ⊢
  cases h
  exact en_vret rfl
def lp_51_10 : Nat → Nat → Int32 → AmC → Option (((Unit) ⊕ (Unit)) × AmC)
  | 0, _, _, _ => none
  | n + 1, p0, p2, C => (if (100000 : Int32) ≤ p2 then some ((.inr ()), C) else if isK p0 3 = true then (if ¬ (cI C p0 11) = 0 then some ((.inr ()), C) else (cP C p0 1).bind (fun r15 => (cP C p0 0).bind (fun r17 => if isK r15 0 = true then (f_5 n r15 r17 C).bind (fun z => match z with | (q20, C21) => (if ¬ q20 = (-1 : Int32) then (f_53 n p0 q20 (-1 : Int32) C21).bind (fun z => match z with | (_, C25) => lp_51_10 n p0 (p2 + (1 : Int32)) C25) else some ((.inl ()), C21))) else none))) else none)
set_option maxRecDepth 20000 in
set_option maxHeartbeats 4000000 in
theorem lt_51_10 : ∀ (n : Nat) (p0 : Nat) (p2 : Int32) (C : AmC) (r : ((Unit) ⊕ (Unit)) × AmC), lp_51_10 n p0 p2 C = some r → ∀ (o : AmO) (M' : AmM), (match r with
        | ((.inl _), C') => En false 51 25 [] [] (mkM C') o M'
        | ((.inr _), C') => En false 51 32 [] [] (mkM C') o M') → En false 51 10 [(0, .ref p0), (2, .int p2)] [] (mkM C) o M' := by
  intro n
  induction n with
  | zero => intro p0 p2 C r h; cases h
  | succ n ih =>
    intro p0 p2 C r h o M' hk
    unfold lp_51_10 at h
    refine en_iload rfl rfl ?_
    refine ec_iconst cst_100000 rfl ?_
    rcases gi h with ⟨c12, h⟩ | ⟨c12, h⟩
    · refine en_icmp_ge_t c12 rfl ?_
      cases h
      exact en_sub [] rfl rfl hk
    · refine en_icmp_ge_f c12 rfl ?_
      refine en_aload rfl rfl ?_
      obtain ⟨g13, h⟩ := gd h
      refine ec_getI (ci := 3) (j := 11) ⟨rfl, rfl, rfl⟩ g13 rfl ?_
      rcases gi h with ⟨c14, h⟩ | ⟨c14, h⟩
      · refine en_if_ne_t c14 rfl ?_
        cases h
        exact en_sub [] rfl rfl hk
      · refine en_if_ne_f c14 rfl ?_
        refine en_aload rfl rfl ?_
        obtain ⟨r15, e16, h⟩ := gb h
        refine ec_getP (ci := 3) (j := 1) ⟨rfl, rfl, rfl⟩ g13 e16 rfl ?_
        refine en_aload rfl rfl ?_
        obtain ⟨r17, e18, h⟩ := gb h
        refine ec_getP (ci := 3) (j := 0) ⟨rfl, rfl, rfl⟩ g13 e18 rfl ?_
        obtain ⟨g19, h⟩ := gd h
        obtain ⟨⟨q20, C21⟩, e22, h⟩ := gb h
        dsimp only at h
        refine ec_callV1 (k' := 5) (n := 2) (rc := 0) (a := r15) (as := [.ref r17]) ⟨rfl, rfl⟩ rfl rfl (Nat.le_of_ble_eq_true rfl) (Nat.le_of_ble_eq_true rfl) (Nat.le_of_ble_eq_true rfl) g19 rfl (t_5 e22) ?_
        refine en_istore (l' := [(3, .int q20), (0, .ref p0), (2, .int p2)]) rfl rfl ?_
        refine en_iload rfl rfl ?_
        refine ec_iconst cst_m1 rfl ?_
        rcases gi h with ⟨c23, h⟩ | ⟨c23, h⟩
        · refine en_icmp_ne_t c23 rfl ?_
          refine en_aload rfl rfl ?_
          refine en_iload rfl rfl ?_
          refine ec_iconst cst_m1 rfl ?_
          obtain ⟨⟨q24, C25⟩, e26, h⟩ := gb h
          dsimp only at h
          refine ec_callV0 (k' := 53) (n := 3) (rc := 3) (a := p0) (as := [.int q20, .int (-1 : Int32)]) ⟨rfl, rfl⟩ rfl rfl (Nat.le_of_ble_eq_true rfl) (Nat.le_of_ble_eq_true rfl) (Nat.le_of_ble_eq_true rfl) g13 rfl (t_53 e26) ?_
          refine ec_iinc (l' := [(2, .int (p2 + (1 : Int32))), (3, .int q20), (0, .ref p0)]) rfl cst_1 rfl rfl ?_
          refine en_goto rfl ?_
          refine en_sub [2, 0] rfl rfl ?_
          exact ih _ _ _ _ h o M' hk
        · refine en_icmp_ne_f c23 rfl ?_
          cases h
          exact en_sub [] rfl rfl hk
/-- BulkWriter$Pass.readTable(I)V -/
def f_51 (n : Nat) (a0 : Nat) (a1 : Int32) (C : AmC) : Option (Unit × AmC) := if isK a0 3 = true then (cP C a0 1).bind (fun r2 => (cP C a0 6).bind (fun r4 => (cP C a0 7).bind (fun r6 => if isK r2 0 = true then (f_2 n r2 r4 r6 a1 C).bind (fun z => match z with | (_, C10) => (lp_51_10 n a0 (0 : Int32) C10).bind (fun q => match q with | ((.inl _), C29) => some ((), C29) | ((.inr _), C29) => some ((), C29))) else none))) else none
set_option maxRecDepth 20000 in
set_option maxHeartbeats 4000000 in
theorem t_51 {n : Nat} {a0 : Nat} {a1 : Int32} {C : AmC} {r : Unit} {C' : AmC} (h : f_51 n a0 a1 C = some (r, C')) : En false 51 0 [(0, .ref a0), (1, .int a1)] [] (mkM C) (.inl none) (mkM C') := by
  unfold f_51 at h
  refine en_aload rfl rfl ?_
  obtain ⟨g1, h⟩ := gd h
  obtain ⟨r2, e3, h⟩ := gb h
  refine ec_getP (ci := 3) (j := 1) ⟨rfl, rfl, rfl⟩ g1 e3 rfl ?_
  refine en_aload rfl rfl ?_
  obtain ⟨r4, e5, h⟩ := gb h
  refine ec_getP (ci := 3) (j := 6) ⟨rfl, rfl, rfl⟩ g1 e5 rfl ?_
  refine en_aload rfl rfl ?_
  obtain ⟨r6, e7, h⟩ := gb h
  refine ec_getP (ci := 3) (j := 7) ⟨rfl, rfl, rfl⟩ g1 e7 rfl ?_
  refine en_iload rfl rfl ?_
  obtain ⟨g8, h⟩ := gd h
  obtain ⟨⟨q9, C10⟩, e11, h⟩ := gb h
  dsimp only at h
  refine ec_callV0 (k' := 2) (n := 4) (rc := 0) (a := r2) (as := [.ref r4, .ref r6, .int a1]) ⟨rfl, rfl⟩ rfl rfl (Nat.le_of_ble_eq_true rfl) (Nat.le_of_ble_eq_true rfl) (Nat.le_of_ble_eq_true rfl) g8 rfl (t_2 e11) ?_
  refine ec_iconst cst_0 rfl ?_
  refine en_istore (l' := [(2, .int (0 : Int32)), (0, .ref a0), (1, .int a1)]) rfl rfl ?_
  obtain ⟨⟨q27, C29⟩, e28, h⟩ := gb h
  refine en_sub [1, 0] rfl rfl (lt_51_10 n _ _ _ _ e28 _ _ ?_)
  rcases q27 with ⟨⟩ | ⟨⟩
  · dsimp only at h ⊢
    cases h
    exact en_vret rfl
  · dsimp only at h ⊢
    cases h
    exact en_vret rfl
def lp_54_2 : Nat → Nat → Int32 → AmC → Option (((Unit)) × AmC)
  | 0, _, _, _ => none
  | n + 1, p0, p1, C => if isK p0 3 = true then (if (cI C p0 9) ≤ p1 then some ((), C) else (if (40 : Int32) ≤ p1 then some ((), C) else (if ¬ (cI C p0 11) = 0 then some ((), C) else (cP C p0 2).bind (fun r5 => if isK r5 12 = true then if amIn p1 (aLen r5) = true then (if (cI C r5 (Int32.toNatClampNeg p1)) = (-1 : Int32) then (if ¬ (cI C p0 8) = (1 : Int32) then (if (cI C p0 8) = (3 : Int32) then (if ¬ (cI C p0 11) = 0 then lp_54_2 n p0 (p1 + (1 : Int32)) C else (f_57 n p0 p1 C).bind (fun z => match z with | (_, C14) => lp_54_2 n p0 (p1 + (1 : Int32)) C14)) else (f_56 n p0 p1 C).bind (fun z => match z with | (_, C17) => (if ¬ (cI C17 p0 11) = 0 then lp_54_2 n p0 (p1 + (1 : Int32)) C17 else (f_57 n p0 p1 C17).bind (fun z => match z with | (_, C21) => lp_54_2 n p0 (p1 + (1 : Int32)) C21)))) else (cP C p0 6).bind (fun r23 => (cP C p0 7).bind (fun r25 => (cP C p0 0).bind (fun r27 => if isK r23 6 = true then (f_103 n r23 r25 r27 (cI C r5 (Int32.toNatClampNeg p1)) C).bind (fun z => match z with | (q30, C31) => (if ¬ q30 = 0 then (if (cI C31 p0 8) = (3 : Int32) then (if ¬ (cI C31 p0 11) = 0 then lp_54_2 n p0 (p1 + (1 : Int32)) C31 else (f_57 n p0 p1 C31).bind (fun z => match z with | (_, C37) => lp_54_2 n p0 (p1 + (1 : Int32)) C37)) else (f_56 n p0 p1 C31).bind (fun z => match z with | (_, C40) => (if ¬ (cI C40 p0 11) = 0 then lp_54_2 n p0 (p1 + (1 : Int32)) C40 else (f_57 n p0 p1 C40).bind (fun z => match z with | (_, C44) => lp_54_2 n p0 (p1 + (1 : Int32)) C44)))) else lp_54_2 n p0 (p1 + (1 : Int32)) C31)) else none)))) else (cP C p0 0).bind (fun r46 => if isK r46 5 = true then (f_75 n r46 (cI C r5 (Int32.toNatClampNeg p1)) C).bind (fun z => match z with | (q49, C50) => (if ¬ q49 = 0 then (if ¬ (cI C50 p0 8) = (1 : Int32) then (if (cI C50 p0 8) = (3 : Int32) then (if ¬ (cI C50 p0 11) = 0 then lp_54_2 n p0 (p1 + (1 : Int32)) C50 else (f_57 n p0 p1 C50).bind (fun z => match z with | (_, C57) => lp_54_2 n p0 (p1 + (1 : Int32)) C57)) else (f_56 n p0 p1 C50).bind (fun z => match z with | (_, C60) => (if ¬ (cI C60 p0 11) = 0 then lp_54_2 n p0 (p1 + (1 : Int32)) C60 else (f_57 n p0 p1 C60).bind (fun z => match z with | (_, C64) => lp_54_2 n p0 (p1 + (1 : Int32)) C64)))) else (cP C50 p0 6).bind (fun r66 => (cP C50 p0 7).bind (fun r68 => (cP C50 p0 0).bind (fun r70 => if isK r66 6 = true then (f_103 n r66 r68 r70 (cI C r5 (Int32.toNatClampNeg p1)) C50).bind (fun z => match z with | (q73, C74) => (if ¬ q73 = 0 then (if (cI C74 p0 8) = (3 : Int32) then (if ¬ (cI C74 p0 11) = 0 then lp_54_2 n p0 (p1 + (1 : Int32)) C74 else (f_57 n p0 p1 C74).bind (fun z => match z with | (_, C80) => lp_54_2 n p0 (p1 + (1 : Int32)) C80)) else (f_56 n p0 p1 C74).bind (fun z => match z with | (_, C83) => (if ¬ (cI C83 p0 11) = 0 then lp_54_2 n p0 (p1 + (1 : Int32)) C83 else (f_57 n p0 p1 C83).bind (fun z => match z with | (_, C87) => lp_54_2 n p0 (p1 + (1 : Int32)) C87)))) else lp_54_2 n p0 (p1 + (1 : Int32)) C74)) else none)))) else lp_54_2 n p0 (p1 + (1 : Int32)) C50)) else none)) else none else none)))) else none
set_option maxRecDepth 20000 in
set_option maxHeartbeats 4000000 in
theorem lt_54_2 : ∀ (n : Nat) (p0 : Nat) (p1 : Int32) (C : AmC) (r : ((Unit)) × AmC), lp_54_2 n p0 p1 C = some r → ∀ (o : AmO) (M' : AmM), (match r with
        | (_, C') => En false 54 60 [] [] (mkM C') o M') → En false 54 2 [(0, .ref p0), (1, .int p1)] [] (mkM C) o M' := by
  intro n
  induction n with
  | zero => intro p0 p1 C r h; cases h
  | succ n ih =>
    intro p0 p1 C r h o M' hk
    unfold lp_54_2 at h
    refine en_iload rfl rfl ?_
    refine en_aload rfl rfl ?_
    obtain ⟨g1, h⟩ := gd h
    refine ec_getI (ci := 3) (j := 9) ⟨rfl, rfl, rfl⟩ g1 rfl ?_
    rcases gi h with ⟨c2, h⟩ | ⟨c2, h⟩
    · refine en_icmp_ge_t c2 rfl ?_
      cases h
      exact en_sub [] rfl rfl hk
    · refine en_icmp_ge_f c2 rfl ?_
      refine en_iload rfl rfl ?_
      refine ec_iconst cst_40 rfl ?_
      rcases gi h with ⟨c3, h⟩ | ⟨c3, h⟩
      · refine en_icmp_ge_t c3 rfl ?_
        cases h
        exact en_sub [] rfl rfl hk
      · refine en_icmp_ge_f c3 rfl ?_
        refine en_aload rfl rfl ?_
        refine ec_getI (ci := 3) (j := 11) ⟨rfl, rfl, rfl⟩ g1 rfl ?_
        rcases gi h with ⟨c4, h⟩ | ⟨c4, h⟩
        · refine en_if_ne_t c4 rfl ?_
          cases h
          exact en_sub [] rfl rfl hk
        · refine en_if_ne_f c4 rfl ?_
          refine en_aload rfl rfl ?_
          obtain ⟨r5, e6, h⟩ := gb h
          refine ec_getP (ci := 3) (j := 2) ⟨rfl, rfl, rfl⟩ g1 e6 rfl ?_
          refine en_iload rfl rfl ?_
          obtain ⟨g7, h⟩ := gd h
          obtain ⟨g8, h⟩ := gd h
          refine ec_iaload g7 g8 rfl ?_
          refine en_istore (l' := [(2, .int (cI C r5 (Int32.toNatClampNeg p1))), (0, .ref p0), (1, .int p1)]) rfl rfl ?_
          refine en_iload rfl rfl ?_
          refine ec_iconst cst_m1 rfl ?_
          rcases gi h with ⟨c9, h⟩ | ⟨c9, h⟩
          · refine en_icmp_eq_t c9 rfl ?_
            refine ec_iconst cst_0 rfl ?_
            refine en_istore (l' := [(3, .int (0 : Int32)), (2, .int (cI C r5 (Int32.toNatClampNeg p1))), (0, .ref p0), (1, .int p1)]) rfl rfl ?_
            refine en_iload rfl rfl ?_
            refine en_if_ne_f (by decide) rfl ?_
            refine en_aload rfl rfl ?_
            refine ec_getI (ci := 3) (j := 8) ⟨rfl, rfl, rfl⟩ g1 rfl ?_
            refine ec_iconst cst_1 rfl ?_
            rcases gi h with ⟨c10, h⟩ | ⟨c10, h⟩
            · refine en_icmp_ne_t c10 rfl ?_
              refine en_aload rfl rfl ?_
              refine ec_getI (ci := 3) (j := 8) ⟨rfl, rfl, rfl⟩ g1 rfl ?_
              refine ec_iconst cst_3 rfl ?_
              rcases gi h with ⟨c11, h⟩ | ⟨c11, h⟩
              · refine en_icmp_eq_t c11 rfl ?_
                refine en_aload rfl rfl ?_
                refine ec_getI (ci := 3) (j := 11) ⟨rfl, rfl, rfl⟩ g1 rfl ?_
                rcases gi h with ⟨c12, h⟩ | ⟨c12, h⟩
                · refine en_if_ne_t c12 rfl ?_
                  refine ec_iinc (l' := [(1, .int (p1 + (1 : Int32))), (3, .int (0 : Int32)), (2, .int (cI C r5 (Int32.toNatClampNeg p1))), (0, .ref p0)]) rfl cst_1 rfl rfl ?_
                  refine en_goto rfl ?_
                  refine en_sub [3, 0] rfl rfl ?_
                  exact ih _ _ _ _ h o M' hk
                · refine en_if_ne_f c12 rfl ?_
                  refine en_aload rfl rfl ?_
                  refine en_iload rfl rfl ?_
                  obtain ⟨⟨q13, C14⟩, e15, h⟩ := gb h
                  dsimp only at h
                  refine ec_callV0 (k' := 57) (n := 2) (rc := 3) (a := p0) (as := [.int p1]) ⟨rfl, rfl⟩ rfl rfl (Nat.le_of_ble_eq_true rfl) (Nat.le_of_ble_eq_true rfl) (Nat.le_of_ble_eq_true rfl) g1 rfl (t_57 e15) ?_
                  refine ec_iinc (l' := [(1, .int (p1 + (1 : Int32))), (3, .int (0 : Int32)), (2, .int (cI C r5 (Int32.toNatClampNeg p1))), (0, .ref p0)]) rfl cst_1 rfl rfl ?_
                  refine en_goto rfl ?_
                  refine en_sub [3, 0] rfl rfl ?_
                  exact ih _ _ _ _ h o M' hk
              · refine en_icmp_eq_f c11 rfl ?_
                refine en_aload rfl rfl ?_
                refine en_iload rfl rfl ?_
                obtain ⟨⟨q16, C17⟩, e18, h⟩ := gb h
                dsimp only at h
                refine ec_callV0 (k' := 56) (n := 2) (rc := 3) (a := p0) (as := [.int p1]) ⟨rfl, rfl⟩ rfl rfl (Nat.le_of_ble_eq_true rfl) (Nat.le_of_ble_eq_true rfl) (Nat.le_of_ble_eq_true rfl) g1 rfl (t_56 e18) ?_
                refine en_aload rfl rfl ?_
                refine ec_getI (ci := 3) (j := 11) ⟨rfl, rfl, rfl⟩ g1 rfl ?_
                rcases gi h with ⟨c19, h⟩ | ⟨c19, h⟩
                · refine en_if_ne_t c19 rfl ?_
                  refine ec_iinc (l' := [(1, .int (p1 + (1 : Int32))), (3, .int (0 : Int32)), (2, .int (cI C r5 (Int32.toNatClampNeg p1))), (0, .ref p0)]) rfl cst_1 rfl rfl ?_
                  refine en_goto rfl ?_
                  refine en_sub [3, 0] rfl rfl ?_
                  exact ih _ _ _ _ h o M' hk
                · refine en_if_ne_f c19 rfl ?_
                  refine en_aload rfl rfl ?_
                  refine en_iload rfl rfl ?_
                  obtain ⟨⟨q20, C21⟩, e22, h⟩ := gb h
                  dsimp only at h
                  refine ec_callV0 (k' := 57) (n := 2) (rc := 3) (a := p0) (as := [.int p1]) ⟨rfl, rfl⟩ rfl rfl (Nat.le_of_ble_eq_true rfl) (Nat.le_of_ble_eq_true rfl) (Nat.le_of_ble_eq_true rfl) g1 rfl (t_57 e22) ?_
                  refine ec_iinc (l' := [(1, .int (p1 + (1 : Int32))), (3, .int (0 : Int32)), (2, .int (cI C r5 (Int32.toNatClampNeg p1))), (0, .ref p0)]) rfl cst_1 rfl rfl ?_
                  refine en_goto rfl ?_
                  refine en_sub [3, 0] rfl rfl ?_
                  exact ih _ _ _ _ h o M' hk
            · refine en_icmp_ne_f c10 rfl ?_
              refine en_aload rfl rfl ?_
              obtain ⟨r23, e24, h⟩ := gb h
              refine ec_getP (ci := 3) (j := 6) ⟨rfl, rfl, rfl⟩ g1 e24 rfl ?_
              refine en_aload rfl rfl ?_
              obtain ⟨r25, e26, h⟩ := gb h
              refine ec_getP (ci := 3) (j := 7) ⟨rfl, rfl, rfl⟩ g1 e26 rfl ?_
              refine en_aload rfl rfl ?_
              obtain ⟨r27, e28, h⟩ := gb h
              refine ec_getP (ci := 3) (j := 0) ⟨rfl, rfl, rfl⟩ g1 e28 rfl ?_
              refine en_iload rfl rfl ?_
              obtain ⟨g29, h⟩ := gd h
              obtain ⟨⟨q30, C31⟩, e32, h⟩ := gb h
              dsimp only at h
              refine ec_callV1 (k' := 103) (n := 4) (rc := 6) (a := r23) (as := [.ref r25, .ref r27, .int (cI C r5 (Int32.toNatClampNeg p1))]) ⟨rfl, rfl⟩ rfl rfl (Nat.le_of_ble_eq_true rfl) (Nat.le_of_ble_eq_true rfl) (Nat.le_of_ble_eq_true rfl) g29 rfl (t_103 e32) ?_
              rcases gi h with ⟨c33, h⟩ | ⟨c33, h⟩
              · refine en_if_ne_t c33 rfl ?_
                refine en_aload rfl rfl ?_
                refine ec_getI (ci := 3) (j := 8) ⟨rfl, rfl, rfl⟩ g1 rfl ?_
                refine ec_iconst cst_3 rfl ?_
                rcases gi h with ⟨c34, h⟩ | ⟨c34, h⟩
                · refine en_icmp_eq_t c34 rfl ?_
                  refine en_aload rfl rfl ?_
                  refine ec_getI (ci := 3) (j := 11) ⟨rfl, rfl, rfl⟩ g1 rfl ?_
                  rcases gi h with ⟨c35, h⟩ | ⟨c35, h⟩
                  · refine en_if_ne_t c35 rfl ?_
                    refine ec_iinc (l' := [(1, .int (p1 + (1 : Int32))), (3, .int (0 : Int32)), (2, .int (cI C r5 (Int32.toNatClampNeg p1))), (0, .ref p0)]) rfl cst_1 rfl rfl ?_
                    refine en_goto rfl ?_
                    refine en_sub [3, 0] rfl rfl ?_
                    exact ih _ _ _ _ h o M' hk
                  · refine en_if_ne_f c35 rfl ?_
                    refine en_aload rfl rfl ?_
                    refine en_iload rfl rfl ?_
                    obtain ⟨⟨q36, C37⟩, e38, h⟩ := gb h
                    dsimp only at h
                    refine ec_callV0 (k' := 57) (n := 2) (rc := 3) (a := p0) (as := [.int p1]) ⟨rfl, rfl⟩ rfl rfl (Nat.le_of_ble_eq_true rfl) (Nat.le_of_ble_eq_true rfl) (Nat.le_of_ble_eq_true rfl) g1 rfl (t_57 e38) ?_
                    refine ec_iinc (l' := [(1, .int (p1 + (1 : Int32))), (3, .int (0 : Int32)), (2, .int (cI C r5 (Int32.toNatClampNeg p1))), (0, .ref p0)]) rfl cst_1 rfl rfl ?_
                    refine en_goto rfl ?_
                    refine en_sub [3, 0] rfl rfl ?_
                    exact ih _ _ _ _ h o M' hk
                · refine en_icmp_eq_f c34 rfl ?_
                  refine en_aload rfl rfl ?_
                  refine en_iload rfl rfl ?_
                  obtain ⟨⟨q39, C40⟩, e41, h⟩ := gb h
                  dsimp only at h
                  refine ec_callV0 (k' := 56) (n := 2) (rc := 3) (a := p0) (as := [.int p1]) ⟨rfl, rfl⟩ rfl rfl (Nat.le_of_ble_eq_true rfl) (Nat.le_of_ble_eq_true rfl) (Nat.le_of_ble_eq_true rfl) g1 rfl (t_56 e41) ?_
                  refine en_aload rfl rfl ?_
                  refine ec_getI (ci := 3) (j := 11) ⟨rfl, rfl, rfl⟩ g1 rfl ?_
                  rcases gi h with ⟨c42, h⟩ | ⟨c42, h⟩
                  · refine en_if_ne_t c42 rfl ?_
                    refine ec_iinc (l' := [(1, .int (p1 + (1 : Int32))), (3, .int (0 : Int32)), (2, .int (cI C r5 (Int32.toNatClampNeg p1))), (0, .ref p0)]) rfl cst_1 rfl rfl ?_
                    refine en_goto rfl ?_
                    refine en_sub [3, 0] rfl rfl ?_
                    exact ih _ _ _ _ h o M' hk
                  · refine en_if_ne_f c42 rfl ?_
                    refine en_aload rfl rfl ?_
                    refine en_iload rfl rfl ?_
                    obtain ⟨⟨q43, C44⟩, e45, h⟩ := gb h
                    dsimp only at h
                    refine ec_callV0 (k' := 57) (n := 2) (rc := 3) (a := p0) (as := [.int p1]) ⟨rfl, rfl⟩ rfl rfl (Nat.le_of_ble_eq_true rfl) (Nat.le_of_ble_eq_true rfl) (Nat.le_of_ble_eq_true rfl) g1 rfl (t_57 e45) ?_
                    refine ec_iinc (l' := [(1, .int (p1 + (1 : Int32))), (3, .int (0 : Int32)), (2, .int (cI C r5 (Int32.toNatClampNeg p1))), (0, .ref p0)]) rfl cst_1 rfl rfl ?_
                    refine en_goto rfl ?_
                    refine en_sub [3, 0] rfl rfl ?_
                    exact ih _ _ _ _ h o M' hk
              · refine en_if_ne_f c33 rfl ?_
                refine en_goto rfl ?_
                refine ec_iinc (l' := [(1, .int (p1 + (1 : Int32))), (3, .int (0 : Int32)), (2, .int (cI C r5 (Int32.toNatClampNeg p1))), (0, .ref p0)]) rfl cst_1 rfl rfl ?_
                refine en_goto rfl ?_
                refine en_sub [3, 0] rfl rfl ?_
                exact ih _ _ _ _ h o M' hk
          · refine en_icmp_eq_f c9 rfl ?_
            refine en_aload rfl rfl ?_
            obtain ⟨r46, e47, h⟩ := gb h
            refine ec_getP (ci := 3) (j := 0) ⟨rfl, rfl, rfl⟩ g1 e47 rfl ?_
            refine en_iload rfl rfl ?_
            obtain ⟨g48, h⟩ := gd h
            obtain ⟨⟨q49, C50⟩, e51, h⟩ := gb h
            dsimp only at h
            refine ec_callV1 (k' := 75) (n := 2) (rc := 5) (a := r46) (as := [.int (cI C r5 (Int32.toNatClampNeg p1))]) ⟨rfl, rfl⟩ rfl rfl (Nat.le_of_ble_eq_true rfl) (Nat.le_of_ble_eq_true rfl) (Nat.le_of_ble_eq_true rfl) g48 rfl (t_75 e51) ?_
            rcases gi h with ⟨c52, h⟩ | ⟨c52, h⟩
            · refine en_if_ne_t c52 rfl ?_
              refine ec_iconst cst_0 rfl ?_
              refine en_istore (l' := [(3, .int (0 : Int32)), (2, .int (cI C r5 (Int32.toNatClampNeg p1))), (0, .ref p0), (1, .int p1)]) rfl rfl ?_
              refine en_iload rfl rfl ?_
              refine en_if_ne_f (by decide) rfl ?_
              refine en_aload rfl rfl ?_
              refine ec_getI (ci := 3) (j := 8) ⟨rfl, rfl, rfl⟩ g1 rfl ?_
              refine ec_iconst cst_1 rfl ?_
              rcases gi h with ⟨c53, h⟩ | ⟨c53, h⟩
              · refine en_icmp_ne_t c53 rfl ?_
                refine en_aload rfl rfl ?_
                refine ec_getI (ci := 3) (j := 8) ⟨rfl, rfl, rfl⟩ g1 rfl ?_
                refine ec_iconst cst_3 rfl ?_
                rcases gi h with ⟨c54, h⟩ | ⟨c54, h⟩
                · refine en_icmp_eq_t c54 rfl ?_
                  refine en_aload rfl rfl ?_
                  refine ec_getI (ci := 3) (j := 11) ⟨rfl, rfl, rfl⟩ g1 rfl ?_
                  rcases gi h with ⟨c55, h⟩ | ⟨c55, h⟩
                  · refine en_if_ne_t c55 rfl ?_
                    refine ec_iinc (l' := [(1, .int (p1 + (1 : Int32))), (3, .int (0 : Int32)), (2, .int (cI C r5 (Int32.toNatClampNeg p1))), (0, .ref p0)]) rfl cst_1 rfl rfl ?_
                    refine en_goto rfl ?_
                    refine en_sub [3, 0] rfl rfl ?_
                    exact ih _ _ _ _ h o M' hk
                  · refine en_if_ne_f c55 rfl ?_
                    refine en_aload rfl rfl ?_
                    refine en_iload rfl rfl ?_
                    obtain ⟨⟨q56, C57⟩, e58, h⟩ := gb h
                    dsimp only at h
                    refine ec_callV0 (k' := 57) (n := 2) (rc := 3) (a := p0) (as := [.int p1]) ⟨rfl, rfl⟩ rfl rfl (Nat.le_of_ble_eq_true rfl) (Nat.le_of_ble_eq_true rfl) (Nat.le_of_ble_eq_true rfl) g1 rfl (t_57 e58) ?_
                    refine ec_iinc (l' := [(1, .int (p1 + (1 : Int32))), (3, .int (0 : Int32)), (2, .int (cI C r5 (Int32.toNatClampNeg p1))), (0, .ref p0)]) rfl cst_1 rfl rfl ?_
                    refine en_goto rfl ?_
                    refine en_sub [3, 0] rfl rfl ?_
                    exact ih _ _ _ _ h o M' hk
                · refine en_icmp_eq_f c54 rfl ?_
                  refine en_aload rfl rfl ?_
                  refine en_iload rfl rfl ?_
                  obtain ⟨⟨q59, C60⟩, e61, h⟩ := gb h
                  dsimp only at h
                  refine ec_callV0 (k' := 56) (n := 2) (rc := 3) (a := p0) (as := [.int p1]) ⟨rfl, rfl⟩ rfl rfl (Nat.le_of_ble_eq_true rfl) (Nat.le_of_ble_eq_true rfl) (Nat.le_of_ble_eq_true rfl) g1 rfl (t_56 e61) ?_
                  refine en_aload rfl rfl ?_
                  refine ec_getI (ci := 3) (j := 11) ⟨rfl, rfl, rfl⟩ g1 rfl ?_
                  rcases gi h with ⟨c62, h⟩ | ⟨c62, h⟩
                  · refine en_if_ne_t c62 rfl ?_
                    refine ec_iinc (l' := [(1, .int (p1 + (1 : Int32))), (3, .int (0 : Int32)), (2, .int (cI C r5 (Int32.toNatClampNeg p1))), (0, .ref p0)]) rfl cst_1 rfl rfl ?_
                    refine en_goto rfl ?_
                    refine en_sub [3, 0] rfl rfl ?_
                    exact ih _ _ _ _ h o M' hk
                  · refine en_if_ne_f c62 rfl ?_
                    refine en_aload rfl rfl ?_
                    refine en_iload rfl rfl ?_
                    obtain ⟨⟨q63, C64⟩, e65, h⟩ := gb h
                    dsimp only at h
                    refine ec_callV0 (k' := 57) (n := 2) (rc := 3) (a := p0) (as := [.int p1]) ⟨rfl, rfl⟩ rfl rfl (Nat.le_of_ble_eq_true rfl) (Nat.le_of_ble_eq_true rfl) (Nat.le_of_ble_eq_true rfl) g1 rfl (t_57 e65) ?_
                    refine ec_iinc (l' := [(1, .int (p1 + (1 : Int32))), (3, .int (0 : Int32)), (2, .int (cI C r5 (Int32.toNatClampNeg p1))), (0, .ref p0)]) rfl cst_1 rfl rfl ?_
                    refine en_goto rfl ?_
                    refine en_sub [3, 0] rfl rfl ?_
                    exact ih _ _ _ _ h o M' hk
              · refine en_icmp_ne_f c53 rfl ?_
                refine en_aload rfl rfl ?_
                obtain ⟨r66, e67, h⟩ := gb h
                refine ec_getP (ci := 3) (j := 6) ⟨rfl, rfl, rfl⟩ g1 e67 rfl ?_
                refine en_aload rfl rfl ?_
                obtain ⟨r68, e69, h⟩ := gb h
                refine ec_getP (ci := 3) (j := 7) ⟨rfl, rfl, rfl⟩ g1 e69 rfl ?_
                refine en_aload rfl rfl ?_
                obtain ⟨r70, e71, h⟩ := gb h
                refine ec_getP (ci := 3) (j := 0) ⟨rfl, rfl, rfl⟩ g1 e71 rfl ?_
                refine en_iload rfl rfl ?_
                obtain ⟨g72, h⟩ := gd h
                obtain ⟨⟨q73, C74⟩, e75, h⟩ := gb h
                dsimp only at h
                refine ec_callV1 (k' := 103) (n := 4) (rc := 6) (a := r66) (as := [.ref r68, .ref r70, .int (cI C r5 (Int32.toNatClampNeg p1))]) ⟨rfl, rfl⟩ rfl rfl (Nat.le_of_ble_eq_true rfl) (Nat.le_of_ble_eq_true rfl) (Nat.le_of_ble_eq_true rfl) g72 rfl (t_103 e75) ?_
                rcases gi h with ⟨c76, h⟩ | ⟨c76, h⟩
                · refine en_if_ne_t c76 rfl ?_
                  refine en_aload rfl rfl ?_
                  refine ec_getI (ci := 3) (j := 8) ⟨rfl, rfl, rfl⟩ g1 rfl ?_
                  refine ec_iconst cst_3 rfl ?_
                  rcases gi h with ⟨c77, h⟩ | ⟨c77, h⟩
                  · refine en_icmp_eq_t c77 rfl ?_
                    refine en_aload rfl rfl ?_
                    refine ec_getI (ci := 3) (j := 11) ⟨rfl, rfl, rfl⟩ g1 rfl ?_
                    rcases gi h with ⟨c78, h⟩ | ⟨c78, h⟩
                    · refine en_if_ne_t c78 rfl ?_
                      refine ec_iinc (l' := [(1, .int (p1 + (1 : Int32))), (3, .int (0 : Int32)), (2, .int (cI C r5 (Int32.toNatClampNeg p1))), (0, .ref p0)]) rfl cst_1 rfl rfl ?_
                      refine en_goto rfl ?_
                      refine en_sub [3, 0] rfl rfl ?_
                      exact ih _ _ _ _ h o M' hk
                    · refine en_if_ne_f c78 rfl ?_
                      refine en_aload rfl rfl ?_
                      refine en_iload rfl rfl ?_
                      obtain ⟨⟨q79, C80⟩, e81, h⟩ := gb h
                      dsimp only at h
                      refine ec_callV0 (k' := 57) (n := 2) (rc := 3) (a := p0) (as := [.int p1]) ⟨rfl, rfl⟩ rfl rfl (Nat.le_of_ble_eq_true rfl) (Nat.le_of_ble_eq_true rfl) (Nat.le_of_ble_eq_true rfl) g1 rfl (t_57 e81) ?_
                      refine ec_iinc (l' := [(1, .int (p1 + (1 : Int32))), (3, .int (0 : Int32)), (2, .int (cI C r5 (Int32.toNatClampNeg p1))), (0, .ref p0)]) rfl cst_1 rfl rfl ?_
                      refine en_goto rfl ?_
                      refine en_sub [3, 0] rfl rfl ?_
                      exact ih _ _ _ _ h o M' hk
                  · refine en_icmp_eq_f c77 rfl ?_
                    refine en_aload rfl rfl ?_
                    refine en_iload rfl rfl ?_
                    obtain ⟨⟨q82, C83⟩, e84, h⟩ := gb h
                    dsimp only at h
                    refine ec_callV0 (k' := 56) (n := 2) (rc := 3) (a := p0) (as := [.int p1]) ⟨rfl, rfl⟩ rfl rfl (Nat.le_of_ble_eq_true rfl) (Nat.le_of_ble_eq_true rfl) (Nat.le_of_ble_eq_true rfl) g1 rfl (t_56 e84) ?_
                    refine en_aload rfl rfl ?_
                    refine ec_getI (ci := 3) (j := 11) ⟨rfl, rfl, rfl⟩ g1 rfl ?_
                    rcases gi h with ⟨c85, h⟩ | ⟨c85, h⟩
                    · refine en_if_ne_t c85 rfl ?_
                      refine ec_iinc (l' := [(1, .int (p1 + (1 : Int32))), (3, .int (0 : Int32)), (2, .int (cI C r5 (Int32.toNatClampNeg p1))), (0, .ref p0)]) rfl cst_1 rfl rfl ?_
                      refine en_goto rfl ?_
                      refine en_sub [3, 0] rfl rfl ?_
                      exact ih _ _ _ _ h o M' hk
                    · refine en_if_ne_f c85 rfl ?_
                      refine en_aload rfl rfl ?_
                      refine en_iload rfl rfl ?_
                      obtain ⟨⟨q86, C87⟩, e88, h⟩ := gb h
                      dsimp only at h
                      refine ec_callV0 (k' := 57) (n := 2) (rc := 3) (a := p0) (as := [.int p1]) ⟨rfl, rfl⟩ rfl rfl (Nat.le_of_ble_eq_true rfl) (Nat.le_of_ble_eq_true rfl) (Nat.le_of_ble_eq_true rfl) g1 rfl (t_57 e88) ?_
                      refine ec_iinc (l' := [(1, .int (p1 + (1 : Int32))), (3, .int (0 : Int32)), (2, .int (cI C r5 (Int32.toNatClampNeg p1))), (0, .ref p0)]) rfl cst_1 rfl rfl ?_
                      refine en_goto rfl ?_
                      refine en_sub [3, 0] rfl rfl ?_
                      exact ih _ _ _ _ h o M' hk
                · refine en_if_ne_f c76 rfl ?_
                  refine en_goto rfl ?_
                  refine ec_iinc (l' := [(1, .int (p1 + (1 : Int32))), (3, .int (0 : Int32)), (2, .int (cI C r5 (Int32.toNatClampNeg p1))), (0, .ref p0)]) rfl cst_1 rfl rfl ?_
                  refine en_goto rfl ?_
                  refine en_sub [3, 0] rfl rfl ?_
                  exact ih _ _ _ _ h o M' hk
            · refine en_if_ne_f c52 rfl ?_
              refine ec_iconst cst_1 rfl ?_
              refine en_goto rfl ?_
              refine en_istore (l' := [(3, .int (1 : Int32)), (2, .int (cI C r5 (Int32.toNatClampNeg p1))), (0, .ref p0), (1, .int p1)]) rfl rfl ?_
              refine en_iload rfl rfl ?_
              refine en_if_ne_t (by decide) rfl ?_
              refine ec_iinc (l' := [(1, .int (p1 + (1 : Int32))), (3, .int (1 : Int32)), (2, .int (cI C r5 (Int32.toNatClampNeg p1))), (0, .ref p0)]) rfl cst_1 rfl rfl ?_
              refine en_goto rfl ?_
              refine en_sub [3, 0] rfl rfl ?_
              exact ih _ _ _ _ h o M' hk
/-- BulkWriter$Pass.emptySpool()V -/
def f_54 (n : Nat) (a0 : Nat) (C : AmC) : Option (Unit × AmC) := (lp_54_2 n a0 (0 : Int32) C).bind (fun q => match q with | (_, C91) => some ((), C91))
set_option maxRecDepth 20000 in
set_option maxHeartbeats 4000000 in
theorem t_54 {n : Nat} {a0 : Nat} {C : AmC} {r : Unit} {C' : AmC} (h : f_54 n a0 C = some (r, C')) : En false 54 0 [(0, .ref a0)] [] (mkM C) (.inl none) (mkM C') := by
  unfold f_54 at h
  refine ec_iconst cst_0 rfl ?_
  refine en_istore (l' := [(1, .int (0 : Int32)), (0, .ref a0)]) rfl rfl ?_
  obtain ⟨⟨q89, C91⟩, e90, h⟩ := gb h
  refine en_sub [1, 0] rfl rfl (lt_54_2 n _ _ _ _ e90 _ _ ?_)
  dsimp only at h ⊢
  cases h
  exact en_vret rfl
/-- BulkWriter$Pass.findClash()V -/
def f_59 (n : Nat) (a0 : Nat) (C : AmC) : Option (Unit × AmC) := if isK a0 3 = true then (if (cI C a0 11) = 0 then (cP C a0 6).bind (fun r3 => (cP C a0 0).bind (fun r5 => if isK r3 6 = true then (f_107 n r3 r5 C).bind (fun z => match z with | (q8, C9) => (if q8 = (-1 : Int32) then some ((), C9) else (cP C9 a0 6).bind (fun r12 => (cP C9 a0 0).bind (fun r14 => if isK r12 6 = true then (f_105 n r12 r14 q8 C9).bind (fun z => match z with | (q17, C18) => (f_48 n a0 (5 : Int32) q8 q17 C18).bind (fun z => match z with | (_, C21) => some ((), C21))) else none)))) else none)) else some ((), C)) else none
set_option maxRecDepth 20000 in
set_option maxHeartbeats 4000000 in
theorem t_59 {n : Nat} {a0 : Nat} {C : AmC} {r : Unit} {C' : AmC} (h : f_59 n a0 C = some (r, C')) : En false 59 0 [(0, .ref a0)] [] (mkM C) (.inl none) (mkM C') := by
  unfold f_59 at h
  refine en_aload rfl rfl ?_
  obtain ⟨g1, h⟩ := gd h
  refine ec_getI (ci := 3) (j := 11) ⟨rfl, rfl, rfl⟩ g1 rfl ?_
  rcases gi h with ⟨c2, h⟩ | ⟨c2, h⟩
  · refine en_if_eq_t c2 rfl ?_
    refine en_aload rfl rfl ?_
    obtain ⟨r3, e4, h⟩ := gb h
    refine ec_getP (ci := 3) (j := 6) ⟨rfl, rfl, rfl⟩ g1 e4 rfl ?_
    refine en_aload rfl rfl ?_
    obtain ⟨r5, e6, h⟩ := gb h
    refine ec_getP (ci := 3) (j := 0) ⟨rfl, rfl, rfl⟩ g1 e6 rfl ?_
    obtain ⟨g7, h⟩ := gd h
    obtain ⟨⟨q8, C9⟩, e10, h⟩ := gb h
    dsimp only at h
    refine ec_callV1 (k' := 107) (n := 2) (rc := 6) (a := r3) (as := [.ref r5]) ⟨rfl, rfl⟩ rfl rfl (Nat.le_of_ble_eq_true rfl) (Nat.le_of_ble_eq_true rfl) (Nat.le_of_ble_eq_true rfl) g7 rfl (t_107 e10) ?_
    refine en_istore (l' := [(1, .int q8), (0, .ref a0)]) rfl rfl ?_
    refine en_iload rfl rfl ?_
    refine ec_iconst cst_m1 rfl ?_
    rcases gi h with ⟨c11, h⟩ | ⟨c11, h⟩
    · refine en_icmp_eq_t c11 rfl ?_
      cases h
      exact en_vret rfl
    · refine en_icmp_eq_f c11 rfl ?_
      refine en_aload rfl rfl ?_
      refine ec_iconst cst_5 rfl ?_
      refine en_iload rfl rfl ?_
      refine en_aload rfl rfl ?_
      obtain ⟨r12, e13, h⟩ := gb h
      refine ec_getP (ci := 3) (j := 6) ⟨rfl, rfl, rfl⟩ g1 e13 rfl ?_
      refine en_aload rfl rfl ?_
      obtain ⟨r14, e15, h⟩ := gb h
      refine ec_getP (ci := 3) (j := 0) ⟨rfl, rfl, rfl⟩ g1 e15 rfl ?_
      refine en_iload rfl rfl ?_
      obtain ⟨g16, h⟩ := gd h
      obtain ⟨⟨q17, C18⟩, e19, h⟩ := gb h
      dsimp only at h
      refine ec_callV1 (k' := 105) (n := 3) (rc := 6) (a := r12) (as := [.ref r14, .int q8]) ⟨rfl, rfl⟩ rfl rfl (Nat.le_of_ble_eq_true rfl) (Nat.le_of_ble_eq_true rfl) (Nat.le_of_ble_eq_true rfl) g16 rfl (t_105 e19) ?_
      obtain ⟨⟨q20, C21⟩, e22, h⟩ := gb h
      dsimp only at h
      refine ec_callV0 (k' := 48) (n := 4) (rc := 3) (a := a0) (as := [.int (5 : Int32), .int q8, .int q17]) ⟨rfl, rfl⟩ rfl rfl (Nat.le_of_ble_eq_true rfl) (Nat.le_of_ble_eq_true rfl) (Nat.le_of_ble_eq_true rfl) g1 rfl (t_48 e22) ?_
      cases h
      exact en_vret rfl
  · refine en_if_eq_f c2 rfl ?_
    cases h
    exact en_vret rfl
def lp_45_23 : Nat → Nat → Int32 → Int32 → AmC → Option (((Nat × Int32)) × AmC)
  | 0, _, _, _, _ => none
  | n + 1, p0, p3, p6, C => (if (30 : Int32) ≤ p6 then some ((p0, p3), C) else if isK p0 3 = true then (cP C p0 5).bind (fun r14 => if isK r14 12 = true then if amIn p6 (aLen r14) = true then lp_45_23 n p0 p3 (p6 + (1 : Int32)) (uI C r14 (Int32.toNatClampNeg p6) (0 : Int32)) else none else none) else none)
set_option maxRecDepth 20000 in
set_option maxHeartbeats 4000000 in
theorem lt_45_23 : ∀ (n : Nat) (p0 : Nat) (p3 : Int32) (p6 : Int32) (C : AmC) (r : ((Nat × Int32)) × AmC), lp_45_23 n p0 p3 p6 C = some r → ∀ (o : AmO) (M' : AmM), (match r with
        | ((w0, w3), C') => En false 45 33 [(0, .ref w0), (3, .int w3)] [] (mkM C') o M') → En false 45 23 [(0, .ref p0), (3, .int p3), (6, .int p6)] [] (mkM C) o M' := by
  intro n
  induction n with
  | zero => intro p0 p3 p6 C r h; cases h
  | succ n ih =>
    intro p0 p3 p6 C r h o M' hk
    unfold lp_45_23 at h
    refine en_iload rfl rfl ?_
    refine ec_iconst cst_30 rfl ?_
    rcases gi h with ⟨c12, h⟩ | ⟨c12, h⟩
    · refine en_icmp_ge_t c12 rfl ?_
      cases h
      exact en_sub [0, 1] rfl rfl hk
    · refine en_icmp_ge_f c12 rfl ?_
      refine en_aload rfl rfl ?_
      obtain ⟨g13, h⟩ := gd h
      obtain ⟨r14, e15, h⟩ := gb h
      refine ec_getP (ci := 3) (j := 5) ⟨rfl, rfl, rfl⟩ g13 e15 rfl ?_
      refine en_iload rfl rfl ?_
      refine ec_iconst cst_0 rfl ?_
      obtain ⟨g16, h⟩ := gd h
      obtain ⟨g17, h⟩ := gd h
      refine ec_iastore g16 g17 rfl ?_
      refine ec_iinc (l' := [(6, .int (p6 + (1 : Int32))), (0, .ref p0), (3, .int p3)]) rfl cst_1 rfl rfl ?_
      refine en_goto rfl ?_
      refine en_sub [1, 2, 0] rfl rfl ?_
      exact ih _ _ _ _ _ h o M' hk
/-- BulkWriter$Pass.perform(LBulkWriter$Script;IIILBulkWriter$Rows;)V -/
def f_45 (n : Nat) (a0 : Nat) (a1 : Nat) (a2 : Int32) (a3 : Int32) (a4 : Int32) (a5 : Nat) (C : AmC) : Option (Unit × AmC) := if isK a0 3 = true then if isK a1 6 = true then (f_90 n a1 a2 (uP C a0 6 a1)).bind (fun z => match z with | (q3, C4) => (cP (uI (uP C4 a0 7 q3) a0 8 a4) a0 0).bind (fun r6 => if isK r6 5 = true then (f_72 n r6 a5 (uI (uP C4 a0 7 q3) a0 8 a4)).bind (fun z => match z with | (_, C10) => (lp_45_23 n a0 a3 (0 : Int32) (uI (uI C10 a0 9 (0 : Int32)) a0 10 (0 : Int32))).bind (fun q => match q with | ((u21, u22), C20) => if isK u21 3 = true then (f_48 n u21 (0 : Int32) (-1 : Int32) (-1 : Int32) C20).bind (fun z => match z with | (_, C25) => (cP C25 u21 7).bind (fun r27 => if isK r27 8 = true then (if (cI C25 r27 0) = 0 then (f_51 n u21 u22 C25).bind (fun z => match z with | (_, C32) => (f_54 n u21 C32).bind (fun z => match z with | (_, C35) => (f_59 n u21 C35).bind (fun z => match z with | (_, C38) => some ((), C38)))) else (f_49 n u21 C25).bind (fun z => match z with | (_, C41) => (f_52 n u21 u22 C41).bind (fun z => match z with | (_, C44) => (f_54 n u21 C44).bind (fun z => match z with | (_, C47) => (f_59 n u21 C47).bind (fun z => match z with | (_, C50) => some ((), C50)))))) else none)) else none)) else none)) else none else none
set_option maxRecDepth 20000 in
set_option maxHeartbeats 4000000 in
theorem t_45 {n : Nat} {a0 : Nat} {a1 : Nat} {a2 : Int32} {a3 : Int32} {a4 : Int32} {a5 : Nat} {C : AmC} {r : Unit} {C' : AmC} (h : f_45 n a0 a1 a2 a3 a4 a5 C = some (r, C')) : En false 45 0 [(0, .ref a0), (1, .ref a1), (2, .int a2), (3, .int a3), (4, .int a4), (5, .ref a5)] [] (mkM C) (.inl none) (mkM C') := by
  unfold f_45 at h
  refine en_aload rfl rfl ?_
  refine en_aload rfl rfl ?_
  obtain ⟨g1, h⟩ := gd h
  refine ec_putP (ci := 3) (j := 6) ⟨rfl, rfl, rfl⟩ g1 rfl ?_
  refine en_aload rfl rfl ?_
  refine en_aload rfl rfl ?_
  refine en_iload rfl rfl ?_
  obtain ⟨g2, h⟩ := gd h
  obtain ⟨⟨q3, C4⟩, e5, h⟩ := gb h
  dsimp only at h
  refine ec_callV1 (k' := 90) (n := 2) (rc := 6) (a := a1) (as := [.int a2]) ⟨rfl, rfl⟩ rfl rfl (Nat.le_of_ble_eq_true rfl) (Nat.le_of_ble_eq_true rfl) (Nat.le_of_ble_eq_true rfl) g2 rfl (t_90 e5) ?_
  refine ec_putP (ci := 3) (j := 7) ⟨rfl, rfl, rfl⟩ g1 rfl ?_
  refine en_aload rfl rfl ?_
  refine en_iload rfl rfl ?_
  refine ec_putI (ci := 3) (j := 8) ⟨rfl, rfl, rfl⟩ g1 rfl ?_
  refine en_aload rfl rfl ?_
  obtain ⟨r6, e7, h⟩ := gb h
  refine ec_getP (ci := 3) (j := 0) ⟨rfl, rfl, rfl⟩ g1 e7 rfl ?_
  refine en_aload rfl rfl ?_
  obtain ⟨g8, h⟩ := gd h
  obtain ⟨⟨q9, C10⟩, e11, h⟩ := gb h
  dsimp only at h
  refine ec_callV0 (k' := 72) (n := 2) (rc := 5) (a := r6) (as := [.ref a5]) ⟨rfl, rfl⟩ rfl rfl (Nat.le_of_ble_eq_true rfl) (Nat.le_of_ble_eq_true rfl) (Nat.le_of_ble_eq_true rfl) g8 rfl (t_72 e11) ?_
  refine en_aload rfl rfl ?_
  refine ec_iconst cst_0 rfl ?_
  refine ec_putI (ci := 3) (j := 9) ⟨rfl, rfl, rfl⟩ g1 rfl ?_
  refine en_aload rfl rfl ?_
  refine ec_iconst cst_0 rfl ?_
  refine ec_putI (ci := 3) (j := 10) ⟨rfl, rfl, rfl⟩ g1 rfl ?_
  refine ec_iconst cst_0 rfl ?_
  refine en_istore (l' := [(6, .int (0 : Int32)), (0, .ref a0), (1, .ref a1), (2, .int a2), (3, .int a3), (4, .int a4), (5, .ref a5)]) rfl rfl ?_
  obtain ⟨⟨q18, C20⟩, e19, h⟩ := gb h
  refine en_sub [1, 4, 0] rfl rfl (lt_45_23 n _ _ _ _ _ e19 _ _ ?_)
  obtain ⟨u21, u22⟩ := q18
  dsimp only at h ⊢
  refine en_aload rfl rfl ?_
  refine ec_iconst cst_0 rfl ?_
  refine ec_iconst cst_m1 rfl ?_
  refine ec_iconst cst_m1 rfl ?_
  obtain ⟨g23, h⟩ := gd h
  obtain ⟨⟨q24, C25⟩, e26, h⟩ := gb h
  dsimp only at h
  refine ec_callV0 (k' := 48) (n := 4) (rc := 3) (a := u21) (as := [.int (0 : Int32), .int (-1 : Int32), .int (-1 : Int32)]) ⟨rfl, rfl⟩ rfl rfl (Nat.le_of_ble_eq_true rfl) (Nat.le_of_ble_eq_true rfl) (Nat.le_of_ble_eq_true rfl) g23 rfl (t_48 e26) ?_
  refine en_aload rfl rfl ?_
  obtain ⟨r27, e28, h⟩ := gb h
  refine ec_getP (ci := 3) (j := 7) ⟨rfl, rfl, rfl⟩ g23 e28 rfl ?_
  obtain ⟨g29, h⟩ := gd h
  refine ec_getI (ci := 8) (j := 0) ⟨rfl, rfl, rfl⟩ g29 rfl ?_
  rcases gi h with ⟨c30, h⟩ | ⟨c30, h⟩
  · refine en_if_eq_t c30 rfl ?_
    refine en_aload rfl rfl ?_
    refine en_iload rfl rfl ?_
    obtain ⟨⟨q31, C32⟩, e33, h⟩ := gb h
    dsimp only at h
    refine ec_callV0 (k' := 51) (n := 2) (rc := 3) (a := u21) (as := [.int u22]) ⟨rfl, rfl⟩ rfl rfl (Nat.le_of_ble_eq_true rfl) (Nat.le_of_ble_eq_true rfl) (Nat.le_of_ble_eq_true rfl) g23 rfl (t_51 e33) ?_
    refine en_aload rfl rfl ?_
    obtain ⟨⟨q34, C35⟩, e36, h⟩ := gb h
    dsimp only at h
    refine ec_callV0 (k' := 54) (n := 1) (rc := 3) (a := u21) (as := []) ⟨rfl, rfl⟩ rfl rfl (Nat.le_of_ble_eq_true rfl) (Nat.le_of_ble_eq_true rfl) (Nat.le_of_ble_eq_true rfl) g23 rfl (t_54 e36) ?_
    refine en_aload rfl rfl ?_
    obtain ⟨⟨q37, C38⟩, e39, h⟩ := gb h
    dsimp only at h
    refine ec_callV0 (k' := 59) (n := 1) (rc := 3) (a := u21) (as := []) ⟨rfl, rfl⟩ rfl rfl (Nat.le_of_ble_eq_true rfl) (Nat.le_of_ble_eq_true rfl) (Nat.le_of_ble_eq_true rfl) g23 rfl (t_59 e39) ?_
    cases h
    exact en_vret rfl
  · refine en_if_eq_f c30 rfl ?_
    refine en_aload rfl rfl ?_
    obtain ⟨⟨q40, C41⟩, e42, h⟩ := gb h
    dsimp only at h
    refine ec_callV0 (k' := 49) (n := 1) (rc := 3) (a := u21) (as := []) ⟨rfl, rfl⟩ rfl rfl (Nat.le_of_ble_eq_true rfl) (Nat.le_of_ble_eq_true rfl) (Nat.le_of_ble_eq_true rfl) g23 rfl (t_49 e42) ?_
    refine en_aload rfl rfl ?_
    refine en_iload rfl rfl ?_
    obtain ⟨⟨q43, C44⟩, e45, h⟩ := gb h
    dsimp only at h
    refine ec_callV0 (k' := 52) (n := 2) (rc := 3) (a := u21) (as := [.int u22]) ⟨rfl, rfl⟩ rfl rfl (Nat.le_of_ble_eq_true rfl) (Nat.le_of_ble_eq_true rfl) (Nat.le_of_ble_eq_true rfl) g23 rfl (t_52 e45) ?_
    refine en_goto rfl ?_
    refine en_aload rfl rfl ?_
    obtain ⟨⟨q46, C47⟩, e48, h⟩ := gb h
    dsimp only at h
    refine ec_callV0 (k' := 54) (n := 1) (rc := 3) (a := u21) (as := []) ⟨rfl, rfl⟩ rfl rfl (Nat.le_of_ble_eq_true rfl) (Nat.le_of_ble_eq_true rfl) (Nat.le_of_ble_eq_true rfl) g23 rfl (t_54 e48) ?_
    refine en_aload rfl rfl ?_
    obtain ⟨⟨q49, C50⟩, e51, h⟩ := gb h
    dsimp only at h
    refine ec_callV0 (k' := 59) (n := 1) (rc := 3) (a := u21) (as := []) ⟨rfl, rfl⟩ rfl rfl (Nat.le_of_ble_eq_true rfl) (Nat.le_of_ble_eq_true rfl) (Nat.le_of_ble_eq_true rfl) g23 rfl (t_59 e51) ?_
    cases h
    exact en_vret rfl
/-- BulkWriter$Pass.earlyEnd()I -/
def f_46 (n : Nat) (a0 : Nat) (C : AmC) : Option (Int32 × AmC) := if isK a0 3 = true then (if ¬ (cI C a0 11) = (5 : Int32) then some ((cI C a0 11), C) else some ((0 : Int32), C)) else none
set_option maxRecDepth 20000 in
set_option maxHeartbeats 4000000 in
theorem t_46 {n : Nat} {a0 : Nat} {C : AmC} {r : Int32} {C' : AmC} (h : f_46 n a0 C = some (r, C')) : En false 46 0 [(0, .ref a0)] [] (mkM C) (.inl (some (.int r))) (mkM C') := by
  unfold f_46 at h
  refine en_aload rfl rfl ?_
  obtain ⟨g1, h⟩ := gd h
  refine ec_getI (ci := 3) (j := 11) ⟨rfl, rfl, rfl⟩ g1 rfl ?_
  refine ec_iconst cst_5 rfl ?_
  rcases gi h with ⟨c2, h⟩ | ⟨c2, h⟩
  · refine en_icmp_ne_t c2 rfl ?_
    refine en_aload rfl rfl ?_
    refine ec_getI (ci := 3) (j := 11) ⟨rfl, rfl, rfl⟩ g1 rfl ?_
    cases h
    exact en_iret rfl
  · refine en_icmp_ne_f c2 rfl ?_
    refine ec_iconst cst_0 rfl ?_
    refine en_goto rfl ?_
    cases h
    exact en_iret rfl
def lp_47_4 : Nat → Nat → Int32 → Int32 → AmC → Option (((Int32)) × AmC)
  | 0, _, _, _, _ => none
  | n + 1, p0, p1, p2, C => (if (30 : Int32) ≤ p2 then some (p1, C) else if isK p0 3 = true then (cP C p0 5).bind (fun r3 => if isK r3 12 = true then if amIn p2 (aLen r3) = true then (if (cI C r3 (Int32.toNatClampNeg p2)) < (2 : Int32) then lp_47_4 n p0 p1 (p2 + (1 : Int32)) C else lp_47_4 n p0 (p1 + (1 : Int32)) (p2 + (1 : Int32)) C) else none else none) else none)
set_option maxRecDepth 20000 in
set_option maxHeartbeats 4000000 in
theorem lt_47_4 : ∀ (n : Nat) (p0 : Nat) (p1 : Int32) (p2 : Int32) (C : AmC) (r : ((Int32)) × AmC), lp_47_4 n p0 p1 p2 C = some r → ∀ (o : AmO) (M' : AmM), (match r with
        | (w1, C') => En false 47 16 [(1, .int w1)] [] (mkM C') o M') → En false 47 4 [(0, .ref p0), (1, .int p1), (2, .int p2)] [] (mkM C) o M' := by
  intro n
  induction n with
  | zero => intro p0 p1 p2 C r h; cases h
  | succ n ih =>
    intro p0 p1 p2 C r h o M' hk
    unfold lp_47_4 at h
    refine en_iload rfl rfl ?_
    refine ec_iconst cst_30 rfl ?_
    rcases gi h with ⟨c1, h⟩ | ⟨c1, h⟩
    · refine en_icmp_ge_t c1 rfl ?_
      cases h
      exact en_sub [1] rfl rfl hk
    · refine en_icmp_ge_f c1 rfl ?_
      refine en_aload rfl rfl ?_
      obtain ⟨g2, h⟩ := gd h
      obtain ⟨r3, e4, h⟩ := gb h
      refine ec_getP (ci := 3) (j := 5) ⟨rfl, rfl, rfl⟩ g2 e4 rfl ?_
      refine en_iload rfl rfl ?_
      obtain ⟨g5, h⟩ := gd h
      obtain ⟨g6, h⟩ := gd h
      refine ec_iaload g5 g6 rfl ?_
      refine ec_iconst cst_2 rfl ?_
      rcases gi h with ⟨c7, h⟩ | ⟨c7, h⟩
      · refine en_icmp_lt_t c7 rfl ?_
        refine ec_iinc (l' := [(2, .int (p2 + (1 : Int32))), (0, .ref p0), (1, .int p1)]) rfl cst_1 rfl rfl ?_
        refine en_goto rfl ?_
        refine en_sub [1, 2, 0] rfl rfl ?_
        exact ih _ _ _ _ _ h o M' hk
      · refine en_icmp_lt_f c7 rfl ?_
        refine ec_iinc (l' := [(1, .int (p1 + (1 : Int32))), (0, .ref p0), (2, .int p2)]) rfl cst_1 rfl rfl ?_
        refine ec_iinc (l' := [(2, .int (p2 + (1 : Int32))), (1, .int (p1 + (1 : Int32))), (0, .ref p0)]) rfl cst_1 rfl rfl ?_
        refine en_goto rfl ?_
        refine en_sub [2, 1, 0] rfl rfl ?_
        exact ih _ _ _ _ _ h o M' hk
/-- BulkWriter$Pass.twice()I -/
def f_47 (n : Nat) (a0 : Nat) (C : AmC) : Option (Int32 × AmC) := (lp_47_4 n a0 (0 : Int32) (0 : Int32) C).bind (fun q => match q with | (u11, C10) => some (u11, C10))
set_option maxRecDepth 20000 in
set_option maxHeartbeats 4000000 in
theorem t_47 {n : Nat} {a0 : Nat} {C : AmC} {r : Int32} {C' : AmC} (h : f_47 n a0 C = some (r, C')) : En false 47 0 [(0, .ref a0)] [] (mkM C) (.inl (some (.int r))) (mkM C') := by
  unfold f_47 at h
  refine ec_iconst cst_0 rfl ?_
  refine en_istore (l' := [(1, .int (0 : Int32)), (0, .ref a0)]) rfl rfl ?_
  refine ec_iconst cst_0 rfl ?_
  refine en_istore (l' := [(2, .int (0 : Int32)), (1, .int (0 : Int32)), (0, .ref a0)]) rfl rfl ?_
  obtain ⟨⟨q8, C10⟩, e9, h⟩ := gb h
  refine en_sub [2, 1, 0] rfl rfl (lt_47_4 n _ _ _ _ _ e9 _ _ ?_)
  revert h e9; revert q8; intro u11 e9 h
  dsimp only at h ⊢
  refine en_iload rfl rfl ?_
  cases h
  exact en_iret rfl
